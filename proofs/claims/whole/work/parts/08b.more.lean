def putz {β : Type} (S : St) (k slot : Nat) (x : Int32) (A : St → Option β) : Option β := ok (x &&& 1 = x) (pl (si S k slot x) A)
section
variable {V : VT} {Y : YT} {X : XT} {own : String} {cc : ByteArray} {n fr lo : Nat} {r : Option FieldType} {R : Option Value × St} {S : St} {pc : Nat} {lv : List (Nat × Value)} {st : List Value}
theorem w_tabIn (C : Ok V Y X own cc n r) {dflt lo1 hi : Int} {offs : Array Int} {len : Nat} {x k : Int32} {off kk : Int} (tgt : Nat) (d : decode cc pc = .ok (.tableswitch dflt lo1 hi offs, len)) (hx : x = k) (hk : k.toInt = kk) (h1 : ¬ kk < lo1) (h2 : ¬ hi < kk) (ho : offs[(kk - lo1).toNat]? = some off) (ht : (pc : Int) + off = (tgt : Int)) (K : WS V Y X n fr lo R S tgt lv st) : WS V Y X n fr lo R S pc lv (.int x :: st) := fun H locs ls hP hS hl => by
  subst hx
  subst hk
  exact lv_tableIn C.1 C.2.1 d h1 h2 ho ht (K H locs ls hP hS hl)
theorem w_tabOut (C : Ok V Y X own cc n r) {dflt lo1 hi : Int} {offs : Array Int} {len : Nat} {x : Int32} (tgt : Nat) (d : decode cc pc = .ok (.tableswitch dflt lo1 hi offs, len)) (h : x.toInt < lo1 ∨ hi < x.toInt) (ht : (pc : Int) + dflt = (tgt : Int)) (K : WS V Y X n fr lo R S tgt lv st) : WS V Y X n fr lo R S pc lv (.int x :: st) := fun H locs ls hP hS hl => lv_tableOut C.1 C.2.1 d h ht (K H locs ls hP hS hl)
theorem w_look (C : Ok V Y X own cc n r) {dflt : Int} {ps : Array (Int × Int)} {len : Nat} {x : Int32} {off : Int} (tgt : Nat) (d : decode cc pc = .ok (.lookupswitch dflt ps, len)) (hp : (ps.toList.zip (ps.toList.drop 1)).all (fun (a, next) => a.1 < next.1) = true) (ho : Op.lookupswitch.offset ps.toList dflt x.toInt = off) (ht : (pc : Int) + off = (tgt : Int)) (K : WS V Y X n fr lo R S tgt lv st) : WS V Y X n fr lo R S pc lv (.int x :: st) := fun H locs ls hP hS hl => lv_lookup C.1 C.2.1 d hp ho ht (K H locs ls hP hS hl)
end
