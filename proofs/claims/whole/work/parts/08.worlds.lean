-- THE TWO WORLDS
section
variable {β : Type}
def ldi (S : St) (c : Nat) (i : Int32) (n : Nat) (k : Int32 → Option β) : Option β := ld i n (fun j => k (S.1 c j))
def ldj (S : St) (c : Nat) (i : Int32) (n : Nat) (k : Int64 → Option β) : Option β := ld i n (fun j => k (S.2 c j))
def sti (S : St) (c : Nat) (i : Int32) (n : Nat) (x : Int32) (k : St → Option β) : Option β := ld i n (fun j => k (si S c j x))
def stj (S : St) (c : Nat) (i : Int32) (n : Nat) (x : Int64) (k : St → Option β) : Option β := ld i n (fun j => k (sj S c j x))
end
section
variable {V : VT} {Y : YT} {X : XT} {own : String} {cc : ByteArray} {n fr lo : Nat} {r : Option FieldType} {R : Option Value × St} {S : St} {pc : Nat} {lv : List (Nat × Value)} {st : List Value}
theorem x_iald (C : Ok V Y X own cc n r) {k len : Nat} {i : Int32} {β : Type} {ρ : β} {A : Int32 → Option β} (d : decode cc pc = .ok (.iaload, 1)) (ha : ai V k len) (h : ldi S k i len A = some ρ) (K : ∀ v, A v = some ρ → WS V Y X n fr lo R S (pc + 1) lv (.int v :: st)) : WS V Y X n fr lo R S pc lv (.int i :: rf Y k :: st) := w_iald C d ha h (K _)
theorem x_zald (C : Ok V Y X own cc n r) {k len : Nat} {i : Int32} {β : Type} {ρ : β} {A : Int32 → Option β} (d : decode cc pc = .ok (.baload, 1)) (ha : az V k len) (h : ldi S k i len A = some ρ) (K : ∀ v, A v = some ρ → WS V Y X n fr lo R S (pc + 1) lv (.int v :: st)) : WS V Y X n fr lo R S pc lv (.int i :: rf Y k :: st) := w_zald C d ha h (K _)
theorem x_lald (C : Ok V Y X own cc n r) {k len : Nat} {i : Int32} {β : Type} {ρ : β} {A : Int64 → Option β} (d : decode cc pc = .ok (.laload, 1)) (ha : aj V k len) (h : ldj S k i len A = some ρ) (K : ∀ v, A v = some ρ → WS V Y X n fr lo R S (pc + 1) lv (.long v :: st)) : WS V Y X n fr lo R S pc lv (.int i :: rf Y k :: st) := w_lald C d ha h (K _)
theorem x_iast (C : Ok V Y X own cc n r) {k len : Nat} {i x : Int32} {β : Type} {ρ : β} {A : St → Option β} (d : decode cc pc = .ok (.iastore, 1)) (ha : ai V k len) (h : sti S k i len x A = some ρ) (K : ∀ S1, A S1 = some ρ → WS V Y X n fr lo R S1 (pc + 1) lv st) : WS V Y X n fr lo R S pc lv (.int x :: .int i :: rf Y k :: st) := w_iast C d ha h (K _)
theorem x_zast (C : Ok V Y X own cc n r) {k len : Nat} {i x : Int32} {β : Type} {ρ : β} {A : St → Option β} (d : decode cc pc = .ok (.bastore, 1)) (ha : az V k len) (h : sti S k i len (x &&& 1) A = some ρ) (K : ∀ S1, A S1 = some ρ → WS V Y X n fr lo R S1 (pc + 1) lv st) : WS V Y X n fr lo R S pc lv (.int x :: .int i :: rf Y k :: st) := w_zast C d ha h (K _)
theorem x_last (C : Ok V Y X own cc n r) {k len : Nat} {i : Int32} {x : Int64} {β : Type} {ρ : β} {A : St → Option β} (d : decode cc pc = .ok (.lastore, 1)) (ha : aj V k len) (h : stj S k i len x A = some ρ) (K : ∀ S1, A S1 = some ρ → WS V Y X n fr lo R S1 (pc + 1) lv st) : WS V Y X n fr lo R S pc lv (.long x :: .int i :: rf Y k :: st) := w_last C d ha h (K _)
theorem x_puti (C : Ok V Y X own cc n r) {idx k ci slot : Nat} {x : Int32} {β : Type} {ρ : β} {A : St → Option β} (d : decode cc pc = .ok (.putfield idx, 3)) (hf : fp own idx ci slot .int) (ho : oi V k ci slot) (h : pl (si S k slot x) A = some ρ) (K : ∀ S1, A S1 = some ρ → WS V Y X n fr lo R S1 (pc + 3) lv st) : WS V Y X n fr lo R S pc lv (.int x :: rf Y k :: st) := w_puti C d hf ho (K _ h)
theorem x_putz (C : Ok V Y X own cc n r) {idx k ci slot : Nat} {x : Int32} {β : Type} {ρ : β} {A : St → Option β} (d : decode cc pc = .ok (.putfield idx, 3)) (hf : fp own idx ci slot .boolean) (ho : oi V k ci slot) (h : ok (x &&& 1 = x) (pl (si S k slot x) A) = some ρ) (K : ∀ S1, A S1 = some ρ → WS V Y X n fr lo R S1 (pc + 3) lv st) : WS V Y X n fr lo R S pc lv (.int x :: rf Y k :: st) := w_putz C d hf ho h (fun h => K _ h)
theorem x_iinc (C : Ok V Y X own cc n r) {i : Nat} {k : Int} {x : Int32} {β : Type} {ρ : β} {A : Int32 → Option β} (d : decode cc pc = .ok (.iinc i k, 3)) (j : Nat) (hk : lv[j]? = some (i, .int x)) (w : Int32) (hw : Int32.ofInt k = w) (h : pl (x + w) A = some ρ) (hn : i < n) (lv' : Int32 → List (Nat × Value)) (hlv : ∀ v, (i, Value.int v) :: lv.filter (fun q => !(q.1 == i) && !(q.1 + 1 == i && q.2.category == 2)) = lv' v) (K : ∀ v, A v = some ρ → WS V Y X n fr lo R S (pc + 3) (lv' v) st) : WS V Y X n fr lo R S pc lv st := w_iinc C d j hk w hw rfl hn _ (hlv _) (K _ h)
theorem w_join {α β : Type} {ρ : β} {B : α} {k : α → Option β} (G : α → Prop) (h : pl B k = some ρ) (hB : G B) (K : ∀ J, G J → k J = some ρ → WS V Y X n fr lo R S pc lv st) : WS V Y X n fr lo R S pc lv st := K B hB h
-- answers of methods that change nothing
theorem p_iret (C : Ok V Y X own cc n (some .int)) (d : decode cc pc = .ok (.ireturn, 1)) {v ρ : Int32} (h : some v = some ρ) : WS V Y X n fr lo (some (.int ρ), S) S pc lv [.int v] := by
  cases h
  exact w_iret (ρ := (S, v)) C d rfl
theorem p_zret0 (C : Ok V Y X own cc n (some .boolean)) (d : decode cc pc = .ok (.ireturn, 1)) {v ρ : Int32} (hv : v &&& 1 = v) (h : some v = some ρ) : WS V Y X n fr lo (some (.int ρ), S) S pc lv [.int v] := by
  cases h
  exact w_zret0 (ρ := (S, v)) C d hv rfl
theorem p_zret (C : Ok V Y X own cc n (some .boolean)) (d : decode cc pc = .ok (.ireturn, 1)) {v ρ : Int32} (h : ok (v &&& 1 = v) (some v) = some ρ) : WS V Y X n fr lo (some (.int ρ), S) S pc lv [.int v] := p_zret0 C d (ok_some h).1 (ok_some h).2
theorem p_lret (C : Ok V Y X own cc n (some .long)) (d : decode cc pc = .ok (.lreturn, 1)) {v ρ : Int64} (h : some v = some ρ) : WS V Y X n fr lo (some (.long ρ), S) S pc lv [.long v] := by
  cases h
  exact w_lret (ρ := (S, v)) C d rfl
section
variable {β : Type} {ρ : β} {idx kc ci na : Nat} {y : MethodName} {c2 : ByteArray} {n2 fr2 lo2 : Nat} {r2 : Option FieldType} {av : List Value} {st' : List Value}
theorem p_Vi (C : Ok V Y X own cc n r) {f : Option Int32} {k : Int32 → Option β} (d : decode cc pc = .ok (.invokevirtual idx, 3)) (h : bv f k = some ρ) (hM : ∀ p, f = some p → Mc V Y y c2 n2 r2 fr2 lo2 (rf Y kc :: av) S (some (.int p), S)) (hl : Cond.methodLink own idx y ∈ WL) (hy : mV y c2 n2 r2 na ci) (ho : ob V kc ci) (hna : av.length = na) (hR : fr2 + 1 ≤ fr ∧ 8 + (n2 + 11) + lo2 ≤ lo) (st : List Value) (hst : st' = av.reverse ++ rf Y kc :: st) (hcat : (st.map fun v => v.category).sum ≤ 8)
    (K : ∀ v, k v = some ρ → WS V Y X n fr lo R S (pc + 3) lv (.int v :: st)) : WS V Y X n fr lo R S pc lv st' := by
  obtain ⟨p, e, h⟩ := bv_some h
  exact w_V C d (hM p e) hl hy ho hna hR hst hcat (K p h)
theorem p_Vl (C : Ok V Y X own cc n r) {f : Option Int64} {k : Int64 → Option β} (d : decode cc pc = .ok (.invokevirtual idx, 3)) (h : bv f k = some ρ) (hM : ∀ p, f = some p → Mc V Y y c2 n2 r2 fr2 lo2 (rf Y kc :: av) S (some (.long p), S)) (hl : Cond.methodLink own idx y ∈ WL) (hy : mV y c2 n2 r2 na ci) (ho : ob V kc ci) (hna : av.length = na) (hR : fr2 + 1 ≤ fr ∧ 8 + (n2 + 11) + lo2 ≤ lo) (st : List Value) (hst : st' = av.reverse ++ rf Y kc :: st) (hcat : (st.map fun v => v.category).sum ≤ 8)
    (K : ∀ v, k v = some ρ → WS V Y X n fr lo R S (pc + 3) lv (.long v :: st)) : WS V Y X n fr lo R S pc lv st' := by
  obtain ⟨p, e, h⟩ := bv_some h
  exact w_V C d (hM p e) hl hy ho hna hR hst hcat (K p h)
theorem p_Si (C : Ok V Y X own cc n r) {f : Option Int32} {k : Int32 → Option β} (d : decode cc pc = .ok (.invokestatic idx, 3)) (h : bv f k = some ρ) (hM : ∀ p, f = some p → Mc V Y y c2 n2 r2 fr2 lo2 av S (some (.int p), S)) (hl : Cond.methodLink own idx y ∈ WL) (hy : mS y c2 n2 r2 na) (hna : av.length = na) (hR : fr2 + 1 ≤ fr ∧ 8 + (n2 + 11) + lo2 ≤ lo) (st : List Value) (hst : st' = av.reverse ++ st) (hcat : (st.map fun v => v.category).sum ≤ 8)
    (K : ∀ v, k v = some ρ → WS V Y X n fr lo R S (pc + 3) lv (.int v :: st)) : WS V Y X n fr lo R S pc lv st' := by
  obtain ⟨p, e, h⟩ := bv_some h
  exact w_S C d (hM p e) hl hy hna hR hst hcat (K p h)
theorem p_Sl (C : Ok V Y X own cc n r) {f : Option Int64} {k : Int64 → Option β} (d : decode cc pc = .ok (.invokestatic idx, 3)) (h : bv f k = some ρ) (hM : ∀ p, f = some p → Mc V Y y c2 n2 r2 fr2 lo2 av S (some (.long p), S)) (hl : Cond.methodLink own idx y ∈ WL) (hy : mS y c2 n2 r2 na) (hna : av.length = na) (hR : fr2 + 1 ≤ fr ∧ 8 + (n2 + 11) + lo2 ≤ lo) (st : List Value) (hst : st' = av.reverse ++ st) (hcat : (st.map fun v => v.category).sum ≤ 8)
    (K : ∀ v, k v = some ρ → WS V Y X n fr lo R S (pc + 3) lv (.long v :: st)) : WS V Y X n fr lo R S pc lv st' := by
  obtain ⟨p, e, h⟩ := bv_some h
  exact w_S C d (hM p e) hl hy hna hR hst hcat (K p h)
theorem p_SNi (C : Ok V Y X own cc n r) {f : Option Int32} {k : Int32 → Option β} (host : String) (d : decode cc pc = .ok (.invokestatic idx, 3)) (h : bv f k = some ρ) (hM : ∀ p, f = some p → Mc V Y y c2 n2 r2 fr2 lo2 av S (some (.int p), S)) (hl : va_Nw (.methodLinkNest own idx y host) X.2.2.1) (hy : mS y c2 n2 r2 na) (hna : av.length = na) (hR : fr2 + 1 ≤ fr ∧ 8 + (n2 + 11) + lo2 ≤ lo) (st : List Value) (hst : st' = av.reverse ++ st) (hcat : (st.map fun v => v.category).sum ≤ 8)
    (K : ∀ v, k v = some ρ → WS V Y X n fr lo R S (pc + 3) lv (.int v :: st)) : WS V Y X n fr lo R S pc lv st' := by
  obtain ⟨p, e, h⟩ := bv_some h
  exact w_SN C d (hM p e) hl hy hna hR hst hcat (K p h)
end
end
-- CELLS
def cxM (q : Nat → Nat) (g : Nat → ClassId) : CE := fun k i l => match k with
  | 0 => .inr (7, [.ref (q 1), .ref (q 2), .ref (q 3), .int (i 3), .ref (q 4), .ref (q 5), .int (i 6), .ref (q 6), .ref (q 7), .ref (q 8), .ref (q 9), .int (i 11), .ref (q 10), .ref (q 11), .ref (q 12), .ref (q 13), .int (i 16), .int (i 17), .int (i 18), .int (i 19), .int (i 20), .ref (q 14)])
  | 1 => .inl (g 0, 216, .inl i)
  | 2 => .inl (g 0, 216, .inl i)
  | 3 => .inl (g 0, 216, .inl i)
  | 4 => .inl (g 0, 8, .inl i)
  | 5 => .inl (g 0, 120, .inl i)
  | 6 => .inl (g 0, 4, .inl i)
  | 7 => .inl (g 0, 4, .inl i)
  | 8 => .inl (g 1, 160, .inr (.inl l))
  | 9 => .inl (g 0, 10, .inl i)
  | 10 => .inl (g 0, 1024, .inl i)
  | 11 => .inl (g 2, 1024, .inl i)
  | 12 => .inl (g 0, 450, .inl i)
  | 13 => .inl (g 0, 24, .inl i)
  | _ => .inl (g 0, 70, .inl i)
def VM : VT := (15, cxM)
theorem bM0 : ob VM 0 7 := ⟨by decide, fun _ _ _ _ => ⟨_, rfl⟩⟩
theorem gM0_0 : og VM 0 7 0 1 := ⟨by decide, fun _ _ _ _ => ⟨_, rfl, rfl⟩⟩
theorem gM0_1 : og VM 0 7 1 2 := ⟨by decide, fun _ _ _ _ => ⟨_, rfl, rfl⟩⟩
theorem gM0_2 : og VM 0 7 2 3 := ⟨by decide, fun _ _ _ _ => ⟨_, rfl, rfl⟩⟩
theorem iM0_3 : oi VM 0 7 3 := ⟨by decide, fun _ _ _ _ => ⟨_, rfl, rfl, fun _ => rfl⟩⟩
theorem gM0_4 : og VM 0 7 4 4 := ⟨by decide, fun _ _ _ _ => ⟨_, rfl, rfl⟩⟩
theorem gM0_5 : og VM 0 7 5 5 := ⟨by decide, fun _ _ _ _ => ⟨_, rfl, rfl⟩⟩
theorem iM0_6 : oi VM 0 7 6 := ⟨by decide, fun _ _ _ _ => ⟨_, rfl, rfl, fun _ => rfl⟩⟩
theorem gM0_7 : og VM 0 7 7 6 := ⟨by decide, fun _ _ _ _ => ⟨_, rfl, rfl⟩⟩
theorem gM0_8 : og VM 0 7 8 7 := ⟨by decide, fun _ _ _ _ => ⟨_, rfl, rfl⟩⟩
theorem gM0_9 : og VM 0 7 9 8 := ⟨by decide, fun _ _ _ _ => ⟨_, rfl, rfl⟩⟩
theorem gM0_10 : og VM 0 7 10 9 := ⟨by decide, fun _ _ _ _ => ⟨_, rfl, rfl⟩⟩
theorem iM0_11 : oi VM 0 7 11 := ⟨by decide, fun _ _ _ _ => ⟨_, rfl, rfl, fun _ => rfl⟩⟩
theorem gM0_12 : og VM 0 7 12 10 := ⟨by decide, fun _ _ _ _ => ⟨_, rfl, rfl⟩⟩
theorem gM0_13 : og VM 0 7 13 11 := ⟨by decide, fun _ _ _ _ => ⟨_, rfl, rfl⟩⟩
theorem gM0_14 : og VM 0 7 14 12 := ⟨by decide, fun _ _ _ _ => ⟨_, rfl, rfl⟩⟩
theorem gM0_15 : og VM 0 7 15 13 := ⟨by decide, fun _ _ _ _ => ⟨_, rfl, rfl⟩⟩
theorem iM0_16 : oi VM 0 7 16 := ⟨by decide, fun _ _ _ _ => ⟨_, rfl, rfl, fun _ => rfl⟩⟩
theorem iM0_17 : oi VM 0 7 17 := ⟨by decide, fun _ _ _ _ => ⟨_, rfl, rfl, fun _ => rfl⟩⟩
theorem iM0_18 : oi VM 0 7 18 := ⟨by decide, fun _ _ _ _ => ⟨_, rfl, rfl, fun _ => rfl⟩⟩
theorem iM0_19 : oi VM 0 7 19 := ⟨by decide, fun _ _ _ _ => ⟨_, rfl, rfl, fun _ => rfl⟩⟩
theorem iM0_20 : oi VM 0 7 20 := ⟨by decide, fun _ _ _ _ => ⟨_, rfl, rfl, fun _ => rfl⟩⟩
theorem gM0_21 : og VM 0 7 21 14 := ⟨by decide, fun _ _ _ _ => ⟨_, rfl, rfl⟩⟩
theorem aM1 : ai VM 1 216 := ⟨by decide, fun _ _ _ _ => rfl⟩
theorem aM2 : ai VM 2 216 := ⟨by decide, fun _ _ _ _ => rfl⟩
theorem aM3 : ai VM 3 216 := ⟨by decide, fun _ _ _ _ => rfl⟩
theorem aM4 : ai VM 4 8 := ⟨by decide, fun _ _ _ _ => rfl⟩
theorem aM5 : ai VM 5 120 := ⟨by decide, fun _ _ _ _ => rfl⟩
theorem aM6 : ai VM 6 4 := ⟨by decide, fun _ _ _ _ => rfl⟩
theorem aM7 : ai VM 7 4 := ⟨by decide, fun _ _ _ _ => rfl⟩
theorem aM8 : aj VM 8 160 := ⟨by decide, fun _ _ _ _ => rfl⟩
theorem aM9 : ai VM 9 10 := ⟨by decide, fun _ _ _ _ => rfl⟩
theorem aM10 : ai VM 10 1024 := ⟨by decide, fun _ _ _ _ => rfl⟩
theorem aM11 : az VM 11 1024 := ⟨by decide, fun _ _ _ _ => rfl⟩
theorem aM12 : ai VM 12 450 := ⟨by decide, fun _ _ _ _ => rfl⟩
theorem aM13 : ai VM 13 24 := ⟨by decide, fun _ _ _ _ => rfl⟩
theorem aM14 : ai VM 14 70 := ⟨by decide, fun _ _ _ _ => rfl⟩
def cxX (q : Nat → Nat) (g : Nat → ClassId) : CE := fun k i l => match k with
  | 0 => .inr (6, [.ref (q 1), .ref (q 12), .ref (q 23), .int (i 3), .ref (q 34), .ref (q 37), .ref (q 41), .ref (q 44), .ref (q 46), .ref (q 55)])
  | 1 => .inr (4, [.int (i 0), .ref (q 2), .ref (q 3), .ref (q 4), .ref (q 5), .ref (q 6), .int (i 6), .ref (q 7), .int (i 8), .int (i 9), .ref (q 8), .int (i 11), .ref (q 9), .ref (q 10), .ref (q 11)])
  | 2 => .inl (g 0, 20, .inl i)
  | 3 => .inl (g 0, 20, .inl i)
  | 4 => .inl (g 0, 20, .inl i)
  | 5 => .inl (g 0, 20, .inl i)
  | 6 => .inl (g 0, 20, .inl i)
  | 7 => .inl (g 0, 5, .inl i)
  | 8 => .inl (g 0, 6, .inl i)
  | 9 => .inl (g 0, 6, .inl i)
  | 10 => .inl (g 0, 72, .inl i)
  | 11 => .inl (g 0, 3, .inl i)
  | 12 => .inr (4, [.int (i 0), .ref (q 13), .ref (q 14), .ref (q 15), .ref (q 16), .ref (q 17), .int (i 6), .ref (q 18), .int (i 8), .int (i 9), .ref (q 19), .int (i 11), .ref (q 20), .ref (q 21), .ref (q 22)])
  | 13 => .inl (g 0, 20, .inl i)
  | 14 => .inl (g 0, 20, .inl i)
  | 15 => .inl (g 0, 20, .inl i)
  | 16 => .inl (g 0, 20, .inl i)
  | 17 => .inl (g 0, 20, .inl i)
  | 18 => .inl (g 0, 5, .inl i)
  | 19 => .inl (g 0, 6, .inl i)
  | 20 => .inl (g 0, 6, .inl i)
  | 21 => .inl (g 0, 72, .inl i)
  | 22 => .inl (g 0, 3, .inl i)
  | 23 => .inr (4, [.int (i 0), .ref (q 24), .ref (q 25), .ref (q 26), .ref (q 27), .ref (q 28), .int (i 6), .ref (q 29), .int (i 8), .int (i 9), .ref (q 30), .int (i 11), .ref (q 31), .ref (q 32), .ref (q 33)])
  | 24 => .inl (g 0, 20, .inl i)
  | 25 => .inl (g 0, 20, .inl i)
  | 26 => .inl (g 0, 20, .inl i)
  | 27 => .inl (g 0, 20, .inl i)
  | 28 => .inl (g 0, 20, .inl i)
  | 29 => .inl (g 0, 5, .inl i)
  | 30 => .inl (g 0, 6, .inl i)
  | 31 => .inl (g 0, 6, .inl i)
  | 32 => .inl (g 0, 72, .inl i)
  | 33 => .inl (g 0, 3, .inl i)
  | 34 => .inr (0, [.ref (q 1), .int (i 1), .int (i 2), .int (i 3), .int (i 4), .ref (q 35), .ref (q 36)])
  | 35 => .inl (g 0, 8, .inl i)
  | 36 => .inl (g 0, 8, .inl i)
  | 37 => .inr (1, [.ref (q 1), .ref (q 38), .ref (q 39), .int (i 3), .ref (q 40), .int (i 5), .int (i 6)])
  | 38 => .inl (g 0, 10, .inl i)
  | 39 => .inl (g 0, 10, .inl i)
  | 40 => .inl (g 0, 1024, .inl i)
  | 41 => .inr (2, [.ref (q 1), .ref (q 42), .ref (q 43), .int (i 3)])
  | 42 => .inl (g 0, 432, .inl i)
  | 43 => .inl (g 0, 24, .inl i)
  | 44 => .inr (5, [.ref (q 45), .int (i 1), .int (i 2), .int (i 3), .int (i 4), .int (i 5)])
  | 45 => .inl (g 0, 120, .inl i)
  | 46 => .inl (g 3, 4, .inr (.inr (.inr (.inr (fun j => some (q (47 + j)))))))
  | 47 => .inr (3, [.int (i 0), .int (i 1), .ref (q 51)])
  | 48 => .inr (3, [.int (i 0), .int (i 1), .ref (q 52)])
  | 49 => .inr (3, [.int (i 0), .int (i 1), .ref (q 53)])
  | 50 => .inr (3, [.int (i 0), .int (i 1), .ref (q 54)])
  | 51 => .inl (g 1, 40, .inr (.inl l))
  | 52 => .inl (g 1, 40, .inr (.inl l))
  | 53 => .inl (g 1, 40, .inr (.inl l))
  | 54 => .inl (g 1, 40, .inr (.inl l))
  | _ => .inl (g 0, 7, .inl i)
def VX : VT := (56, cxX)
theorem bX0 : ob VX 0 6 := ⟨by decide, fun _ _ _ _ => ⟨_, rfl⟩⟩
theorem gX0_0 : og VX 0 6 0 1 := ⟨by decide, fun _ _ _ _ => ⟨_, rfl, rfl⟩⟩
theorem gX0_1 : og VX 0 6 1 12 := ⟨by decide, fun _ _ _ _ => ⟨_, rfl, rfl⟩⟩
theorem gX0_2 : og VX 0 6 2 23 := ⟨by decide, fun _ _ _ _ => ⟨_, rfl, rfl⟩⟩
theorem iX0_3 : oi VX 0 6 3 := ⟨by decide, fun _ _ _ _ => ⟨_, rfl, rfl, fun _ => rfl⟩⟩
theorem gX0_4 : og VX 0 6 4 34 := ⟨by decide, fun _ _ _ _ => ⟨_, rfl, rfl⟩⟩
theorem gX0_5 : og VX 0 6 5 37 := ⟨by decide, fun _ _ _ _ => ⟨_, rfl, rfl⟩⟩
theorem gX0_6 : og VX 0 6 6 41 := ⟨by decide, fun _ _ _ _ => ⟨_, rfl, rfl⟩⟩
theorem gX0_7 : og VX 0 6 7 44 := ⟨by decide, fun _ _ _ _ => ⟨_, rfl, rfl⟩⟩
theorem gX0_8 : og VX 0 6 8 46 := ⟨by decide, fun _ _ _ _ => ⟨_, rfl, rfl⟩⟩
theorem gX0_9 : og VX 0 6 9 55 := ⟨by decide, fun _ _ _ _ => ⟨_, rfl, rfl⟩⟩
theorem bX1 : ob VX 1 4 := ⟨by decide, fun _ _ _ _ => ⟨_, rfl⟩⟩
theorem iX1_0 : oi VX 1 4 0 := ⟨by decide, fun _ _ _ _ => ⟨_, rfl, rfl, fun _ => rfl⟩⟩
theorem gX1_1 : og VX 1 4 1 2 := ⟨by decide, fun _ _ _ _ => ⟨_, rfl, rfl⟩⟩
theorem gX1_2 : og VX 1 4 2 3 := ⟨by decide, fun _ _ _ _ => ⟨_, rfl, rfl⟩⟩
theorem gX1_3 : og VX 1 4 3 4 := ⟨by decide, fun _ _ _ _ => ⟨_, rfl, rfl⟩⟩
theorem gX1_4 : og VX 1 4 4 5 := ⟨by decide, fun _ _ _ _ => ⟨_, rfl, rfl⟩⟩
theorem gX1_5 : og VX 1 4 5 6 := ⟨by decide, fun _ _ _ _ => ⟨_, rfl, rfl⟩⟩
theorem iX1_6 : oi VX 1 4 6 := ⟨by decide, fun _ _ _ _ => ⟨_, rfl, rfl, fun _ => rfl⟩⟩
theorem gX1_7 : og VX 1 4 7 7 := ⟨by decide, fun _ _ _ _ => ⟨_, rfl, rfl⟩⟩
theorem iX1_8 : oi VX 1 4 8 := ⟨by decide, fun _ _ _ _ => ⟨_, rfl, rfl, fun _ => rfl⟩⟩
theorem iX1_9 : oi VX 1 4 9 := ⟨by decide, fun _ _ _ _ => ⟨_, rfl, rfl, fun _ => rfl⟩⟩
theorem gX1_10 : og VX 1 4 10 8 := ⟨by decide, fun _ _ _ _ => ⟨_, rfl, rfl⟩⟩
theorem iX1_11 : oi VX 1 4 11 := ⟨by decide, fun _ _ _ _ => ⟨_, rfl, rfl, fun _ => rfl⟩⟩
theorem gX1_12 : og VX 1 4 12 9 := ⟨by decide, fun _ _ _ _ => ⟨_, rfl, rfl⟩⟩
theorem gX1_13 : og VX 1 4 13 10 := ⟨by decide, fun _ _ _ _ => ⟨_, rfl, rfl⟩⟩
theorem gX1_14 : og VX 1 4 14 11 := ⟨by decide, fun _ _ _ _ => ⟨_, rfl, rfl⟩⟩
theorem aX2 : ai VX 2 20 := ⟨by decide, fun _ _ _ _ => rfl⟩
theorem aX3 : ai VX 3 20 := ⟨by decide, fun _ _ _ _ => rfl⟩
theorem aX4 : ai VX 4 20 := ⟨by decide, fun _ _ _ _ => rfl⟩
theorem aX5 : ai VX 5 20 := ⟨by decide, fun _ _ _ _ => rfl⟩
theorem aX6 : ai VX 6 20 := ⟨by decide, fun _ _ _ _ => rfl⟩
theorem aX7 : ai VX 7 5 := ⟨by decide, fun _ _ _ _ => rfl⟩
theorem aX8 : ai VX 8 6 := ⟨by decide, fun _ _ _ _ => rfl⟩
theorem aX9 : ai VX 9 6 := ⟨by decide, fun _ _ _ _ => rfl⟩
theorem aX10 : ai VX 10 72 := ⟨by decide, fun _ _ _ _ => rfl⟩
theorem aX11 : ai VX 11 3 := ⟨by decide, fun _ _ _ _ => rfl⟩
theorem bX12 : ob VX 12 4 := ⟨by decide, fun _ _ _ _ => ⟨_, rfl⟩⟩
theorem iX12_0 : oi VX 12 4 0 := ⟨by decide, fun _ _ _ _ => ⟨_, rfl, rfl, fun _ => rfl⟩⟩
theorem gX12_1 : og VX 12 4 1 13 := ⟨by decide, fun _ _ _ _ => ⟨_, rfl, rfl⟩⟩
theorem gX12_2 : og VX 12 4 2 14 := ⟨by decide, fun _ _ _ _ => ⟨_, rfl, rfl⟩⟩
theorem gX12_3 : og VX 12 4 3 15 := ⟨by decide, fun _ _ _ _ => ⟨_, rfl, rfl⟩⟩
theorem gX12_4 : og VX 12 4 4 16 := ⟨by decide, fun _ _ _ _ => ⟨_, rfl, rfl⟩⟩
theorem gX12_5 : og VX 12 4 5 17 := ⟨by decide, fun _ _ _ _ => ⟨_, rfl, rfl⟩⟩
theorem iX12_6 : oi VX 12 4 6 := ⟨by decide, fun _ _ _ _ => ⟨_, rfl, rfl, fun _ => rfl⟩⟩
theorem gX12_7 : og VX 12 4 7 18 := ⟨by decide, fun _ _ _ _ => ⟨_, rfl, rfl⟩⟩
theorem iX12_8 : oi VX 12 4 8 := ⟨by decide, fun _ _ _ _ => ⟨_, rfl, rfl, fun _ => rfl⟩⟩
theorem iX12_9 : oi VX 12 4 9 := ⟨by decide, fun _ _ _ _ => ⟨_, rfl, rfl, fun _ => rfl⟩⟩
theorem gX12_10 : og VX 12 4 10 19 := ⟨by decide, fun _ _ _ _ => ⟨_, rfl, rfl⟩⟩
theorem iX12_11 : oi VX 12 4 11 := ⟨by decide, fun _ _ _ _ => ⟨_, rfl, rfl, fun _ => rfl⟩⟩
theorem gX12_12 : og VX 12 4 12 20 := ⟨by decide, fun _ _ _ _ => ⟨_, rfl, rfl⟩⟩
theorem gX12_13 : og VX 12 4 13 21 := ⟨by decide, fun _ _ _ _ => ⟨_, rfl, rfl⟩⟩
theorem gX12_14 : og VX 12 4 14 22 := ⟨by decide, fun _ _ _ _ => ⟨_, rfl, rfl⟩⟩
theorem aX13 : ai VX 13 20 := ⟨by decide, fun _ _ _ _ => rfl⟩
theorem aX14 : ai VX 14 20 := ⟨by decide, fun _ _ _ _ => rfl⟩
theorem aX15 : ai VX 15 20 := ⟨by decide, fun _ _ _ _ => rfl⟩
theorem aX16 : ai VX 16 20 := ⟨by decide, fun _ _ _ _ => rfl⟩
theorem aX17 : ai VX 17 20 := ⟨by decide, fun _ _ _ _ => rfl⟩
theorem aX18 : ai VX 18 5 := ⟨by decide, fun _ _ _ _ => rfl⟩
theorem aX19 : ai VX 19 6 := ⟨by decide, fun _ _ _ _ => rfl⟩
theorem aX20 : ai VX 20 6 := ⟨by decide, fun _ _ _ _ => rfl⟩
theorem aX21 : ai VX 21 72 := ⟨by decide, fun _ _ _ _ => rfl⟩
theorem aX22 : ai VX 22 3 := ⟨by decide, fun _ _ _ _ => rfl⟩
theorem bX23 : ob VX 23 4 := ⟨by decide, fun _ _ _ _ => ⟨_, rfl⟩⟩
theorem iX23_0 : oi VX 23 4 0 := ⟨by decide, fun _ _ _ _ => ⟨_, rfl, rfl, fun _ => rfl⟩⟩
theorem gX23_1 : og VX 23 4 1 24 := ⟨by decide, fun _ _ _ _ => ⟨_, rfl, rfl⟩⟩
theorem gX23_2 : og VX 23 4 2 25 := ⟨by decide, fun _ _ _ _ => ⟨_, rfl, rfl⟩⟩
theorem gX23_3 : og VX 23 4 3 26 := ⟨by decide, fun _ _ _ _ => ⟨_, rfl, rfl⟩⟩
theorem gX23_4 : og VX 23 4 4 27 := ⟨by decide, fun _ _ _ _ => ⟨_, rfl, rfl⟩⟩
theorem gX23_5 : og VX 23 4 5 28 := ⟨by decide, fun _ _ _ _ => ⟨_, rfl, rfl⟩⟩
theorem iX23_6 : oi VX 23 4 6 := ⟨by decide, fun _ _ _ _ => ⟨_, rfl, rfl, fun _ => rfl⟩⟩
theorem gX23_7 : og VX 23 4 7 29 := ⟨by decide, fun _ _ _ _ => ⟨_, rfl, rfl⟩⟩
theorem iX23_8 : oi VX 23 4 8 := ⟨by decide, fun _ _ _ _ => ⟨_, rfl, rfl, fun _ => rfl⟩⟩
theorem iX23_9 : oi VX 23 4 9 := ⟨by decide, fun _ _ _ _ => ⟨_, rfl, rfl, fun _ => rfl⟩⟩
theorem gX23_10 : og VX 23 4 10 30 := ⟨by decide, fun _ _ _ _ => ⟨_, rfl, rfl⟩⟩
theorem iX23_11 : oi VX 23 4 11 := ⟨by decide, fun _ _ _ _ => ⟨_, rfl, rfl, fun _ => rfl⟩⟩
theorem gX23_12 : og VX 23 4 12 31 := ⟨by decide, fun _ _ _ _ => ⟨_, rfl, rfl⟩⟩
theorem gX23_13 : og VX 23 4 13 32 := ⟨by decide, fun _ _ _ _ => ⟨_, rfl, rfl⟩⟩
theorem gX23_14 : og VX 23 4 14 33 := ⟨by decide, fun _ _ _ _ => ⟨_, rfl, rfl⟩⟩
theorem aX24 : ai VX 24 20 := ⟨by decide, fun _ _ _ _ => rfl⟩
theorem aX25 : ai VX 25 20 := ⟨by decide, fun _ _ _ _ => rfl⟩
theorem aX26 : ai VX 26 20 := ⟨by decide, fun _ _ _ _ => rfl⟩
theorem aX27 : ai VX 27 20 := ⟨by decide, fun _ _ _ _ => rfl⟩
theorem aX28 : ai VX 28 20 := ⟨by decide, fun _ _ _ _ => rfl⟩
theorem aX29 : ai VX 29 5 := ⟨by decide, fun _ _ _ _ => rfl⟩
theorem aX30 : ai VX 30 6 := ⟨by decide, fun _ _ _ _ => rfl⟩
theorem aX31 : ai VX 31 6 := ⟨by decide, fun _ _ _ _ => rfl⟩
theorem aX32 : ai VX 32 72 := ⟨by decide, fun _ _ _ _ => rfl⟩
theorem aX33 : ai VX 33 3 := ⟨by decide, fun _ _ _ _ => rfl⟩
theorem bX34 : ob VX 34 0 := ⟨by decide, fun _ _ _ _ => ⟨_, rfl⟩⟩
theorem gX34_0 : og VX 34 0 0 1 := ⟨by decide, fun _ _ _ _ => ⟨_, rfl, rfl⟩⟩
theorem iX34_1 : oi VX 34 0 1 := ⟨by decide, fun _ _ _ _ => ⟨_, rfl, rfl, fun _ => rfl⟩⟩
theorem iX34_2 : oi VX 34 0 2 := ⟨by decide, fun _ _ _ _ => ⟨_, rfl, rfl, fun _ => rfl⟩⟩
theorem iX34_3 : oi VX 34 0 3 := ⟨by decide, fun _ _ _ _ => ⟨_, rfl, rfl, fun _ => rfl⟩⟩
theorem iX34_4 : oi VX 34 0 4 := ⟨by decide, fun _ _ _ _ => ⟨_, rfl, rfl, fun _ => rfl⟩⟩
theorem gX34_5 : og VX 34 0 5 35 := ⟨by decide, fun _ _ _ _ => ⟨_, rfl, rfl⟩⟩
theorem gX34_6 : og VX 34 0 6 36 := ⟨by decide, fun _ _ _ _ => ⟨_, rfl, rfl⟩⟩
theorem aX35 : ai VX 35 8 := ⟨by decide, fun _ _ _ _ => rfl⟩
theorem aX36 : ai VX 36 8 := ⟨by decide, fun _ _ _ _ => rfl⟩
theorem bX37 : ob VX 37 1 := ⟨by decide, fun _ _ _ _ => ⟨_, rfl⟩⟩
theorem gX37_0 : og VX 37 1 0 1 := ⟨by decide, fun _ _ _ _ => ⟨_, rfl, rfl⟩⟩
theorem gX37_1 : og VX 37 1 1 38 := ⟨by decide, fun _ _ _ _ => ⟨_, rfl, rfl⟩⟩
theorem gX37_2 : og VX 37 1 2 39 := ⟨by decide, fun _ _ _ _ => ⟨_, rfl, rfl⟩⟩
theorem iX37_3 : oi VX 37 1 3 := ⟨by decide, fun _ _ _ _ => ⟨_, rfl, rfl, fun _ => rfl⟩⟩
theorem gX37_4 : og VX 37 1 4 40 := ⟨by decide, fun _ _ _ _ => ⟨_, rfl, rfl⟩⟩
theorem iX37_5 : oi VX 37 1 5 := ⟨by decide, fun _ _ _ _ => ⟨_, rfl, rfl, fun _ => rfl⟩⟩
theorem iX37_6 : oi VX 37 1 6 := ⟨by decide, fun _ _ _ _ => ⟨_, rfl, rfl, fun _ => rfl⟩⟩
theorem aX38 : ai VX 38 10 := ⟨by decide, fun _ _ _ _ => rfl⟩
theorem aX39 : ai VX 39 10 := ⟨by decide, fun _ _ _ _ => rfl⟩
theorem aX40 : ai VX 40 1024 := ⟨by decide, fun _ _ _ _ => rfl⟩
theorem bX41 : ob VX 41 2 := ⟨by decide, fun _ _ _ _ => ⟨_, rfl⟩⟩
theorem gX41_0 : og VX 41 2 0 1 := ⟨by decide, fun _ _ _ _ => ⟨_, rfl, rfl⟩⟩
theorem gX41_1 : og VX 41 2 1 42 := ⟨by decide, fun _ _ _ _ => ⟨_, rfl, rfl⟩⟩
theorem gX41_2 : og VX 41 2 2 43 := ⟨by decide, fun _ _ _ _ => ⟨_, rfl, rfl⟩⟩
theorem iX41_3 : oi VX 41 2 3 := ⟨by decide, fun _ _ _ _ => ⟨_, rfl, rfl, fun _ => rfl⟩⟩
theorem aX42 : ai VX 42 432 := ⟨by decide, fun _ _ _ _ => rfl⟩
theorem aX43 : ai VX 43 24 := ⟨by decide, fun _ _ _ _ => rfl⟩
theorem bX44 : ob VX 44 5 := ⟨by decide, fun _ _ _ _ => ⟨_, rfl⟩⟩
theorem gX44_0 : og VX 44 5 0 45 := ⟨by decide, fun _ _ _ _ => ⟨_, rfl, rfl⟩⟩
theorem iX44_1 : oi VX 44 5 1 := ⟨by decide, fun _ _ _ _ => ⟨_, rfl, rfl, fun _ => rfl⟩⟩
theorem iX44_2 : oi VX 44 5 2 := ⟨by decide, fun _ _ _ _ => ⟨_, rfl, rfl, fun _ => rfl⟩⟩
theorem iX44_3 : oi VX 44 5 3 := ⟨by decide, fun _ _ _ _ => ⟨_, rfl, rfl, fun _ => rfl⟩⟩
theorem iX44_4 : oi VX 44 5 4 := ⟨by decide, fun _ _ _ _ => ⟨_, rfl, rfl, fun _ => rfl⟩⟩
theorem iX44_5 : oi VX 44 5 5 := ⟨by decide, fun _ _ _ _ => ⟨_, rfl, rfl, fun _ => rfl⟩⟩
theorem aX45 : ai VX 45 120 := ⟨by decide, fun _ _ _ _ => rfl⟩
theorem bX47 : ob VX 47 3 := ⟨by decide, fun _ _ _ _ => ⟨_, rfl⟩⟩
theorem iX47_0 : oi VX 47 3 0 := ⟨by decide, fun _ _ _ _ => ⟨_, rfl, rfl, fun _ => rfl⟩⟩
theorem iX47_1 : oi VX 47 3 1 := ⟨by decide, fun _ _ _ _ => ⟨_, rfl, rfl, fun _ => rfl⟩⟩
theorem gX47_2 : og VX 47 3 2 51 := ⟨by decide, fun _ _ _ _ => ⟨_, rfl, rfl⟩⟩
theorem bX48 : ob VX 48 3 := ⟨by decide, fun _ _ _ _ => ⟨_, rfl⟩⟩
theorem iX48_0 : oi VX 48 3 0 := ⟨by decide, fun _ _ _ _ => ⟨_, rfl, rfl, fun _ => rfl⟩⟩
theorem iX48_1 : oi VX 48 3 1 := ⟨by decide, fun _ _ _ _ => ⟨_, rfl, rfl, fun _ => rfl⟩⟩
theorem gX48_2 : og VX 48 3 2 52 := ⟨by decide, fun _ _ _ _ => ⟨_, rfl, rfl⟩⟩
theorem bX49 : ob VX 49 3 := ⟨by decide, fun _ _ _ _ => ⟨_, rfl⟩⟩
theorem iX49_0 : oi VX 49 3 0 := ⟨by decide, fun _ _ _ _ => ⟨_, rfl, rfl, fun _ => rfl⟩⟩
theorem iX49_1 : oi VX 49 3 1 := ⟨by decide, fun _ _ _ _ => ⟨_, rfl, rfl, fun _ => rfl⟩⟩
theorem gX49_2 : og VX 49 3 2 53 := ⟨by decide, fun _ _ _ _ => ⟨_, rfl, rfl⟩⟩
theorem bX50 : ob VX 50 3 := ⟨by decide, fun _ _ _ _ => ⟨_, rfl⟩⟩
theorem iX50_0 : oi VX 50 3 0 := ⟨by decide, fun _ _ _ _ => ⟨_, rfl, rfl, fun _ => rfl⟩⟩
theorem iX50_1 : oi VX 50 3 1 := ⟨by decide, fun _ _ _ _ => ⟨_, rfl, rfl, fun _ => rfl⟩⟩
theorem gX50_2 : og VX 50 3 2 54 := ⟨by decide, fun _ _ _ _ => ⟨_, rfl, rfl⟩⟩
theorem aX51 : aj VX 51 40 := ⟨by decide, fun _ _ _ _ => rfl⟩
theorem aX52 : aj VX 52 40 := ⟨by decide, fun _ _ _ _ => rfl⟩
theorem aX53 : aj VX 53 40 := ⟨by decide, fun _ _ _ _ => rfl⟩
theorem aX54 : aj VX 54 40 := ⟨by decide, fun _ _ _ _ => rfl⟩
theorem aX55 : ai VX 55 7 := ⟨by decide, fun _ _ _ _ => rfl⟩
