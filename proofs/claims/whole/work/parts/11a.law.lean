def R_law : String := "FeltHouseLaw"
def lw_P (b : Addr) (xs : List Int32) (args : Array Value) (s : State) : Prop := args = #[.ref b] ∧ s.IntsAt b xs ∧ xs.length ≤ 3072 ∧ (Jvm.Cond.and given_1 narrow_1).before args s = true
def lw_Q (_ : Array Value) (s : State) (o : Outcome) (t : State) : Prop := o = .returned (some (.int 1)) ∧ Framed s o t [] 600000 7302250
def lw_Z (below : List Frame) (a : Array Value) (s : State) : State → Prop := fun t => ∃ o, t.status = .running ∧ Ended t below o ∧ lw_Q a s o t
/-- the law's own end, with 1 on the stack, nothing written that was there before, its room as the claim has it -/
theorem lw_ret {p : Program} {l : Launch} {e : Env} {s : State} {m : MethodId} {below : List Frame} {meth : Method} {c : Code} {b : Nat} (hx : p.tables.exec = Jvm.exec) (hb : c.code = code) (hr : meth.sig.returnType = ret) (hlocks : meth.locks = false) {pc : Nat} {H : Heap} {ls : Array Slot} (hdg : decode code pc = .ok (.ireturn, 1)) : W p l e room_1 s m #[Value.ref b] below meth c H [] 600000 7302250 (lw_Z below #[Value.ref b] s) (F0 m pc ls [.int 1]) := by
  intro T hT X
  obtain ⟨fs, hret, hrun, hended, hW, hframe⟩ := X.leave (v := some (.int 1)) (hlocks := hlocks) (fun h => by rw [hr] at h; cases h)
  have hmeth' : T.vm.method? m = some meth := X.method'
  refine ⟨T.setFrames fs, ?_, .returned (some (.int 1)), hrun, hended, rfl, ⟨_, rfl⟩, hW, hframe⟩
  jvm_step X.here [X.here.top, hx, hb, hdg, hmeth', hr, ret, narrow_b1]
  (try refine ⟨rfl, ?_⟩); (try refine ⟨rfl, ?_⟩)
  first | (intro acts; rw [hret _ acts rfl rfl rfl]) | rw [hret _ _ rfl rfl rfl]
  exact Steps.refl _
/-- what holds at the law's entry: the machine, the code, the tables' words (any of lw_tbl by 'hts w (by decide +kernel)'), the script of L ints xs at the cell b, what the Statement gives of the start (any of its parts by flat_of_before) -/
def lw_At (p : Program) (s : State) (m : MethodId) (meth : Method) (c : Code) (b L : Nat) (xs : Nat → Int32) : Prop :=
  p.tables.exec = Jvm.exec ∧ c.code = code ∧ meth.sig.returnType = ret ∧ c.maxLocals = 4 ∧ s.vm.findClass R_law = some m.cls ∧ (∀ w ∈ lw_tbl, w.before #[Value.ref b] s = true) ∧ va_X b L xs s s.heap ∧ b < s.heap.size ∧ meth.locks = false ∧ (Jvm.Cond.and given_1 narrow_1).before #[Value.ref b] s = true
theorem Ev.narrow {D : va_G} {g : Nat → ClassId} {Z : Nat → Nat} {A B : Nat → Prop} {s : State} {H : Heap} (h : Ev D g Z A s H) (hAB : ∀ q, B q → A q) : Ev D g Z B s H := by
  obtain ⟨h1, hn, ⟨k1, k2⟩, ⟨k3, k4⟩, ⟨k5, k6⟩, s1, s2, s3, s4⟩ := h
  exact ⟨h1, hn, ⟨k1.narrow hAB, k2.narrow hAB⟩, ⟨k3.narrow hAB, k4.narrow hAB⟩, ⟨k5.narrow hAB, k6.narrow hAB⟩, s1.narrow hAB, s2, s3.narrow hAB, s4.narrow hAB⟩
/-- launch, classes, array classes, fixed cells, the class's cells, the model's cells -/
abbrev QT : Type := Launch × va_G × (Nat → ClassId) × (Nat → Nat) × (Nat → Nat) × (Nat → Nat)
abbrev qX (q : QT) : YT := (q.1, q.2.1, q.2.2.1, q.2.2.2.1, q.2.2.2.2.1)
abbrev qM (q : QT) : YT := (q.1, q.2.1, q.2.2.1, q.2.2.2.1, q.2.2.2.2.2)
abbrev A0 (X : XT) : Nat → Prop := fun a => X.2.2.1.heap.size ≤ a
def LOk (q : QT) (X : XT) (b L : Nat) (xs : Nat → Int32) : Prop :=
  (X.1.tables.exec = Jvm.exec ∧ X.2.2.2.2.2.2.2.code = cL_law ∧ X.2.2.2.2.2.2.1.sig.returnType = ret ∧ X.2.2.2.2.2.2.2.maxLocals = 4 ∧ X.2.2.1.vm.findClass RL = some X.2.2.2.1.cls ∧ (∀ w ∈ WL, w.before X.2.2.2.2.1 X.2.2.1 = true) ∧ X.2.2.2.2.2.2.1.locks = false) ∧
  (va_X b L xs X.2.2.1 X.2.2.1.heap ∧ b < X.2.2.1.heap.size ∧ X.2.2.2.2.1 = #[Value.ref b]) ∧
  Ev q.2.1 q.2.2.1 q.2.2.2.1 (A0 X) X.2.2.1 X.2.2.1.heap ∧ inj q.2.2.2.2.1 56 ∧ inj q.2.2.2.2.2 15 ∧ (∀ i, i < 56 → X.2.2.1.heap.size ≤ q.2.2.2.2.1 i) ∧ (∀ i, i < 15 → X.2.2.1.heap.size ≤ q.2.2.2.2.2 i) ∧ ∀ i j, i < 56 → j < 15 → q.2.2.2.2.1 i ≠ q.2.2.2.2.2 j
def LW (q : QT) (X : XT) (Sx Sm : St) (pc : Nat) (lv : List (Nat × Value)) (st : List Value) : Prop :=
  ∀ (H : Heap) (locs : List Loc) (ls : Array Slot), va_P q.2.1 vwCl (wV VX (qX q) Sx) H → va_P q.2.1 vwCl (wV VM (qM q) Sm) H → va_S (A0 X) X.2.2.1.heap H locs → lv_has ls 4 lv →
    W X.1 q.1 X.2.1 room_1 X.2.2.1 X.2.2.2.1 X.2.2.2.2.1 X.2.2.2.2.2.1 X.2.2.2.2.2.2.1 X.2.2.2.2.2.2.2 H locs 71 7000 (lw_Z X.2.2.2.2.2.1 X.2.2.2.2.1 X.2.2.1) (F0 X.2.2.2.1 pc ls st)
section
variable {q : QT} {X : XT} {b L : Nat} {xs : Nat → Int32} {Sx Sm : St} {pc : Nat} {lv : List (Nat × Value)} {st : List Value}
theorem l_iconst (C : LOk q X b L xs) {k : Int} {v : Int32} (d : decode cL_law pc = .ok (.iconst k, 1)) (hv : Int32.ofInt k = v) (K : LW q X Sx Sm (pc + 1) lv (.int v :: st)) : LW q X Sx Sm pc lv st := fun H locs ls h1 h2 hS hl => lv_iconst C.1.1 C.1.2.1 d hv (K H locs ls h1 h2 hS hl)
theorem l_bipush (C : LOk q X b L xs) {k : Int} {v : Int32} (d : decode cL_law pc = .ok (.bipush k, 2)) (hv : (Int8.ofInt k).toInt32 = v) (K : LW q X Sx Sm (pc + 2) lv (.int v :: st)) : LW q X Sx Sm pc lv st := fun H locs ls h1 h2 hS hl => lv_bipush C.1.1 C.1.2.1 d hv (K H locs ls h1 h2 hS hl)
theorem l_iload (C : LOk q X b L xs) {k : Fin 4} {i : Nat} {x : Int32} (d : decode cL_law pc = .ok (.iload_n k, 1)) (hi : (k : Nat) = i) (j : Nat) (h : lv[j]? = some (i, .int x)) (K : LW q X Sx Sm (pc + 1) lv (.int x :: st)) : LW q X Sx Sm pc lv st := fun H locs ls h1 h2 hS hl => lv_iload_n C.1.1 C.1.2.1 d hi (lv_at hl j h) (K H locs ls h1 h2 hS hl)
theorem l_aload (C : LOk q X b L xs) {k : Fin 4} {i x : Nat} (d : decode cL_law pc = .ok (.aload_n k, 1)) (hi : (k : Nat) = i) (j : Nat) (h : lv[j]? = some (i, .ref x)) (K : LW q X Sx Sm (pc + 1) lv (.ref x :: st)) : LW q X Sx Sm pc lv st := fun H locs ls h1 h2 hS hl => lv_aload_n C.1.1 C.1.2.1 d hi (lv_at hl j h) (K H locs ls h1 h2 hS hl)
theorem l_iadd (C : LOk q X b L xs) {x y : Int32} (d : decode cL_law pc = .ok (.iadd, 1)) (K : LW q X Sx Sm (pc + 1) lv (.int (x + y) :: st)) : LW q X Sx Sm pc lv (.int y :: .int x :: st) := fun H locs ls h1 h2 hS hl => lv_iadd C.1.1 C.1.2.1 d (K H locs ls h1 h2 hS hl)
theorem l_isub (C : LOk q X b L xs) {x y : Int32} (d : decode cL_law pc = .ok (.isub, 1)) (K : LW q X Sx Sm (pc + 1) lv (.int (x - y) :: st)) : LW q X Sx Sm pc lv (.int y :: .int x :: st) := fun H locs ls h1 h2 hS hl => lv_isub C.1.1 C.1.2.1 d (K H locs ls h1 h2 hS hl)
theorem l_iand (C : LOk q X b L xs) {x y : Int32} (d : decode cL_law pc = .ok (.iand, 1)) (K : LW q X Sx Sm (pc + 1) lv (.int (x &&& y) :: st)) : LW q X Sx Sm pc lv (.int y :: .int x :: st) := fun H locs ls h1 h2 hS hl => lv_iand C.1.1 C.1.2.1 d (K H locs ls h1 h2 hS hl)
theorem l_land (C : LOk q X b L xs) {x y : Int64} (d : decode cL_law pc = .ok (.land, 1)) (K : LW q X Sx Sm (pc + 1) lv (.long (x &&& y) :: st)) : LW q X Sx Sm pc lv (.long y :: .long x :: st) := fun H locs ls h1 h2 hS hl => lv_land C.1.1 C.1.2.1 d (K H locs ls h1 h2 hS hl)
theorem l_lor (C : LOk q X b L xs) {x y : Int64} (d : decode cL_law pc = .ok (.lor, 1)) (K : LW q X Sx Sm (pc + 1) lv (.long (x ||| y) :: st)) : LW q X Sx Sm pc lv (.long y :: .long x :: st) := fun H locs ls h1 h2 hS hl => lv_lor C.1.1 C.1.2.1 d (K H locs ls h1 h2 hS hl)
theorem l_lshl (C : LOk q X b L xs) {x : Int64} {y : Int32} (d : decode cL_law pc = .ok (.lshl, 1)) (K : LW q X Sx Sm (pc + 1) lv (.long (x <<< (y.toInt64 &&& 63)) :: st)) : LW q X Sx Sm pc lv (.int y :: .long x :: st) := fun H locs ls h1 h2 hS hl => lv_lshl C.1.1 C.1.2.1 d rfl (K H locs ls h1 h2 hS hl)
theorem l_i2l (C : LOk q X b L xs) {x : Int32} (d : decode cL_law pc = .ok (.i2l, 1)) (K : LW q X Sx Sm (pc + 1) lv (.long x.toInt64 :: st)) : LW q X Sx Sm pc lv (.int x :: st) := fun H locs ls h1 h2 hS hl => lv_i2l C.1.1 C.1.2.1 d rfl (K H locs ls h1 h2 hS hl)
theorem l_lcmp (C : LOk q X b L xs) {x y : Int64} (d : decode cL_law pc = .ok (.lcmp, 1)) (K : LW q X Sx Sm (pc + 1) lv (.int (lg_cmp x y) :: st)) : LW q X Sx Sm pc lv (.long y :: .long x :: st) := fun H locs ls h1 h2 hS hl => W.lcmp C.1.1 C.1.2.1 d (K H locs ls h1 h2 hS hl)
theorem l_ldc2 (C : LOk q X b L xs) {k : Nat} {v : Int64} (d : decode cL_law pc = .ok (.ldc2_w k, 3)) (hc : Cond.constantLong RL k v ∈ WL) (K : LW q X Sx Sm (pc + 3) lv (.long v :: st)) : LW q X Sx Sm pc lv st := fun H locs ls h1 h2 hS hl => lv_ldc2 C.1.1 C.1.2.1 C.1.2.2.2.2.1 (C.1.2.2.2.2.2.1 _ hc) d (K H locs ls h1 h2 hS hl)
theorem l_slen (C : LOk q X b L xs) (d : decode cL_law pc = .ok (.arraylength, 1)) (K : LW q X Sx Sm (pc + 1) lv (.int (Int32.ofNat L) :: st)) : LW q X Sx Sm pc lv (.ref b :: st) := fun H locs ls h1 h2 hS hl => va_slen C.1.1 C.1.2.1 C.2.1.1 C.2.1.2.1 (Nat.not_le.mpr C.2.1.2.1) hS d (K H locs ls h1 h2 hS hl)
theorem l_sld (C : LOk q X b L xs) {i v : Int32} (hin : vp_in i L) (hv : xs i.toNatClampNeg = v) (d : decode cL_law pc = .ok (.iaload, 1)) (K : LW q X Sx Sm (pc + 1) lv (.int v :: st)) : LW q X Sx Sm pc lv (.int i :: .ref b :: st) := fun H locs ls h1 h2 hS hl => by
  subst hv
  exact va_sld C.1.1 C.1.2.1 C.2.1.1 C.2.1.2.1 (Nat.not_le.mpr C.2.1.2.1) hS hin d (K H locs ls h1 h2 hS hl)
theorem l_goto (C : LOk q X b L xs) {off : Int} (tgt : Nat) (d : decode cL_law pc = .ok (.goto off, 3)) (ht : (pc : Int) + off = (tgt : Int)) (K : LW q X Sx Sm tgt lv st) : LW q X Sx Sm pc lv st := fun H locs ls h1 h2 hS hl => lv_goto C.1.1 C.1.2.1 d ht (K H locs ls h1 h2 hS hl)
theorem l_eqT (C : LOk q X b L xs) {x : Int32} {off : Int} (tgt : Nat) (d : decode cL_law pc = .ok (.ifCond .eq off, 3)) (ht : (pc : Int) + off = (tgt : Int)) (hx : x = 0) (K : LW q X Sx Sm tgt lv st) : LW q X Sx Sm pc lv (.int x :: st) := fun H locs ls h1 h2 hS hl => lv_if_eq C.1.1 C.1.2.1 d ht (fun _ => (K H locs ls h1 h2 hS hl)) (fun c => absurd hx c)
theorem l_eqF (C : LOk q X b L xs) {x : Int32} {off : Int} (tgt : Nat) (d : decode cL_law pc = .ok (.ifCond .eq off, 3)) (ht : (pc : Int) + off = (tgt : Int)) (hx : ¬ x = 0) (K : LW q X Sx Sm (pc + 3) lv st) : LW q X Sx Sm pc lv (.int x :: st) := fun H locs ls h1 h2 hS hl => lv_if_eq C.1.1 C.1.2.1 d ht (fun c => absurd c hx) (fun _ => (K H locs ls h1 h2 hS hl))
theorem l_same (C : LOk q X b L xs) {x : Int32} {off : Int} (tgt : Nat) (d : decode cL_law pc = .ok (.if_icmp .eq off, 3)) (ht : (pc : Int) + off = (tgt : Int)) (K : LW q X Sx Sm tgt lv st) : LW q X Sx Sm pc lv (.int x :: .int x :: st) := fun H locs ls h1 h2 hS hl => lv_icmp_eq C.1.1 C.1.2.1 d ht (fun _ => (K H locs ls h1 h2 hS hl)) (fun c => absurd rfl c)
theorem l_tabIn (C : LOk q X b L xs) {dflt lo hi : Int} {offs : Array Int} {len : Nat} {x k : Int32} {off kk : Int} (tgt : Nat) (d : decode cL_law pc = .ok (.tableswitch dflt lo hi offs, len)) (hx : x = k) (hk : k.toInt = kk) (h1 : ¬ kk < lo) (h2 : ¬ hi < kk) (ho : offs[(kk - lo).toNat]? = some off) (ht : (pc : Int) + off = (tgt : Int)) (K : LW q X Sx Sm tgt lv st) : LW q X Sx Sm pc lv (.int x :: st) := fun H locs ls g1 g2 hS hl => by
  subst hx
  subst hk
  exact lv_tableIn C.1.1 C.1.2.1 d h1 h2 ho ht (K H locs ls g1 g2 hS hl)
theorem l_tabOut (C : LOk q X b L xs) {dflt lo hi : Int} {offs : Array Int} {len : Nat} {x : Int32} (tgt : Nat) (d : decode cL_law pc = .ok (.tableswitch dflt lo hi offs, len)) (h : x.toInt < lo ∨ hi < x.toInt) (ht : (pc : Int) + dflt = (tgt : Int)) (K : LW q X Sx Sm tgt lv st) : LW q X Sx Sm pc lv (.int x :: st) := fun H locs ls h1 h2 hS hl => lv_tableOut C.1.1 C.1.2.1 d h ht (K H locs ls h1 h2 hS hl)
theorem l_gt (C : LOk q X b L xs) {x y : Int32} {off : Int} (tgt : Nat) (d : decode cL_law pc = .ok (.if_icmp .gt off, 3)) (ht : (pc : Int) + off = (tgt : Int)) (kt : y < x → LW q X Sx Sm tgt lv st) (kf : ¬ y < x → LW q X Sx Sm (pc + 3) lv st) : LW q X Sx Sm pc lv (.int y :: .int x :: st) := fun H locs ls h1 h2 hS hl => lv_icmp_gt C.1.1 C.1.2.1 d ht (fun c => kt c H locs ls h1 h2 hS hl) (fun c => kf c H locs ls h1 h2 hS hl)
theorem l_iinc (C : LOk q X b L xs) {i : Nat} {k : Int} {x v w : Int32} (d : decode cL_law pc = .ok (.iinc i k, 3)) (j : Nat) (hk : lv[j]? = some (i, .int x)) (hw : Int32.ofInt k = w) (hv : x + w = v) (hn : i < 4) (lv' : List (Nat × Value)) (h : (i, Value.int v) :: lv.filter (fun q => !(q.1 == i) && !(q.1 + 1 == i && q.2.category == 2)) = lv') (K : LW q X Sx Sm (pc + 3) lv' st) : LW q X Sx Sm pc lv st := fun H locs ls h1 h2 hS hl => lv_iinc (k := j) C.1.1 C.1.2.1 d hl hk (by rw [hw]; exact hv) hn h (fun ls' hl' => K H locs ls' h1 h2 hS hl')
theorem l_sub {lv' : List (Nat × Value)} (ks : List Nat) (hl : lv_pick lv ks = lv') (K : LW q X Sx Sm pc lv' st) : LW q X Sx Sm pc lv st := fun H locs ls h1 h2 hS h => K H locs ls h1 h2 hS (lv_sub h ks hl)
theorem l_ret (C : LOk q X b L xs) (d : decode cL_law pc = .ok (.ireturn, 1)) : LW q X Sx Sm pc lv [.int 1] := fun H locs ls h1 h2 hS hl => by
  obtain ⟨p, e, s, m, args, below, meth, c⟩ := X
  obtain ⟨⟨hx, hb, hr, -, -, -, hlk⟩, ⟨-, -, ha⟩, -⟩ := C
  dsimp only at ha hx hb hr hlk hS
  subst ha
  refine va_forget (fun a h => hS.2.2 a h) ?_
  refine W.widen (k := 600000) (n := 7302250) (Nat.le_of_ble_eq_true rfl) (Nat.le_of_ble_eq_true rfl) ?_
  exact lw_ret hx hb hr hlk d
theorem l_run {H : Heap} {locs : List Loc} {ls : Array Slot} {st' : List Value} {ov : Option Value} {V : VT} {Y : YT} {S1 : St} {a : Array Value} (hr : va_Run X.1 q.1 X.2.1 room_1 X.2.2.1 X.2.2.2.1 X.2.2.2.2.1 X.2.2.2.2.2.1 X.2.2.2.2.2.2.1 X.2.2.2.2.2.2.2 H locs 71 7000 0 0 (F0 X.2.2.2.1 pc ls st') st (QX V Y (ov, S1) a) (aV V Y)) (hS : va_S (A0 X) X.2.2.1.heap H locs) (hA : ∀ a, aV V Y a → A0 X a)
    (K : ∀ (H1 : Heap) (locs1 : List Loc), va_P Y.2.1 vwCl (wV V Y S1) H1 → (∀ a : Nat, a < H.size → ¬ aV V Y a → H1[a]? = H[a]?) → va_S (A0 X) X.2.2.1.heap H1 locs1 → W X.1 q.1 X.2.1 room_1 X.2.2.1 X.2.2.2.1 X.2.2.2.2.1 X.2.2.2.2.2.1 X.2.2.2.2.2.2.1 X.2.2.2.2.2.2.2 H1 locs1 71 7000 (lw_Z X.2.2.2.2.2.1 X.2.2.2.2.1 X.2.2.1) (F0 X.2.2.2.1 (pc + 3) ls (ov.toList ++ st))) :
    W X.1 q.1 X.2.1 room_1 X.2.2.1 X.2.2.2.1 X.2.2.2.2.1 X.2.2.2.2.2.1 X.2.2.2.2.2.2.1 X.2.2.2.2.2.2.2 H locs 71 7000 (lw_Z X.2.2.2.2.2.1 X.2.2.2.2.1 X.2.2.1) (F0 X.2.2.2.1 pc ls st') := by
  intro T hT X0
  obtain ⟨v, st₀, t, T', L', h0, X', hL, e1, e2, ⟨hv, hp, hz, hk⟩, hst⟩ := hr T hT X0
  cases hv
  rw [h0] at hz hk
  obtain ⟨t2, a1, b1⟩ := K T'.heap (locs ++ L') (by rw [e1]; exact hp) (fun a h1 h2 => by rw [e1]; exact hk a h1 h2) ⟨Nat.le_trans hS.1 (by rw [e1]; exact hz), fun a h1 h2 => by rw [e1, hk a (Nat.lt_of_lt_of_le h1 hS.1) (fun z => h2 (hA a z))]; exact hS.2.1 a h1 h2, fun a ha => by
      rcases List.mem_append.mp ha with h | h
      · exact hS.2.2 a h
      · exact hA _ (hL a h)⟩ T' rfl X'
  exact ⟨t2, hst t2 a1, b1⟩
theorem l_keep {V V' : VT} {Y Y' : YT} {S' : St} {D : va_G} {H H1 : Heap} (hdis : ∀ i j, i < V.1 → j < V'.1 → Y.2.2.2.2 i ≠ Y'.2.2.2.2 j) (h : va_P D vwCl (wV V' Y' S') H) (hk : ∀ a : Nat, a < H.size → ¬ aV V Y a → H1[a]? = H[a]?) : va_P D vwCl (wV V' Y' S') H1 := by
  refine h.kept (fun k x hx => ?_)
  obtain ⟨h1, h2⟩ := wS_at hx
  refine hk _ (h k x hx).lt (fun hz => ?_)
  obtain ⟨i, h3, h4⟩ := hz
  exact hdis i k h3 h1 (by rw [← h4, h2])
theorem l_X (C : LOk q X b L xs) {idx na : Nat} {y : MethodName} {c2 : ByteArray} {n2 fr2 lo2 : Nat} {r2 : Option FieldType} {av : List Value} {ov : Option Value} {S1 : St} {st' : List Value} (d : decode cL_law pc = .ok (.invokevirtual idx, 3)) (hM : Mc VX (qX q) y c2 n2 r2 fr2 lo2 (rf (qX q) 0 :: av) Sx (ov, S1)) (hl : Cond.methodLink RL idx y ∈ WL) (hy : mV y c2 n2 r2 na 6) (hna : av.length = na) (hR : fr2 + 1 ≤ 13 ∧ 8 + (n2 + 11) + lo2 ≤ 488) (st : List Value) (hst : st' = av.reverse ++ rf (qX q) 0 :: st) (hcat : (st.map fun v => v.category).sum ≤ 8)
    (K : LW q X S1 Sm (pc + 3) lv (ov.toList ++ st)) : LW q X Sx Sm pc lv st' := fun H locs ls h1 h2 hS hls => by
  obtain ⟨hV, hd, T, N, hc⟩ := hy
  have hA : ∀ a, aV VX (qX q) a → A0 X a := fun a ⟨k, hk, e⟩ => by rw [e]; exact C.2.2.2.2.2.1 k hk
  refine l_run (va_runV (As := av) (rest := st) (C := y.cls) ⟨C.1.1, C.1.2.1, C.1.2.2.2.1, C.1.2.2.2.2.1, C.1.2.2.2.2.2.1⟩ hM (cwV na C.1.2.2.2.2.2.1 (wl_V hl hV) rfl rfl rfl ⟨rfl, hd⟩ hR) ⟨PX_blind, va_recv C.2.2.1.1 h1 hc (wS_get (k := 0) (by decide) rfl), fun U hU hW => ⟨rfl, C.2.2.2.1, by rw [hU]; exact Ev.moved hW (fun a g1 g2 => hS.2.1 a g1 (fun z => Nat.lt_irrefl a (Nat.lt_of_lt_of_le g1 z))) (Ev.narrow C.2.2.1 hA), by rw [hU]; exact h1⟩⟩ rfl hna hls.1 hst (lv_room hcat) d ⟨Nat.le_of_ble_eq_true rfl, Nat.le_of_ble_eq_true rfl⟩) hS hA (fun H1 locs1 hp hk hS1 => ?_)
  exact K H1 locs1 ls hp (l_keep (V := VX) (Y := qX q) (fun i j hi hj => C.2.2.2.2.2.2.2 i j hi hj) h2 hk) hS1 hls
theorem l_M (C : LOk q X b L xs) {idx na : Nat} {y : MethodName} {c2 : ByteArray} {n2 fr2 lo2 : Nat} {r2 : Option FieldType} {av : List Value} {ov : Option Value} {S1 : St} {st' : List Value} (d : decode cL_law pc = .ok (.invokevirtual idx, 3)) (hM : Mc VM (qM q) y c2 n2 r2 fr2 lo2 (rf (qM q) 0 :: av) Sm (ov, S1)) (hl : Cond.methodLink RL idx y ∈ WL) (hy : mV y c2 n2 r2 na 7) (hna : av.length = na) (hR : fr2 + 1 ≤ 13 ∧ 8 + (n2 + 11) + lo2 ≤ 488) (st : List Value) (hst : st' = av.reverse ++ rf (qM q) 0 :: st) (hcat : (st.map fun v => v.category).sum ≤ 8)
    (K : LW q X Sx S1 (pc + 3) lv (ov.toList ++ st)) : LW q X Sx Sm pc lv st' := fun H locs ls h1 h2 hS hls => by
  obtain ⟨hV, hd, T, N, hc⟩ := hy
  have hA : ∀ a, aV VM (qM q) a → A0 X a := fun a ⟨k, hk, e⟩ => by rw [e]; exact C.2.2.2.2.2.2.1 k hk
  refine l_run (va_runV (As := av) (rest := st) (C := y.cls) ⟨C.1.1, C.1.2.1, C.1.2.2.2.1, C.1.2.2.2.2.1, C.1.2.2.2.2.2.1⟩ hM (cwV na C.1.2.2.2.2.2.1 (wl_V hl hV) rfl rfl rfl ⟨rfl, hd⟩ hR) ⟨PX_blind, va_recv C.2.2.1.1 h2 hc (wS_get (k := 0) (by decide) rfl), fun U hU hW => ⟨rfl, C.2.2.2.2.1, by rw [hU]; exact Ev.moved hW (fun a g1 g2 => hS.2.1 a g1 (fun z => Nat.lt_irrefl a (Nat.lt_of_lt_of_le g1 z))) (Ev.narrow C.2.2.1 hA), by rw [hU]; exact h2⟩⟩ rfl hna hls.1 hst (lv_room hcat) d ⟨Nat.le_of_ble_eq_true rfl, Nat.le_of_ble_eq_true rfl⟩) hS hA (fun H1 locs1 hp hk hS1 => ?_)
  exact K H1 locs1 ls (l_keep (V := VM) (Y := qM q) (fun i j hi hj e => C.2.2.2.2.2.2.2 j i hj hi e.symm) h1 hk) hp hS1 hls
end
theorem vin {i k L : Nat} {kk : Int32} (h : i + 6 ≤ L) (hL : L ≤ 3072) (hk : kk = nI k) (h6 : k < 6) : vp_in (nI i + kk) L := by
  rw [hk, nI_add]
  exact vp_in_nI (by omega) (by omega)
