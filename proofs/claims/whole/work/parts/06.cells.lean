-- WHAT A CELL IS
def ai (V : VT) (k len : Nat) : Prop := k < V.1 ∧ ∀ q g i l, V.2 q g k i l = .inl (g 0, len, .inl i)
def aj (V : VT) (k len : Nat) : Prop := k < V.1 ∧ ∀ q g i l, V.2 q g k i l = .inl (g 1, len, .inr (.inl l))
def az (V : VT) (k len : Nat) : Prop := k < V.1 ∧ ∀ q g i l, V.2 q g k i l = .inl (g 2, len, .inl i)
def oi (V : VT) (k ci slot : Nat) : Prop := k < V.1 ∧ ∀ q g i l, ∃ fs, V.2 q g k i l = .inr (ci, fs) ∧ fs[slot]? = some (.int (i slot)) ∧ ∀ v, V.2 q g k (upd i slot v) l = .inr (ci, fs.set slot (.int v))
def og (V : VT) (k ci slot k' : Nat) : Prop := k < V.1 ∧ ∀ q g i l, ∃ fs, V.2 q g k i l = .inr (ci, fs) ∧ fs[slot]? = some (.ref (q k'))
def ob (V : VT) (k ci : Nat) : Prop := k < V.1 ∧ ∀ q g i l, ∃ fs, V.2 q g k i l = .inr (ci, fs)
/-- an index of a constant pool is a field of a class -/
def fl (own : String) (idx ci slot : Nat) : Prop := ∃ C T N, vwCl[ci]? = some (C, T, N) ∧ (∀ w ∈ u_ws C T N, w ∈ WL) ∧ slot < N ∧ Cond.fieldLink own idx (T slot).1 (T slot).2.1 (T slot).2.2.1 ∈ WL
/-- one that is written, of a type -/
def fp (own : String) (idx ci slot : Nat) (ty : FieldType) : Prop := ∃ C T N, vwCl[ci]? = some (C, T, N) ∧ (∀ w ∈ u_ws C T N, w ∈ WL) ∧ slot < N ∧ Cond.fieldLink own idx (T slot).1 (T slot).2.1 (T slot).2.2.1 ∈ WL ∧ (T slot).2.2.2 = false ∧ parseFieldDescriptor (T slot).2.2.1 = some ty ∧ (∃ ty0 : Nat → FieldType, ∀ k, k < N → parseFieldDescriptor (T k).2.2.1 = some (ty0 k)) ∧ ∀ a, a < N → ∀ b, b < N → a ≠ b → (T a).2.1 ≠ (T b).2.1
def mV (y : MethodName) (cc : ByteArray) (n : Nat) (r : Option FieldType) (na ci : Nat) : Prop := isV y cc n r ∧ (y.cls ≠ "java/lang/invoke/MethodHandle" ∧ y.cls ≠ "java/lang/invoke/VarHandle" ∧ (parseMethodDescriptor y.desc).map (fun d => d.parameters.length) = some na) ∧ ∃ T N, vwCl[ci]? = some (y.cls, T, N)
def mS (y : MethodName) (cc : ByteArray) (n : Nat) (r : Option FieldType) (na : Nat) : Prop := isS y cc n r ∧ (y.cls ≠ "java/lang/invoke/MethodHandle" ∧ y.cls ≠ "java/lang/invoke/VarHandle" ∧ (parseMethodDescriptor y.desc).map (fun d => d.parameters.length) = some na)
theorem fits_int (x : Int32) : fits .int (.int x) = true := rfl
theorem fits_zb {x : Int32} (h : x &&& 1 = x) : fits .boolean (.int x) = true := by
  obtain ⟨j, hj, e⟩ := pk_andE x (m := 1) 1 (by decide)
  rw [← h, e]
  match j, hj with
  | 0, _ => rfl
  | 1, _ => rfl
section
variable {V : VT} {Y : YT} {X : XT} {own : String} {cc : ByteArray} {n fr lo : Nat} {r : Option FieldType} {R : Option Value × St} {S : St} {pc : Nat} {lv : List (Nat × Value)} {st : List Value}
theorem w_geti (C : Ok V Y X own cc n r) {idx k ci slot : Nat} (d : decode cc pc = .ok (.getfield idx, 3)) (hf : fl own idx ci slot) (ho : oi V k ci slot) (K : WS V Y X n fr lo R S (pc + 3) lv (.int (S.1 k slot) :: st)) : WS V Y X n fr lo R S pc lv (rf Y k :: st) := fun H locs ls hP hS hl => by
  obtain ⟨C', T, N, hc, hw, hs, hlk⟩ := hf
  obtain ⟨hk, ho⟩ := ho
  obtain ⟨fs, e, hv, -⟩ := ho Y.2.2.2.2 Y.2.2.1 (S.1 k) (S.2 k)
  exact va_get C.1 C.2.1 C.2.2.2.2.2.1 hw C.2.2.2.2.1 C.2.2.2.2.2.2.2.1.1 hP k (wS_get hk e) hc slot hs (C.2.2.2.2.2.1 _ hlk) (fun _ h => h) hv d (K H locs ls hP hS hl)
theorem w_getr (C : Ok V Y X own cc n r) {idx k ci slot k' : Nat} (d : decode cc pc = .ok (.getfield idx, 3)) (hf : fl own idx ci slot) (ho : og V k ci slot k') (K : WS V Y X n fr lo R S (pc + 3) lv (rf Y k' :: st)) : WS V Y X n fr lo R S pc lv (rf Y k :: st) := fun H locs ls hP hS hl => by
  obtain ⟨C', T, N, hc, hw, hs, hlk⟩ := hf
  obtain ⟨hk, ho⟩ := ho
  obtain ⟨fs, e, hv⟩ := ho Y.2.2.2.2 Y.2.2.1 (S.1 k) (S.2 k)
  exact va_get C.1 C.2.1 C.2.2.2.2.2.1 hw C.2.2.2.2.1 C.2.2.2.2.2.2.2.1.1 hP k (wS_get hk e) hc slot hs (C.2.2.2.2.2.1 _ hlk) (fun _ h => h) hv d (K H locs ls hP hS hl)
theorem w_puti_ (C : Ok V Y X own cc n r) {idx k ci slot : Nat} {x : Int32} {ty : FieldType} (d : decode cc pc = .ok (.putfield idx, 3)) (hf : fp own idx ci slot ty) (ho : oi V k ci slot) (hn : narrow ty (.int x) = .int x) (hfit : fits ty (.int x) = true) (K : WS V Y X n fr lo R (si S k slot x) (pc + 3) lv st) : WS V Y X n fr lo R S pc lv (.int x :: rf Y k :: st) := fun H locs ls hP hS hl => by
  obtain ⟨C', T, N, hc, hw, hs, hlk, hfin, hty, ⟨ty0, hty0⟩, hnm⟩ := hf
  obtain ⟨hk, ho⟩ := ho
  obtain ⟨fs, e, hv, hset⟩ := ho Y.2.2.2.2 Y.2.2.1 (S.1 k) (S.2 k)
  have hlt : slot < fs.length := (List.getElem?_eq_some_iff.mp hv).1
  refine va_put (ty := ty) C.1 C.2.1 C.2.2.2.2.2.1 hw ty0 hty0 hnm C.2.2.2.2.1 C.2.2.2.2.2.2.2.1.1 hP (wS_D C.2.2.2.2.2.2.2.2) hS k (wS_get hk e) hc slot hs (C.2.2.2.2.2.1 _ hlk) (fun _ h => h) hfin hty hn hfit hlt d (fun H1 locs1 hP1 hD1 hS1 => ?_)
  refine K H1 locs1 ls ?_ hS1 hl
  rw [wS_set (S' := si S k slot x) (by rw [si_k]; exact hset x) (fun j h => si_n j h) (fun j h => rfl)] at hP1
  exact hP1
theorem w_puti (C : Ok V Y X own cc n r) {idx k ci slot : Nat} {x : Int32} (d : decode cc pc = .ok (.putfield idx, 3)) (hf : fp own idx ci slot .int) (ho : oi V k ci slot) (K : WS V Y X n fr lo R (si S k slot x) (pc + 3) lv st) : WS V Y X n fr lo R S pc lv (.int x :: rf Y k :: st) := w_puti_ C d hf ho rfl rfl K
theorem w_putz (C : Ok V Y X own cc n r) {idx k ci slot : Nat} {x : Int32} {β : Type} {ρ : β} {A : Option β} (d : decode cc pc = .ok (.putfield idx, 3)) (hf : fp own idx ci slot .boolean) (ho : oi V k ci slot) (h : ok (x &&& 1 = x) A = some ρ) (K : A = some ρ → WS V Y X n fr lo R (si S k slot x) (pc + 3) lv st) : WS V Y X n fr lo R S pc lv (.int x :: rf Y k :: st) := w_puti_ C d hf ho (by show Value.int (x &&& 1) = _; rw [(ok_some h).1]) (fits_zb (ok_some h).1) (K (ok_some h).2)
theorem w_iald (C : Ok V Y X own cc n r) {k len : Nat} {i : Int32} {β : Type} {ρ : β} {A : Nat → Option β} (d : decode cc pc = .ok (.iaload, 1)) (ha : ai V k len) (h : ld i len A = some ρ) (K : A i.toNatClampNeg = some ρ → WS V Y X n fr lo R S (pc + 1) lv (.int (S.1 k i.toNatClampNeg) :: st)) : WS V Y X n fr lo R S pc lv (.int i :: rf Y k :: st) := fun H locs ls hP hS hl =>
  va_iald C.1 C.2.1 C.2.2.2.2.2.2.2.1.1 hP k 0 (wS_get ha.1 (ha.2 _ _ _ _)) rfl (ld_some h).1 d (K (ld_some h).2 H locs ls hP hS hl)
theorem w_lald (C : Ok V Y X own cc n r) {k len : Nat} {i : Int32} {β : Type} {ρ : β} {A : Nat → Option β} (d : decode cc pc = .ok (.laload, 1)) (ha : aj V k len) (h : ld i len A = some ρ) (K : A i.toNatClampNeg = some ρ → WS V Y X n fr lo R S (pc + 1) lv (.long (S.2 k i.toNatClampNeg) :: st)) : WS V Y X n fr lo R S pc lv (.int i :: rf Y k :: st) := fun H locs ls hP hS hl =>
  va_lald C.1 C.2.1 C.2.2.2.2.2.2.2.1.1 hP k 1 (wS_get ha.1 (ha.2 _ _ _ _)) rfl (ld_some h).1 d (K (ld_some h).2 H locs ls hP hS hl)
theorem w_zald (C : Ok V Y X own cc n r) {k len : Nat} {i : Int32} {β : Type} {ρ : β} {A : Nat → Option β} (d : decode cc pc = .ok (.baload, 1)) (ha : az V k len) (h : ld i len A = some ρ) (K : A i.toNatClampNeg = some ρ → WS V Y X n fr lo R S (pc + 1) lv (.int (S.1 k i.toNatClampNeg) :: st)) : WS V Y X n fr lo R S pc lv (.int i :: rf Y k :: st) := fun H locs ls hP hS hl =>
  va_zald C.1 C.2.1 C.2.2.2.2.2.2.2.1.1 hP k 2 (wS_get ha.1 (ha.2 _ _ _ _)) rfl (ld_some h).1 d (K (ld_some h).2 H locs ls hP hS hl)
theorem w_iast (C : Ok V Y X own cc n r) {k len : Nat} {i x : Int32} {β : Type} {ρ : β} {A : Nat → Option β} (d : decode cc pc = .ok (.iastore, 1)) (ha : ai V k len) (h : ld i len A = some ρ) (K : A i.toNatClampNeg = some ρ → WS V Y X n fr lo R (si S k i.toNatClampNeg x) (pc + 1) lv st) : WS V Y X n fr lo R S pc lv (.int x :: .int i :: rf Y k :: st) := fun H locs ls hP hS hl => by
  refine va_iast C.1 C.2.1 C.2.2.2.2.2.2.2.1.1 hP (wS_D C.2.2.2.2.2.2.2.2) hS k 0 (wS_get ha.1 (ha.2 _ _ _ _)) rfl (ld_some h).1 d (fun H1 locs1 hP1 hD1 hS1 => ?_)
  refine K (ld_some h).2 H1 locs1 ls ?_ hS1 hl
  rw [wS_set (S' := si S k i.toNatClampNeg x) (by rw [si_k]; exact ha.2 _ _ _ _) (fun j h => si_n j h) (fun j h => rfl)] at hP1
  exact hP1
theorem w_zast (C : Ok V Y X own cc n r) {k len : Nat} {i x : Int32} {β : Type} {ρ : β} {A : Nat → Option β} (d : decode cc pc = .ok (.bastore, 1)) (ha : az V k len) (h : ld i len A = some ρ) (K : A i.toNatClampNeg = some ρ → WS V Y X n fr lo R (si S k i.toNatClampNeg (x &&& 1)) (pc + 1) lv st) : WS V Y X n fr lo R S pc lv (.int x :: .int i :: rf Y k :: st) := fun H locs ls hP hS hl => by
  refine va_zast C.1 C.2.1 C.2.2.2.2.2.2.2.1.1 hP (wS_D C.2.2.2.2.2.2.2.2) hS k 2 (wS_get ha.1 (ha.2 _ _ _ _)) rfl (ld_some h).1 d (fun H1 locs1 hP1 hD1 hS1 => ?_)
  refine K (ld_some h).2 H1 locs1 ls ?_ hS1 hl
  rw [wS_set (S' := si S k i.toNatClampNeg (x &&& 1)) (by rw [si_k]; exact ha.2 _ _ _ _) (fun j h => si_n j h) (fun j h => rfl)] at hP1
  exact hP1
theorem w_last (C : Ok V Y X own cc n r) {k len : Nat} {i : Int32} {x : Int64} {β : Type} {ρ : β} {A : Nat → Option β} (d : decode cc pc = .ok (.lastore, 1)) (ha : aj V k len) (h : ld i len A = some ρ) (K : A i.toNatClampNeg = some ρ → WS V Y X n fr lo R (sj S k i.toNatClampNeg x) (pc + 1) lv st) : WS V Y X n fr lo R S pc lv (.long x :: .int i :: rf Y k :: st) := fun H locs ls hP hS hl => by
  refine va_last C.1 C.2.1 C.2.2.2.2.2.2.2.1.1 hP (wS_D C.2.2.2.2.2.2.2.2) hS k 1 (wS_get ha.1 (ha.2 _ _ _ _)) rfl (ld_some h).1 d (fun H1 locs1 hP1 hD1 hS1 => ?_)
  refine K (ld_some h).2 H1 locs1 ls ?_ hS1 hl
  rw [wS_set (S := S) (S' := sj S k i.toNatClampNeg x) (by rw [sj_k]; exact ha.2 _ _ _ _) (fun j h => rfl) (fun j h => sj_n j h)] at hP1
  exact hP1
-- RETURNS
theorem w_iret (C : Ok V Y X own cc n (some .int)) (d : decode cc pc = .ok (.ireturn, 1)) {v : Int32} {ρ : St × Int32} (h : some (S, v) = some ρ) : WS V Y X n fr lo (some (.int ρ.2), ρ.1) S pc lv [.int v] := fun H locs ls hP hS hl => by
  cases h
  exact W.iret C.1 C.2.1 C.2.2.1 (fun t ht hW => ⟨rfl, by rw [ht]; exact hP, hS.F ht⟩) hS.2.2 d C.2.2.2.2.2.2.1
theorem w_zret (C : Ok V Y X own cc n (some .boolean)) (d : decode cc pc = .ok (.ireturn, 1)) {v : Int32} {ρ : St × Int32} (h : ok (v &&& 1 = v) (some (S, v)) = some ρ) : WS V Y X n fr lo (some (.int ρ.2), ρ.1) S pc lv [.int v] := fun H locs ls hP hS hl => by
  obtain ⟨h1, h2⟩ := ok_some h
  cases h2
  exact W.zret C.1 C.2.1 C.2.2.1 (by show Value.int (v &&& 1) = _; rw [h1]) (fun t ht hW => ⟨rfl, by rw [ht]; exact hP, hS.F ht⟩) hS.2.2 d C.2.2.2.2.2.2.1
theorem w_zret0 (C : Ok V Y X own cc n (some .boolean)) (d : decode cc pc = .ok (.ireturn, 1)) {v : Int32} (hv : v &&& 1 = v) {ρ : St × Int32} (h : some (S, v) = some ρ) : WS V Y X n fr lo (some (.int ρ.2), ρ.1) S pc lv [.int v] := fun H locs ls hP hS hl => by
  cases h
  exact W.zret C.1 C.2.1 C.2.2.1 (by show Value.int (v &&& 1) = _; rw [hv]) (fun t ht hW => ⟨rfl, by rw [ht]; exact hP, hS.F ht⟩) hS.2.2 d C.2.2.2.2.2.2.1
theorem w_lret (C : Ok V Y X own cc n (some .long)) (d : decode cc pc = .ok (.lreturn, 1)) {v : Int64} {ρ : St × Int64} (h : some (S, v) = some ρ) : WS V Y X n fr lo (some (.long ρ.2), ρ.1) S pc lv [.long v] := fun H locs ls hP hS hl => by
  cases h
  exact W.lret C.1 C.2.1 C.2.2.1 (fun t ht hW => ⟨rfl, by rw [ht]; exact hP, hS.F ht⟩) hS.2.2 d C.2.2.2.2.2.2.1
theorem w_vret (C : Ok V Y X own cc n none) (d : decode cc pc = .ok (.return_, 1)) {ρ : St} (h : some S = some ρ) : WS V Y X n fr lo (none, ρ) S pc lv [] := fun H locs ls hP hS hl => by
  cases h
  exact W.vret C.1 C.2.1 C.2.2.1 (fun t ht hW => ⟨rfl, by rw [ht]; exact hP, hS.F ht⟩) hS.2.2 d C.2.2.2.2.2.2.1
-- CALLS
theorem w_run {H : Heap} {locs : List Loc} {ls : Array Slot} {st' : List Value} {ov : Option Value} {S1 : St} {a : Array Value} (hr : va_Run X.1 Y.1 X.2.1 (Rm fr lo) X.2.2.1 X.2.2.2.1 X.2.2.2.2.1 X.2.2.2.2.2.1 X.2.2.2.2.2.2.1 X.2.2.2.2.2.2.2 H locs 0 0 0 0 (F0 X.2.2.2.1 pc ls st') st (QX V Y (ov, S1) a) (aV V Y)) (hS : va_S (aV V Y) X.2.2.1.heap H locs) (hl : lv_has ls n lv) (K : WS V Y X n fr lo R S1 (pc + 3) lv (ov.toList ++ st)) :
    W X.1 Y.1 X.2.1 (Rm fr lo) X.2.2.1 X.2.2.2.1 X.2.2.2.2.1 X.2.2.2.2.2.1 X.2.2.2.2.2.2.1 X.2.2.2.2.2.2.2 H locs 0 0 (MQ X.2.2.2.2.2.1 (QX V Y R) X.2.2.2.2.1 X.2.2.1 0 0 (aV V Y)) (F0 X.2.2.2.1 pc ls st') := by
  intro T hT X0
  obtain ⟨v, st₀, t, T', L, h0, X', hL, e1, e2, ⟨hv, hp, hz, hk⟩, hst⟩ := hr T hT X0
  cases hv
  rw [h0] at hz hk
  obtain ⟨t2, a1, b1⟩ := K T'.heap (locs ++ L) ls (by rw [e1]; exact hp) ⟨Nat.le_trans hS.1 (by rw [e1]; exact hz), fun q h1 h2 => by rw [e1, hk q (Nat.lt_of_lt_of_le h1 hS.1) h2]; exact hS.2.1 q h1 h2, fun q hq => by
      rcases List.mem_append.mp hq with h | h
      · exact hS.2.2 q h
      · exact hL q h⟩ hl T' rfl X'
  exact ⟨t2, hst t2 a1, b1⟩
theorem ok_pre (C : Ok V Y X own cc n r) {H : Heap} {locs : List Loc} {av : List Value} (hP : va_P Y.2.1 vwCl (wV V Y S) H) (hS : va_S (aV V Y) X.2.2.1.heap H locs) : ∀ U : State, U.heap = H → X.2.2.1.WarmedH U.vm → PX V Y S av av.toArray U := fun U hU hW => ⟨rfl, C.2.2.2.2.2.2.2.2, by rw [hU]; exact Ev.moved hW (fun a h1 h2 => hS.2.1 a h1 h2) C.2.2.2.2.2.2.2.1, by rw [hU]; exact hP⟩
theorem w_V (C : Ok V Y X own cc n r) {idx k ci na : Nat} {y : MethodName} {c2 : ByteArray} {n2 fr2 lo2 : Nat} {r2 : Option FieldType} {av : List Value} {ov : Option Value} {S1 : St} {st' : List Value} (d : decode cc pc = .ok (.invokevirtual idx, 3)) (hM : Mc V Y y c2 n2 r2 fr2 lo2 (rf Y k :: av) S (ov, S1)) (hl : Cond.methodLink own idx y ∈ WL) (hy : mV y c2 n2 r2 na ci) (ho : ob V k ci) (hna : av.length = na) (hR : fr2 + 1 ≤ fr ∧ 8 + (n2 + 11) + lo2 ≤ lo) (hst : st' = av.reverse ++ rf Y k :: st) (hcat : (st.map fun v => v.category).sum ≤ 8)
    (K : WS V Y X n fr lo R S1 (pc + 3) lv (ov.toList ++ st)) : WS V Y X n fr lo R S pc lv st' := fun H locs ls hP hS hls => by
  obtain ⟨hV, hd, T, N, hc⟩ := hy
  obtain ⟨hk, ho⟩ := ho
  obtain ⟨fs, e⟩ := ho Y.2.2.2.2 Y.2.2.1 (S.1 k) (S.2 k)
  refine w_run (va_runV (As := av) (rest := st) (C := y.cls) ⟨C.1, C.2.1, C.2.2.2.1, C.2.2.2.2.1, C.2.2.2.2.2.1⟩ hM (cwV na C.2.2.2.2.2.1 (wl_V hl hV) rfl rfl rfl ⟨rfl, hd⟩ hR) ⟨PX_blind, va_recv C.2.2.2.2.2.2.2.1.1 hP hc (wS_get hk e), ok_pre C hP hS⟩ rfl hna hls.1 hst (lv_room hcat) d ⟨Nat.le_refl _, Nat.le_refl _⟩) hS hls K
theorem w_S (C : Ok V Y X own cc n r) {idx na : Nat} {y : MethodName} {c2 : ByteArray} {n2 fr2 lo2 : Nat} {r2 : Option FieldType} {av : List Value} {ov : Option Value} {S1 : St} {st' : List Value} (d : decode cc pc = .ok (.invokestatic idx, 3)) (hM : Mc V Y y c2 n2 r2 fr2 lo2 av S (ov, S1)) (hl : Cond.methodLink own idx y ∈ WL) (hy : mS y c2 n2 r2 na) (hna : av.length = na) (hR : fr2 + 1 ≤ fr ∧ 8 + (n2 + 11) + lo2 ≤ lo) (hst : st' = av.reverse ++ st) (hcat : (st.map fun v => v.category).sum ≤ 8)
    (K : WS V Y X n fr lo R S1 (pc + 3) lv (ov.toList ++ st)) : WS V Y X n fr lo R S pc lv st' := fun H locs ls hP hS hls => by
  obtain ⟨hV, hd⟩ := hy
  refine w_run (va_runS (As := av) (rest := st) ⟨C.1, C.2.1, C.2.2.2.1, C.2.2.2.2.1, C.2.2.2.2.2.1⟩ hM ⟨callB_of na C.2.2.2.2.2.1 (wl_C hV.2.2) rfl rfl rfl (C.2.2.2.2.2.1 _ hV.2.1) (C.2.2.2.2.2.1 _ hl) hd hR, C.2.2.2.2.2.1 _ hV.1⟩ ⟨PX_blind, ok_pre C hP hS⟩ rfl hna hls.1 hst (lv_room hcat) d ⟨Nat.le_refl _, Nat.le_refl _⟩) hS hls K
theorem w_SN (C : Ok V Y X own cc n r) {idx na : Nat} {host : String} {y : MethodName} {c2 : ByteArray} {n2 fr2 lo2 : Nat} {r2 : Option FieldType} {av : List Value} {ov : Option Value} {S1 : St} {st' : List Value} (d : decode cc pc = .ok (.invokestatic idx, 3)) (hM : Mc V Y y c2 n2 r2 fr2 lo2 av S (ov, S1)) (hl : va_Nw (.methodLinkNest own idx y host) X.2.2.1) (hy : mS y c2 n2 r2 na) (hna : av.length = na) (hR : fr2 + 1 ≤ fr ∧ 8 + (n2 + 11) + lo2 ≤ lo) (hst : st' = av.reverse ++ st) (hcat : (st.map fun v => v.category).sum ≤ 8)
    (K : WS V Y X n fr lo R S1 (pc + 3) lv (ov.toList ++ st)) : WS V Y X n fr lo R S pc lv st' := fun H locs ls hP hS hls => by
  obtain ⟨hV, hd⟩ := hy
  refine w_run (va_runSN (As := av) (rest := st) ⟨C.1, C.2.1, C.2.2.2.1, C.2.2.2.2.1, C.2.2.2.2.2.1⟩ hM ⟨va_cnB na C.2.2.2.2.2.1 (wl_C hV.2.2) rfl rfl rfl hl (C.2.2.2.2.2.1 _ hV.2.1) hd hR, C.2.2.2.2.2.1 _ hV.1, trivial⟩ ⟨PX_blind, ok_pre C hP hS⟩ rfl hna hls.1 hst (lv_room hcat) d ⟨Nat.le_refl _, Nat.le_refl _⟩) hS hls K
section
variable {β : Type} {ρ : β} {idx kc ci na : Nat} {y : MethodName} {c2 : ByteArray} {n2 fr2 lo2 : Nat} {r2 : Option FieldType} {av : List Value} {st' : List Value}
theorem w_Vi (C : Ok V Y X own cc n r) {f : Option (St × Int32)} {k : St → Int32 → Option β} (d : decode cc pc = .ok (.invokevirtual idx, 3)) (h : bq f k = some ρ) (hM : ∀ p, f = some p → Mc V Y y c2 n2 r2 fr2 lo2 (rf Y kc :: av) S (some (.int p.2), p.1)) (hl : Cond.methodLink own idx y ∈ WL) (hy : mV y c2 n2 r2 na ci) (ho : ob V kc ci) (hna : av.length = na) (hR : fr2 + 1 ≤ fr ∧ 8 + (n2 + 11) + lo2 ≤ lo) (st : List Value) (hst : st' = av.reverse ++ rf Y kc :: st) (hcat : (st.map fun v => v.category).sum ≤ 8)
    (K : ∀ S1 v, k S1 v = some ρ → WS V Y X n fr lo R S1 (pc + 3) lv (.int v :: st)) : WS V Y X n fr lo R S pc lv st' := by
  obtain ⟨p, e, h⟩ := bq_some h
  exact w_V C d (hM p e) hl hy ho hna hR hst hcat (K p.1 p.2 h)
theorem w_Vl (C : Ok V Y X own cc n r) {f : Option (St × Int64)} {k : St → Int64 → Option β} (d : decode cc pc = .ok (.invokevirtual idx, 3)) (h : bq f k = some ρ) (hM : ∀ p, f = some p → Mc V Y y c2 n2 r2 fr2 lo2 (rf Y kc :: av) S (some (.long p.2), p.1)) (hl : Cond.methodLink own idx y ∈ WL) (hy : mV y c2 n2 r2 na ci) (ho : ob V kc ci) (hna : av.length = na) (hR : fr2 + 1 ≤ fr ∧ 8 + (n2 + 11) + lo2 ≤ lo) (st : List Value) (hst : st' = av.reverse ++ rf Y kc :: st) (hcat : (st.map fun v => v.category).sum ≤ 8)
    (K : ∀ S1 v, k S1 v = some ρ → WS V Y X n fr lo R S1 (pc + 3) lv (.long v :: st)) : WS V Y X n fr lo R S pc lv st' := by
  obtain ⟨p, e, h⟩ := bq_some h
  exact w_V C d (hM p e) hl hy ho hna hR hst hcat (K p.1 p.2 h)
theorem w_Vv (C : Ok V Y X own cc n r) {f : Option St} {k : St → Option β} (d : decode cc pc = .ok (.invokevirtual idx, 3)) (h : bv f k = some ρ) (hM : ∀ p, f = some p → Mc V Y y c2 n2 r2 fr2 lo2 (rf Y kc :: av) S (none, p)) (hl : Cond.methodLink own idx y ∈ WL) (hy : mV y c2 n2 r2 na ci) (ho : ob V kc ci) (hna : av.length = na) (hR : fr2 + 1 ≤ fr ∧ 8 + (n2 + 11) + lo2 ≤ lo) (st : List Value) (hst : st' = av.reverse ++ rf Y kc :: st) (hcat : (st.map fun v => v.category).sum ≤ 8)
    (K : ∀ S1, k S1 = some ρ → WS V Y X n fr lo R S1 (pc + 3) lv st) : WS V Y X n fr lo R S pc lv st' := by
  obtain ⟨p, e, h⟩ := bv_some h
  exact w_V C d (hM p e) hl hy ho hna hR hst hcat (K p h)
theorem w_Si (C : Ok V Y X own cc n r) {f : Option (St × Int32)} {k : St → Int32 → Option β} (d : decode cc pc = .ok (.invokestatic idx, 3)) (h : bq f k = some ρ) (hM : ∀ p, f = some p → Mc V Y y c2 n2 r2 fr2 lo2 av S (some (.int p.2), p.1)) (hl : Cond.methodLink own idx y ∈ WL) (hy : mS y c2 n2 r2 na) (hna : av.length = na) (hR : fr2 + 1 ≤ fr ∧ 8 + (n2 + 11) + lo2 ≤ lo) (st : List Value) (hst : st' = av.reverse ++ st) (hcat : (st.map fun v => v.category).sum ≤ 8)
    (K : ∀ S1 v, k S1 v = some ρ → WS V Y X n fr lo R S1 (pc + 3) lv (.int v :: st)) : WS V Y X n fr lo R S pc lv st' := by
  obtain ⟨p, e, h⟩ := bq_some h
  exact w_S C d (hM p e) hl hy hna hR hst hcat (K p.1 p.2 h)
theorem w_Sl (C : Ok V Y X own cc n r) {f : Option (St × Int64)} {k : St → Int64 → Option β} (d : decode cc pc = .ok (.invokestatic idx, 3)) (h : bq f k = some ρ) (hM : ∀ p, f = some p → Mc V Y y c2 n2 r2 fr2 lo2 av S (some (.long p.2), p.1)) (hl : Cond.methodLink own idx y ∈ WL) (hy : mS y c2 n2 r2 na) (hna : av.length = na) (hR : fr2 + 1 ≤ fr ∧ 8 + (n2 + 11) + lo2 ≤ lo) (st : List Value) (hst : st' = av.reverse ++ st) (hcat : (st.map fun v => v.category).sum ≤ 8)
    (K : ∀ S1 v, k S1 v = some ρ → WS V Y X n fr lo R S1 (pc + 3) lv (.long v :: st)) : WS V Y X n fr lo R S pc lv st' := by
  obtain ⟨p, e, h⟩ := bq_some h
  exact w_S C d (hM p e) hl hy hna hR hst hcat (K p.1 p.2 h)
theorem w_Sv (C : Ok V Y X own cc n r) {f : Option St} {k : St → Option β} (d : decode cc pc = .ok (.invokestatic idx, 3)) (h : bv f k = some ρ) (hM : ∀ p, f = some p → Mc V Y y c2 n2 r2 fr2 lo2 av S (none, p)) (hl : Cond.methodLink own idx y ∈ WL) (hy : mS y c2 n2 r2 na) (hna : av.length = na) (hR : fr2 + 1 ≤ fr ∧ 8 + (n2 + 11) + lo2 ≤ lo) (st : List Value) (hst : st' = av.reverse ++ st) (hcat : (st.map fun v => v.category).sum ≤ 8)
    (K : ∀ S1, k S1 = some ρ → WS V Y X n fr lo R S1 (pc + 3) lv st) : WS V Y X n fr lo R S pc lv st' := by
  obtain ⟨p, e, h⟩ := bv_some h
  exact w_S C d (hM p e) hl hy hna hR hst hcat (K p h)
theorem w_SNi (C : Ok V Y X own cc n r) {f : Option (St × Int32)} {k : St → Int32 → Option β} (host : String) (d : decode cc pc = .ok (.invokestatic idx, 3)) (h : bq f k = some ρ) (hM : ∀ p, f = some p → Mc V Y y c2 n2 r2 fr2 lo2 av S (some (.int p.2), p.1)) (hl : va_Nw (.methodLinkNest own idx y host) X.2.2.1) (hy : mS y c2 n2 r2 na) (hna : av.length = na) (hR : fr2 + 1 ≤ fr ∧ 8 + (n2 + 11) + lo2 ≤ lo) (st : List Value) (hst : st' = av.reverse ++ st) (hcat : (st.map fun v => v.category).sum ≤ 8)
    (K : ∀ S1 v, k S1 v = some ρ → WS V Y X n fr lo R S1 (pc + 3) lv (.int v :: st)) : WS V Y X n fr lo R S pc lv st' := by
  obtain ⟨p, e, h⟩ := bq_some h
  exact w_SN C d (hM p e) hl hy hna hR hst hcat (K p.1 p.2 h)
end
end
