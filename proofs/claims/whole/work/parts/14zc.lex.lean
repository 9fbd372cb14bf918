-- THE TEXT: tokens, side by side
def wof (w : Nat) : Nat := ([0, 5, 10, 15, 21, 26, 31, 36, 41, 47, 52, 59, 64, 70] : List Nat).getD w 70
def wln (w : Nat) : Nat := sLen.getD w 0
def wle (w t : Nat) : Int32 := lett.getD (wof w + t) 0
def TB (T : Nat → Nat) (n j : Nat) (X M : St) : Prop :=
  n ≤ 120 ∧ j ≤ n ∧ (∀ k, k < n → T k < 256 ∧ X.1 45 k = nI (T k) ∧ M.1 5 k = nI (T k)) ∧ X.1 44 1 = nI n ∧ M.1 0 6 = nI n ∧ X.1 44 2 = nI j ∧ M.1 0 17 = nI j ∧ LeR M
theorem TB.kept {T : Nat → Nat} {n j j' : Nat} {X M X' M' : St} (h : TB T n j X M) (hj : j' ≤ n) (e1 : X'.1 45 = X.1 45) (e2 : X'.1 44 1 = X.1 44 1) (e3 : X'.1 44 2 = nI j') (e4 : M'.1 5 = M.1 5) (e5 : M'.1 0 6 = M.1 0 6) (e6 : M'.1 0 17 = nI j') (e7 : M'.1 14 = M.1 14) : TB T n j' X' M' := by
  obtain ⟨h1, h2, h3, h4, h5, h6, h7, h8⟩ := h
  exact ⟨h1, hj, fun k hk => by rw [e1, e4]; exact h3 k hk, by rw [e2]; exact h4, by rw [e5]; exact h5, e3, e6, h8.kept e7⟩
theorem si_v {S : St} {c k : Nat} {v : Int32} (h : S.1 c k = v) : si S c k v = S := by rw [← h]; exact si_id
theorem byteE {T : Nat → Nat} {n j : Nat} {X M : St} (h : TB T n j X M) {k : Nat} (hk : k < n) : fX7_byteAt M (nI k) = some (nI (T k)) := by
  have h1 := h.1
  unfold fX7_byteAt
  rw [h.2.2.2.2.1, if_neg (nI_ge hk (by omega)), ldi_e (by omega) (by decide), (h.2.2.1 k hk).2.2]
theorem byteN {T : Nat → Nat} {n j : Nat} {X M : St} (h : TB T n j X M) : fX7_byteAt M (nI n) = some (-1) := by
  have h1 := h.1
  unfold fX7_byteAt
  rw [h.2.2.2.2.1, if_pos (nI_le (Nat.le_refl n) (by omega))]
theorem isInT {S : St} {c lo hi : Nat} {l h : Int64} (e1 : (nI lo).toInt64 = l) (e2 : (nI hi).toInt64 = h) (h1 : lo ≤ c) (h2 : c ≤ hi) (hh : hi < 2 ^ 31) : fX7_isIn S (Int32.toInt64 (nI c)) l h = some 1 := isIn_t e1 e2 (inb_of h1 h2 hh)
theorem inb_n {c lo hi : Nat} (h : ¬ (lo ≤ c ∧ c ≤ hi)) (hc : c < 2 ^ 31) (hl : lo < 2 ^ 31) (hh : hi < 2 ^ 31) : ¬ inb (nI c) (nI lo) (nI hi) := fun q => h ⟨(nI_leI hl hc).mp q.1, (nI_leI hc hh).mp q.2⟩
theorem isInF {S : St} {c lo hi : Nat} {l h : Int64} (e1 : (nI lo).toInt64 = l) (e2 : (nI hi).toInt64 = h) (h1 : ¬ (lo ≤ c ∧ c ≤ hi)) (hc : c < 2 ^ 31) (hl : lo < 2 ^ 31) (hh : hi < 2 ^ 31) : fX7_isIn S (Int32.toInt64 (nI c)) l h = some 0 := isIn_f e1 e2 (inb_n h1 hc hl hh)
theorem isInM {S : St} {lo hi : Nat} {l h : Int64} (e1 : (nI lo).toInt64 = l) (e2 : (nI hi).toInt64 = h) (hl : lo < 2 ^ 31) : fX7_isIn S (Int32.toInt64 (-1)) l h = some 0 := isIn_f e1 e2 (fun q => by
  have q1 := q.1
  have q2 := neg1.2
  rw [fa_le, nI_toInt hl] at q1
  rw [fa_lt] at q2
  have e : (0 : Int32).toInt = 0 := by decide
  omega)
theorem letT {S : St} {c : Nat} (h1 : 97 ≤ c) (h2 : c ≤ 122) : fX5_isLetter S (nI c) = some 1 := by
  unfold fX5_isLetter
  rw [if_neg (show ¬ nI c < (97 : Int32) from nI_nlt (b := 97) h1 (by omega)), if_neg (show ¬ (122 : Int32) < nI c from nI_nlt (a := 122) h2 (by decide))]
theorem letF {S : St} {c : Nat} (h : ¬ (97 ≤ c ∧ c ≤ 122)) (hc : c < 256) : fX5_isLetter S (nI c) = some 0 := by
  unfold fX5_isLetter
  by_cases h1 : c < 97
  · rw [if_pos (show nI c < (97 : Int32) from nI_lt (b := 97) h1 (by decide))]
  · rw [if_neg (show ¬ nI c < (97 : Int32) from nI_nlt (b := 97) (by omega) (by omega)), if_pos (show (122 : Int32) < nI c from nI_lt (a := 122) (by omega) (by omega))]
theorem digT {S : St} {c : Nat} (h1 : 48 ≤ c) (h2 : c ≤ 57) : fX5_isDigit S (nI c) = some 1 := by
  unfold fX5_isDigit
  rw [if_neg (show ¬ nI c < (48 : Int32) from nI_nlt (b := 48) h1 (by omega)), if_neg (show ¬ (57 : Int32) < nI c from nI_nlt (a := 57) h2 (by decide))]
theorem digF {S : St} {c : Nat} (h : ¬ (48 ≤ c ∧ c ≤ 57)) (hc : c < 256) : fX5_isDigit S (nI c) = some 0 := by
  unfold fX5_isDigit
  by_cases h1 : c < 48
  · rw [if_pos (show nI c < (48 : Int32) from nI_lt (b := 48) h1 (by decide))]
  · rw [if_neg (show ¬ nI c < (48 : Int32) from nI_nlt (b := 48) (by omega) (by omega)), if_pos (show (57 : Int32) < nI c from nI_lt (a := 57) (by omega) (by omega))]
theorem TB.next {T : Nat → Nat} {n j j' : Nat} {X M : St} (h : TB T n j X M) (hj : j' ≤ n) : TB T n j' (si X 44 2 (nI j')) (si M 0 17 (nI j')) :=
  h.kept hj (si_o (by decide)) (si_s (by decide)) si_h (si_o (by decide)) (si_s (by decide)) si_h (si_o (by decide))
theorem blanks {T : Nat → Nat} {n : Nat} : ∀ (G G' j : Nat) (X M : St), TB T n j X M → n - j < G → n - j < G' → ∃ j', j ≤ j' ∧ j' ≤ n ∧ (∀ JX, fX5_step_L0 JX G X = JX (si X 44 2 (nI j'))) ∧ (∀ JM, fX7_goesOn_L0 JM G' M = JM (si M 0 17 (nI j'))) ∧ (j' < n → T j' ≠ 32) := by
  intro G
  induction G with
  | zero => intro G' j X M h h1 h2; omega
  | succ G ih =>
    intro G' j X M h h1 h2
    obtain ⟨G', rfl⟩ : ∃ g, G' = g + 1 := ⟨G' - 1, by omega⟩
    have hn := h.1
    have hj := h.2.1
    by_cases c : j = n
    · subst c
      refine ⟨j, Nat.le_refl _, Nat.le_refl _, fun JX => ?_, fun JM => ?_, fun q => absurd q (Nat.lt_irrefl _)⟩
      · rw [fX5_step_L0, h.2.2.2.1, h.2.2.2.2.2.1, if_pos (nI_le (Nat.le_refl j) (by omega)), si_v h.2.2.2.2.2.1]
      · rw [fX7_goesOn_L0, h.2.2.2.2.2.2.1, byteN h, bv_e, if_neg (by decide), si_v h.2.2.2.2.2.2.1]
    · have hjn : j < n := by omega
      obtain ⟨t1, t2, t3⟩ := h.2.2.1 j hjn
      by_cases c32 : T j = 32
      · obtain ⟨j', g1, g2, g3, g4, g5⟩ := ih G' (j + 1) _ _ (h.next (j' := j + 1) (by omega)) (by omega) (by omega)
        refine ⟨j', by omega, g2, fun JX => ?_, fun JM => ?_, g5⟩
        · rw [fX5_step_L0, h.2.2.2.1, h.2.2.2.2.2.1, if_neg (nI_ge hjn (by omega)), ldi_e (by omega) (by decide), t2, if_pos (by rw [c32]; rfl), pl_e, nI_1, g3, si_si]
        · rw [fX7_goesOn_L0, h.2.2.2.2.2.2.1, byteE h hjn, bv_e, if_pos (by rw [c32]; rfl), pl_e, nI_1, g4, si_si]
      · refine ⟨j, Nat.le_refl _, hj, fun JX => ?_, fun JM => ?_, fun _ => c32⟩
        · rw [fX5_step_L0, h.2.2.2.1, h.2.2.2.2.2.1, if_neg (nI_ge hjn (by omega)), ldi_e (by omega) (by decide), t2, if_neg (show ¬ nI (T j) = (32 : Int32) from fun q => c32 ((nI_eq (b := 32) (by omega) (by decide)).mp q)), si_v h.2.2.2.2.2.1]
        · rw [fX7_goesOn_L0, h.2.2.2.2.2.2.1, byteE h hjn, bv_e, if_neg (show ¬ nI (T j) = (32 : Int32) from fun q => c32 ((nI_eq (b := 32) (by omega) (by decide)).mp q)), si_v h.2.2.2.2.2.2.1]
theorem letters {T : Nat → Nat} {n : Nat} : ∀ (G G' j : Nat) (X M : St), TB T n j X M → n - j < G → n - j < G' → ∃ j', j ≤ j' ∧ j' ≤ n ∧ fX5_step_L85 G X = some (si X 44 2 (nI j')) ∧ (∀ JM, fX7_goesOn_L69 JM G' M = JM (si M 0 17 (nI j'))) ∧ (j < n → 97 ≤ T j → T j ≤ 122 → j < j') := by
  intro G
  induction G with
  | zero => intro G' j X M h h1 h2; omega
  | succ G ih =>
    intro G' j X M h h1 h2
    obtain ⟨G', rfl⟩ : ∃ g, G' = g + 1 := ⟨G' - 1, by omega⟩
    have hn := h.1
    have hj := h.2.1
    by_cases c : j = n
    · subst c
      refine ⟨j, Nat.le_refl _, Nat.le_refl _, ?_, fun JM => ?_, fun q => absurd q (Nat.lt_irrefl _)⟩
      · rw [fX5_step_L85, h.2.2.2.1, h.2.2.2.2.2.1, if_pos (nI_le (Nat.le_refl j) (by omega)), si_v h.2.2.2.2.2.1]
      · rw [fX7_goesOn_L69, h.2.2.2.2.2.2.1, byteN h, bv_e, isInM (lo := 97) (hi := 122) (by decide) (by decide) (by decide), bv_e, if_pos rfl, si_v h.2.2.2.2.2.2.1]
    · have hjn : j < n := by omega
      obtain ⟨t1, t2, t3⟩ := h.2.2.1 j hjn
      by_cases c2 : 97 ≤ T j ∧ T j ≤ 122
      · obtain ⟨j', g1, g2, g3, g4, g5⟩ := ih G' (j + 1) _ _ (h.next (j' := j + 1) (by omega)) (by omega) (by omega)
        refine ⟨j', by omega, g2, ?_, fun JM => ?_, fun _ _ _ => by omega⟩
        · rw [fX5_step_L85, h.2.2.2.1, h.2.2.2.2.2.1, if_neg (nI_ge hjn (by omega)), ldi_e (by omega) (by decide), t2, letT c2.1 c2.2, bv_e, if_neg (by decide), pl_e, nI_1, g3, si_si]
        · rw [fX7_goesOn_L69, h.2.2.2.2.2.2.1, byteE h hjn, bv_e, isInT (lo := 97) (hi := 122) (by decide) (by decide) c2.1 c2.2 (by decide), bv_e, if_neg (by decide), pl_e, nI_1, g4, si_si]
      · refine ⟨j, Nat.le_refl _, hj, ?_, fun JM => ?_, fun _ q1 q2 => absurd ⟨q1, q2⟩ c2⟩
        · rw [fX5_step_L85, h.2.2.2.1, h.2.2.2.2.2.1, if_neg (nI_ge hjn (by omega)), ldi_e (by omega) (by decide), t2, letF c2 t1, bv_e, if_pos rfl, si_v h.2.2.2.2.2.1]
        · rw [fX7_goesOn_L69, h.2.2.2.2.2.2.1, byteE h hjn, bv_e, isInF (lo := 97) (hi := 122) (by decide) (by decide) c2 (by omega) (by decide) (by decide), bv_e, if_pos rfl, si_v h.2.2.2.2.2.2.1]
def VR (a b : Nat) : Prop := (a ≤ 999 ∧ b = a) ∨ (a = 1000 ∧ 1000 ≤ b ∧ b ≤ 9999)
theorem VR_n {a b t : Nat} (h : VR a b) (ht : t ≤ 9) : VR (if 1000 < a * 10 + t then 1000 else a * 10 + t) (if b ≤ 999 then b * 10 + t else b) := by
  unfold VR at *
  by_cases q1 : 1000 < a * 10 + t
  · by_cases q2 : b ≤ 999
    · rw [if_pos q1, if_pos q2]; omega
    · rw [if_pos q1, if_neg q2]; omega
  · by_cases q2 : b ≤ 999
    · rw [if_neg q1, if_pos q2]; omega
    · rw [if_neg q1, if_neg q2]; omega
theorem si4 {S : St} {c k l : Nat} {x y u v : Int32} (h : k ≠ l) : si (si (si (si S c k x) c l y) c k u) c l v = si (si S c k u) c l v := st_ext (fun d j => by simp only [si_a]; grind) rfl
theorem si_two {S : St} {c k l : Nat} {x y : Int32} (h1 : S.1 c k = x) (h2 : S.1 c l = y) : si (si S c k x) c l y = S := by
  rw [si_v h1, si_v h2]
theorem digN {a t : Nat} (ha : a ≤ 9999) (h1 : 48 ≤ t) (h2 : t ≤ 57) : (nI a * (10 : Int32) + nI t) - (48 : Int32) = nI (a * 10 + (t - 48)) ∧ ((10 : Int32) * nI a + nI t) - (48 : Int32) = nI (a * 10 + (t - 48)) := by
  have e10 : (10 : Int32) = nI 10 := rfl
  have e48 : (48 : Int32) = nI 48 := rfl
  rw [e10, e48, pk_mul, pk_mul, nI_add, nI_add, pk_sub (by omega), pk_sub (by omega)]
  refine ⟨?_, ?_⟩
  · congr 1; omega
  · congr 1; omega
theorem TB.next2 {T : Nat → Nat} {n j j' : Nat} {X M : St} {x y : Int32} (h : TB T n j X M) (hj : j' ≤ n) : TB T n j' (si (si X 44 5 x) 44 2 (nI j')) (si (si M 0 19 y) 0 17 (nI j')) :=
  h.kept hj (by rw [si_o (by decide), si_o (by decide)]) (by rw [si_s (by decide), si_s (by decide)]) si_h (by rw [si_o (by decide), si_o (by decide)]) (by rw [si_s (by decide), si_s (by decide)]) si_h (by rw [si_o (by decide), si_o (by decide)])
theorem digits {T : Nat → Nat} {n : Nat} : ∀ (G G' j a b : Nat) (X M : St), TB T n j X M → X.1 44 5 = nI a → M.1 0 19 = nI b → VR a b → n - j < G → n - j < G' → ∃ j' a' b', j ≤ j' ∧ j' ≤ n ∧ VR a' b' ∧ fX5_step_L149 G X = some (si (si X 44 5 (nI a')) 44 2 (nI j')) ∧ (∀ JM, fX7_goesOn_L149 JM G' M = JM (si (si M 0 19 (nI b')) 0 17 (nI j'))) ∧ (j < n → 48 ≤ T j → T j ≤ 57 → j < j') := by
  intro G
  induction G with
  | zero => intro G' j a b X M h _ _ _ h1 h2; omega
  | succ G ih =>
    intro G' j a b X M h ha hb hv h1 h2
    obtain ⟨G', rfl⟩ : ∃ g, G' = g + 1 := ⟨G' - 1, by omega⟩
    have hn := h.1
    have hj := h.2.1
    by_cases c : j = n
    · subst c
      refine ⟨j, a, b, Nat.le_refl _, Nat.le_refl _, hv, ?_, fun JM => ?_, fun q => absurd q (Nat.lt_irrefl _)⟩
      · rw [fX5_step_L149, h.2.2.2.1, h.2.2.2.2.2.1, if_pos (nI_le (Nat.le_refl j) (by omega)), si_two ha h.2.2.2.2.2.1]
      · rw [fX7_goesOn_L149, h.2.2.2.2.2.2.1, byteN h, bv_e, isInM (lo := 48) (hi := 57) (by decide) (by decide) (by decide), bv_e, if_pos rfl, si_two hb h.2.2.2.2.2.2.1]
    · have hjn : j < n := by omega
      obtain ⟨t1, t2, t3⟩ := h.2.2.1 j hjn
      by_cases c2 : 48 ≤ T j ∧ T j ≤ 57
      · have hb9 : b ≤ 9999 := by unfold VR at hv; omega
        have ha9 : a ≤ 9999 := by unfold VR at hv; omega
        obtain ⟨j', a', b', g1, g2, g0, g3, g4, g5⟩ := ih G' (j + 1) (if 1000 < a * 10 + (T j - 48) then 1000 else a * 10 + (T j - 48)) (if b ≤ 999 then b * 10 + (T j - 48) else b) _ _ (h.next2 (x := nI (if 1000 < a * 10 + (T j - 48) then 1000 else a * 10 + (T j - 48))) (y := nI (if b ≤ 999 then b * 10 + (T j - 48) else b)) (j' := j + 1) (by omega)) (by rw [si_s (by decide), si_h]) (by rw [si_s (by decide), si_h]) (VR_n hv (by omega)) (by omega) (by omega)
        have hif : (if (1000 : Int32) < nI (a * 10 + (T j - 48)) then (1000 : Int32) else nI (a * 10 + (T j - 48))) = nI (if 1000 < a * 10 + (T j - 48) then 1000 else a * 10 + (T j - 48)) := by
          by_cases q1 : 1000 < a * 10 + (T j - 48)
          · rw [if_pos q1, if_pos (show (1000 : Int32) < nI _ from nI_lt (a := 1000) q1 (by omega))]
            rfl
          · rw [if_neg q1, if_neg (show ¬ (1000 : Int32) < nI _ from nI_nlt (a := 1000) (by omega) (by decide))]
        refine ⟨j', a', b', by omega, g2, g0, ?_, fun JM => ?_, fun _ _ _ => by omega⟩
        · rw [fX5_step_L149, h.2.2.2.1, h.2.2.2.2.2.1, if_neg (nI_ge hjn (by omega)), ldi_e (by omega) (by decide), t2, digT c2.1 c2.2, bv_e, if_neg (by decide), ldi_e (by omega) (by decide), t2, ha, (digN ha9 c2.1 c2.2).1, hif, pl_e, pl_e, si_s (by decide), h.2.2.2.2.2.1, nI_1, g3, si4 (by decide)]
        · rw [fX7_goesOn_L149, h.2.2.2.2.2.2.1, byteE h hjn, bv_e, isInT (lo := 48) (hi := 57) (by decide) (by decide) c2.1 c2.2 (by decide), bv_e, if_neg (by decide), hb]
          simp only [pl_e, bv_e]
          rw [(digN hb9 c2.1 c2.2).2, si_s (by decide), si_s (by decide), h.2.2.2.2.2.2.1, nI_1]
          by_cases q2 : b ≤ 999
          · rw [if_pos q2] at g4
            rw [if_pos (show nI b ≤ (999 : Int32) from nI_le (b := 999) q2 (by decide)), g4, si4 (by decide)]
          · rw [if_neg q2] at g4
            rw [if_neg (show ¬ nI b ≤ (999 : Int32) from nI_ge (a := 999) (by omega) (by omega)), g4, si4 (by decide)]
      · refine ⟨j, a, b, Nat.le_refl _, hj, hv, ?_, fun JM => ?_, fun _ q1 q2 => absurd ⟨q1, q2⟩ c2⟩
        · rw [fX5_step_L149, h.2.2.2.1, h.2.2.2.2.2.1, if_neg (nI_ge hjn (by omega)), ldi_e (by omega) (by decide), t2, digF c2 t1, bv_e, if_pos rfl, si_two ha h.2.2.2.2.2.1]
        · rw [fX7_goesOn_L149, h.2.2.2.2.2.2.1, byteE h hjn, bv_e, isInF (lo := 48) (hi := 57) (by decide) (by decide) c2 (by omega) (by decide) (by decide), bv_e, if_pos rfl, si_two hb h.2.2.2.2.2.2.1]
-- words
def Mat (T : Nat → Nat) (i j w : Nat) : Prop := i + wln w = j ∧ ∀ t, t < wln w → nI (T (i + t)) = wle w t
theorem w_sl : ∀ w, w < 13 → slen w = nI (wln w) ∧ wln w ≤ 6 ∧ 0 < wln w ∧ wof w + wln w + 1 = wof (w + 1) ∧ wof (w + 1) ≤ 70 := by decide +kernel
theorem w_ch : ∀ w, w < 13 → ∀ t, t < wln w → schar w (nI t) = some (wle w t) ∧ ¬ wle w t = 0 := by decide +kernel
theorem w_ze : ∀ w, w < 13 → wle w (wln w) = 0 := by decide +kernel
theorem w_di : ∀ w, w < 13 → ∀ u, u < 13 → ¬ w = u → wln w = wln u → ¬ ∀ t, t < wln w → wle w t = wle u t := by decide +kernel
theorem mat_u {T : Nat → Nat} {i j w u : Nat} (hw : w < 13) (hu : u < 13) (h1 : Mat T i j w) (h2 : Mat T i j u) : w = u := by
  refine Decidable.byContradiction (fun q => ?_)
  have e : wln w = wln u := by have := h1.1; have := h2.1; omega
  exact w_di w hw u hu q e (fun t ht => (h1.2 t ht).symm.trans (h2.2 t (by omega)))
theorem wordXL {T : Nat → Nat} {n i j w : Nat} {X M : St} (h : TB T n j X M) (hi : X.1 44 4 = nI i) (hw : w < 13) (hij : i + wln w = j) : ∀ (G t : Nat), t ≤ wln w → wln w - t < G → (∀ s, s < t → nI (T (i + s)) = wle w s) → (fX5_isWord_L20 X w G (nI t) = some 1 ∧ Mat T i j w) ∨ (fX5_isWord_L20 X w G (nI t) = some 0 ∧ ¬ Mat T i j w) := by
  have hn := h.1
  have hj := h.2.1
  obtain ⟨w1, w2, w3, w4, w5⟩ := w_sl w hw
  intro G
  induction G with
  | zero => intro t h1 h2; omega
  | succ G ih =>
    intro t h1 h2 h3
    rw [fX5_isWord_L20, w1]
    by_cases c : t = wln w
    · rw [if_pos (nI_le (by omega) (by omega))]
      exact Or.inl ⟨rfl, hij, fun s hs => h3 s (by omega)⟩
    · have ht : t < wln w := by omega
      rw [if_neg (nI_ge ht (by omega)), hi, nI_add, ldi_e (by omega) (by decide), (h.2.2.1 (i + t) (by omega)).2.1, (w_ch w hw t ht).1, bv_e]
      by_cases e : nI (T (i + t)) = wle w t
      · rw [if_pos e, pl_e, nI_1]
        exact ih (t + 1) (by omega) (by omega) (fun s hs => by
          by_cases q : s = t
          · rw [q]; exact e
          · exact h3 s (by omega))
      · rw [if_neg e]
        exact Or.inr ⟨rfl, fun q => e (q.2 t ht)⟩
theorem wordX {F : Nat} (hF : 100 ≤ F) {T : Nat → Nat} {n i j w : Nat} {X M : St} (h : TB T n j X M) (hi : X.1 44 4 = nI i) (hij : i ≤ j) (hw : w < 13) : (fX5_isWord F w X = some 1 ∧ Mat T i j w) ∨ (fX5_isWord F w X = some 0 ∧ ¬ Mat T i j w) := by
  have hn := h.1
  have hj := h.2.1
  obtain ⟨w1, w2, w3, w4, w5⟩ := w_sl w hw
  unfold fX5_isWord
  rw [h.2.2.2.2.2.1, hi, pk_sub hij, w1]
  by_cases c : j - i = wln w
  · rw [if_pos (by rw [c])]
    exact wordXL h hi hw (by omega) F 0 (by omega) (by omega) (fun s hs => by omega)
  · rw [if_neg (fun q => c ((nI_eq (by omega) (by omega)).mp q))]
    exact Or.inr ⟨rfl, fun q => c (by have := q.1; omega)⟩
