-- WEIGHTS of sets of a load
def ws (W : Nat → Nat) (x : Nat) : Nat → Nat
  | 0 => 0
  | k + 1 => ws W x k + if x.testBit k = true then W k else 0
theorem ws_le {W : Nat → Nat} {x m : Nat} (h : ∀ t, t < m → W t ≤ 99) : ws W x m ≤ 99 * m := by
  induction m with
  | zero => exact Nat.le_refl _
  | succ m ih =>
    have h1 := ih (fun t ht => h t (by omega))
    have h2 := h m (by omega)
    show ws W x m + (if x.testBit m = true then W m else 0) ≤ _
    by_cases c : x.testBit m = true
    · rw [if_pos c]; omega
    · rw [if_neg c]; omega
theorem ws_ext {W : Nat → Nat} {x y m : Nat} (h : ∀ t, t < m → x.testBit t = y.testBit t) : ws W x m = ws W y m := by
  induction m with
  | zero => rfl
  | succ m ih =>
    show ws W x m + (if x.testBit m = true then W m else 0) = ws W y m + (if y.testBit m = true then W m else 0)
    rw [ih (fun t ht => h t (by omega)), h m (by omega)]
theorem ws_cut {W : Nat → Nat} {x y k : Nat} (hx : x.testBit k = true) : ∀ m, (∀ t, t < m → y.testBit t = (x.testBit t && !decide (t = k))) → ws W x m = ws W y m + if k < m then W k else 0 := by
  intro m
  induction m with
  | zero => intro _; rfl
  | succ m ih =>
    intro h
    have h1 := ih (fun t ht => h t (by omega))
    have h2 := h m (by omega)
    show ws W x m + (if x.testBit m = true then W m else 0) = ws W y m + (if y.testBit m = true then W m else 0) + _
    rw [h1, h2]
    by_cases c : m = k
    · subst c
      rw [if_pos hx, hx]
      simp
    · rw [decide_eq_false c]
      by_cases c2 : k < m
      · rw [if_pos c2, if_pos (show k < m + 1 by omega)]
        simp; omega
      · rw [if_neg c2, if_neg (show ¬ k < m + 1 by omega)]
        simp
def WM (M : St) (m : Nat) (W : Nat → Nat) : Prop := M.1 0 11 = nI m ∧ ∀ t, t < m → ∃ q, q < 20 ∧ M.1 9 t = nI q ∧ M.1 1 (12 + 6 * q + 3) = nI (W t)
theorem WM.kept {M M1 : St} {m : Nat} {W : Nat → Nat} (h : WM M m W) (e0 : M1.1 0 11 = M.1 0 11) (e9 : M1.1 9 = M.1 9) (e1 : M1.1 1 = M.1 1) : WM M1 m W := by
  unfold WM
  rw [e0, e9, e1]
  exact h
theorem sumL {M : St} {m x : Nat} {W : Nat → Nat} (h : WM M m W) (hm : m ≤ 10) (hx : x < 2 ^ 31) : ∀ (G k : Nat), k ≤ m → m - k < G → ∀ J, fX7_findLoad_L84 M (nI x) J G (nI (ws W x k)) (nI k) = J (nI (ws W x m)) := by
  intro G
  induction G with
  | zero => intro k h1 h2; omega
  | succ G ih =>
    intro k h1 h2 J
    rw [fX7_findLoad_L84, h.1]
    by_cases c : k = m
    · subst c
      rw [if_pos (nI_le (Nat.le_refl _) (by omega))]
    · have hk : k < m := by omega
      rw [if_neg (nI_ge hk (by omega))]
      simp only [pl_e]
      obtain ⟨q, q1, q2, q3⟩ := h.2 k hk
      rw [bitI hx (by omega), ldi_e (by omega) (by decide), q2, show fX7_has M (nI q) 3 = some (M.1 1 (12 + 6 * q + 3)) from has_e q1 (by decide), bv_e, q3, nI_1, nI_add]
      have := ih (k + 1) (by omega) (by omega) J
      have e : ws W x (k + 1) = ws W x k + if x.testBit k = true then W k else 0 := rfl
      rw [e] at this
      by_cases c2 : x.testBit k = true
      · rw [if_pos c2] at this
        rw [if_pos c2, if_pos rfl]
        exact this
      · rw [if_neg c2] at this
        rw [if_neg c2, if_neg (by decide)]
        rw [show nI (ws W x k) + 0 = nI (ws W x k + 0) from nI_add _ 0]
        exact this
theorem weighL {F : Nat} (hF : 100 ≤ F) {M0 : St} {m k : Nat} {W : Nat → Nat} (hm : m ≤ 10) (hk : k ≤ 10) : ∀ (G x : Nat) (M : St), x ≤ 2 ^ m → 2 ^ m - x < G → FM M0 M → WM M m W → (∀ y, y < x → M.1 10 y = nI (ws W y m)) → ∃ M1, (∀ J, fX7_findLoad_L62 F (nI k) J G M (nI x) = J M1) ∧ FM M0 M1 ∧ WM M1 m W ∧ M1.1 9 = M.1 9 ∧ ∀ y, y < 2 ^ m → M1.1 10 y = nI (ws W y m) := by
  have h10 : 2 ^ m ≤ 2 ^ 10 := Nat.pow_le_pow_right (by decide) hm
  intro G
  induction G with
  | zero => intro x M h1 h2; omega
  | succ G ih =>
    intro x M h1 h2 fm h hy
    by_cases c : x = 2 ^ m
    · refine ⟨M, fun J => ?_, fm, h, rfl, fun y h => hy y (by omega)⟩
      rw [fX7_findLoad_L62, h.1, shl1 m (by omega), if_pos (nI_le (by omega) (by omega))]
    · have hx : x < 2 ^ m := by omega
      obtain ⟨M1, g1, g2, g3, g4, g5⟩ := ih (x + 1) (si M 10 x (nI (ws W x m))) (by omega) (by omega) (fm.w (by decide)) (h.kept (by rw [si_o (by decide)]) (si_o (by decide)) (si_o (by decide))) (fun y hy' => by
        by_cases e : y = x
        · subst e; exact si_h
        · rw [si_s e]; exact hy y (by omega))
      refine ⟨M1, fun J => ?_, g2, g3, by rw [g4, si_o (by decide)], g5⟩
      rw [fX7_findLoad_L62, h.1, shl1 m (by omega), if_neg (nI_ge hx (by omega)), if_neg (show ¬ (10 : Int32) < nI k from nI_nlt (a := 10) hk (by decide)), pl_e]
      refine (sumL h hm (by omega) F 0 (by omega) (by omega) _).trans ?_
      rw [sti_e (by omega) (by decide), pl_e, nI_1, g1]
/-- a load found on both sides -/
theorem findE {F : Nat} (hF : 2000 ≤ F) {X M : St} {H : Hs} (hS : St1 X.1 1 (M.1 1) H) {s : Nat} (hs : s < 2 ^ H 0 0) : ∃ X1 M1, fX1_lay F X (nI s) = some X1 ∧ FX X X1 ∧ FM M M1 ∧ ((cntS s (H 0 0) ≤ 10 ∧ fX7_findLoad F M (nI s) = some (M1, 1) ∧ ∃ W, X1.1 37 3 = nI (cntS s (H 0 0)) ∧ WM M1 (cntS s (H 0 0)) W ∧ (∀ t, t < cntS s (H 0 0) → W t ≤ 99 ∧ X1.1 39 t = nI (W t) ∧ ∃ q, q < 20 ∧ X1.1 38 t = nI q ∧ M1.1 9 t = nI q) ∧ ∀ y, y < 2 ^ cntS s (H 0 0) → M1.1 10 y = nI (ws W y (cntS s (H 0 0)))) ∨ (10 < cntS s (H 0 0) ∧ fX7_findLoad F M (nI s) = some (M1, 0))) := by
  have hn := hS.1.1
  obtain ⟨X1, M1, g1, g2, g3, g4, g5⟩ := layL (s := s) hS.1 hs hS.2.1 hS.2.2 F F 0 (si X 37 3 0) (si M 0 11 0) (by omega) (by omega) (by omega) ((FX.re X).w (by decide)) (FM.re M).s0 ⟨si_h, si_h, fun t ht => by have : cntS s 0 = 0 := rfl; omega⟩
  have g1' : fX1_lay F X (nI s) = some X1 := g1
  have hcl := cntS_le s (H 0 0)
  by_cases c : cntS s (H 0 0) ≤ 10
  · have e : min 10 (cntS s (H 0 0)) = cntS s (H 0 0) := by omega
    rw [e] at g5
    have hm1 : M1.1 1 = M.1 1 := g4.1 1 (by decide) (by omega)
    have hW : ∀ t, t < cntS s (H 0 0) → (X1.1 39 t).toNatClampNeg ≤ 99 ∧ X1.1 39 t = nI (X1.1 39 t).toNatClampNeg ∧ ∃ q, q < 20 ∧ X1.1 38 t = nI q ∧ M1.1 9 t = nI q ∧ M1.1 1 (12 + 6 * q + 3) = nI (X1.1 39 t).toNatClampNeg := by
      intro t ht
      obtain ⟨q, q1, q2, q3, q4⟩ := g5.2.2 t ht
      have w := (hS.1.2.2.2.1 q q1).2.2.2.1
      rw [q3, nI_clamp (by omega)]
      exact ⟨w, rfl, q, by omega, q2, q4, by rw [hm1]; exact hS.2.2.2.2.2.1 q 3 q1 (by decide)⟩
    have hwm : WM M1 (cntS s (H 0 0)) (fun t => (X1.1 39 t).toNatClampNeg) := ⟨g5.2.1, fun t ht => by
      obtain ⟨-, -, q, q1, -, q3, q4⟩ := hW t ht
      exact ⟨q, q1, q3, q4⟩⟩
    have h10 : 2 ^ cntS s (H 0 0) ≤ 2 ^ 10 := Nat.pow_le_pow_right (by decide) c
    obtain ⟨M2, k1, k2, k3, k4, k5⟩ := weighL (F := F) (by omega) c c F 0 M1 (Nat.zero_le _) (by omega) g4 hwm (fun y hy => by omega)
    refine ⟨X1, M2, g1', g3, k2, Or.inl ⟨c, ?_, fun t => (X1.1 39 t).toNatClampNeg, g5.1, k3, fun t ht => ?_, k5⟩⟩
    · unfold fX7_findLoad
      simp only [pl_e]
      refine (g2 _).trans ?_
      refine (k1 _).trans ?_
      rw [if_neg (show ¬ (10 : Int32) < nI (cntS s (H 0 0)) from nI_nlt (a := 10) c (by decide))]
    · obtain ⟨q0, q00, q, q1, q2, q3, q4⟩ := hW t ht
      exact ⟨q0, q00, q, q1, q2, by rw [k4]; exact q3⟩
  · refine ⟨X1, M1, g1', g3, g4, Or.inr ⟨by omega, ?_⟩⟩
    unfold fX7_findLoad
    simp only [pl_e]
    refine (g2 _).trans ?_
    have e : min 10 (cntS s (H 0 0)) = 10 := by omega
    rw [e] at g5
    obtain ⟨F', rfl⟩ : ∃ f, F = f + 1 := ⟨F - 1, by omega⟩
    have hlt : (10 : Int32) < nI (cntS s (H 0 0)) := nI_lt (a := 10) (by omega) (by omega)
    rw [fX7_findLoad_L62, g5.2.1, if_neg (by decide), if_pos hlt, if_pos hlt]
-- EVENEST
def zst : St := (fun _ _ => 0, fun _ _ => 0)
def lz (x : Nat) : Nat := ((fJ6_numberOfTrailingZeros_0f7a4 zst (nI x)).getD 0).toNatClampNeg
theorem lz_d : ∀ x, x < 1024 → 0 < x → lz x < 10 ∧ fJ6_numberOfTrailingZeros_0f7a4 zst (nI x) = some (nI (lz x)) ∧ x.testBit (lz x) = true ∧ ∀ t, t < 10 → (x &&& (x - 1)).testBit t = (x.testBit t && !decide (t = lz x)) := by decide +kernel
theorem lz_e {S : St} {x : Nat} (h : x < 1024) (h0 : 0 < x) : fJ6_numberOfTrailingZeros_0f7a4 S (nI x) = some (nI (lz x)) := (lz_d x h h0).2.1
theorem or0 (x : Int32) : x ||| 0 = x := b_ext (fun i _ => by rw [b_or, b_0, Bool.or_false])
theorem totL {X : St} {m : Nat} {W : Nat → Nat} (hm : m ≤ 10) (h3 : X.1 37 3 = nI m) (hW : ∀ t, t < m → X.1 39 t = nI (W t)) : ∀ (G k : Nat), k ≤ m → m - k < G → ∀ J, fX1_balance_L13 X J G (nI (ws W (2 ^ m - 1) k)) (nI k) = J (nI (ws W (2 ^ m - 1) m)) := by
  intro G
  induction G with
  | zero => intro k h1 h2; omega
  | succ G ih =>
    intro k h1 h2 J
    rw [fX1_balance_L13, h3]
    by_cases c : k = m
    · subst c
      rw [if_pos (nI_le (Nat.le_refl _) (by omega))]
    · have hk : k < m := by omega
      rw [if_neg (nI_ge hk (by omega)), ldi_e (by omega) (by decide), hW k hk, pl_e, pl_e, nI_add, nI_1]
      have := ih (k + 1) (by omega) (by omega) J
      have e : ws W (2 ^ m - 1) (k + 1) = ws W (2 ^ m - 1) k + if (2 ^ m - 1).testBit k = true then W k else 0 := rfl
      rw [e, if_pos (by rw [Nat.testBit_two_pow_sub_one, decide_eq_true hk])] at this
      exact this
theorem evL {m : Nat} {W : Nat → Nat} {X0 M : St} (hm : m ≤ 10) (hW : ∀ t, t < m → W t ≤ 99) (hM : ∀ y, y < 2 ^ m → M.1 10 y = nI (ws W y m)) : ∀ (G G' x b d : Nat) (X : St), 1 ≤ x → x ≤ 2 ^ m → 2 ^ m - x < G → 2 ^ m - x < G' → b < 2 ^ m → d ≤ 990 → FX X0 X → (∀ t, t < m → X.1 39 t = nI (W t)) → X.1 37 5 = nI d → (∀ y, y < x → X.1 40 y = nI (ws W y m)) → ∃ X1 b' d', (∀ J, fX1_balance_L53 (nI (2 ^ m - 1)) (nI (ws W (2 ^ m - 1) m)) J G X (nI b) (nI x) = J X1 (nI b')) ∧ (∀ J, fX7_even_L58 M (nI (2 ^ m - 1)) J G' (nI b) (nI d) (nI x) = J (nI b') (nI d')) ∧ X1.1 37 5 = nI d' ∧ b' < 2 ^ m ∧ FX X0 X1 ∧ X1.1 38 = X.1 38 ∧ X1.1 37 3 = X.1 37 3 := by
  have h10 : 2 ^ m ≤ 2 ^ 10 := Nat.pow_le_pow_right (by decide) hm
  have hp := Nat.two_pow_pos m
  have bnd : ∀ x, ws W x m ≤ 990 := fun x => by have := ws_le (x := x) hW; omega
  intro G
  induction G with
  | zero => intro G' x b d X h0 h1 h2; omega
  | succ G ih =>
    intro G' x b d X h0 h1 h2 h3 hb hd fx h39 h5 h40
    obtain ⟨G', rfl⟩ : ∃ g, G' = g + 1 := ⟨G' - 1, by omega⟩
    by_cases c : x = 2 ^ m
    · refine ⟨X, b, d, fun J => ?_, fun J => ?_, h5, hb, fx, rfl, rfl⟩
      · rw [fX1_balance_L53, if_pos (nI_lt (by omega) (by omega))]
      · rw [fX7_even_L58, if_pos (nI_lt (by omega) (by omega))]
    · have hx : x < 2 ^ m := by omega
      obtain ⟨l1, l2, l3, l4⟩ := lz_d x (by omega) (by omega)
      have lm : lz x < m := tb_lt hx l3
      have e1 : ws W x m = ws W (x &&& (x - 1)) m + W (lz x) := by
        have := ws_cut (W := W) l3 m (fun t ht => l4 t (by omega))
        rw [if_pos lm] at this
        exact this
      have yl : x &&& (x - 1) < x := by
        have : x &&& (x - 1) ≤ x - 1 := Nat.and_le_right
        omega
      have ea : nI x &&& (nI x - 1) = nI (x &&& (x - 1)) := by
        rw [show nI x - 1 = nI (x - 1) from pk_sub (b := 1) h0, nx_and]
      have bx := bnd x
      have bt' := bnd (2 ^ m - 1)
      have e2 : (2 : Int32) * nI (ws W x m) = nI (2 * ws W x m) := pk_mul 2 _
      have nx : ∀ (b' d' : Nat) (Y : St), b' < 2 ^ m → d' ≤ 990 → FX X0 Y → Y.1 39 = X.1 39 → Y.1 37 5 = nI d' → Y.1 38 = X.1 38 → Y.1 37 3 = X.1 37 3 → (∀ y, y < x + 1 → Y.1 40 y = nI (ws W y m)) → ∃ X1 b1 d1, (∀ J, fX1_balance_L53 (nI (2 ^ m - 1)) (nI (ws W (2 ^ m - 1) m)) J G Y (nI b') (nI (x + 1)) = J X1 (nI b1)) ∧ (∀ J, fX7_even_L58 M (nI (2 ^ m - 1)) J G' (nI b') (nI d') (nI (x + 1)) = J (nI b1) (nI d1)) ∧ X1.1 37 5 = nI d1 ∧ b1 < 2 ^ m ∧ FX X0 X1 ∧ X1.1 38 = X.1 38 ∧ X1.1 37 3 = X.1 37 3 := by
        intro b' d' Y z1 z2 z3 z4 z5 z6 z7 z8
        obtain ⟨X1, b1, d1, g1, g2, g3, g4, g5, g6, g7⟩ := ih G' (x + 1) b' d' Y (by omega) (by omega) (by omega) (by omega) z1 z2 z3 (fun t ht => by rw [z4]; exact h39 t ht) z5 z8
        exact ⟨X1, b1, d1, g1, g2, g3, g4, g5, g6.trans z6, g7.trans z7⟩
      have h40' : ∀ y, y < x + 1 → (si X 40 x (nI (ws W x m))).1 40 y = nI (ws W y m) := fun y hy => by
        by_cases e : y = x
        · subst e; exact si_h
        · rw [si_s e]; exact h40 y (by omega)
      have hX : ∀ J, fX1_balance_L53 (nI (2 ^ m - 1)) (nI (ws W (2 ^ m - 1) m)) J (G + 1) X (nI b) (nI x) = if nI (ws W (2 ^ m - 1) m) - nI (2 * ws W x m) < 0 then fX1_balance_L53 (nI (2 ^ m - 1)) (nI (ws W (2 ^ m - 1) m)) J G (si X 40 x (nI (ws W x m))) (nI b) (nI (x + 1)) else if nI d ≤ nI (ws W (2 ^ m - 1) m) - nI (2 * ws W x m) then fX1_balance_L53 (nI (2 ^ m - 1)) (nI (ws W (2 ^ m - 1) m)) J G (si X 40 x (nI (ws W x m))) (nI b) (nI (x + 1)) else fX1_balance_L53 (nI (2 ^ m - 1)) (nI (ws W (2 ^ m - 1) m)) J G (si (si X 40 x (nI (ws W x m))) 37 5 (nI (ws W (2 ^ m - 1) m) - nI (2 * ws W x m))) (nI x) (nI (x + 1)) := by
        intro J
        rw [fX1_balance_L53, if_neg (nI_nlt (by omega) (by omega)), lz_e (by omega) (by omega), bv_e, ea, ldi_e (by omega) (by decide), ldi_e (by omega) (by decide), h40 _ yl, h39 _ lm, nI_add, ← e1, sti_e (by omega) (by decide), ldi_e (by omega) (by decide), si_h]
        simp only [pl_e]
        rw [e2, nI_1, si_o (by decide), h5]
      have hM' : ∀ J, fX7_even_L58 M (nI (2 ^ m - 1)) J (G' + 1) (nI b) (nI d) (nI x) = if nI (ws W (2 ^ m - 1) m) - nI (2 * ws W x m) < 0 then fX7_even_L58 M (nI (2 ^ m - 1)) J G' (nI b) (nI d) (nI (x + 1)) else if nI d ≤ nI (ws W (2 ^ m - 1) m) - nI (2 * ws W x m) then fX7_even_L58 M (nI (2 ^ m - 1)) J G' (nI b) (nI d) (nI (x + 1)) else fX7_even_L58 M (nI (2 ^ m - 1)) J G' (nI x) (nI (ws W (2 ^ m - 1) m) - nI (2 * ws W x m)) (nI (x + 1)) := by
        intro J
        rw [fX7_even_L58, if_neg (nI_nlt (by omega) (by omega)), ldi_e (by omega) (by decide), ldi_e (by omega) (by decide), hM _ (by omega), hM _ hx]
        simp only [pl_e]
        rw [e2, nI_1, if_neg (nI_pos (by omega))]
      by_cases c1 : ws W (2 ^ m - 1) m < 2 * ws W x m
      · obtain ⟨X1, b1, d1, g1, g2, g3⟩ := nx b d (si X 40 x (nI (ws W x m))) hb hd (fx.w (by decide)) (si_o (by decide)) (by rw [si_o (by decide)]; exact h5) (si_o (by decide)) (by rw [si_o (by decide)]) h40'
        have sn : nI (ws W (2 ^ m - 1) m) - nI (2 * ws W x m) < 0 := pk_sneg (by omega) c1
        refine ⟨X1, b1, d1, fun J => ?_, fun J => ?_, g3⟩
        · rw [hX, if_pos sn]; exact g1 J
        · rw [hM', if_pos sn]; exact g2 J
      · have es : nI (ws W (2 ^ m - 1) m) - nI (2 * ws W x m) = nI (ws W (2 ^ m - 1) m - 2 * ws W x m) := pk_sub (by omega)
        have sp : ¬ nI (ws W (2 ^ m - 1) m - 2 * ws W x m) < 0 := nI_pos (by omega)
        by_cases c2 : d ≤ ws W (2 ^ m - 1) m - 2 * ws W x m
        · obtain ⟨X1, b1, d1, g1, g2, g3⟩ := nx b d (si X 40 x (nI (ws W x m))) hb hd (fx.w (by decide)) (si_o (by decide)) (by rw [si_o (by decide)]; exact h5) (si_o (by decide)) (by rw [si_o (by decide)]) h40'
          refine ⟨X1, b1, d1, fun J => ?_, fun J => ?_, g3⟩
          · rw [hX, es, if_neg sp, if_pos (nI_le c2 (by omega))]; exact g1 J
          · rw [hM', es, if_neg sp, if_pos (nI_le c2 (by omega))]; exact g2 J
        · obtain ⟨X1, b1, d1, g1, g2, g3⟩ := nx x (ws W (2 ^ m - 1) m - 2 * ws W x m) (si (si X 40 x (nI (ws W x m))) 37 5 (nI (ws W (2 ^ m - 1) m - 2 * ws W x m))) hx (by omega) ((fx.w (by decide)).w (by decide)) (by rw [si_o (by decide), si_o (by decide)]) si_h (by rw [si_o (by decide), si_o (by decide)]) (by rw [si_s (by decide), si_o (by decide)]) (fun y hy => by rw [si_o (by decide)]; exact h40' y hy)
          refine ⟨X1, b1, d1, fun J => ?_, fun J => ?_, g3⟩
          · rw [hX, es, if_neg sp, if_neg (nI_ge (by omega) (by omega))]; exact g1 J
          · rw [hM', es, if_neg sp, if_neg (nI_ge (by omega) (by omega))]; exact g2 J
theorem setL {m b : Nat} {X M : St} (hm : m ≤ 10) (hb : b < 2 ^ 31) (h3 : X.1 37 3 = nI m) (h11 : M.1 0 11 = nI m) (h : ∀ t, t < m → X.1 38 t = M.1 9 t) : ∀ (G G' k : Nat) (a : Int32), k ≤ m → m - k < G → m - k < G' → ∃ r, fX1_partsOf_L4 X (nI b) G a (nI k) = some r ∧ ∀ J, fX7_even_L119 M (nI b) J G' a (nI k) = J r := by
  intro G
  induction G with
  | zero => intro G' k a h1 h2; omega
  | succ G ih =>
    intro G' k a h1 h2 h4
    obtain ⟨G', rfl⟩ : ∃ g, G' = g + 1 := ⟨G' - 1, by omega⟩
    by_cases c : k = m
    · subst c
      refine ⟨a, ?_, fun J => ?_⟩
      · rw [fX1_partsOf_L4, h3, if_pos (nI_le (Nat.le_refl _) (by omega))]
      · rw [fX7_even_L119, h11, if_pos (nI_le (Nat.le_refl _) (by omega))]
    · have hk : k < m := by omega
      have hbit := bitI (s := b) (p := k) hb (by omega)
      by_cases c2 : b.testBit k = true
      · rw [if_pos c2] at hbit
        obtain ⟨r, r1, r2⟩ := ih G' (k + 1) (a ||| ((1 : Int32) <<< (M.1 9 k &&& 31))) (by omega) (by omega) (by omega)
        refine ⟨r, ?_, fun J => ?_⟩
        · rw [fX1_partsOf_L4, h3, if_neg (nI_ge hk (by omega))]
          simp only [pl_e]
          rw [hbit, if_pos rfl, ldi_e (by omega) (by decide), h k hk, nI_1]
          exact r1
        · rw [fX7_even_L119, h11, if_neg (nI_ge hk (by omega))]
          simp only [pl_e]
          rw [hbit, if_pos rfl, ldi_e (by omega) (by decide), nI_1]
          exact r2 J
      · rw [if_neg c2] at hbit
        obtain ⟨r, r1, r2⟩ := ih G' (k + 1) a (by omega) (by omega) (by omega)
        refine ⟨r, ?_, fun J => ?_⟩
        · rw [fX1_partsOf_L4, h3, if_neg (nI_ge hk (by omega))]
          simp only [pl_e]
          rw [hbit, if_neg (by decide), nI_1]
          exact r1
        · rw [fX7_even_L119, h11, if_neg (nI_ge hk (by omega))]
          simp only [pl_e]
          rw [hbit, if_neg (by decide), or0, nI_1]
          exact r2 J
