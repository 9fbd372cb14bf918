-- the two tables side by side
def YF (X0 M0 X M : St) : Prop := (∀ d, d < 34 ∨ 43 < d → X.1 d = X0.1 d) ∧ X.2 = X0.2 ∧ (∀ d, d ≠ 12 → d ≠ 13 → M.1 d = M0.1 d) ∧ M.2 = M0.2
theorem YF.sh {X0 M0 X M : St} {H : Hs} (h : YF X0 M0 X M) (hx : ShX X0.1 1 H) : ShX X.1 1 H := hx.kept (fun k hk => h.1 _ (by omega))
theorem YF.sm {X0 M0 X M : St} {H : Hs} (h : YF X0 M0 X M) (hm : ShM (M0.1 1) H) : ShM (M.1 1) H := by rw [h.2.2.1 1 (by decide) (by decide)]; exact hm
theorem YF.rel {X0 M0 X M : St} (h : YF X0 M0 X M) (hR : Rel X0 M0) : Rel X M := by
  obtain ⟨hx, hx2, hm, hm2⟩ := h
  have hR' := rel_fr hR hx hx2
  obtain ⟨⟨H, h1⟩, h2, h3, h4, h5, h6⟩ := hR'
  exact ⟨⟨H, h1.kept (fun k hk => rfl) (hm 1 (by decide) (by decide))⟩, h2.kept (fun k hk => rfl) rfl (by rw [hm 0 (by decide) (by decide)]) (hm 2 (by decide) (by decide)), h3.kept rfl rfl (by rw [hm 0 (by decide) (by decide)]) (hm 5 (by decide) (by decide)), h4.kept (fun t ht => rfl) (fun t ht => rfl) (hm 6 (by decide) (by decide)) (hm 7 (by decide) (by decide)) (by rw [hm2]), h5.kept rfl (hm 4 (by decide) (by decide)), h6.kept (hm 14 (by decide) (by decide))⟩
def TA (X M : St) (n i : Nat) : Prop := ∀ c s, c < n → s < 3 → X.1 42 (18 * i + 3 * c + s) = M.1 12 (18 * i + 3 * c + s)
theorem ta_von {X M : St} {n i : Nat} (h : TA X M n i) {H : Hs} {p k q : Nat} (hp : p < n) (hq : q < n) (hk : k ≤ 2) : von (X.1 42) H i p k q = von (M.1 12) H i p k q := by
  unfold von
  rw [h p (if k = 2 then 2 else k + 1) hp (by split <;> omega), show X.1 42 (18 * i + 3 * q) = M.1 12 (18 * i + 3 * q) from h q 0 hq (by decide)]
def YS (X0 M0 X M : St) (n L i c s : Nat) : Prop := YF X0 M0 X M ∧ (∀ i', i < i' → i' < L → TA X M n i') ∧ (∀ c' s', (c' < c ∨ (c' = c ∧ s' < s)) → c' < n → s' < 3 → X.1 42 (18 * i + 3 * c' + s') = M.1 12 (18 * i + 3 * c' + s'))
theorem restE {F : Nat} (hF : 100 ≤ F) {X0 M0 X M : St} {H : Hs} {L i c s : Nat} (hw : Wf H) (hx0 : ShX X0.1 1 H) (hm0 : ShM (M0.1 1) H) (hL : L ≤ 24) (hi : i < L) (hc : c < H 0 2) (hs : s < 3) (h : YS X0 M0 X M (H 0 2) L i c s) {K : Int32 → Option (St × Int32)} : ∃ v, fX2_restCost F X (nI i + 1) (nI L) (nI c) (nI s) = some v ∧ (if nI i = nI L - 1 then K 0 else bv (fX7_nextCamp F M (nI i + 1) (nI c) (nI (s + 1))) fun v31 => bv (fX7_costNext M (nI i + 1) (nI c) (nI (s + 1)) v31) fun v32 => K v32) = K v := by
  have hn := hw.2.2.1
  unfold fX2_restCost
  rw [nI_1]
  have e1 : nI L - 1 = nI (L - 1) := pk_sub (b := 1) (by omega)
  rw [e1, if2 (nI_eq (a := i) (b := L - 1) (by omega) (by omega))]
  by_cases c1 : i = L - 1
  · refine ⟨0, ?_, ?_⟩
    · rw [if_neg (nI_nlt (by omega) (by omega))]
    · rw [if_pos c1]
  · have hta := h.2.1 (i + 1) (by omega) (by omega)
    have hl := vnext_le (von (M.1 12) H (i + 1) c s) (H 0 2 - 1)
    have hv : vnext (von (X.1 42) H (i + 1) c s) (H 0 2 - 1) = vnext (von (M.1 12) H (i + 1) c s) (H 0 2 - 1) := vnext_ext (n := H 0 2) (fun q hq => ta_von hta hc hq (by omega)) _ (by omega)
    refine ⟨von (M.1 12) H (i + 1) c s (vnext (von (M.1 12) H (i + 1) c s) (H 0 2 - 1)), ?_, ?_⟩
    · rw [if_pos (nI_lt (by omega) (by omega)), nextX' hF hw (h.1.sh hx0) (by omega) hc (by omega), bv_e, hv, onX hw (h.1.sh hx0) (by omega) hc (by omega) (by omega), bv_e, ta_von hta hc (by omega) (by omega)]
    · rw [if_neg c1, nextM' hF hw (h.1.sm hm0) (by omega) hc (by omega), bv_e, onM hw (h.1.sm hm0) (by omega) hc (by omega) (by omega), bv_e]
theorem stayL {F : Nat} (hF : 100 ≤ F) {X0 M0 : St} {H : Hs} {a L i c : Nat} (hw : Wf H) (hx0 : ShX X0.1 1 H) (hm0 : ShM (M0.1 1) H) (ha : a ≤ 11) (hL : L ≤ 24) (hi : i < L) (hc : c < H 0 2) {JX : St → Option St} {JM : St → Option (St × Int32)} : ∀ (G G' s : Nat) (X M : St), s ≤ 3 → 3 - s < G → 3 - s < G' → YS X0 M0 X M (H 0 2) L i c s → ∃ X1 M1, fX2_make_L26 F (nI a) (nI L) (nI i) (nI c) JX G X (nI s) = JX X1 ∧ fX7_findYear_L25 F (nI a) (nI L) (nI i) (nI c) JM G' M (nI (s + 1)) = JM M1 ∧ YS X0 M0 X1 M1 (H 0 2) L i (c + 1) 0 := by
  have hn := hw.2.2.1
  intro G
  induction G with
  | zero => intro G' s X M h1 h2; omega
  | succ G ih =>
    intro G' s X M h1 h2 h3 h
    obtain ⟨G', rfl⟩ : ∃ g, G' = g + 1 := ⟨G' - 1, by omega⟩
    rw [fX2_make_L26, fX7_findYear_L25]
    by_cases hs : s = 3
    · subst hs
      rw [if_pos (show (3 : Int32) ≤ nI 3 from by decide), if_pos (show (4 : Int32) ≤ nI (3 + 1) from by decide)]
      exact ⟨X, M, rfl, rfl, h.1, h.2.1, fun c' s' hcs h1 h2 => h.2.2 c' s' (by omega) h1 h2⟩
    · have hs' : s < 3 := by omega
      have hr := restE hF hw hx0 hm0 hL hi hc hs' h (K := fun v26 => bv (fX7_placeOf M (nI i) (nI c) (nI (s + 1))) fun v27 => bv (fX7_monthCost M (nI c) (nI a + nI i) (nI (s + 1))) fun v28 => sti M 12 v27 450 (v28 + v26) fun S29 => pl (nI (s + 1) + 1) fun v30 => fX7_findYear_L25 F (nI a) (nI L) (nI i) (nI c) JM G' S29 v30)
      obtain ⟨v, r1, r2⟩ := hr
      simp only [pl_e] at r2 ⊢
      rw [if_neg (show ¬ (3 : Int32) ≤ nI s from nI_ge (b := 3) hs' (by decide)), if_neg (show ¬ (4 : Int32) ≤ nI (s + 1) from nI_ge (b := 4) (by omega) (by decide)), r2, r1, nI_add, show nI (a + i) - nI (a + i) / 12 * 12 = nI ((a + i) % 12) from pk_rem (d := 12) (by omega) (by decide) (by decide), monthX hw (h.1.sh hx0) hc (by omega) (by omega), monthM hw (h.1.sm hm0) hc (by omega) (by omega)]
      simp only [bv_e, atX, atM]
      rw [sti_e (by omega) (by decide), sti_e (by omega) (by decide), nI_1, nI_1]
      refine ih G' (s + 1) _ _ (by omega) (by omega) (by omega) ⟨⟨fun d hd => ?_, h.1.2.1, fun d hd1 hd2 => ?_, h.1.2.2.2⟩, fun i' h1' h2' c' s' hc' hs' => ?_, fun c' s' hcs hc' hs' => ?_⟩
      · rw [si_o (by omega)]; exact h.1.1 d hd
      · rw [si_o hd1]; exact h.1.2.2.1 d hd1 hd2
      · rw [si_s (by omega), si_s (by omega)]; exact h.2.1 i' h1' h2' c' s' hc' hs'
      · by_cases e : c' = c ∧ s' = s
        · obtain ⟨rfl, rfl⟩ := e
          rw [si_h, si_h]
        · rw [si_s (by omega), si_s (by omega)]
          exact h.2.2 c' s' (by omega) hc' hs'
theorem campL {F : Nat} (hF : 100 ≤ F) {X0 M0 : St} {H : Hs} {a L i : Nat} (hw : Wf H) (hx0 : ShX X0.1 1 H) (hm0 : ShM (M0.1 1) H) (ha : a ≤ 11) (hL : L ≤ 24) (hi : i < L) {JX : St → Option St} {JM : St → Option (St × Int32)} : ∀ (G G' c : Nat) (X M : St), c ≤ H 0 2 → H 0 2 - c < G → H 0 2 - c < G' → YS X0 M0 X M (H 0 2) L i c 0 → ∃ X1 M1, fX2_make_L11 F (nI a) (nI L) (nI i) JX G X (nI c) = JX X1 ∧ fX7_findYear_L11 F (nI a) (nI L) (nI i) JM G' M (nI c) = JM M1 ∧ YS X0 M0 X1 M1 (H 0 2) L i (H 0 2) 0 := by
  have hn := hw.2.2.1
  intro G
  induction G with
  | zero => intro G' c X M h1 h2; omega
  | succ G ih =>
    intro G' c X M h1 h2 h3 h
    obtain ⟨G', rfl⟩ : ∃ g, G' = g + 1 := ⟨G' - 1, by omega⟩
    rw [fX2_make_L11, fX7_findYear_L11, ldi_l (c := 1) 2 (by decide) (by decide), (h.1.sm hm0).2.2.1, (h.1.sh hx0).2.2.1]
    by_cases hc : c = H 0 2
    · subst hc
      rw [if_pos (nI_le (by omega) (by omega)), if_pos (nI_le (by omega) (by omega))]
      exact ⟨X, M, rfl, rfl, h⟩
    · rw [if_neg (nI_ge (by omega) (by omega)), if_neg (nI_ge (by omega) (by omega))]
      simp only [pl_e]
      rw [nI_1]
      obtain ⟨X1, M1, e1, e2, e3⟩ := stayL hF hw hx0 hm0 ha hL hi (c := c) (by omega) (JX := fun S23 => fX2_make_L11 F (nI a) (nI L) (nI i) JX G S23 (nI (c + 1))) (JM := fun S22 => fX7_findYear_L11 F (nI a) (nI L) (nI i) JM G' S22 (nI (c + 1))) F F 0 X M (by omega) (by omega) (by omega) h
      obtain ⟨X2, M2, f1, f2, f3⟩ := ih G' (c + 1) X1 M1 (by omega) (by omega) (by omega) e3
      exact ⟨X2, M2, e1.trans f1, e2.trans f2, f3⟩
theorem monthL {F : Nat} (hF : 100 ≤ F) {X0 M0 : St} {H : Hs} {a L : Nat} (hw : Wf H) (hx0 : ShX X0.1 1 H) (hm0 : ShM (M0.1 1) H) (ha : a ≤ 11) (hL : L ≤ 24) {JX : St → Option St} {JM : St → Option (St × Int32)} : ∀ (j G G' : Nat) (X M : St), j ≤ L → j < G → j < G' → YF X0 M0 X M → (∀ i', j ≤ i' → i' < L → TA X M (H 0 2) i') → ∃ X1 M1, fX2_make_L4 F (nI a) (nI L) JX G X (nI j - 1) = JX X1 ∧ fX7_findYear_L4 F (nI a) (nI L) JM G' M (nI j - 1) = JM M1 ∧ YF X0 M0 X1 M1 ∧ ∀ i', i' < L → TA X1 M1 (H 0 2) i' := by
  have hn := hw.2.2.1
  intro j
  induction j with
  | zero =>
    intro G G' X M h1 h2 h3 h ht
    obtain ⟨G, rfl⟩ : ∃ g, G = g + 1 := ⟨G - 1, by omega⟩
    obtain ⟨G', rfl⟩ : ∃ g, G' = g + 1 := ⟨G' - 1, by omega⟩
    rw [fX2_make_L4, fX7_findYear_L4, if_pos (show nI 0 - 1 < (0 : Int32) from by decide), if_pos (show nI 0 - 1 < (0 : Int32) from by decide)]
    exact ⟨X, M, rfl, rfl, h, fun i' hi' => ht i' (by omega) hi'⟩
  | succ j ih =>
    intro G G' X M h1 h2 h3 h ht
    obtain ⟨G, rfl⟩ : ∃ g, G = g + 1 := ⟨G - 1, by omega⟩
    obtain ⟨G', rfl⟩ : ∃ g, G' = g + 1 := ⟨G' - 1, by omega⟩
    have ej : nI (j + 1) - 1 = nI j := pk_sub (b := 1) (by omega)
    rw [fX2_make_L4, fX7_findYear_L4, ej, if_neg (nI_pos (by omega)), if_neg (nI_pos (by omega))]
    simp only [pl_e]
    have em : nI j + (-1) = nI j - 1 := by grind
    rw [em]
    obtain ⟨X1, M1, e1, e2, e3⟩ := campL hF hw hx0 hm0 ha hL (i := j) (by omega) (JX := fun S19 => fX2_make_L4 F (nI a) (nI L) JX G S19 (nI j - 1)) (JM := fun S17 => fX7_findYear_L4 F (nI a) (nI L) JM G' S17 (nI j - 1)) F F 0 X M (by omega) (by omega) (by omega) ⟨h, fun i' q1 q2 => ht i' (by omega) q2, fun c' s' hcs => by omega⟩
    obtain ⟨X2, M2, f1, f2, f3, f4⟩ := ih G G' X1 M1 (by omega) (by omega) (by omega) e3.1 (fun i' q1 q2 => by
      by_cases ei : i' = j
      · rw [ei]
        exact fun c s hc hs => e3.2.2 c s (Or.inl hc) hc hs
      · exact e3.2.1 i' (by omega) q2)
    exact ⟨X2, M2, e1.trans f1, e2.trans f2, f3, f4⟩
-- the way
def PA (X M : St) (n i : Nat) : Prop := ∀ j, j < i → X.1 43 j = M.1 13 j
theorem pathL {F : Nat} (hF : 100 ≤ F) {X0 M0 : St} {H : Hs} {L : Nat} (hw : Wf H) (hx0 : ShX X0.1 1 H) (hm0 : ShM (M0.1 1) H) (hL : L ≤ 24) {w : Int32} {JM : St → Option (St × Int32)} : ∀ (G G' i p k : Nat) (X M : St), i ≤ L → L - i < G → L - i < G' → 1 ≤ i → p < H 0 2 → k ≤ 2 → YF X0 M0 X M → (∀ i', i' < L → TA X M (H 0 2) i') → PA X M (H 0 2) i → X.1 41 3 = w → ∃ X1 M1, fX2_make_L131 F (nI L) G X (nI p) (nI k) (nI i) = some X1 ∧ fX7_findYear_L119 F (nI L) JM G' M (nI p) (nI (k + 1)) (nI i) = JM M1 ∧ YF X0 M0 X1 M1 ∧ PA X1 M1 (H 0 2) L ∧ X1.1 41 3 = w ∧ M1.1 13 0 = M.1 13 0 ∧ M1.1 12 = M.1 12 := by
  have hn := hw.2.2.1
  intro G
  induction G with
  | zero => intro G' i p k X M h1 h2; omega
  | succ G ih =>
    intro G' i p k X M h1 h2 h3 hi1 hp hk h ht hpa hw3
    obtain ⟨G', rfl⟩ : ∃ g, G' = g + 1 := ⟨G' - 1, by omega⟩
    rw [fX2_make_L131, fX7_findYear_L119]
    by_cases hi : i = L
    · subst hi
      rw [if_pos (nI_le (Nat.le_refl _) (by omega)), if_pos (nI_le (Nat.le_refl _) (by omega))]
      exact ⟨X, M, rfl, rfl, h, hpa, hw3, rfl, rfl⟩
    · have hta := ht i (by omega)
      have hl := vnext_le (von (M.1 12) H i p k) (H 0 2 - 1)
      have hv : vnext (von (X.1 42) H i p k) (H 0 2 - 1) = vnext (von (M.1 12) H i p k) (H 0 2 - 1) := vnext_ext (n := H 0 2) (fun q hq => ta_von hta hp hq hk) _ (by omega)
      rw [if_neg (nI_ge (by omega) (by omega)), if_neg (nI_ge (by omega) (by omega)), nextX' hF hw (h.sh hx0) (by omega) hp hk, nextM' hF hw (h.sm hm0) (by omega) hp hk, bv_e, bv_e, hv]
      generalize hq0 : vnext (von (M.1 12) H i p k) (H 0 2 - 1) = q at hl ⊢
      have hq : q < H 0 2 := by omega
      simp only [pl_e]
      have stx : ∀ f : St → Option St, sti X 43 (nI i) 24 (nI q) f = f (si X 43 i (nI q)) := fun f => sti_e (by omega) (by decide) f
      have stm : ∀ f : St → Option (St × Int32), sti M 13 (nI i) 24 (nI q) f = f (si M 13 i (nI q)) := fun f => sti_e (by omega) (by decide) f
      simp only [stx, stm]
      rw [longX hk, bv_e, nI_1, nI_1, if2 (nI_eq (a := q) (b := p) (by omega) (by omega)), if2 (nI_eq (a := q) (b := p) (by omega) (by omega))]
      have step : ∀ k', k' ≤ 2 → ∃ X1 M1, fX2_make_L131 F (nI L) G (si X 43 i (nI q)) (nI q) (nI k') (nI (i + 1)) = some X1 ∧ fX7_findYear_L119 F (nI L) JM G' (si M 13 i (nI q)) (nI q) (nI (k' + 1)) (nI (i + 1)) = JM M1 ∧ YF X0 M0 X1 M1 ∧ PA X1 M1 (H 0 2) L ∧ X1.1 41 3 = w ∧ M1.1 13 0 = M.1 13 0 ∧ M1.1 12 = M.1 12 := by
        intro k' hk'
        obtain ⟨X1, M1, e1, e2, e3, e4, e5, e6, e7⟩ := ih G' (i + 1) q k' (si X 43 i (nI q)) (si M 13 i (nI q)) (by omega) (by omega) (by omega) (by omega) hq hk' ⟨fun d hd => by rw [si_o (by omega)]; exact h.1 d hd, h.2.1, fun d d1 d2 => by rw [si_o d2]; exact h.2.2.1 d d1 d2, h.2.2.2⟩ (fun i' hi' c s hc hs => by rw [si_o (by decide), si_o (by decide)]; exact ht i' hi' c s hc hs) (fun j hj => by
          by_cases ej : j = i
          · rw [ej, si_h, si_h]
          · rw [si_s ej, si_s ej]; exact hpa j (by omega)) (by rw [si_o (by decide)]; exact hw3)
        exact ⟨X1, M1, e1, e2, e3, e4, e5, by rw [e6, si_s (by omega)], by rw [e7, si_o (by decide)]⟩
      by_cases cq : q = p
      · rw [if_pos cq, if_pos cq]
        by_cases k2 : k = 2
        · subst k2
          rw [if_pos (show (3 : Int32) ≤ nI (2 + 1) from by decide), if_pos rfl]
          exact step 2 (by omega)
        · rw [if_neg (show ¬ (3 : Int32) ≤ nI (k + 1) from nI_ge (b := 3) (by omega) (by decide)), if_neg k2]
          exact step (k + 1) (by omega)
      · rw [if_neg cq, if_neg cq]
        exact step 0 (by omega)
theorem makeE {F : Nat} (hF : 100 ≤ F) {X M : St} {H : Hs} {a L : Nat} (hS : St1 X.1 1 (M.1 1) H) (ha : a ≤ 11) (hL1 : 1 ≤ L) (hL : L ≤ 24) (hn0 : 0 < H 0 2) : ∃ X1 M1 w, fX2_make F X (nI a) (nI L) = some X1 ∧ fX7_findYear F M (nI a) (nI L) = some (M1, w) ∧ YF X M X1 M1 ∧ PA X1 M1 (H 0 2) L ∧ X1.1 41 3 = w := by
  have hn := hS.1.2.2.1
  unfold fX2_make fX7_findYear
  simp only [pl_e]
  obtain ⟨X1, M1, e1, e2, e3, e4⟩ := monthL hF hS.1 hS.2.1 hS.2.2 ha hL (JX := fun S2 => bv (fX2_firstCamp F S2) fun v3 => bv (fX2_at S2 0 v3 0) fun v4 => ldi S2 42 v4 432 fun v5 => sti (si S2 41 3 v5) 43 0 24 v3 fun S7 => fX2_make_L131 F (nI L) F S7 v3 0 1) (JM := fun S2 => fX7_findYear_L119 F (nI L) (fun S3 => ldi S3 13 0 24 fun v4 => bv (fX7_placeOf S3 0 v4 1) fun v5 => ldi S3 12 v5 450 fun v6 => some (S3, v6)) F S2 (-1) 0 0) L F F X M (Nat.le_refl _) (by omega) (by omega) ⟨fun _ _ => rfl, rfl, fun _ _ _ => rfl, rfl⟩ (fun i' h1 h2 => by omega)
  rw [e1, e2]
  have hsx := e3.sh hS.2.1
  have hsm := e3.sm hS.2.2
  have hta := e4 0 (by omega)
  have hf : fX2_firstCamp F X1 = some (nI (vnext (fun q => X1.1 42 (3 * q)) (H 0 2 - 1))) := firstX hS.1 hsx F 0 (by omega) (by omega)
  have hv : vnext (fun q => X1.1 42 (3 * q)) (H 0 2 - 1) = vnext (fun q => M1.1 12 (3 * q)) (H 0 2 - 1) := vnext_ext (n := H 0 2) (fun q hq => by
    have := hta q 0 hq (by decide)
    rw [show 18 * 0 + 3 * q + 0 = 3 * q by omega] at this
    exact this) _ (by omega)
  have hl := vnext_le (fun q => M1.1 12 (3 * q)) (H 0 2 - 1)
  have hM := nextM0 hF hS.1 hsm hn0
  rw [hv] at hf
  generalize vnext (fun q => M1.1 12 (3 * q)) (H 0 2 - 1) = q at hf hM hl
  have hq : q < H 0 2 := by omega
  have hat : fX2_at X1 0 (nI q) 0 = some (nI (3 * q)) := by
    have := atX (X := X1) (i := 0) (c := q) (k := 0)
    rw [show 18 * 0 + 3 * q + 0 = 3 * q by omega] at this
    exact this
  have hne : ¬ nI q = (-1 : Int32) := fun e => by
    have := nI_pos (n := q) (by omega)
    rw [e] at this
    exact this neg1.2
  obtain ⟨g, rfl⟩ : ∃ g, F = g + 1 := ⟨F - 1, by omega⟩
  rw [hf, bv_e, hat, bv_e, ldi_e (by omega) (by decide), sti_l (c := 43) 0 (by decide) (by decide), fX7_findYear_L119, if_neg (show ¬ nI L ≤ (0 : Int32) from nI_ge (a := 0) (by omega) (by omega)), hM, bv_e]
  simp only [pl_e]
  rw [if_neg hne, sti_l (c := 13) 0 (by decide) (by decide), show (0 : Int32) + 1 = nI 1 from by decide]
  obtain ⟨X2, M2, f1, f2, f3, f4, f5, f6, f7⟩ := pathL (F := g + 1) hF hS.1 hS.2.1 hS.2.2 hL (w := X1.1 42 (3 * q)) (JM := fun S3 => ldi S3 13 0 24 fun v4 => bv (fX7_placeOf S3 0 v4 1) fun v5 => ldi S3 12 v5 450 fun v6 => some (S3, v6)) (g + 1) g 1 q 0 (si (si X1 41 3 (X1.1 42 (3 * q))) 43 0 (nI q)) (si M1 13 0 (nI q)) hL1 (by omega) (by omega) (by omega) hq (by omega) ⟨fun d hd => by rw [si_o (by omega), si_o (by omega)]; exact e3.1 d hd, e3.2.1, fun d d1 d2 => by rw [si_o d2]; exact e3.2.2.1 d d1 d2, e3.2.2.2⟩ (fun i' hi' c s hc hs => by rw [si_o (by decide), si_o (by decide), si_o (by decide)]; exact e4 i' hi' c s hc hs) (fun j hj => by
    rw [show j = 0 by omega, si_h, si_h]) (by rw [si_o (by decide), si_h])
  refine ⟨X2, M2, X1.1 42 (3 * q), f1, f2.trans ?_, f3, f4, f5⟩
  have hat2 : fX7_placeOf M2 0 (nI q) 1 = some (nI (18 * 0 + 3 * q + 0)) := atM (i := 0) (k := 0)
  rw [ldi_l (c := 13) 0 (by decide) (by decide), f6, si_h, hat2, bv_e, ldi_e (by omega) (by decide), f7, si_o (by decide), ← hta q 0 hq (by decide), show 18 * 0 + 3 * q + 0 = 3 * q by omega]
theorem st_year {F : Nat} (hF : 100 ≤ F) : s_year Rel F := by
  intro X M a1 a2 a3 hR
  show Ag _ _
  unfold fX6_year fX7_year
  simp only [bq_eta, pl_e]
  refine guard (by decide) (by decide) (find0 hR) (fun c => ?_)
  obtain ⟨a, -, ha, rfl⟩ := inb_nI (lo := 0) (hi := 11) c (by decide) (by decide)
  refine guard (by decide) (by decide) (find0 hR) (fun c => ?_)
  obtain ⟨L, hL1, hL, rfl⟩ := inb_nI (lo := 1) (hi := 24) c (by decide) (by decide)
  refine guard (by decide) rfl (find0 hR) (fun c => ?_)
  obtain ⟨⟨H, hS⟩, -⟩ := id hR
  have hn := hS.1.2.2.1
  rw [ldi_l (c := 1) 2 (by decide) (by decide), hS.2.2.2.2.1, hS.2.1.2.2.1, if2 (lit_eq (a := H 0 2) (n := 0) (by omega) (by decide)), if2 (lit_eq (a := H 0 2) (n := 0) (by omega) (by decide))]
  by_cases c0 : H 0 2 = 0
  · rw [if_pos c0, if_pos c0]
    exact find3 hR
  · rw [if_neg c0, if_neg c0]
    obtain ⟨X1, M1, w, e1, e2, e3, e4, e5⟩ := makeE hF hS ha hL1 hL (by omega)
    rw [e1, e2, bv_e, bq_e]
    by_cases c3 : 0 ≤ a3
    · obtain ⟨q1, q2⟩ := c
      rw [show nI L - 1 = nI (L - 1) from pk_sub (b := 1) (by omega)] at q2
      obtain ⟨k, -, hk, rfl⟩ := inb_nI (lo := 0) (hi := L - 1) ⟨c3, q2⟩ (by decide) (by omega)
      rw [if_pos c3, if_pos c3, ldi_e (by omega) (by decide), ldi_e (by omega) (by decide), e4 k (by omega)]
      exact ag_of rfl rfl (e3.rel hR)
    · rw [if_neg c3, if_neg c3, e5]
      exact ag_of rfl rfl (e3.rel hR)
theorem movesE {X M : St} {n L : Nat} (hL : L ≤ 24) (hpa : PA X M n L) : ∀ (G G' i : Nat) (s : Int32), 1 ≤ i → i ≤ L → L - i < G → L - i < G' → ∃ v, fX2_movesIn_L4 X (nI L) G s (nI i) = some v ∧ fX7_moves_L60 (nI L) M G' s (nI i) = some (M, v) := by
  intro G
  induction G with
  | zero => intro G' i s h0 h1 h2; omega
  | succ G ih =>
    intro G' i s h0 h1 h2 h3
    obtain ⟨G', rfl⟩ : ∃ g, G' = g + 1 := ⟨G' - 1, by omega⟩
    rw [fX2_movesIn_L4, fX7_moves_L60]
    by_cases hi : i = L
    · subst hi
      rw [if_pos (nI_le (Nat.le_refl _) (by omega)), if_pos (nI_le (Nat.le_refl _) (by omega))]
      exact ⟨s, rfl, rfl⟩
    · rw [if_neg (nI_ge (by omega) (by omega)), if_neg (nI_ge (by omega) (by omega)), show nI i - 1 = nI (i - 1) from pk_sub (b := 1) (by omega), ldi_e (by omega) (by decide), ldi_e (by omega) (by decide), ldi_e (by omega) (by decide), ldi_e (by omega) (by decide), hpa i (by omega), hpa (i - 1) (by omega)]
      simp only [pl_e]
      rw [nI_1]
      by_cases e : M.1 13 i = M.1 13 (i - 1)
      · rw [if_pos e, if_pos e]
        exact ih G' (i + 1) _ (by omega) (by omega) (by omega) (by omega)
      · rw [if_neg e, if_neg e]
        exact ih G' (i + 1) _ (by omega) (by omega) (by omega) (by omega)
theorem st_moves {F : Nat} (hF : 100 ≤ F) : s_moves Rel F := by
  intro X M a1 a2 hR
  show Ag _ _
  unfold fX6_moves fX7_moves
  simp only [bq_eta, pl_e]
  refine guard (by decide) (by decide) (find0 hR) (fun c => ?_)
  obtain ⟨a, -, ha, rfl⟩ := inb_nI (lo := 0) (hi := 11) c (by decide) (by decide)
  refine guard (by decide) (by decide) (find0 hR) (fun c => ?_)
  obtain ⟨L, hL1, hL, rfl⟩ := inb_nI (lo := 1) (hi := 24) c (by decide) (by decide)
  obtain ⟨⟨H, hS⟩, -⟩ := id hR
  have hn := hS.1.2.2.1
  rw [ldi_l (c := 1) 2 (by decide) (by decide), hS.2.2.2.2.1, hS.2.1.2.2.1, if2 (lit_eq (a := H 0 2) (n := 0) (by omega) (by decide)), if2 (lit_eq (a := H 0 2) (n := 0) (by omega) (by decide))]
  by_cases c0 : H 0 2 = 0
  · rw [if_pos c0, if_pos c0]
    exact find3 hR
  · rw [if_neg c0, if_neg c0]
    obtain ⟨X1, M1, w, e1, e2, e3, e4, e5⟩ := makeE hF hS ha hL1 hL (by omega)
    rw [e1, e2, bv_e, bq_e]
    unfold fX2_movesIn
    obtain ⟨v, m1, m2⟩ := movesE hL e4 F F 1 0 (by omega) hL1 (by omega) (by omega)
    rw [show nI 1 = (1 : Int32) from rfl] at m1 m2
    rw [m1, m2, bv_e]
    exact ag_of rfl rfl (e3.rel hR)
