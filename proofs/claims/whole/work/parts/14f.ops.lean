theorem st_wipe {F : Nat} : s_wipe Rel F := by
  intro X M hR
  show Ag _ _
  obtain ⟨h1, h2, ⟨n, hn, t1, t2, t3⟩, h4, h5, h6⟩ := hR
  refine ag_of (v := nI n) (X1 := si X 44 1 0) (M1 := si M 0 6 0) ?_ ?_ ⟨?_, ?_, ⟨0, by decide, si_h, si_h, fun k hk => absurd hk (by omega)⟩, h4.kept (fun t ht => si_o (by omega)) (fun t ht => rfl) (si_o (by decide)) (si_o (by decide)) rfl, h5.kept (si_o (by decide)) (si_o (by decide)), h6.kept (si_o (by decide))⟩
  · unfold fX6_wipe; rw [pl_e, pl_e, t1]
  · unfold fX7_wipe; rw [pl_e, pl_e, t2]
  · obtain ⟨H, hS⟩ := h1
    exact ⟨H, hS.kept (fun k hk => si_o (by omega)) (si_o (by decide))⟩
  · exact h2.kept (fun k hk => si_o (by omega)) (by rw [si_o (by decide)]) (si_s (by decide)) (si_o (by decide))
theorem st_tear {F : Nat} : s_tear Rel F := by
  intro X M hR
  show Ag _ _
  obtain ⟨h1, h2, h3, h4, h5, h6⟩ := hR
  have hrel : Rel (si X 0 3 0) (si M 0 3 0) := by
    refine ⟨?_, Or.inl ⟨si_h, si_h⟩, h3.kept (by rw [si_o (by decide)]) (si_o (by decide)) (si_s (by decide)) (si_o (by decide)), h4.kept (fun t ht => si_o (by omega)) (fun t ht => rfl) (si_o (by decide)) (si_o (by decide)) rfl, h5.kept (si_o (by decide)) (si_o (by decide)), h6.kept (si_o (by decide))⟩
    obtain ⟨H, hS⟩ := h1
    exact ⟨H, hS.kept (fun k hk => si_o (by omega)) (si_o (by decide))⟩
  unfold fX6_tear fX7_tear
  simp only [pl_e]
  rw [putz_e (S := M) (by decide)]
  rcases h2 with ⟨e1, e2⟩ | ⟨e1, e2, -⟩
  · rw [e1, e2, if_pos rfl, if_pos rfl, putz_e (by decide)]
    exact ag_of rfl rfl hrel
  · rw [e1, e2, if_neg (by decide), if_neg (by decide), putz_e (by decide)]
    exact ag_of rfl rfl hrel
theorem st_cap {F : Nat} : s_cap Rel F := by
  intro X M a1 hR
  show Ag _ _
  unfold fX6_cap fX7_cap
  simp only [bq_eta, pl_e]
  obtain ⟨⟨H, hS⟩, -⟩ := id hR
  have hn := hS.1.2.1
  have hx := hS.2.1.2.1
  have hm := hS.2.2.2.1
  rw [show (1 : Int32) = nI 1 from rfl, ldi_e (S := M) (c := 1) (n := 1) (N := 216) (by decide) (by decide), hm, hx]
  rcases nI_cases a1 (n := H 0 1) (by omega) with ⟨p, hp, e⟩ | h
  · subst e
    rw [within_t (lo := 0) ⟨nI_pos' (by omega), by rw [show nI (H 0 1) - nI 1 = nI (H 0 1 - 1) from pk_sub (by omega)]; exact nI_le (by omega) (by omega)⟩, bv_e, if_neg (by decide), if_neg (nI_pos (by omega)), if_neg (nI_ge hp (by omega)), ldi_e (by omega) (by decide), show (132 : Int32) = nI 132 from rfl, nI_add, ldi_e (by omega) (by decide)]
    refine ag_of rfl ?_ hR
    rw [hS.2.1.2.2.2.2.2.2.2.1 p hp, hS.2.2.2.2.2.2.2.2.1 p hp]
  · have hnot : ¬ inb a1 0 (nI (H 0 1) - nI 1) := by
      rintro ⟨q1, q2⟩
      rcases h with h | h
      · rw [fa_le] at q1; rw [fa_lt] at h; omega
      · rw [fa_le, pk_sub_toInt (by omega) (by omega)] at q2
        rw [fa_le, nI_toInt (by omega)] at h
        omega
    rw [within_f hnot, bv_e, if_pos rfl]
    rcases h with h | h
    · rw [if_pos h]; exact find0 hR
    · by_cases h0 : a1 < 0
      · rw [if_pos h0]; exact find0 hR
      · rw [if_neg h0, if_pos h]; exact find0 hR
theorem st_status {F : Nat} (hF : 100 ≤ F) : s_status Rel F := by
  intro X M a1 hR
  show Ag _ _
  unfold fX6_status fX7_status
  simp only [bq_eta]
  refine guard (by decide) (by decide) (find0 hR) (fun c => ?_)
  obtain ⟨f1, f2⟩ := hR.2.2.2.2.1
  have hL : ∀ (G i : Nat) (acc : Int32), i ≤ 7 → 7 - i < G → fX6_status_L31 X G acc (nI i) = some (X, bx_sum (fun k => X.1 55 (i + k)) (7 - i) + acc) := by
    intro G
    induction G with
    | zero => intro i acc h1 h2; omega
    | succ G ih =>
      intro i acc h1 h2
      rw [fX6_status_L31]
      by_cases hi : i = 7
      · subst hi
        rw [if_pos (show (7 : Int32) ≤ nI 7 from by decide)]
        simp [bx_sum]
      · rw [if_neg (show ¬ (7 : Int32) ≤ nI i from nI_ge (b := 7) (by omega) (by decide)), ldi_e (by omega) (by decide), pl_e, pl_e, nI_1, ih (i + 1) _ (by omega) (by omega)]
        rcases (show i = 0 ∨ i = 1 ∨ i = 2 ∨ i = 3 ∨ i = 4 ∨ i = 5 ∨ i = 6 by omega) with rfl | rfl | rfl | rfl | rfl | rfl | rfl <;> simp [bx_sum] <;> grind
  by_cases c0 : a1 < 0
  · have e : a1 = -1 := by
      rw [fa_eq]
      have h1 := c.1
      rw [fa_le] at h1
      rw [fa_lt] at c0
      have e1 : (-1 : Int32).toInt = -1 := by decide
      have e2 : (0 : Int32).toInt = 0 := by decide
      omega
    subst e
    rw [if_pos (by decide), show (-1 : Int32) + 1 = nI 0 from by decide, ldi_e (by decide) (by decide), show (0 : Int32) = nI 0 from rfl, hL F 0 _ (by decide) (by omega)]
    refine ag_of rfl ?_ hR
    rw [f2]
    simp [bx_sum, nI_0]
  · obtain ⟨k, hk0, hk, rfl⟩ := inb_nI (a := a1) (lo := 0) (hi := 6) ⟨fa_of_nlt c0, c.2⟩ (by decide) (by decide)
    rw [if_neg c0, ldi_e (by omega) (by decide), nI_1, ldi_e (by omega) (by decide)]
    refine ag_of rfl ?_ hR
    rw [f1 k (by omega)]
