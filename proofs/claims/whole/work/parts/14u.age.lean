-- age
theorem nx1 : nI 1 = (1 : Int32) := rfl
theorem nx0 : nI 0 = (0 : Int32) := rfl
theorem age_step {X M : St} {n s p : Nat} (hR : Rel X M) (hn0 : X.1 1 0 = nI n) (hn : n ≤ 20) (hs : X.1 7 2 = nI s) (hs9 : s ≤ 9) (hp : p < n) : ∃ H, St1 X.1 1 (M.1 1) H ∧ H 0 0 = n ∧ H 7 2 = s := by
  obtain ⟨⟨H, hS⟩, -⟩ := hR
  have h72 : H 7 2 ≤ 9 := hS.1.2.2.2.2.1 2 (by decide)
  have h00 := hS.1.1
  exact ⟨H, hS, (nI_eq (by omega) (by omega)).mp (hS.2.1.1.symm.trans hn0), (nI_eq (by omega) (by omega)).mp ((hS.2.1.2.2.2.2.2.1 2 (by decide)).symm.trans hs)⟩
theorem ageL {n s inc : Nat} (hn : n ≤ 20) (hs9 : s ≤ 9) (hinc : inc = if s ≤ 4 then 1 else 2) {J : St → Int32 → Option (St × Int32)} {base : Int32} : ∀ (G G' p : Nat) (a : Int32) (X M : St), p ≤ n → n - p < G → n - p < G' → Rel X M → X.1 1 0 = nI n → X.1 7 2 = nI s → ∃ X1 M1 a', fX4_growOlder_L20 1 (nI inc) G X a (nI p) = some (X1, a') ∧ fX7_age_L31 J G' M (base + a) (nI p) = J M1 (base + a') ∧ Rel X1 M1 ∧ X1.1 1 0 = nI n ∧ X1.1 7 2 = nI s := by
  intro G
  induction G with
  | zero => intro G' p a X M h1 h2; omega
  | succ G ih =>
    intro G' p a X M h1 h2 h3 hR hx0 hx7
    obtain ⟨G', rfl⟩ : ∃ g, G' = g + 1 := ⟨G' - 1, by omega⟩
    have hM0 : M.1 1 0 = nI n := by
      obtain ⟨⟨H, hS⟩, -⟩ := hR
      rw [hS.2.2.1, ← hS.2.1.1, hx0]
    rw [fX4_growOlder_L20, fX7_age_L31, ldi_l (c := 1) 0 (by decide) (by decide), hM0, hx0]
    by_cases hp : p = n
    · subst hp
      rw [if_pos (nI_le (Nat.le_refl _) (by omega)), if_pos (nI_le (Nat.le_refl _) (by omega))]
      exact ⟨X, M, a, rfl, rfl, hR, hx0, hx7⟩
    · have hp' : p < n := by omega
      obtain ⟨H, hS, e0, e7⟩ := age_step hR hx0 hn hx7 hs9 hp'
      have hpH : p < H 0 0 := by omega
      obtain ⟨-, -, -, -, k5, k6⟩ := hS.1.2.2.2.1 p hpH
      rw [if_neg (nI_ge hp' (by omega)), if_neg (nI_ge hp' (by omega)), isThereX hS.1 hS.2.1 hpH, isThereM hS.1 hS.2.2 hpH, bv_e, bv_e]
      simp only [pl_e]
      rw [nI_1, if2 (lit_eq (a := H 6 p) (n := 0) (by omega) (by decide)), if2 (lit_eq (a := H 6 p) (n := 0) (by omega) (by decide))]
      by_cases c : H 6 p = 0
      · rw [if_pos c, if_pos c]
        exact ih G' (p + 1) a X M (by omega) (by omega) (by omega) hR hx0 hx7
      · have h61 : H 6 p = 1 := by omega
        have e4 : fX7_has M (nI p) 4 = some (nI (H 5 p)) := hasM hS.1 hS.2.2 hpH (w := 4) (by decide)
        have ex : X.1 (5 + 1) p = nI (H 5 p) := (hS.2.1.2.2.2.1 p hpH).2.2.2.2
        rw [if_neg c, if_neg c, e4, bv_e, ldi_l (c := 1) 5 (by decide) (by decide), hS.2.2.2.2.2.2.1 2 (by decide), e7]
        have hle : (nI s ≤ (4 : Int32)) ↔ s ≤ 4 := by
          constructor
          · intro q; exact Nat.le_of_not_lt (fun r => nI_ge (a := 4) r (by omega) q)
          · intro q; exact nI_le (b := 4) q (by decide)
        have hinc2 : inc ≤ 2 := by rw [hinc]; split <;> omega
        have main : ∀ i : Int32, i = nI inc → ∃ X1 M1 a', (ldi X (5 + 1) (nI p) 20 fun v10 => sti X (5 + 1) (nI p) 20 (v10 + nI inc) fun S11 => ldi S11 (5 + 1) (nI p) 20 fun v12 => if v12 ≤ 99 then fX4_growOlder_L20 1 (nI inc) G S11 a (nI (p + 1)) else sti S11 (5 + 1) (nI p) 20 0 fun S13 => fX4_growOlder_L20 1 (nI inc) G (si S13 1 6 (S13.1 1 6 &&& (1 <<< (nI p &&& 31) ^^^ -1))) (a + 1) (nI (p + 1))) = some (X1, a') ∧ (if nI (H 5 p) + i ≤ 99 then (bv (fX7_gets M (nI p) 4 (nI (H 5 p) + i)) fun S21 => if nI (H 5 p) + i ≤ 99 then (bv (fX7_gets S21 (nI p) 5 1) fun S23 => if nI (H 5 p) + i ≤ 99 then fX7_age_L31 J G' S23 (base + a + 0) (nI (p + 1)) else fX7_age_L31 J G' S23 (base + a + 1) (nI (p + 1))) else (bv (fX7_gets S21 (nI p) 5 0) fun S23 => if nI (H 5 p) + i ≤ 99 then fX7_age_L31 J G' S23 (base + a + 0) (nI (p + 1)) else fX7_age_L31 J G' S23 (base + a + 1) (nI (p + 1)))) else (bv (fX7_gets M (nI p) 4 0) fun S21 => if nI (H 5 p) + i ≤ 99 then (bv (fX7_gets S21 (nI p) 5 1) fun S23 => if nI (H 5 p) + i ≤ 99 then fX7_age_L31 J G' S23 (base + a + 0) (nI (p + 1)) else fX7_age_L31 J G' S23 (base + a + 1) (nI (p + 1))) else (bv (fX7_gets S21 (nI p) 5 0) fun S23 => if nI (H 5 p) + i ≤ 99 then fX7_age_L31 J G' S23 (base + a + 0) (nI (p + 1)) else fX7_age_L31 J G' S23 (base + a + 1) (nI (p + 1))))) = J M1 (base + a') ∧ Rel X1 M1 ∧ X1.1 1 0 = nI n ∧ X1.1 7 2 = nI s := by
          intro i hi
          rw [hi, nI_add]
          have h5 : (5 : Int32) = nI 5 := rfl
          have h4 : (4 : Int32) = nI 4 := rfl
          rw [ldi_e (by omega) (by decide), ex, nI_add, sti_e (by omega) (by decide), ldi_e (by omega) (by decide), si_h]
          by_cases c9 : H 5 p + inc ≤ 99
          · have c9' : nI (H 5 p + inc) ≤ (99 : Int32) := nI_le (b := 99) c9 (by decide)
            simp only [if_pos c9']
            rw [h4, gets_e (by omega) (by decide), bv_e, h5, gets_e (by omega) (by decide), bv_e]
            have hid : si (si M 1 (12 + 6 * p + 4) (nI (H 5 p + inc))) 1 (12 + 6 * p + 5) 1 = si M 1 (12 + 6 * p + 4) (nI (H 5 p + inc)) := by
              have : (si M 1 (12 + 6 * p + 4) (nI (H 5 p + inc))).1 1 (12 + 6 * p + 5) = 1 := by
                rw [si_s (by omega), hS.2.2.2.2.2.1 p 5 hpH (by decide), show H (5 + 1) p = 1 from h61]; rfl
              rw [← this, si_id]
            rw [hid, show base + a + 0 = base + a from by grind]
            exact ih G' (p + 1) a _ _ (by omega) (by omega) (by omega) (rel_now hR (fun d hd => si_o (by omega)) rfl (fun d hd => si_o hd) rfl ⟨_, up_wear hS hpH c9⟩) (by rw [si_o (by decide)]; exact hx0) (by rw [si_o (by decide)]; exact hx7)
          · have c9' : ¬ nI (H 5 p + inc) ≤ (99 : Int32) := nI_ge (a := 99) (by omega) (by omega)
            simp only [if_neg c9']
            rw [h4, gets_e (by omega) (by decide), bv_e, h5, gets_e (by omega) (by decide), bv_e, sti_e (by omega) (by decide), si_si]
            have h6q : ∀ q, q < H 0 0 → H 6 q ≤ 1 := fun q hq => (hS.1.2.2.2.1 q hq).2.2.2.2.2
            have hu := up_wear (v := 0) hS hpH (by omega)
            have e6 : (si X 6 p 0).1 1 6 = nI (bits (H 6) (H 0 0)) := by rw [si_o (by decide)]; exact hS.2.1.2.2.2.2.1
            rw [show (5 + 1) = 6 from rfl, e6, bits_clear h6q (by omega) hpH, show base + a + 1 = base + (a + 1) from by grind]
            have hu2 := up_there (v := 0) hu (show p < up2 H 5 p 0 0 0 by simp [up2]; exact hpH) (by omega) rfl
            have e0' : up2 H 5 p 0 0 0 = H 0 0 := by simp [up2]
            rw [up2_n (f' := 6) (by decide), e0'] at hu2
            exact ih G' (p + 1) (a + 1) _ _ (by omega) (by omega) (by omega) (rel_now hR (fun d hd => by rw [si_o (by omega), si_o (by omega)]) rfl (fun d hd => by rw [si_o hd, si_o hd]) rfl ⟨_, hu2⟩) (by rw [si_s (by decide), si_o (by decide)]; exact hx0) (by rw [si_o (by decide), si_o (by decide)]; exact hx7)
        by_cases q : s ≤ 4
        · rw [if_pos (hle.mpr q)]
          exact main 1 (by rw [hinc, if_pos q]; rfl)
        · rw [if_neg (fun r => q (hle.mp r))]
          exact main 2 (by rw [hinc, if_neg q]; rfl)
theorem ageY {F n s k : Nat} (hF : 1000 ≤ F) (hn : n ≤ 20) (hs9 : s ≤ 9) (hk : k ≤ 50) : ∀ (G G' y : Nat) (a : Int32) (X M : St), y ≤ k → k - y < G → k - y < G' → Rel X M → X.1 1 0 = nI n → X.1 7 2 = nI s → Ag (fX6_age_L20 F (nI k) G X a (nI y)) (fX7_age_L23 F (nI k) G' M a (nI y)) := by
  intro G
  induction G with
  | zero => intro G' p a X M h1 h2; omega
  | succ G ih =>
    intro G' y a X M h1 h2 h3 hR hx0 hx7
    obtain ⟨G', rfl⟩ : ∃ g, G' = g + 1 := ⟨G' - 1, by omega⟩
    rw [fX6_age_L20, fX7_age_L23]
    by_cases hy : y = k
    · subst hy
      rw [if_pos (nI_le (Nat.le_refl _) (by omega)), if_pos (nI_le (Nat.le_refl _) (by omega))]
      exact ag_of rfl rfl hR
    · rw [if_neg (nI_ge (by omega) (by omega)), if_neg (nI_ge (by omega) (by omega))]
      simp only [pl_e]
      rw [nI_1]
      unfold fX4_growOlder
      simp only [pl_e]
      rw [ldi_l (c := 6 + 1) 2 (by decide) (by decide), show X.1 (6 + 1) 2 = nI s from hx7]
      have hle : (nI s ≤ (4 : Int32)) ↔ s ≤ 4 := by
        constructor
        · intro q; exact Nat.le_of_not_lt (fun r => nI_ge (a := 4) r (by omega) q)
        · intro q; exact nI_le (b := 4) q (by decide)
      have hi : (if nI s ≤ (4 : Int32) then fX4_growOlder_L20 1 1 F X 0 0 else fX4_growOlder_L20 1 2 F X 0 0) = fX4_growOlder_L20 1 (nI (if s ≤ 4 then 1 else 2)) F X 0 0 := by
        rw [if2 hle]
        by_cases q : s ≤ 4
        · rw [if_pos q, if_pos q]; rfl
        · rw [if_neg q, if_neg q]; rfl
      rw [hi]
      obtain ⟨X1, M1, a', e1, e2, e3, e4, e5⟩ := ageL hn hs9 rfl (J := fun S5 v6 => fX7_age_L23 F (nI k) G' S5 v6 (nI (y + 1))) (base := a) F F 0 0 X M (by omega) (by omega) (by omega) hR hx0 hx7
      rw [show a + 0 = a from by grind] at e2
      rw [show nI 0 = (0 : Int32) from rfl] at e1 e2
      rw [e1, e2, bq_e]
      exact ih G' (y + 1) _ X1 M1 (by omega) (by omega) (by omega) e3 e4 e5
theorem st_age {F : Nat} (hF : 1000 ≤ F) : s_age Rel F := by
  intro X M a1 hR
  show Ag _ _
  unfold fX6_age fX7_age
  simp only [bq_eta]
  refine guard (by decide) (by decide) (find0 hR) (fun c => ?_)
  obtain ⟨k, -, hk, rfl⟩ := inb_nI (lo := 1) (hi := 50) c (by decide) (by decide)
  obtain ⟨⟨H, hS⟩, -⟩ := id hR
  exact ageY hF hS.1.1 (hS.1.2.2.2.2.1 2 (by decide)) hk F F 0 0 X M (by omega) (by omega) (by omega) hR hS.2.1.1 (hS.2.1.2.2.2.2.2.1 2 (by decide))
