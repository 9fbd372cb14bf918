-- EVENEST, the call
theorem st_even {F : Nat} (hF : 2000 ≤ F) : s_even Rel F := by
  intro X M a1 a2 hR
  show Ag _ _
  unfold fX6_even fX7_even
  simp only [bq_eta, pl_e]
  obtain ⟨⟨H, hS⟩, -⟩ := id hR
  have hn := hS.1.1
  rcases loadE (F := F) (by omega) hS a1 with ⟨s, rfl, hl, r1, r2⟩ | ⟨r1, r2⟩
  · rw [r1, r2, bv_e, bv_e, if_neg (show ¬ (1 : Int32) = 0 from by decide), if_neg (show ¬ (1 : Int32) = 0 from by decide)]
    refine guard (by decide) (by decide) (find0 hR) (fun c => ?_)
    obtain ⟨k, -, hk, rfl⟩ := inb_nI (lo := 0) (hi := 1) c (by decide) (by decide)
    have hle := cntS_le s (H 0 0)
    obtain ⟨X1, M1, e1, e2, e3, e4⟩ := findE (F := F) hF hS hl.1
    rw [countE hl.1 hn, bv_e]
    rcases e4 with ⟨c10, f1, W, f2, f3, f4, f5⟩ | ⟨c10, f1⟩
    · rw [if_pos (show nI (cntS s (H 0 0)) ≤ (10 : Int32) from nI_le (b := 10) c10 (by decide)), e1, bv_e, f1, bq_e, if_neg (show ¬ (1 : Int32) = 0 from by decide)]
      generalize cntS s (H 0 0) = m at c10 f2 f3 f4 f5 hle
      have h10 : 2 ^ m ≤ 2 ^ 10 := Nat.pow_le_pow_right (by decide) c10
      have hp := Nat.two_pow_pos m
      have hW : ∀ t, t < m → W t ≤ 99 := fun t ht => (f4 t ht).1
      have bnd : ∀ x, ws W x m ≤ 990 := fun x => by have := ws_le (x := x) hW; omega
      have ea : (1 : Int32) <<< (nI m &&& 31) - 1 = nI (2 ^ m - 1) := by
        rw [shl1 m (by omega)]
        exact pk_sub (b := 1) hp
      have bt' := bnd (2 ^ m - 1)
      have w0 : ws W 0 m = 0 := by
        have : ∀ j, ws W 0 j = 0 := fun j => by
          induction j with
          | zero => rfl
          | succ j ih =>
            show ws W 0 j + (if (0 : Nat).testBit j = true then W j else 0) = 0
            rw [ih, Nat.zero_testBit, if_neg (by decide)]
        exact this m
      obtain ⟨X2, b, d, g1, g2, g3, g4, g5, g6, g7⟩ := evL (X0 := X) (M := M1) c10 hW f5 F (F - 1) 1 0 (ws W (2 ^ m - 1) m) (si (si X1 37 5 (nI (ws W (2 ^ m - 1) m))) 40 0 (nI 0)) (by decide) hp (by omega) (by omega) hp bt' ((e2.w (by decide)).w (by decide)) (fun t ht => by rw [si_o (by decide), si_o (by decide)]; exact (f4 t ht).2.1) (by rw [si_o (by decide), si_h]) (fun y hy => by rw [show y = 0 by omega, si_h, w0])
      obtain ⟨r, q1, q2⟩ := setL (m := m) (b := b) (X := X2) (M := M1) c10 (by omega) (by rw [g7, si_o (by decide), si_s (by decide)]; exact f2) f3.1 (fun t ht => by
        obtain ⟨-, -, q, -, z2, z3⟩ := f4 t ht
        rw [g6, si_o (by decide), si_o (by decide), z2, z3]) F F 0 0 (Nat.zero_le _) (by omega) (by omega)
      have hX : fX1_balance F X1 = some (si X2 37 6 r) := by
        unfold fX1_balance
        simp only [pl_e]
        rw [f2, ea]
        refine (totL c10 f2 (fun t ht => (f4 t ht).2.1) F 0 (Nat.zero_le _) (by omega) _).trans ?_
        rw [sti_l (c := 40) 0 (by decide) (by decide)]
        refine (g1 _).trans ?_
        unfold fX1_partsOf
        rw [show fX1_partsOf_L4 X2 (nI b) F 0 0 = some r from q1, bv_e]
      have hM : ∀ J, fX7_even_L58 M1 (nI (2 ^ m - 1)) J F (-1) 0 0 = J (nI b) (nI d) := by
        intro J
        obtain ⟨f, rfl⟩ : ∃ f, F = f + 1 := ⟨F - 1, by omega⟩
        rw [fX7_even_L58, if_neg (show ¬ nI (2 ^ m - 1) < 0 from nI_pos (by omega)), ldi_e (by omega) (by decide), ldi_l (c := 10) 0 (by decide) (by decide), f5 _ (by omega), f5 0 hp, w0]
        simp only [pl_e]
        rw [show nI (ws W (2 ^ m - 1) m) - (2 : Int32) * nI 0 = nI (ws W (2 ^ m - 1) m) from by rw [show (2 : Int32) * nI 0 = nI 0 from by decide]; exact pk_sub (b := 0) (Nat.zero_le _), if_neg (nI_pos (by omega)), if_pos neg1.2]
        exact g2 J
      rw [hX, bv_e, f3.1, ea]
      have hfin : Rel (si X2 37 6 r) M1 := rel_ld hR (g5.w (by decide)) e3
      have hMf : fX7_even_L58 M1 (nI (2 ^ m - 1)) (fun v8 v9 => fX7_even_L119 M1 v8 (fun v10 => if nI k = 0 then some (M1, v9) else some (M1, v10)) F 0 0) F (-1) 0 0 = if nI k = 0 then some (M1, nI d) else some (M1, r) := (hM _).trans (q2 _)
      refine Eq.mpr (congrArg (Ag _) hMf) ?_
      rw [si_s (by decide), g3, si_h]
      by_cases ck : nI k = 0
      · rw [if_pos ck, if_pos ck]
        exact ag_of rfl rfl hfin
      · rw [if_neg ck, if_neg ck]
        exact ag_of rfl rfl hfin
    · rw [if_neg (show ¬ nI (cntS s (H 0 0)) ≤ (10 : Int32) from nI_ge (a := 10) c10 (by omega)), f1, bq_e, if_pos rfl]
      exact find6 (rel_ld hR (FX.re X) e3)
  · rw [r1, r2, bv_e, bv_e, if_pos rfl, if_pos rfl]
    exact find0 hR
