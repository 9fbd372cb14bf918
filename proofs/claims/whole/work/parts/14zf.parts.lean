-- THE TEXT: a part, a camp
def pmB (a1 v6 v8 v12 : Int32) (S15 : St) (v16 : Int32) : Option St := if (S15.1 0 20) = 0 then (bv (fX7_comes S15 a1 v6 v8 v12 v16) fun S17 => some S17) else (some S15)
def pmA (F : Nat) (a1 v6 v8 : Int32) (S11 : St) (v12 : Int32) : Option St := bq (fX7_takes F S11 11) fun S13 v14 => if v14 = 0 then pmB a1 v6 v8 v12 S13 0 else bq (fX7_number F S13 0 99) fun S18 v19 => pmB a1 v6 v8 v12 S18 v19
def pmE (F : Nat) (a1 v6 v8 : Int32) (S7 : St) : Option St := bq (fX7_takes F S7 10) fun S9 v10 => if v10 = 0 then pmA F a1 v6 v8 S9 0 else bq (fX7_number F S9 0 99) fun S20 v21 => pmA F a1 v6 v8 S20 v21
def pmD (F : Nat) (a1 v6 : Int32) (S5 : St) : Option St := bq (fX7_number F S5 1 999) fun S7 v8 => pmE F a1 v6 v8 S7
def pmC (F : Nat) (a1 : Int32) (S3 : St) : Option St := if (S3.1 0 20) = 0 then (bv (fX7_goesOn F S3) fun S4 => bq (fX7_number F S4 0 7) fun S5 v6 => pmD F a1 v6 S5) else some S3
theorem partItem_r {F : Nat} {S : St} {a1 : Int32} : fX7_partItem F S a1 = ldi S 1 0 216 fun v1 => if v1 = 20 then putz S 0 20 1 (pmC F a1) else putz S 0 20 0 (pmC F a1) := rfl
theorem pmB_bad {M : St} {a1 v6 v8 v12 v16 : Int32} (h : M.1 0 20 = 1) : pmB a1 v6 v8 v12 M v16 = some M := by
  unfold pmB
  rw [h, if_neg (by decide)]
theorem pmA_bad {F : Nat} {M : St} {a1 v6 v8 v12 : Int32} (h : M.1 0 20 = 1) : pmA F a1 v6 v8 M v12 = some M := by
  unfold pmA
  rw [takes_bad h, bq_e, if_pos rfl, pmB_bad h]
theorem pmE_bad {F : Nat} {M : St} {a1 v6 v8 : Int32} (h : M.1 0 20 = 1) : pmE F a1 v6 v8 M = some M := by
  unfold pmE
  rw [takes_bad h, bq_e, if_pos rfl, pmA_bad h]
theorem pmD_bad {F : Nat} {M : St} {a1 v6 : Int32} (h : M.1 0 20 = 1) : pmD F a1 v6 M = some M := by
  unfold pmD
  rw [number_bad h, bq_e, pmE_bad h]
theorem perhapsE {F : Nat} (hF : 200 ≤ F) {X0 M0 : St} {T : Nat → Nat} {n j0 : Nat} {X M : St} {j i tk v : Nat} {HX : Nat → Hs} {HM : Hs} {w c p : Nat} {a : Int32} (ha : a = nI w) (hw : w < 13) (hc : 23 ≤ c ∧ c ≤ 33) (hp : p < 20) (hup : ∀ (S : St) (x : Nat), ShX S.1 23 (HX 0) → ShX (si S c p (nI x)).1 23 (HX x)) (h : Ps X0 M0 T n j0 X M j i tk v (HX 0) HM) :
    (∃ X1 M1 x j1 i1 tk1 v1, x ≤ 99 ∧ fX5_takePerhaps F w c 20 X (nI p) 99 = some (X1, 1) ∧ (∀ K : St → Int32 → Option St, (bq (fX7_takes F M a) fun S v => if v = 0 then K S 0 else bq (fX7_number F S 0 99) fun S' v' => K S' v') = K M1 (nI x)) ∧ Ps X0 M0 T n j0 X1 M1 j1 i1 tk1 v1 (HX x) HM) ∨
    (∃ X1 M1 j1 i1 tk1 v1, fX5_takePerhaps F w c 20 X (nI p) 99 = some (X1, 0) ∧ (∀ K : St → Int32 → Option St, (bq (fX7_takes F M a) fun S v => if v = 0 then K S 0 else bq (fX7_number F S 0 99) fun S' v' => K S' v') = K (si M1 0 20 1) 0) ∧ Ps X0 M0 T n j0 X1 M1 j1 i1 tk1 v1 (HX 0) HM) := by
  unfold fX5_takePerhaps
  rcases wordE hF h ha hw with ⟨r1, r2, r3⟩ | ⟨r1, r2⟩
  · obtain ⟨X1, M1, j1, i1, tk1, v1, a1, a2, a3⟩ := advE hF h.pb
    rw [if_pos r1, r2, bv_e, if_neg (by decide), a1, bv_e]
    have r3' := r3 M1 a2
    rcases numE (F := F) a3 (a := 0) (b := 99) (lo := 0) (hi := 99) rfl rfl (by decide) (by decide) with ⟨b1, b2, b3, b4, b5⟩ | ⟨b1, b2⟩
    · obtain ⟨X2, M2, j2, i2, tk2, v2, c1, c2, c3⟩ := advE hF (a3.pb.upX (X' := si X1 c p (nI v1)) (fun d hd => si_o (by omega)) rfl (hup X1 v1 a3.2.2.2.1))
      refine Or.inl ⟨X2, M2, v1, j2, i2, tk2, v2, b2, ?_, fun K => ?_, c3⟩
      · rw [b3, bv_e, if_neg (by decide), if_neg (nI_pos (by omega)), if_pos (show nI p < Int32.ofNat 20 from nI_lt hp (by decide)), sti_e hp (by decide), b4, c1, bv_e]
      · rw [r3', bq_e, if_neg (by decide), b5 M2 c2, bq_e]
    · refine Or.inr ⟨X1, M1, j1, i1, tk1, v1, ?_, fun K => ?_, a3⟩
      · rw [b1, bv_e, if_pos rfl]
      · rw [r3', bq_e, if_neg (by decide), b2, bq_e]
  · refine Or.inl ⟨X, M, 0, j, i, tk, v, by decide, ?_, fun K => ?_, h⟩
    · rcases r1 with q | ⟨q1, q2⟩
      · rw [if_neg q]
      · rw [if_pos q1, q2, bv_e, if_pos rfl]
    · rw [r2, bq_e, if_pos rfl]
      rfl
theorem shx_wei {H : Hs} {k1 k2 k3 : Nat} (S : St) (x : Nat) (h : ShX S.1 23 (addP H k1 k2 k3 0 0)) : ShX (si S 27 (H 0 0) (nI x)).1 23 (addP H k1 k2 k3 x 0) := by
  unfold ShX at *
  rw [aP_n, addP_6, aP_b, aP_c, aP_7 (f := 7) (by decide), aP_7 (f := 8) (by decide), aP_7 (f := 9) (by decide), aP_7 (f := 10) (by decide), aP_7 (f := 11) (by decide), aP_7 (f := 12) (by decide)] at *
  simp only [si_a, aP_1, aP_2, aP_3, aP_4, aP_5] at *
  generalize bits (H 6) (H 0 0) + 2 ^ H 0 0 = B at *
  obtain ⟨g1, g2, g3, g4, g5, g6, g7, g8, g9, g10, g11⟩ := h
  refine ⟨by grind, by grind, by grind, ?_, by grind, by grind, by grind, by grind, by grind, by grind, by grind⟩
  intro p hp
  have g4p := g4 p hp
  clear g1 g2 g3 g4 g5 g6 g7 g8 g9 g10 g11
  grind
theorem shx_wear {H : Hs} {k1 k2 k3 k4 : Nat} (S : St) (x : Nat) (h : ShX S.1 23 (addP H k1 k2 k3 k4 0)) : ShX (si S 28 (H 0 0) (nI x)).1 23 (addP H k1 k2 k3 k4 x) := by
  unfold ShX at *
  rw [aP_n, addP_6, aP_b, aP_c, aP_7 (f := 7) (by decide), aP_7 (f := 8) (by decide), aP_7 (f := 9) (by decide), aP_7 (f := 10) (by decide), aP_7 (f := 11) (by decide), aP_7 (f := 12) (by decide)] at *
  simp only [si_a, aP_1, aP_2, aP_3, aP_4, aP_5] at *
  generalize bits (H 6) (H 0 0) + 2 ^ H 0 0 = B at *
  obtain ⟨g1, g2, g3, g4, g5, g6, g7, g8, g9, g10, g11⟩ := h
  refine ⟨by grind, by grind, by grind, ?_, by grind, by grind, by grind, by grind, by grind, by grind, by grind⟩
  intro p hp
  have g4p := g4 p hp
  clear g1 g2 g3 g4 g5 g6 g7 g8 g9 g10 g11
  grind
theorem partE {F : Nat} (hF : 200 ≤ F) {X0 M0 : St} {T : Nat → Nat} {n j0 j : Nat} {X M : St} {i tk v k : Nat} {H : Hs} (hw : Wf H) (h : Ps X0 M0 T n j0 X M j i tk v H H) (hk : k < 7) : Out X0 M0 T n j (fX5_takePart F X (nI k)) (fX7_partItem F M (nI k)) := by
  have hn := hw.1
  have h6 : ∀ q, q < H 0 0 → H 6 q ≤ 1 := fun q hq => (hw.2.2.2.1 q hq).2.2.2.2.2
  unfold fX5_takePart
  rw [partItem_r, h.2.2.2.1.1, ldi_l (c := 1) 0 (by decide) (by decide), h.2.2.2.2.1.1]
  by_cases c : H 0 0 = 20
  · rw [if_neg (show ¬ nI (H 0 0) < (20 : Int32) from by rw [c]; decide), if_pos (show nI (H 0 0) = (20 : Int32) from by rw [c]; rfl), putz_e (by decide)]
    unfold pmC
    rw [si_h, if_neg (by decide)]
    exact out_bad' h
  · have hlt : H 0 0 < 20 := by omega
    rw [if_pos (show nI (H 0 0) < (20 : Int32) from nI_lt (b := 20) hlt (by decide)), if_neg (show ¬ nI (H 0 0) = (20 : Int32) from fun q => c ((nI_eq (b := 20) (by omega) (by decide)).mp q)), putz_e (by decide), si_v h.2.1]
    unfold pmC
    rw [if_pos h.2.1]
    obtain ⟨X1, M1, j1, i1, tk1, v1, a1, a2, a3⟩ := advE hF h.pb'
    rw [a1, bv_e, a2, bv_e]
    rcases numE (F := F) a3 (a := 0) (b := 7) (lo := 0) (hi := 7) rfl rfl (by decide) (by decide) with ⟨b1, b2, b3, b4, b5⟩ | ⟨b1, b2⟩
    · obtain ⟨X2, M2, j2, i2, tk2, v2, c1, c2, c3⟩ := advE hF a3.pb
      rw [b3, bv_e, if_neg (by decide), pl_e, b4, c1, bv_e, b5 M2 c2, bq_e]
      unfold pmD
      rcases numE (F := F) c3 (a := 1) (b := 999) (lo := 1) (hi := 999) rfl rfl (by decide) (by decide) with ⟨d1, d2, d3, d4, d5⟩ | ⟨d1, d2⟩
      · obtain ⟨X3, q1, q2, q3, q4⟩ := addPart_ok (b := 23) (k1 := k) (k2 := v1) (k3 := v2) (k4 := 0) c3.2.2.2.1 hlt h6
        have q1' : fX4_addPart 23 X2 (nI k) (nI v1) (nI v2) 0 = some (X3, nI (H 0 0)) := q1
        obtain ⟨X4, M3, j3, i3, tk3, v3, e1, e2, e3⟩ := advE hF (c3.pb.upX (X' := X3) (fun d hd => q3 d (by omega)) q4 q2)
        rw [d3, bv_e, if_neg (by decide), d4, q1', bq_e, e1, bv_e, d5 M3 e2, bq_e]
        unfold pmE
        rcases perhapsE hF (w := 10) (c := 27) (p := H 0 0) (a := 10) (HX := fun x => addP H k v1 v2 x 0) rfl (by decide) (by decide) hlt shx_wei e3 with ⟨X5, M4, x, j4, i4, tk4, v4, f0, f1, f2, f3⟩ | ⟨X5, M4, j4, i4, tk4, v4, f1, f2, f3⟩
        · rw [f1, bq_e, if_neg (by decide), f2 (pmA F (nI k) (nI v1) (nI v2))]
          unfold pmA
          rcases perhapsE hF (w := 11) (c := 28) (p := H 0 0) (a := 11) (HX := fun y => addP H k v1 v2 x y) rfl (by decide) (by decide) hlt shx_wear f3 with ⟨X6, M5, y, j5, i5, tk5, v5, g0, g1, g2, g3⟩ | ⟨X6, M5, j5, i5, tk5, v5, g1, g2, g3⟩
          · rw [g1, bq_e, if_neg (by decide), g2 (pmB (nI k) (nI v1) (nI v2) (nI x))]
            unfold pmB
            obtain ⟨M6, l1, l2, l3, l4⟩ := comes_ok (k1 := k) (k2 := v1) (k3 := v2) (k4 := x) (k5 := y) g3.2.2.2.2.1 hlt ⟨hw.2.1, hw.2.2.1⟩
            rw [if_pos g3.2.1, l1, bv_e]
            exact out_ok (addP_wf hw hlt hk (by omega) ⟨d1, d2⟩ f0 g0) (g3.upM l3 l4 l2)
          · rw [g1, bq_e, if_pos rfl, g2 (pmB (nI k) (nI v1) (nI v2) (nI x)), pmB_bad si_h]
            exact out_bad' g3
        · rw [f1, bq_e, if_pos rfl, f2 (pmA F (nI k) (nI v1) (nI v2)), pmA_bad si_h]
          exact out_bad' f3
      · rw [d1, bv_e, if_pos rfl, d2, bq_e, pmE_bad si_h]
        exact out_bad' c3
    · rw [b1, bv_e, if_pos rfl, b2, bq_e, pmD_bad si_h]
      exact out_bad' a3
-- a camp
theorem shx_gr {S : St} {H : Hs} {c m x : Nat} (hc : c < H 0 2) (hm : m < 12) (h : ShX S.1 23 H) : ShX (si S 32 (12 * c + m) (nI x)).1 23 (up2 H 11 (12 * c + m) x) := by
  unfold ShX at *; rw [up2_n (f' := 6) (by decide)]; simp only [si_a, up2]; grind
theorem shm_gr {S : St} {H : Hs} {c m x : Nat} (hw : Wf H) (hc : c < H 0 2) (hm : m < 12) (h : ShM (S.1 1) H) : ShM ((si S 1 (138 + 13 * c + m) (nI x)).1 1) (up2 H 11 (12 * c + m) x) := by
  have hb : H 0 0 ≤ 20 ∧ H 0 1 ≤ 6 ∧ H 0 2 ≤ 6 := ⟨hw.1, hw.2.1, hw.2.2.1⟩
  unfold ShM at *; simp only [si_a, up2]; grind
theorem wf_gr {H : Hs} {c m x : Nat} (hw : Wf H) (hm : m < 12) (hx : x ≤ 999) : Wf (up2 H 11 (12 * c + m) x) := by
  unfold Wf at *; simp only [up2]; grind
theorem up2_c {H : Hs} {k x : Nat} : up2 H 11 k x 0 2 = H 0 2 := by simp [up2]
theorem grassL {F : Nat} (hF : 200 ≤ F) {X0 M0 : St} {T : Nat → Nat} {n j0 c : Nat} (hc6 : c < 6) : ∀ (G G' m : Nat) (X M : St) (j i v : Nat) (H : Hs), m < 12 → 13 - m < G → 13 - m < G' → Wf H → H 0 2 = c + 1 → v ≤ 999 → Ps X0 M0 T n j0 X M j i 2 v H H → Out X0 M0 T n j0 (fX5_takeGrass_L23 F (nI c) (fun S3 => if (S3.1 44 3) = (2) then (some (S3, 0)) else (some (S3, 1))) G X (nI m)) (fX7_campItem_L60 F G' M 1 (nI m)) := by
  intro G
  induction G with
  | zero => intro G' m X M j i v H h1 h2; omega
  | succ G ih =>
    intro G' m X M j i v H h1 h2 h3 hw hc hv h
    obtain ⟨G', rfl⟩ : ∃ g, G' = g + 1 := ⟨G' - 1, by omega⟩
    have t3 : X.1 44 3 = 2 := h.1.2.2.1
    rw [fX5_takeGrass_L23, fX7_campItem_L60, if_neg (show ¬ (12 : Int32) ≤ nI m from nI_ge (b := 12) h1 (by decide)), if_neg (show ¬ (12 : Int32) ≤ nI m from nI_ge (b := 12) h1 (by decide)), if_pos t3, if_neg (by decide), ldi_l (c := 1) 2 (by decide) (by decide), h.2.2.2.2.1.2.2.1, hc]
    rcases numE (F := F) h (a := 0) (b := 999) (lo := 0) (hi := 999) rfl rfl (by decide) (by decide) with ⟨b1, b2, b3, b4, b5⟩ | ⟨b1, b2⟩
    · obtain ⟨X2, M2, j2, i2, tk2, v2, c1, c2, c3⟩ := advE hF (h.pb.upX (X' := si X 32 (12 * c + m) (nI v)) (fun d hd => si_o (by omega)) rfl (shx_gr (by omega) h1 h.2.2.2.1))
      rw [b3, bv_e, if_neg (by decide), ix12, sti_e (by omega) (by decide), b4, c1, bv_e, b5 M2 c2, bq_e, show nI (c + 1) - (1 : Int32) = nI c from nI_pred c, ix13, sti_e (by omega) (by decide)]
      simp only [pl_e]
      rw [nI_1]
      have c4 := c3.upM (M' := si M2 1 (138 + 13 * c + m) (nI v)) (fun d hd => si_o hd) rfl (shm_gr hw (by omega) h1 c3.2.2.2.2.1)
      have hw4 := wf_gr (c := c) hw h1 hv
      have hc4 : up2 H 11 (12 * c + m) v 0 2 = c + 1 := up2_c.trans hc
      generalize up2 H 11 (12 * c + m) v = H4 at c4 hw4 hc4
      generalize si M2 1 (138 + 13 * c + m) (nI v) = M4 at c4
      rw [if_pos c4.2.1]
      have t3' := c4.1.2.2.1
      by_cases c12 : m + 1 = 12
      · obtain ⟨g, rfl⟩ : ∃ g, G = g + 1 := ⟨G - 1, by omega⟩
        obtain ⟨g', rfl⟩ : ∃ g', G' = g' + 1 := ⟨G' - 1, by omega⟩
        have m60 : ∀ r : Int32, fX7_campItem_L60 F (g' + 1) M4 r (nI (m + 1)) = some M4 := fun r => by
          rw [fX7_campItem_L60, c12, if_pos (show (12 : Int32) ≤ nI 12 from by decide)]
        rw [m60, m60, fX5_takeGrass_L23, c12, if_pos (show (12 : Int32) ≤ nI 12 from by decide)]
        rw [show (if M4.1 0 18 = 2 then some M4 else some M4) = some M4 from by by_cases q : M4.1 0 18 = 2 <;> simp [q]]
        by_cases q2 : tk2 = 2
        · rw [if_pos (show X2.1 44 3 = 2 from by rw [t3', q2]; rfl)]
          refine ⟨X2, M4, rfl, c4.2.2.1, Or.inl ⟨rfl, ⟨i2, by have := c4.1.1.1; have := c4.1.1.2.1; have := c4.1.2.1; omega, c4.1.2.2.2.1, c4.1.2.2.2.2.1⟩, Or.inr ⟨c4.2.1, ?_⟩⟩⟩
          rcases c4.1.2.2.2.2.2 with ⟨z, -⟩ | ⟨z, -⟩ | ⟨z, z1, z2, z3, z4⟩ | ⟨z, -⟩ | ⟨z, -⟩
          · omega
          · omega
          · by_cases z5 : v2 ≤ 999
            · rw [(z3 z5).1]; decide
            · rw [z4 (by omega)]; decide
          · omega
          · omega
        · have tk4 : tk2 ≤ 4 := by
            rcases c4.1.2.2.2.2.2 with ⟨z, -⟩ | ⟨z, -⟩ | ⟨z, -⟩ | ⟨z, -⟩ | ⟨z, -⟩ <;> omega
          rw [if_neg (show ¬ X2.1 44 3 = 2 from by rw [t3']; exact fun q => q2 ((nI_eq (b := 2) (by omega) (by decide)).mp q))]
          exact out_ok hw4 c4
      · have m0 : ∀ g', fX7_campItem_L60 F (g' + 1) M4 0 (nI (m + 1)) = some M4 := fun g' => by
          rw [fX7_campItem_L60, if_neg (show ¬ (12 : Int32) ≤ nI (m + 1) from nI_ge (b := 12) (by omega) (by decide)), if_pos rfl]
        obtain ⟨g, rfl⟩ : ∃ g, G = g + 1 := ⟨G - 1, by omega⟩
        obtain ⟨g', rfl⟩ : ∃ g', G' = g' + 1 := ⟨G' - 1, by omega⟩
        by_cases q2 : tk2 = 2
        · subst q2
          by_cases q3 : v2 ≤ 999
          · have m18 : M4.1 0 18 = 2 := by
              rcases c4.1.2.2.2.2.2 with ⟨z, -⟩ | ⟨z, -⟩ | ⟨z, z1, z2, z3, z4⟩ | ⟨z, -⟩ | ⟨z, -⟩
              · omega
              · omega
              · exact (z3 q3).1
              · omega
              · omega
            rw [if_pos m18]
            exact ih (g' + 1) (m + 1) X2 M4 j2 i2 v2 H4 (by omega) (by omega) (by omega) hw4 hc4 q3 c4
          · have z' : M4.1 0 18 = 4 ∧ X2.1 44 5 = nI v2 ∧ v2 ≤ 1000 := by
              rcases c4.1.2.2.2.2.2 with ⟨z, -⟩ | ⟨z, -⟩ | ⟨z, z1, z2, z3, z4⟩ | ⟨z, -⟩ | ⟨z, -⟩
              · omega
              · omega
              · exact ⟨z4 (by omega), z2, z1⟩
              · omega
              · omega
            rw [if_neg (by rw [z'.1]; decide), m0, fX5_takeGrass_L23, if_neg (show ¬ (12 : Int32) ≤ nI (m + 1) from nI_ge (b := 12) (by omega) (by decide)), if_pos (show X2.1 44 3 = 2 from t3')]
            have bn : fX5_isNumber X2 0 999 = some 0 := by
              unfold fX5_isNumber
              rw [if_pos (show X2.1 44 3 = 2 from t3'), z'.2.1, show fX6_within X2 (nI v2) 0 999 = some 0 from within_f (inb_n (c := v2) (lo := 0) (hi := 999) (by omega) (by omega) (by decide) (by decide)), bv_e, if_pos rfl]
            rw [bn, bv_e, if_pos rfl]
            exact ⟨X2, M4, rfl, c4.2.2.1, Or.inl ⟨rfl, ⟨i2, by have := c4.1.1.1; have := c4.1.1.2.1; have := c4.1.2.1; omega, c4.1.2.2.2.1, c4.1.2.2.2.2.1⟩, Or.inr ⟨c4.2.1, by rw [z'.1]; decide⟩⟩⟩
        · have z' : ¬ M4.1 0 18 = 2 ∧ tk2 ≤ 4 := by
            rcases c4.1.2.2.2.2.2 with ⟨z, z1⟩ | ⟨z, z1, z2, z3, z4⟩ | ⟨z, -⟩ | ⟨z, z1⟩ | ⟨z, z1⟩
            · exact ⟨by rw [z1]; decide, by omega⟩
            · refine ⟨?_, by omega⟩
              by_cases z5 : v2 < 13
              · rw [(z3 z5).1]; decide
              · rw [z4 (by omega)]; decide
            · exact absurd z q2
            · exact ⟨by rw [z1]; decide, by omega⟩
            · exact ⟨by rw [z1]; decide, by omega⟩
          rw [if_neg z'.1, m0, fX5_takeGrass_L23, if_neg (show ¬ (12 : Int32) ≤ nI (m + 1) from nI_ge (b := 12) (by omega) (by decide)), if_neg (show ¬ X2.1 44 3 = 2 from by rw [t3']; exact fun q => q2 ((nI_eq (b := 2) (by omega) (by decide)).mp q))]
          exact out_ok hw4 c4
    · exfalso
      have : fX5_isNumber X 0 999 = some 1 := by
        unfold fX5_isNumber
        rcases h.1.2.2.2.2.2 with ⟨z, -⟩ | ⟨z, -⟩ | ⟨z, z1, z2, z3, z4⟩ | ⟨z, -⟩ | ⟨z, -⟩
        · omega
        · omega
        · rw [if_pos t3, z2, show fX6_within X (nI v) 0 999 = some 1 from within_t (inb_of (k := v) (lo := 0) (hi := 999) (by omega) hv (by decide)), bv_e, if_neg (by decide)]
        · omega
        · omega
      rw [this] at b1
      exact absurd b1 (by decide)
theorem addC_c {H : Hs} {k : Nat} : addC H k 0 2 = H 0 2 + 1 := by simp [addC]
theorem campE {F : Nat} (hF : 200 ≤ F) {X0 M0 : St} {T : Nat → Nat} {n j0 j : Nat} {X M : St} {i tk v : Nat} {H : Hs} (hw : Wf H) (h : Ps X0 M0 T n j0 X M j i tk v H H) : Out X0 M0 T n j (fX5_takeCamp F X) (fX7_campItem F M) := by
  have hn := hw.2.2.1
  unfold fX5_takeCamp fX7_campItem
  simp only [pl_e]
  rw [h.2.2.2.1.2.2.1, ldi_l (c := 1) 2 (by decide) (by decide), h.2.2.2.2.1.2.2.1]
  by_cases c : H 0 2 = 6
  · rw [if_neg (show ¬ nI (H 0 2) < (6 : Int32) from by rw [c]; decide), if_pos (show nI (H 0 2) = (6 : Int32) from by rw [c]; rfl), putz_e (by decide), si_h, if_neg (by decide)]
    exact out_bad' h
  · have hlt : H 0 2 < 6 := by omega
    rw [if_pos (show nI (H 0 2) < (6 : Int32) from nI_lt (b := 6) hlt (by decide)), if_neg (show ¬ nI (H 0 2) = (6 : Int32) from fun q => c ((nI_eq (b := 6) (by omega) (by decide)).mp q)), putz_e (by decide), si_v h.2.1, if_pos h.2.1]
    obtain ⟨X1, M1, j1, i1, tk1, v1, a1, a2, a3⟩ := advE hF h.pb'
    rw [a1, bv_e, a2, bv_e]
    rcases numE (F := F) a3 (a := 0) (b := 99) (lo := 0) (hi := 99) rfl rfl (by decide) (by decide) with ⟨b1, b2, b3, b4, b5⟩ | ⟨b1, b2⟩
    · obtain ⟨X2, q1, q2, q3, q4⟩ := addCamp_ok (F := F) (by omega) (b := 23) (k := v1) a3.2.2.2.1 hlt
      obtain ⟨X3, M2, j2, i2, tk2, v2, c1, c2, c3⟩ := advE hF (a3.pb.upX (X' := X2) (fun d hd => q3 d (by omega) (by omega) (by omega)) q4 q2)
      obtain ⟨M3, l1, l2, l3, l4⟩ := comesCamp_ok (F := F) (by omega) (k := v1) c3.2.2.2.2.1 hlt ⟨hw.1, hw.2.1⟩
      have d3 := c3.upM l3 l4 l2
      have hw3 := addC_wf hw hlt b2
      rw [b3, bv_e, if_neg (by decide), b4, q1, bq_e, c1, bv_e, b5 M2 c2, bq_e, if_pos c3.2.1, l1, bv_e]
      rcases wordE hF d3 (a := 12) (w := 12) rfl (by decide) with ⟨r1, r2, r3⟩ | ⟨r1, r2⟩
      · obtain ⟨X4, M4, j4, i4, tk4, v4, f1, f2, f3⟩ := advE hF d3.pb
        rw [if_pos r1, r2, bv_e, if_neg (by decide), r3 M4 f2, bq_e]
        unfold fX5_takeGrass
        rw [f1, bv_e, if_neg (nI_pos (by omega))]
        rcases numE (F := F) f3 (a := 0) (b := 999) (lo := 0) (hi := 999) rfl rfl (by decide) (by decide) with ⟨g1, g2, g3, g4, g5⟩ | ⟨g1, g2⟩
        · rw [g3, bv_e, if_neg (by decide)]
          have tk2 : tk4 = 2 := by
            refine Decidable.byContradiction (fun q => ?_)
            have tl : tk4 ≤ 4 := by
              rcases f3.1.2.2.2.2.2 with ⟨z, -⟩ | ⟨z, -⟩ | ⟨z, -⟩ | ⟨z, -⟩ | ⟨z, -⟩ <;> omega
            have := isNumber_no (X := X4) (a := 0) (b := 999) (by rw [f3.1.2.2.1]; exact fun z => q ((nI_eq (b := 2) (by omega) (by decide)).mp z))
            rw [this] at g3
            exact absurd g3 (by decide)
          subst tk2
          obtain ⟨X5, M5, o1, o2, o3⟩ := grassL hF (c := H 0 2) hlt F F 0 X4 M4 j4 i4 v4 (addC H v1) (by decide) (by omega) (by omega) hw3 addC_c g2 f3
          refine ⟨X5, M5, o1, o2, ?_⟩
          rcases o3 with ⟨o4, o5⟩ | ⟨o4, o5⟩
          · refine Or.inl ⟨?_, o5⟩
            rw [pl_e]
            refine (congrArg (fun z => bq z fun S7 v8 => if v8 = 0 then some (S7, 0) else some (S7, 1)) o4).trans ?_
            rw [bq_e, if_pos rfl]
          · refine Or.inr ⟨?_, o5⟩
            rw [pl_e]
            refine (congrArg (fun z => bq z fun S7 v8 => if v8 = 0 then some (S7, 0) else some (S7, 1)) o4).trans ?_
            rw [bq_e, if_neg (by decide)]
        · obtain ⟨F', rfl⟩ : ∃ f, F = f + 2 := ⟨F - 2, by omega⟩
          have hM : fX7_campItem_L60 (F' + 2) (F' + 2) M4 1 0 = some (si (si M4 0 20 1) 1 (138 + 13 * H 0 2 + 0) 0) := by
            rw [fX7_campItem_L60, if_neg (by decide), if_neg (by decide), ldi_l (c := 1) 2 (by decide) (by decide), f3.2.2.2.2.1.2.2.1, g2, bq_e, addC_c, show nI (H 0 2 + 1) - (1 : Int32) = nI (H 0 2) from nI_pred _, show (0 : Int32) = nI 0 from rfl, ix13, sti_e (by omega) (by decide)]
            simp only [pl_e]
            rw [if_neg (by rw [si_o (by decide), si_h]; decide), fX7_campItem_L60, if_neg (by decide), if_pos nI_0]
          rw [g1, bv_e, if_pos rfl, bq_e, if_pos rfl, hM]
          exact out_bad f3 (fun d hd => by rw [si_o (by omega), si_o (by omega)]) (fun s hs => by rw [si_o (by decide), si_s (by omega)]) (by rw [si_o (by decide), si_h]) rfl
      · have hM : fX7_campItem_L60 F F M3 0 0 = some M3 := by
          obtain ⟨F', rfl⟩ : ∃ f, F = f + 1 := ⟨F - 1, by omega⟩
          rw [fX7_campItem_L60, if_neg (by decide), if_pos rfl]
        rw [r2, bq_e, hM]
        rcases r1 with q | ⟨q5, q6⟩
        · rw [if_neg q]
          exact out_ok hw3 d3
        · rw [if_pos q5, q6, bv_e, if_pos rfl]
          exact out_ok hw3 d3
    · rw [b1, bv_e, if_pos rfl, b2, bq_e, if_neg (by rw [si_h]; decide)]
      exact out_bad' a3
