-- THE TEXT: items
def Fr (X0 M0 X M : St) : Prop := (∀ d, d < 23 ∨ 33 < d → d ≠ 44 → X.1 d = X0.1 d) ∧ X.2 = X0.2 ∧ (∀ d, 1 < d → M.1 d = M0.1 d) ∧ (∀ s, s < 16 → M.1 0 s = M0.1 0 s) ∧ M.2 = M0.2
def Pb (X0 M0 : St) (T : Nat → Nat) (n j0 : Nat) (X M : St) (j : Nat) (HX HM : Hs) : Prop := TB T n j X M ∧ M.1 0 20 = 0 ∧ Fr X0 M0 X M ∧ ShX X.1 23 HX ∧ ShM (M.1 1) HM ∧ j0 ≤ j
def Ps (X0 M0 : St) (T : Nat → Nat) (n j0 : Nat) (X M : St) (j i tk v : Nat) (HX HM : Hs) : Prop := Tok T n X M j i tk v ∧ M.1 0 20 = 0 ∧ Fr X0 M0 X M ∧ ShX X.1 23 HX ∧ ShM (M.1 1) HM ∧ j0 ≤ j ∧ (tk ≠ 0 → j0 < j)
theorem Ps.pb {X0 M0 : St} {T : Nat → Nat} {n j0 : Nat} {X M : St} {j i tk v : Nat} {HX HM : Hs} (h : Ps X0 M0 T n j0 X M j i tk v HX HM) : Pb X0 M0 T n j0 X M j HX HM := ⟨h.1.1, h.2.1, h.2.2.1, h.2.2.2.1, h.2.2.2.2.1, h.2.2.2.2.2.1⟩
theorem Ps.pb' {X0 M0 : St} {T : Nat → Nat} {n j0 : Nat} {X M : St} {j i tk v : Nat} {HX HM : Hs} (h : Ps X0 M0 T n j0 X M j i tk v HX HM) : Pb X0 M0 T n j X M j HX HM := ⟨h.1.1, h.2.1, h.2.2.1, h.2.2.2.1, h.2.2.2.2.1, Nat.le_refl _⟩
/-- the class's stock changes ahead of a step -/
theorem Pb.upX {X0 M0 : St} {T : Nat → Nat} {n j0 : Nat} {X M X' : St} {j : Nat} {HX HM HX' : Hs} (h : Pb X0 M0 T n j0 X M j HX HM) (e : ∀ d, d < 23 ∨ 33 < d → X'.1 d = X.1 d) (e2 : X'.2 = X.2) (hs : ShX X'.1 23 HX') : Pb X0 M0 T n j0 X' M j HX' HM := by
  obtain ⟨h1, h2, h3, h4, h5, h6⟩ := h
  exact ⟨h1.kept h1.2.1 (e 45 (by decide)) (by rw [e 44 (by decide)]) (by rw [e 44 (by decide)]; exact h1.2.2.2.2.2.1) rfl rfl h1.2.2.2.2.2.2.1 rfl, h2, ⟨fun d hd hd2 => by rw [e d hd]; exact h3.1 d hd hd2, by rw [e2]; exact h3.2.1, h3.2.2⟩, hs, h5, h6⟩
/-- the model's row changes behind a step -/
theorem Ps.upM {X0 M0 : St} {T : Nat → Nat} {n j0 : Nat} {X M M' : St} {j i tk v : Nat} {HX HM HM' : Hs} (h : Ps X0 M0 T n j0 X M j i tk v HX HM) (e : ∀ d, d ≠ 1 → M'.1 d = M.1 d) (e2 : M'.2 = M.2) (hs : ShM (M'.1 1) HM') : Ps X0 M0 T n j0 X M' j i tk v HX HM' := by
  obtain ⟨⟨t1, t2, t3, t4, t5, t6⟩, h2, h3, h4, h5, h6⟩ := h
  have e0 := e 0 (by decide)
  refine ⟨⟨t1.kept t1.2.1 rfl rfl t1.2.2.2.2.2.1 (e 5 (by decide)) (by rw [e0]) (by rw [e0]; exact t1.2.2.2.2.2.2.1) (e 14 (by decide)), t2, t3, t4, by rw [e0]; exact t5, ?_⟩, by rw [e0]; exact h2, ⟨h3.1, h3.2.1, fun d hd => by rw [e d (by omega)]; exact h3.2.2.1 d hd, fun s hs => by rw [e0]; exact h3.2.2.2.1 s hs, by rw [e2]; exact h3.2.2.2.2⟩, h4, hs, h6⟩
  unfold TkP at *
  rw [e0]
  exact t6
theorem advE {F : Nat} (hF : 200 ≤ F) {X0 M0 : St} {T : Nat → Nat} {n j0 : Nat} {X M : St} {j : Nat} {HX HM : Hs} (h : Pb X0 M0 T n j0 X M j HX HM) : ∃ X1 M1 j1 i1 tk1 v1, fX5_step F X = some X1 ∧ fX7_goesOn F M = some M1 ∧ Ps X0 M0 T n j0 X1 M1 j1 i1 tk1 v1 HX HM := by
  obtain ⟨h1, h2, h3, h4, h5, h6⟩ := h
  obtain ⟨X1, M1, j1, i1, tk1, v1, a1, a2, a3, a4, a5, s1, s2, s3, s4, s5⟩ := stepE hF h1
  refine ⟨X1, M1, j1, i1, tk1, v1, a1, a2, a3, by rw [s4 20 (by omega)]; exact h2, ⟨fun d hd hd2 => by rw [s1 d hd2]; exact h3.1 d hd hd2, by rw [s2]; exact h3.2.1, fun d hd => by rw [s3 d (by omega)]; exact h3.2.2.1 d hd, fun s hs => by rw [s4 s (by omega)]; exact h3.2.2.2.1 s hs, by rw [s5]; exact h3.2.2.2.2⟩, h4.kept (fun k hk => s1 _ (by omega)), by rw [s3 1 (by decide)]; exact h5, by omega, fun q => by have := a5 q; omega⟩
theorem number_no {F : Nat} {M : St} {a b : Int32} (h : M.1 0 20 = 0 → ¬ M.1 0 18 = 2) : fX7_number F M a b = some (si M 0 20 1, 0) := by
  unfold fX7_number
  simp only [pl_e]
  rw [putz_e (by decide)]
  by_cases c : M.1 0 20 = 0
  · rw [if_pos c, if_neg (h c)]
  · rw [if_neg c]
theorem number_bad {F : Nat} {M : St} {a b : Int32} (h : M.1 0 20 = 1) : fX7_number F M a b = some (M, 0) := by
  rw [number_no (fun q => absurd (h.symm.trans q) (by decide)), si_v h]
theorem takes_no {F : Nat} {M : St} {a : Int32} (h : M.1 0 20 = 0 → M.1 0 18 = 1 → ¬ M.1 0 19 = a) : fX7_takes F M a = some (M, 0) := by
  unfold fX7_takes
  simp only [pl_e]
  rw [if_pos trivial, ok_e (show (0 : Int32) &&& 1 = 0 from by decide)]
  by_cases c : M.1 0 20 = 0
  · rw [if_pos c]
    by_cases c2 : M.1 0 18 = 1
    · rw [if_pos c2, if_neg (h c c2)]
    · rw [if_neg c2]
  · rw [if_neg c]
theorem takes_bad {F : Nat} {M : St} {a : Int32} (h : M.1 0 20 = 1) : fX7_takes F M a = some (M, 0) := takes_no (fun q => absurd (h.symm.trans q) (by decide))
theorem takes_yes {F : Nat} {M M1 : St} {a : Int32} (h : M.1 0 20 = 0) (h1 : M.1 0 18 = 1) (h2 : M.1 0 19 = a) (hg : fX7_goesOn F M = some M1) : fX7_takes F M a = some (M1, 1) := by
  unfold fX7_takes
  simp only [pl_e]
  rw [if_pos h, if_pos h1, if_pos h2, if_neg (show ¬ (1 : Int32) = 0 from by decide), hg, bv_e, ok_e (by decide)]
theorem isNumber_no {X : St} {a b : Int32} (h : ¬ X.1 44 3 = 2) : fX5_isNumber X a b = some 0 := by
  unfold fX5_isNumber
  rw [if_neg h]
theorem numE {F : Nat} {X0 M0 : St} {T : Nat → Nat} {n j0 : Nat} {X M : St} {j i tk v : Nat} {HX HM : Hs} (h : Ps X0 M0 T n j0 X M j i tk v HX HM) {a b : Int32} {lo hi : Nat} (ha : a = nI lo) (hb : b = nI hi) (hlo : lo ≤ 999) (hhi : hi ≤ 999) : (lo ≤ v ∧ v ≤ hi ∧ fX5_isNumber X a b = some 1 ∧ X.1 44 5 = nI v ∧ ∀ M1, fX7_goesOn F M = some M1 → fX7_number F M a b = some (M1, nI v)) ∨ (fX5_isNumber X a b = some 0 ∧ fX7_number F M a b = some (si M 0 20 1, 0)) := by
  subst ha hb
  obtain ⟨⟨t1, t2, t3, t4, t5, t6⟩, h2, -⟩ := h
  rcases t6 with ⟨e, m⟩ | ⟨e, c1, c2, c3, c4⟩ | ⟨e, c1, c2, c3, c4⟩ | ⟨e, m⟩ | ⟨e, m⟩
  · rw [e] at t3
    exact Or.inr ⟨isNumber_no (by rw [t3]; decide), number_no (fun _ => by rw [m]; decide)⟩
  · rw [e] at t3
    refine Or.inr ⟨isNumber_no (by rw [t3]; decide), number_no (fun _ => ?_)⟩
    by_cases q : v < 13
    · rw [(c3 q).1]; decide
    · rw [c4 (by omega)]; decide
  · rw [e] at t3
    by_cases q : lo ≤ v ∧ v ≤ hi
    · obtain ⟨m1, m2⟩ := c3 (by omega)
      refine Or.inl ⟨q.1, q.2, ?_, c2, fun M1 hg => ?_⟩
      · unfold fX5_isNumber
        rw [if_pos (show X.1 44 3 = 2 from t3), c2, within_t (inb_of q.1 q.2 (by omega)), bv_e, if_neg (by decide)]
      · unfold fX7_number
        simp only [pl_e]
        rw [if_pos h2, if_pos m1, m2, isInT rfl rfl q.1 q.2 (by omega), bv_e, if_neg (by decide), hg, bv_e]
    · refine Or.inr ⟨?_, ?_⟩
      · unfold fX5_isNumber
        rw [if_pos (show X.1 44 3 = 2 from t3), c2, within_f (inb_n q (by omega) (by omega) (by omega)), bv_e, if_pos rfl]
      · by_cases q2 : v ≤ 999
        · obtain ⟨m1, m2⟩ := c3 q2
          unfold fX7_number
          simp only [pl_e]
          rw [if_pos h2, if_pos m1, m2, isInF rfl rfl q (by omega) (by omega) (by omega), bv_e, if_pos rfl, putz_e (by decide)]
        · exact number_no (fun _ => by rw [c4 (by omega)]; decide)
  · rw [e] at t3
    exact Or.inr ⟨isNumber_no (by rw [t3]; decide), number_no (fun _ => by rw [m]; decide)⟩
  · rw [e] at t3
    exact Or.inr ⟨isNumber_no (by rw [t3]; decide), number_no (fun _ => by rw [m]; decide)⟩
theorem wordE {F : Nat} (hF : 200 ≤ F) {X0 M0 : St} {T : Nat → Nat} {n j0 : Nat} {X M : St} {j i tk v : Nat} {HX HM : Hs} (h : Ps X0 M0 T n j0 X M j i tk v HX HM) {a : Int32} {w : Nat} (ha : a = nI w) (hw : w < 13) : (X.1 44 3 = 1 ∧ fX5_isWord F w X = some 1 ∧ ∀ M1, fX7_goesOn F M = some M1 → fX7_takes F M a = some (M1, 1)) ∨ ((¬ X.1 44 3 = 1 ∨ (X.1 44 3 = 1 ∧ fX5_isWord F w X = some 0)) ∧ fX7_takes F M a = some (M, 0)) := by
  subst ha
  obtain ⟨⟨t1, t2, t3, t4, t5, t6⟩, h2, -⟩ := h
  rcases t6 with ⟨e, m⟩ | ⟨e, c1, c2, c3, c4⟩ | ⟨e, c1, c2, c3, c4⟩ | ⟨e, m⟩ | ⟨e, m⟩
  · rw [e] at t3
    exact Or.inr ⟨Or.inl (by rw [t3]; decide), takes_no (fun _ q => absurd (m.symm.trans q) (by decide))⟩
  · rw [e] at t3
    rcases wordX (F := F) (by omega) t1 t4 t2 hw with ⟨r1, r2⟩ | ⟨r1, r2⟩
    · have ev := (c2 w hw).mp r2
      subst ev
      exact Or.inl ⟨t3, r1, fun M1 hg => takes_yes h2 (c3 hw).1 (c3 hw).2 hg⟩
    · have ev : ¬ w = v := fun q => r2 ((c2 w hw).mpr q)
      refine Or.inr ⟨Or.inr ⟨t3, r1⟩, takes_no (fun _ q => ?_)⟩
      by_cases q2 : v < 13
      · rw [(c3 q2).2]
        exact fun z => ev ((nI_eq (by omega) (by omega)).mp z).symm
      · exact absurd ((c4 (by omega)).symm.trans q) (by decide)
  · rw [e] at t3
    refine Or.inr ⟨Or.inl (by rw [t3]; decide), takes_no (fun _ q => ?_)⟩
    by_cases q2 : v ≤ 999
    · exact absurd ((c3 q2).1.symm.trans q) (by decide)
    · exact absurd ((c4 (by omega)).symm.trans q) (by decide)
  · rw [e] at t3
    exact Or.inr ⟨Or.inl (by rw [t3]; decide), takes_no (fun _ q => absurd (m.symm.trans q) (by decide))⟩
  · rw [e] at t3
    exact Or.inr ⟨Or.inl (by rw [t3]; decide), takes_no (fun _ q => absurd (m.symm.trans q) (by decide))⟩
-- what an item comes to
def Flt (X1 M1 : St) : Prop := (∃ i, i ≤ 120 ∧ X1.1 44 4 = nI i ∧ M1.1 0 16 = nI i) ∧ (M1.1 0 20 = 1 ∨ (M1.1 0 20 = 0 ∧ ¬ M1.1 0 18 = 0 ∧ ¬ M1.1 0 18 = 3))
def Out (X0 M0 : St) (T : Nat → Nat) (n j0 : Nat) (x : Option (St × Int32)) (m : Option St) : Prop := ∃ X1 M1, m = some M1 ∧ Fr X0 M0 X1 M1 ∧ ((x = some (X1, 0) ∧ Flt X1 M1) ∨ (x = some (X1, 1) ∧ ∃ H j1 i1 tk1 v1, Wf H ∧ Ps X0 M0 T n j0 X1 M1 j1 i1 tk1 v1 H H))
theorem out_bad {X0 M0 : St} {T : Nat → Nat} {n j0 j0' : Nat} {X M M1 : St} {j i tk v : Nat} {HX HM : Hs} (h : Ps X0 M0 T n j0' X M j i tk v HX HM) (h1 : ∀ d, 1 < d → M1.1 d = M.1 d) (h0 : ∀ s, s < 20 → M1.1 0 s = M.1 0 s) (h20 : M1.1 0 20 = 1) (h2 : M1.2 = M.2) : Out X0 M0 T n j0 (some (X, 0)) (some M1) := by
  obtain ⟨⟨t1, t2, t3, t4, t5, t6⟩, g2, g3, -⟩ := h
  exact ⟨X, M1, rfl, ⟨g3.1, g3.2.1, fun d hd => by rw [h1 d hd]; exact g3.2.2.1 d hd, fun s hs => by rw [h0 s (by omega)]; exact g3.2.2.2.1 s hs, by rw [h2]; exact g3.2.2.2.2⟩, Or.inl ⟨rfl, ⟨i, by have := t1.1; have := t1.2.1; omega, t4, by rw [h0 16 (by decide)]; exact t5⟩, Or.inl h20⟩⟩
theorem out_bad' {X0 M0 : St} {T : Nat → Nat} {n j0 j0' : Nat} {X M : St} {j i tk v : Nat} {HX HM : Hs} (h : Ps X0 M0 T n j0' X M j i tk v HX HM) : Out X0 M0 T n j0 (some (X, 0)) (some (si M 0 20 1)) := out_bad h (fun d hd => si_o (by omega)) (fun s hs => si_s (by omega)) si_h rfl
theorem out_ok {X0 M0 : St} {T : Nat → Nat} {n j0 : Nat} {X M : St} {j i tk v : Nat} {H : Hs} (hw : Wf H) (h : Ps X0 M0 T n j0 X M j i tk v H H) : Out X0 M0 T n j0 (some (X, 1)) (some M) := ⟨X, M, rfl, h.2.2.1, Or.inr ⟨rfl, H, j, i, tk, v, hw, h⟩⟩
-- draw
theorem shx_draw {S : St} {H : Hs} {x : Nat} (h : ShX S.1 23 H) : ShX (si S 23 8 (nI x)).1 23 (up2 H 8 0 x) := by
  unfold ShX at *; rw [up2_n (f' := 6) (by decide)]; simp only [si_a, up2]; grind
theorem drawE {F : Nat} (hF : 200 ≤ F) {X0 M0 : St} {T : Nat → Nat} {n j0 : Nat} {X M : St} {j : Nat} {H : Hs} (hw : Wf H) (h : Pb X0 M0 T n j0 X M j H H) : Out X0 M0 T n j0 (fX5_takeDraw F X) (bv (fX7_goesOn F M) fun S3 => bq (fX7_number F S3 0 99) fun S4 v5 => sti S4 1 8 216 v5 fun S6 => some S6) := by
  obtain ⟨X1, M1, j1, i1, tk1, v1, a1, a2, a3⟩ := advE hF h
  unfold fX5_takeDraw
  rw [a1, bv_e, a2, bv_e]
  rcases numE (F := F) a3 (a := 0) (b := 99) (lo := 0) (hi := 99) rfl rfl (by decide) (by decide) with ⟨b1, b2, b3, b4, b5⟩ | ⟨b1, b2⟩
  · have hx := shx_draw (x := v1) a3.2.2.2.1
    obtain ⟨X2, M2, j2, i2, tk2, v2, c1, c2, c3⟩ := advE hF (a3.pb.upX (X' := si X1 23 8 (nI v1)) (fun d hd => si_o (by omega)) rfl hx)
    rw [b3, bv_e, if_neg (by decide), pl_e, b4, c1, bv_e, b5 M2 c2, bq_e, sti_l (c := 1) 8 (by decide) (by decide)]
    exact out_ok (wfD hw b2) (c3.upM (fun d hd => si_o hd) rfl (smD hw c3.2.2.2.2.1))
  · rw [b1, bv_e, if_pos rfl, b2, bq_e, sti_l (c := 1) 8 (by decide) (by decide)]
    exact out_bad a3 (fun d hd => by rw [si_o (by omega), si_o (by omega)]) (fun s hs => by rw [si_o (by decide), si_s (by omega)]) (by rw [si_o (by decide), si_h]) rfl
-- a beast
theorem shm_beast {S : St} {H : Hs} {x : Nat} (hw : Wf H) (hn : H 0 1 < 6) (h : ShM (S.1 1) H) : ShM ((si (si S 1 (132 + H 0 1) (nI x)) 1 1 (nI (H 0 1 + 1))).1 1) (addB H x) := by
  have hb : H 0 0 ≤ 20 ∧ H 0 1 ≤ 6 ∧ H 0 2 ≤ 6 := ⟨hw.1, hw.2.1, hw.2.2.1⟩
  unfold ShM at *
  simp only [si_a, addB]
  obtain ⟨g1, g2, g3, g4, g5, g6, g7, g8, g9, g10⟩ := h
  refine ⟨by grind, by grind, by grind, by grind, by grind, by grind, by grind, by grind, by grind, by grind⟩
theorem beastE {F : Nat} (hF : 200 ≤ F) {X0 M0 : St} {T : Nat → Nat} {n j0 j : Nat} {X M : St} {i tk v : Nat} {H : Hs} (hw : Wf H) (h : Ps X0 M0 T n j0 X M j i tk v H H) : Out X0 M0 T n j (fX5_takeBeast F X) (fX7_beastItem F M) := by
  have hn := hw.2.1
  unfold fX5_takeBeast fX7_beastItem
  simp only [pl_e]
  rw [h.2.2.2.1.2.1, ldi_l (c := 1) 1 (by decide) (by decide), h.2.2.2.2.1.2.1]
  by_cases c : H 0 1 = 6
  · rw [if_neg (show ¬ nI (H 0 1) < (6 : Int32) from by rw [c]; decide), if_pos (show nI (H 0 1) = (6 : Int32) from by rw [c]; rfl), putz_e (by decide), si_h, if_neg (by decide)]
    exact out_bad' h
  · have hlt : H 0 1 < 6 := by omega
    rw [if_pos (show nI (H 0 1) < (6 : Int32) from nI_lt (b := 6) hlt (by decide)), if_neg (show ¬ nI (H 0 1) = (6 : Int32) from fun q => c ((nI_eq (b := 6) (by omega) (by decide)).mp q)), putz_e (by decide), si_v h.2.1, if_pos h.2.1]
    obtain ⟨X1, M1, j1, i1, tk1, v1, a1, a2, a3⟩ := advE hF h.pb'
    rw [a1, bv_e, a2, bv_e, ldi_l (c := 1) 1 (by decide) (by decide), a3.2.2.2.2.1.2.1]
    rcases numE (F := F) a3 (a := 1) (b := 999) (lo := 1) (hi := 999) rfl rfl (by decide) (by decide) with ⟨b1, b2, b3, b4, b5⟩ | ⟨b1, b2⟩
    · obtain ⟨X2, q1, q2, q3, q4⟩ := addBeast_ok (k := v1) a3.2.2.2.1 hlt
      obtain ⟨X3, M2, j2, i2, tk2, v2, c1, c2, c3⟩ := advE hF (a3.pb.upX (X' := X2) (fun d hd => q3 d (by omega) (by omega)) q4 q2)
      rw [b3, bv_e, if_neg (by decide), b4, q1, bq_e, c1, bv_e, b5 M2 c2, bq_e, show (132 : Int32) = nI 132 from rfl, nI_add, sti_e (by omega) (by decide), ldi_l (c := 1) 1 (by decide) (by decide), si_s (by omega), c3.2.2.2.2.1.2.1, sti_l (c := 1) 1 (by decide) (by decide), nI_1]
      exact out_ok (addB_wf hw hlt ⟨b1, b2⟩) (c3.upM (fun d hd => by rw [si_o hd, si_o hd]) rfl (shm_beast hw hlt c3.2.2.2.2.1))
    · rw [b1, bv_e, if_pos rfl, b2, bq_e, show (132 : Int32) = nI 132 from rfl, nI_add, sti_e (by omega) (by decide), ldi_l (c := 1) 1 (by decide) (by decide), sti_l (c := 1) 1 (by decide) (by decide)]
      exact out_bad a3 (fun d hd => by rw [si_o (by omega), si_o (by omega), si_o (by omega)]) (fun s hs => by rw [si_o (by decide), si_o (by decide), si_s (by omega)]) (by rw [si_o (by decide), si_o (by decide), si_h]) rfl
