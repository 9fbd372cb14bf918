-- images
theorem cpi_e {β : Type} {S : St} {c0 c1 n : Nat} (h : n < 2 ^ 31) (k : St → Option β) : cpi S c0 n c1 n 0 0 (nI n) k = k (sr S c1 (va_cpy (S.1 c0) (S.1 c1) 0 0 n)) := by
  unfold cpi
  rw [ok_e ⟨by decide, by decide, nI_pos h, by rw [nI_clamp h]; simp, by rw [nI_clamp h]; simp⟩, nI_clamp h]
  rfl
theorem cpy_a {f g : Nat → Int32} {n j : Nat} : va_cpy f g 0 0 n j = if j < n then f j else g j := by
  by_cases h : j < n
  · rw [if_pos h, pk_cpy_in (by omega) (by omega)]; simp
  · rw [if_neg h, pk_cpy_out (by omega)]
theorem sr_c {S : St} {c d j : Nat} {f : Nat → Int32} : (sr S c f).1 d j = if d = c then f j else S.1 d j := by
  rw [sr_a]
  by_cases h : d = c
  · rw [if_pos h, if_pos h]
  · rw [if_neg h, if_neg h]
theorem takeOver_ok {X : St} {b b1 : Nat} {H : Hs} (hd : b + 10 < b1 ∨ b1 + 10 < b) (hw : Wf H) (h : ShX X.1 b1 H) : ∃ X1, fX4_takeOver b b1 X = some X1 ∧ ShX X1.1 b H ∧ (∀ d, d < b ∨ b + 10 < d → X1.1 d = X.1 d) ∧ X1.2 = X.2 := by
  have hb : H 0 0 ≤ 20 ∧ H 0 1 ≤ 6 ∧ H 0 2 ≤ 6 := ⟨hw.1, hw.2.1, hw.2.2.1⟩
  unfold fX4_takeOver
  rw [show (20 : Int32) = nI 20 from rfl, show (5 : Int32) = nI 5 from rfl, show (6 : Int32) = nI 6 from rfl, show (72 : Int32) = nI 72 from rfl, show (3 : Int32) = nI 3 from rfl]
  simp only [pl_e, cpi_e (show 20 < 2 ^ 31 by decide), cpi_e (show 5 < 2 ^ 31 by decide), cpi_e (show 6 < 2 ^ 31 by decide), cpi_e (show 72 < 2 ^ 31 by decide), cpi_e (show 3 < 2 ^ 31 by decide)]
  refine ⟨_, rfl, ?_, ?_, rfl⟩
  · unfold ShX at *
    obtain ⟨g1, g2, g3, g4, g5, g6, g7, g8, g9, g10, g11⟩ := h
    simp (disch := omega) only [sr_n, si_o, sr_k, si_s, si_h]
    simp only [cpy_a]
    refine ⟨g1, g2, g3, fun p hp => ?_, g5, fun j hj => by rw [if_pos hj]; exact g6 j hj, g7, fun j hj => by rw [if_pos (by omega)]; exact g8 j hj, fun c hc => by rw [if_pos (by omega)]; exact g9 c hc, fun c m hc hm => by rw [if_pos (by omega)]; exact g10 c m hc hm, fun j hj => by rw [if_pos hj]; exact g11 j hj⟩
    have hp20 : p < 20 := by omega
    simp only [hp20, if_true]
    exact g4 p hp
  · intro d hd2
    simp (disch := omega) only [sr_n, si_o]
theorem ShM.ext {r r' : Nat → Int32} {H : Hs} (hw : Wf H) (h : ShM r H) (e : ∀ j, j < 216 → r' j = r j) : ShM r' H := by
  have hb : H 0 0 ≤ 20 ∧ H 0 1 ≤ 6 ∧ H 0 2 ≤ 6 := ⟨hw.1, hw.2.1, hw.2.2.1⟩
  unfold ShM at *
  obtain ⟨g1, g2, g3, g4, g5, g6, g7, g8, g9, g10⟩ := h
  refine ⟨by grind, by grind, by grind, ?_, ?_, by grind, ?_, ?_, ?_, ?_⟩
  · intro p w hp hw; rw [e _ (by omega)]; exact g4 p w hp hw
  · intro j hj; rw [e _ (by omega)]; exact g5 j hj
  · intro j hj; rw [e _ (by omega)]; exact g7 j hj
  · intro c hc; rw [e _ (by omega)]; exact g8 c hc
  · intro c m hc hm; rw [e _ (by omega)]; exact g9 c m hc hm
  · intro j hj; rw [e _ (by omega)]; exact g10 j hj
/-- a row's first numbers come to another row -/
def cprow (S : St) (c0 c1 : Nat) : Nat → St
  | 0 => S
  | n + 1 => si (cprow S c0 c1 n) c1 n (S.1 c0 n)
theorem cprow_a {S : St} {c0 c1 n d j : Nat} : (cprow S c0 c1 n).1 d j = if d = c1 ∧ j < n then S.1 c0 j else S.1 d j := by
  induction n with
  | zero => rw [if_neg (by omega)]; rfl
  | succ n ih =>
    show (si _ _ _ _).1 d j = _
    rw [si_a, ih]
    grind
theorem cprow_o {S : St} {c0 c1 n d : Nat} (h : d ≠ c1) : (cprow S c0 c1 n).1 d = S.1 d := by
  funext j
  rw [cprow_a, if_neg (fun q => h q.1)]
theorem cprow_b {S : St} {c0 c1 n : Nat} : (cprow S c0 c1 n).2 = S.2 := by
  induction n with
  | zero => rfl
  | succ n ih => exact ih
theorem image_L {J : St → Option (St × Int32)} {S : St} : ∀ (G i : Nat), i ≤ 216 → 216 - i < G → fX7_image_L2 J G (cprow S 1 2 i) (nI i) = J (cprow S 1 2 216) := by
  intro G
  induction G with
  | zero => intro m h1 h2; omega
  | succ G ih =>
    intro m h1 h2
    rw [fX7_image_L2]
    by_cases hm : m = 216
    · subst hm
      rw [if_pos (show (216 : Int32) ≤ nI 216 from by decide)]
    · rw [if_neg (show ¬ (216 : Int32) ≤ nI m from nI_ge (b := 216) (by omega) (by decide)), ldi_e (by omega) (by decide), sti_e (by omega) (by decide), pl_e, nI_1, cprow_o (by decide)]
      exact ih (m + 1) (by omega) (by omega)
theorem undo_L {J : St → Option (St × Int32)} {S : St} : ∀ (G i : Nat), i ≤ 216 → 216 - i < G → fX7_undo_L16 J G (cprow S 2 1 i) (nI i) = J (cprow S 2 1 216) := by
  intro G
  induction G with
  | zero => intro m h1 h2; omega
  | succ G ih =>
    intro m h1 h2
    rw [fX7_undo_L16]
    by_cases hm : m = 216
    · subst hm
      rw [if_pos (show (216 : Int32) ≤ nI 216 from by decide)]
    · rw [if_neg (show ¬ (216 : Int32) ≤ nI m from nI_ge (b := 216) (by omega) (by decide)), ldi_e (by omega) (by decide), sti_e (by omega) (by decide), pl_e, nI_1, cprow_o (by decide)]
      exact ih (m + 1) (by omega) (by omega)
theorem st_image {F : Nat} (hF : 300 ≤ F) : s_image Rel F := by
  intro X M hR
  show Ag _ _
  obtain ⟨⟨H, hS⟩, h2, h3, h4, h5, h6⟩ := hR
  obtain ⟨X1, e1, s1, o1, t1⟩ := takeOver_ok (b := 12) (b1 := 1) (by decide) hS.1 hS.2.1
  refine ag_of (v := 1) (X1 := si X1 0 3 1) (M1 := si (cprow M 1 2 216) 0 3 1) ?_ ?_ ⟨⟨H, hS.kept (fun k hk => by rw [si_o (by omega), o1 _ (by omega)]) (by rw [si_o (by decide), cprow_o (by decide)])⟩, Or.inr ⟨si_h, si_h, H, hS.1, s1.kept (fun k hk => si_o (by omega)), hS.2.2.ext hS.1 (fun j hj => by rw [si_o (by decide), cprow_a, if_pos ⟨rfl, hj⟩])⟩, h3.kept (by rw [si_o (by decide), o1 _ (by decide)]) (by rw [si_o (by decide), o1 _ (by decide)]) (by rw [si_s (by decide), cprow_o (by decide)]) (by rw [si_o (by decide), cprow_o (by decide)]), h4.kept (fun t ht => by rw [si_o (by omega), o1 _ (by omega)]) (fun t ht => by rw [si_b, t1]) (by rw [si_o (by decide), cprow_o (by decide)]) (by rw [si_o (by decide), cprow_o (by decide)]) (by rw [si_b, cprow_b]), h5.kept (by rw [si_o (by decide), o1 _ (by decide)]) (by rw [si_o (by decide), cprow_o (by decide)]), h6.kept (by rw [si_o (by decide), cprow_o (by decide)])⟩
  · unfold fX6_image
    rw [e1, bv_e, putz_e (by decide)]
  · unfold fX7_image
    rw [pl_e]
    have := image_L (J := fun S1 => putz S1 0 3 1 fun S2 => some (S2, 1)) (S := M) F 0 (by decide) (by omega)
    rw [show cprow M 1 2 0 = M from rfl] at this
    rw [show (0 : Int32) = nI 0 from rfl, this, putz_e (by decide)]
theorem st_undo {F : Nat} (hF : 300 ≤ F) : s_undo Rel F := by
  intro X M hR
  show Ag _ _
  unfold fX6_undo fX7_undo
  simp only [bq_eta]
  rcases hR.2.1 with ⟨e1, e2⟩ | ⟨e1, e2, H, hS⟩
  · rw [e1, e2, if_pos rfl, if_pos rfl]
    exact find3 hR
  · rw [e1, e2, if_neg (by decide), if_neg (by decide)]
    obtain ⟨-, h2, h3, h4, h5, h6⟩ := hR
    obtain ⟨X1, e3, s1, o1, t1⟩ := takeOver_ok (b := 1) (b1 := 12) (by decide) hS.1 hS.2.1
    have := undo_L (J := fun S1 => ldi S1 1 0 216 fun v2 => some (S1, v2)) (S := M) F 0 (by decide) (by omega)
    rw [show cprow M 2 1 0 = M from rfl] at this
    rw [e3, bv_e, pl_e]
    refine Eq.mpr (congrArg (Ag _) (this.trans (ldi_e (n := 0) (by decide) (by decide) _))) ?_
    rw [s1.1]
    have sm : ShM ((cprow M 2 1 216).1 1) H := hS.2.2.ext hS.1 (fun j hj => by rw [cprow_a, if_pos ⟨rfl, hj⟩])
    rw [sm.1]
    exact ag_of rfl rfl ⟨⟨H, hS.1, s1, sm⟩, h2.kept (fun k hk => o1 _ (by omega)) (by rw [o1 _ (by decide)]) (by rw [cprow_o (by decide)]) (cprow_o (by decide)), h3.kept (by rw [o1 _ (by decide)]) (by rw [o1 _ (by decide)]) (by rw [cprow_o (by decide)]) (cprow_o (by decide)), h4.kept (fun t ht => by rw [o1 _ (by omega)]) (fun t ht => by rw [t1]) (cprow_o (by decide)) (cprow_o (by decide)) (by rw [cprow_b]), h5.kept (o1 _ (by decide)) (cprow_o (by decide)), h6.kept (cprow_o (by decide))⟩
