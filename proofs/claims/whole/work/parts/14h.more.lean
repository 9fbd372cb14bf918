-- a new beast, a new camp
def addB (H : Hs) (k : Nat) : Hs := fun f i => if f = 0 ∧ i = 1 then H 0 1 + 1 else if f = 9 ∧ i = H 0 1 then k else H f i
def addC (H : Hs) (k : Nat) : Hs := fun f i => if f = 0 ∧ i = 2 then H 0 2 + 1 else if f = 10 ∧ i = H 0 2 then k else if f = 11 ∧ 12 * H 0 2 ≤ i ∧ i < 12 * H 0 2 + 12 then 0 else H f i
theorem addB_6 {H : Hs} {k : Nat} : addB H k 6 = H 6 := by funext i; simp [addB]
theorem addC_6 {H : Hs} {k : Nat} : addC H k 6 = H 6 := by funext i; simp [addC]
theorem addB_wf {H : Hs} {k : Nat} (h : Wf H) (hn : H 0 1 < 6) (h1 : 1 ≤ k ∧ k ≤ 999) : Wf (addB H k) := by
  unfold Wf at *; simp only [addB]; grind
theorem addC_wf {H : Hs} {k : Nat} (h : Wf H) (hn : H 0 2 < 6) (h1 : k ≤ 99) : Wf (addC H k) := by
  unfold Wf at *
  obtain ⟨g1, g2, g3, g4, g5, g6, g7, g8, g9, g10⟩ := h
  simp only [addC]
  refine ⟨by grind, by grind, by grind, by grind, by grind, by grind, by grind, by grind, ?_, by grind⟩
  intro c m hc hm
  have := g9 c m
  grind
theorem addBeast_ok {X : St} {b : Nat} {H : Hs} {k : Nat} (h : ShX X.1 b H) (hn : H 0 1 < 6) : ∃ X1, fX4_addBeast b X (nI k) = some (X1, nI (H 0 1)) ∧ ShX X1.1 b (addB H k) ∧ (∀ d, d ≠ b → d ≠ 7 + b → X1.1 d = X.1 d) ∧ X1.2 = X.2 := by
  refine ⟨si (si X (7 + b) (H 0 1) (nI k)) b 9 (nI (H 0 1 + 1)), ?_, ?_, ?_, rfl⟩
  · unfold fX4_addBeast
    rw [h.2.1, if_pos (show nI (H 0 1) < (6 : Int32) from nI_lt (b := 6) hn (by decide)), sti_e hn (by decide), pl_e, si_o (S := X) (by omega), h.2.1, nI_1, si_h, show (1 : Int32) = nI 1 from rfl, pk_sub (by omega)]
    rfl
  · unfold ShX at *
    rw [addB_6]
    simp only [si_a, addB]
    obtain ⟨g1, g2, g3, g4, g5, g6, g7, g8, g9, g10, g11⟩ := h
    refine ⟨by grind, by grind, by grind, by grind, by grind, by grind, by grind, by grind, by grind, by grind, by grind⟩
  · intro d h1 h2
    rw [si_o h1, si_o h2]
theorem st_beast {F : Nat} : s_beast Rel F := by
  intro X M a1 hR
  show Ag _ _
  unfold fX6_beast fX7_beast
  simp only [bq_eta]
  obtain ⟨⟨H, hS⟩, -⟩ := id hR
  refine guard (by decide) (by decide) (find0 hR) (fun c1 => ?_)
  obtain ⟨k, hk1, hk, rfl⟩ := inb_nI (lo := 1) (hi := 999) c1 (by decide) (by decide)
  have hn := hS.1.2.1
  rw [hS.2.1.2.1, ldi_l 1 (by decide) (by decide), hS.2.2.2.1]
  by_cases c : H 0 1 = 6
  · rw [if_neg (show ¬ nI (H 0 1) < (6 : Int32) from by rw [c]; decide), if_pos (show nI (H 0 1) = (6 : Int32) from by rw [c]; rfl)]
    exact find1 hR
  · have hlt : H 0 1 < 6 := by omega
    rw [if_pos (show nI (H 0 1) < (6 : Int32) from nI_lt (b := 6) hlt (by decide)), if_neg (show ¬ nI (H 0 1) = (6 : Int32) from fun q => c ((nI_eq (b := 6) (by omega) (by decide)).mp q))]
    obtain ⟨X1, e1, s1, o1, t1⟩ := addBeast_ok (k := k) hS.2.1 hlt
    rw [e1, ldi_l 1 (by decide) (by decide), hS.2.2.2.1, show (132 : Int32) = nI 132 from rfl, nI_add, sti_e (by omega) (by decide), ldi_l 1 (by decide) (by decide), si_s (by omega), hS.2.2.2.1, sti_l 1 (by decide) (by decide), ldi_l 1 (by decide) (by decide), si_h, nI_1, show (1 : Int32) = nI 1 from rfl, pk_sub (by omega)]
    refine ag_of rfl rfl (rel_now hR (fun d hd => o1 d (by omega) (by omega)) t1 (fun d hd => by rw [si_o hd, si_o hd]) rfl ⟨_, addB_wf hS.1 hlt ⟨hk1, hk⟩, s1, ?_⟩)
    have hm := hS.2.2
    have hb : H 0 0 ≤ 20 ∧ H 0 1 ≤ 6 ∧ H 0 2 ≤ 6 := ⟨hS.1.1, hS.1.2.1, hS.1.2.2.1⟩
    unfold ShM at *
    simp only [si_a, addB]
    obtain ⟨g1, g2, g3, g4, g5, g6, g7, g8, g9, g10⟩ := hm
    refine ⟨by grind, by grind, by grind, by grind, by grind, by grind, by grind, by grind, by grind, by grind⟩
/-- a row is 0 from a place on -/
def fillz (S : St) (c base : Nat) : Nat → St
  | 0 => S
  | n + 1 => si (fillz S c base n) c (base + n) 0
theorem fillz_a {S : St} {c base n d j : Nat} : (fillz S c base n).1 d j = if d = c ∧ base ≤ j ∧ j < base + n then 0 else S.1 d j := by
  induction n with
  | zero =>
    rw [if_neg (by omega)]
    rfl
  | succ n ih =>
    show (si _ _ _ _).1 d j = _
    rw [si_a, ih]
    grind
theorem fillz_b {S : St} {c base n : Nat} : (fillz S c base n).2 = S.2 := by
  induction n with
  | zero => rfl
  | succ n ih => exact ih
theorem fillz_o {S : St} {c base n d : Nat} (h : d ≠ c) : (fillz S c base n).1 d = S.1 d := by
  funext j
  rw [fillz_a, if_neg (fun q => h q.1)]
theorem addCamp_L {b v : Nat} {J : St → Option (St × Int32)} {S : St} (hv : v < 6) : ∀ (G m : Nat), m ≤ 12 → 12 - m < G → fX4_addCamp_L25 b (nI v) J G (fillz S (9 + b) (12 * v) m) (nI m) = J (fillz S (9 + b) (12 * v) 12) := by
  intro G
  induction G with
  | zero => intro m h1 h2; omega
  | succ G ih =>
    intro m h1 h2
    rw [fX4_addCamp_L25]
    by_cases hm : m = 12
    · subst hm
      rw [if_pos (show (12 : Int32) ≤ nI 12 from by decide)]
    · rw [if_neg (show ¬ (12 : Int32) ≤ nI m from nI_ge (b := 12) (by omega) (by decide)), ix12, sti_e (by omega) (by decide), pl_e, nI_1]
      exact ih (m + 1) (by omega) (by omega)
theorem addCamp_ok {F : Nat} (hF : 100 ≤ F) {X : St} {b : Nat} {H : Hs} {k : Nat} (h : ShX X.1 b H) (hn : H 0 2 < 6) : ∃ X1, fX4_addCamp F b X (nI k) = some (X1, nI (H 0 2)) ∧ ShX X1.1 b (addC H k) ∧ (∀ d, d ≠ b → d ≠ 8 + b → d ≠ 9 + b → X1.1 d = X.1 d) ∧ X1.2 = X.2 := by
  refine ⟨si (fillz (si X (8 + b) (H 0 2) (nI k)) (9 + b) (12 * H 0 2) 12) b 11 (nI (H 0 2 + 1)), ?_, ?_, ?_, ?_⟩
  · unfold fX4_addCamp
    rw [h.2.2.1, if_pos (show nI (H 0 2) < (6 : Int32) from nI_lt (b := 6) hn (by decide)), pl_e, sti_e hn (by decide), pl_e]
    have := addCamp_L (b := b) (v := H 0 2) (J := fun S3 => pl (si S3 b 11 (S3.1 b 11 + 1)) fun S4 => some (S4, nI (H 0 2))) (S := si X (8 + b) (H 0 2) (nI k)) hn F 0 (by decide) (by omega)
    rw [show fillz (si X (8 + b) (H 0 2) (nI k)) (9 + b) (12 * H 0 2) 0 = si X (8 + b) (H 0 2) (nI k) from rfl] at this
    rw [show (0 : Int32) = nI 0 from rfl, this, pl_e, fillz_o (by omega), si_o (by omega), h.2.2.1, nI_1]
  · unfold ShX at *
    rw [addC_6]
    simp only [si_a, fillz_a, addC]
    obtain ⟨g1, g2, g3, g4, g5, g6, g7, g8, g9, g10, g11⟩ := h
    refine ⟨by grind, by grind, by grind, by grind, by grind, by grind, by grind, by grind, by grind, ?_, by grind⟩
    intro c m hc hm
    have := g10 c m
    have z := nI_0
    clear g1 g2 g4 g5 g6 g7 g8 g9 g10 g11
    grind
  · intro d h1 h2 h3
    rw [si_o h1, fillz_o h3, si_o h2]
  · rw [si_b, fillz_b, si_b]
theorem comesCamp_L {v : Nat} {J : St → Option St} {S : St} (hv : v < 6) : ∀ (G m : Nat), m ≤ 12 → 12 - m < G → fX7_comesCamp_L16 (nI (138 + 13 * v)) J G (fillz S 1 (138 + 13 * v) m) (nI m) = J (fillz S 1 (138 + 13 * v) 12) := by
  intro G
  induction G with
  | zero => intro m h1 h2; omega
  | succ G ih =>
    intro m h1 h2
    rw [fX7_comesCamp_L16]
    by_cases hm : m = 12
    · subst hm
      rw [if_pos (show (12 : Int32) ≤ nI 12 from by decide)]
    · rw [if_neg (show ¬ (12 : Int32) ≤ nI m from nI_ge (b := 12) (by omega) (by decide)), nI_add, sti_e (by omega) (by decide), pl_e, nI_1]
      exact ih (m + 1) (by omega) (by omega)
theorem comesCamp_ok {F : Nat} (hF : 100 ≤ F) {M : St} {H : Hs} {k : Nat} (h : ShM (M.1 1) H) (hn : H 0 2 < 6) (hb : H 0 0 ≤ 20 ∧ H 0 1 ≤ 6) : ∃ M1, fX7_comesCamp F M (nI k) = some M1 ∧ ShM (M1.1 1) (addC H k) ∧ (∀ d, d ≠ 1 → M1.1 d = M.1 d) ∧ M1.2 = M.2 := by
  refine ⟨si (si (fillz M 1 (138 + 13 * H 0 2) 12) 1 (138 + 13 * H 0 2 + 12) (nI k)) 1 2 (nI (H 0 2 + 1)), ?_, ?_, ?_, ?_⟩
  · unfold fX7_comesCamp
    rw [ldi_l 2 (by decide) (by decide), h.2.2.1, show (138 : Int32) = nI 138 from rfl, show (13 : Int32) = nI 13 from rfl, pk_mul, nI_add, pl_e, pl_e]
    have := comesCamp_L (v := H 0 2) (S := M) (J := fun S3 => sti S3 1 (nI (138 + 13 * H 0 2) + 12) 216 (nI k) fun S4 => ldi S4 1 2 216 fun v5 => sti S4 1 2 216 (v5 + 1) fun S6 => some S6) hn F 0 (by decide) (by omega)
    rw [show fillz M 1 (138 + 13 * H 0 2) 0 = M from rfl] at this
    rw [show (0 : Int32) = nI 0 from rfl, this, show (12 : Int32) = nI 12 from rfl, nI_add, sti_e (by omega) (by decide), ldi_l 2 (by decide) (by decide), sti_l 2 (by decide) (by decide), si_s (by omega), fillz_a, if_neg (by omega), h.2.2.1, nI_1]
  · unfold ShM at *
    simp only [si_a, fillz_a, addC]
    obtain ⟨g1, g2, g3, g4, g5, g6, g7, g8, g9, g10⟩ := h
    refine ⟨by grind, by grind, by grind, by grind, by grind, by grind, by grind, by grind, ?_, by grind⟩
    intro c m hc hm
    have := g9 c m
    have z := nI_0
    clear g1 g2 g4 g5 g6 g7 g8 g9 g10
    grind
  · intro d hd
    rw [si_o hd, si_o hd, fillz_o hd]
  · rw [si_b, si_b, fillz_b]
theorem st_camp {F : Nat} (hF : 100 ≤ F) : s_camp Rel F := by
  intro X M a1 hR
  show Ag _ _
  unfold fX6_camp fX7_camp
  simp only [bq_eta]
  obtain ⟨⟨H, hS⟩, -⟩ := id hR
  refine guard (by decide) (by decide) (find0 hR) (fun c1 => ?_)
  obtain ⟨k, -, hk, rfl⟩ := inb_nI (lo := 0) (hi := 99) c1 (by decide) (by decide)
  have hn := hS.1.2.2.1
  rw [hS.2.1.2.2.1, ldi_l 2 (by decide) (by decide), hS.2.2.2.2.1]
  by_cases c : H 0 2 = 6
  · rw [if_neg (show ¬ nI (H 0 2) < (6 : Int32) from by rw [c]; decide), if_pos (show nI (H 0 2) = (6 : Int32) from by rw [c]; rfl)]
    exact find1 hR
  · have hlt : H 0 2 < 6 := by omega
    rw [if_pos (show nI (H 0 2) < (6 : Int32) from nI_lt (b := 6) hlt (by decide)), if_neg (show ¬ nI (H 0 2) = (6 : Int32) from fun q => c ((nI_eq (b := 6) (by omega) (by decide)).mp q))]
    obtain ⟨X1, e1, s1, o1, t1⟩ := addCamp_ok hF (k := k) hS.2.1 hlt
    obtain ⟨M1, e2, s2, o2, t2⟩ := comesCamp_ok hF (k := k) hS.2.2 hlt ⟨hS.1.1, hS.1.2.1⟩
    rw [e1, e2, bv_e, ldi_l 2 (by decide) (by decide), s2.2.2.1]
    refine ag_of rfl ?_ (rel_now hR (fun d hd => o1 d (by omega) (by omega) (by omega)) t1 o2 t2 ⟨_, addC_wf hS.1 hlt hk, s1, s2⟩)
    rw [show addC H k 0 2 = H 0 2 + 1 from by simp [addC], show (1 : Int32) = nI 1 from rfl, pk_sub (by omega)]
    rfl
