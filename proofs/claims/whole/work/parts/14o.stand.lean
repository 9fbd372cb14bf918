-- sums over the parts
def sm (f : Nat → Int32) : Nat → Int32
  | 0 => 0
  | n + 1 => sm f n + f n
def fpu (H : Hs) (s : Nat) (p : Nat) : Int32 := if H 2 p = s then vpush H p else 0
def fho (H : Hs) (s : Nat) (p : Nat) : Int32 := if H 2 p = s then vhold H p else 0
def vpu (H : Hs) (s : Nat) : Int32 := sm (fpu H s) (H 0 0)
def vow (H : Hs) (s : Nat) : Int32 := sm (fho H s) (H 0 0)
def vwd (H : Hs) (s : Nat) : Int32 := if s = (H 7 1 + 4) % 8 then nI (H 7 0) else if s = H 7 1 then nI (H 7 0) / 2 else nI (H 7 0) / 4
def vst (H : Hs) (s : Nat) : Int32 := vpu H s + vwd H s
def vhd (H : Hs) (s : Nat) : Int32 := vow H s + (vow H ((s + 1) % 8) + vow H ((s + 7) % 8)) / 2
def vsp (H : Hs) (s : Nat) : Int32 := vhd H s - vst H s
theorem sideN : ∀ s, s < 8 → (nI s + 1) - (nI s + 1) / 8 * 8 = nI ((s + 1) % 8) ∧ (nI s + 7) - (nI s + 7) / 8 * 8 = nI ((s + 7) % 8) ∧ ((nI s + 8) - 1) - ((nI s + 8) - 1) / 8 * 8 = nI ((s + 7) % 8) := by decide
theorem sideF : ∀ s, s < 8 → ∀ f, f < 8 → (nI f + 4) - (nI f + 4) / 8 * 8 = nI ((f + 4) % 8) ∧ (nI s + 8 - nI f) - (nI s + 8 - nI f) / 8 * 8 = nI ((s + 8 - f) % 8) := by decide
theorem sideT : ∀ s, s < 8 → ∀ f, f < 8 → ((s + 8 - f) % 8 = 4 ↔ s = (f + 4) % 8) ∧ ((s + 8 - f) % 8 = 0 ↔ s = f) := by decide
-- the model's
theorem strainL {M : St} {H : Hs} (hw : Wf H) (hm : ShM (M.1 1) H) {s : Nat} (hs : s < 8) {J : Int32 → Option Int32} : ∀ (G p : Nat), p ≤ H 0 0 → H 0 0 - p < G → fX7_strain_L4 M (nI s) J G (sm (fpu H s) p) (nI p) = J (vpu H s) := by
  have hn := hw.1
  intro G
  induction G with
  | zero => intro p h1 h2; omega
  | succ G ih =>
    intro p h1 h2
    rw [fX7_strain_L4, ldi_l (c := 1) 0 (by decide) (by decide), hm.1]
    by_cases hp : p = H 0 0
    · subst hp
      rw [if_pos (nI_le (Nat.le_refl _) (by omega))]
      rfl
    · have hp' : p < H 0 0 := by omega
      have h2p := (hw.2.2.2.1 p hp').2.1
      have e1 : fX7_has M (nI p) 1 = some (nI (H 2 p)) := hasM hw hm hp' (w := 1) (by decide)
      rw [if_neg (nI_ge hp' (by omega)), e1, bv_e, pushM hw hm hp']
      simp only [bv_e, pl_e]
      rw [if2 (nI_eq (a := H 2 p) (b := s) (by omega) (by omega)), nI_1]
      have := ih (p + 1) (by omega) (by omega)
      rw [sm] at this
      unfold fpu at this ⊢
      by_cases c : H 2 p = s
      · rw [if_pos c] at this ⊢
        exact this
      · rw [if_neg c] at this ⊢
        exact this
theorem ownL {M : St} {H : Hs} (hw : Wf H) (hm : ShM (M.1 1) H) {s : Nat} (hs : s < 8) : ∀ (G p : Nat), p ≤ H 0 0 → H 0 0 - p < G → fX7_ownHold_L4 M (nI s) G (sm (fho H s) p) (nI p) = some (vow H s) := by
  have hn := hw.1
  intro G
  induction G with
  | zero => intro p h1 h2; omega
  | succ G ih =>
    intro p h1 h2
    rw [fX7_ownHold_L4, ldi_l (c := 1) 0 (by decide) (by decide), hm.1]
    by_cases hp : p = H 0 0
    · subst hp
      rw [if_pos (nI_le (Nat.le_refl _) (by omega))]
      rfl
    · have hp' : p < H 0 0 := by omega
      have h2p := (hw.2.2.2.1 p hp').2.1
      have e1 : fX7_has M (nI p) 1 = some (nI (H 2 p)) := hasM hw hm hp' (w := 1) (by decide)
      rw [if_neg (nI_ge hp' (by omega)), e1, bv_e, holdsM hw hm hp']
      simp only [bv_e, pl_e]
      rw [if2 (nI_eq (a := H 2 p) (b := s) (by omega) (by omega)), nI_1]
      have := ih (p + 1) (by omega) (by omega)
      rw [sm] at this
      unfold fho at this ⊢
      by_cases c : H 2 p = s
      · rw [if_pos c] at this ⊢
        exact this
      · rw [if_neg c] at this ⊢
        exact this
theorem strainM {F : Nat} (hF : 100 ≤ F) {M : St} {H : Hs} (hw : Wf H) (hm : ShM (M.1 1) H) {s : Nat} (hs : s < 8) : fX7_strain F M (nI s) = some (vst H s) := by
  have hn := hw.1
  have h71 : H 7 1 ≤ 7 := hw.2.2.2.2.1 1 (by decide)
  unfold fX7_strain
  rw [pl_e, show (0 : Int32) = sm (fpu H s) 0 from rfl]
  have := strainL hw hm hs (J := fun v1 => ldi M 1 4 216 fun v2 => pl (nI s + 8 - v2 - (nI s + 8 - v2) / 8 * 8) fun v3 => if v3 = 4 then (ldi M 1 3 216 fun v6 => some (v1 + v6)) else (if v3 = 0 then (ldi M 1 3 216 fun v5 => some (v1 + v5 / 2)) else ldi M 1 3 216 fun v4 => some (v1 + v4 / 4))) F 0 (by omega) (by omega)
  refine Eq.trans this ?_
  have l3 : ∀ k : Int32 → Option Int32, ldi M 1 3 216 k = k (nI (H 7 0)) := fun k => by rw [ldi_l (c := 1) 3 (by decide) (by decide), hm.2.2.2.2.1 0 (by decide)]
  simp only [l3]
  rw [ldi_l (c := 1) 4 (by decide) (by decide), hm.2.2.2.2.1 1 (by decide), pl_e, (sideF s hs (H 7 1) (by omega)).2, if2 (lit_eq (a := (s + 8 - H 7 1) % 8) (n := 4) (by omega) (by decide)), if2 (lit_eq (a := (s + 8 - H 7 1) % 8) (n := 0) (by omega) (by decide)), if2 (sideT s hs (H 7 1) (by omega)).1, if2 (sideT s hs (H 7 1) (by omega)).2]
  unfold vst vwd
  by_cases c1 : s = (H 7 1 + 4) % 8
  · rw [if_pos c1, if_pos c1]
  · rw [if_neg c1, if_neg c1]
    by_cases c2 : s = H 7 1
    · rw [if_pos c2, if_pos c2]
    · rw [if_neg c2, if_neg c2]
theorem ownM {F : Nat} (hF : 100 ≤ F) {M : St} {H : Hs} (hw : Wf H) (hm : ShM (M.1 1) H) {s : Nat} (hs : s < 8) : fX7_ownHold F M (nI s) = some (vow H s) := by
  have hn := hw.1
  unfold fX7_ownHold
  exact ownL hw hm hs F 0 (by omega) (by omega)
theorem holdM {F : Nat} (hF : 100 ≤ F) {M : St} {H : Hs} (hw : Wf H) (hm : ShM (M.1 1) H) {s : Nat} (hs : s < 8) : fX7_holdOf F M (nI s) = some (vhd H s) := by
  unfold fX7_holdOf
  obtain ⟨e1, e2, -⟩ := sideN s hs
  rw [e1, e2, ownM hF hw hm hs, ownM hF hw hm (s := (s + 1) % 8) (by omega), ownM hF hw hm (s := (s + 7) % 8) (by omega), bv_e, bv_e, bv_e]
  rfl
theorem spareM {F : Nat} (hF : 100 ≤ F) {M : St} {H : Hs} (hw : Wf H) (hm : ShM (M.1 1) H) {s : Nat} (hs : s < 8) : fX7_spare F M (nI s) = some (vsp H s) := by
  unfold fX7_spare
  rw [holdM hF hw hm hs, strainM hF hw hm hs, bv_e, bv_e]
  rfl
-- the class's
theorem FrX.kept {X X' : St} {H : Hs} (h : FrX X H) (e : ∀ d, d ≠ 35 → d ≠ 36 → X'.1 d = X.1 d) : FrX X' H := by
  unfold FrX
  rw [e 1 (by decide) (by decide), e 2 (by decide) (by decide), e 3 (by decide) (by decide), e 4 (by decide) (by decide), e 5 (by decide) (by decide), e 6 (by decide) (by decide), e 7 (by decide) (by decide), e 34 (by decide) (by decide)]
  exact h
theorem fill8_L {c : Nat} {S : St} : ∀ (G i : Nat), i ≤ 8 → 8 - i < G → fJ7_fill_53178_L5 c 8 0 (nI 8) G (fillz S c 0 i) (nI i) = some (fillz S c 0 8) := by
  intro G
  induction G with
  | zero => intro i h1 h2; omega
  | succ G ih =>
    intro i h1 h2
    rw [fJ7_fill_53178_L5]
    by_cases hi : i = 8
    · subst hi
      rw [if_pos (nI_le (Nat.le_refl _) (by decide))]
    · rw [if_neg (nI_ge (by omega) (by decide)), sti_e (by omega) (by decide), pl_e, nI_1]
      have := ih (i + 1) (by omega) (by omega)
      rw [show fillz S c 0 (i + 1) = si (fillz S c 0 i) c (0 + i) 0 from rfl, Nat.zero_add] at this
      exact this
def Gat (X : St) (H : Hs) (p : Nat) : Prop := ∀ s, s < 8 → X.1 35 s = sm (fpu H s) p ∧ X.1 36 s = sm (fho H s) p
theorem gatherL {H : Hs} (hw : Wf H) : ∀ (G p : Nat) (X : St), FrX X H → Gat X H p → p ≤ H 0 0 → H 0 0 - p < G → ∃ X1, fX0_gather_L18 G X (nI p) = some X1 ∧ Gat X1 H (H 0 0) ∧ (∀ d, d ≠ 35 → d ≠ 36 → X1.1 d = X.1 d) ∧ X1.2 = X.2 := by
  have hn := hw.1
  intro G
  induction G with
  | zero => intro p X hx hg h1 h2; omega
  | succ G ih =>
    intro p X hx hg h1 h2
    rw [fX0_gather_L18, hx.1]
    by_cases hp : p = H 0 0
    · rw [if_pos (nI_le (by omega) (by omega))]
      exact ⟨X, rfl, by rw [← hp]; exact hg, fun _ _ _ => rfl, rfl⟩
    · have hp' : p < H 0 0 := by omega
      have h2p := (hw.2.2.2.1 p hp').2.1
      rw [if_neg (nI_ge hp' (by omega)), ldi_e (by omega) (by decide), (hx.2.1 p hp').2.1, ldi_e h2p (by decide), pushX hw hx hp', bv_e, sti_e h2p (by decide)]
      have hx1 : FrX (si X 35 (H 2 p) (X.1 35 (H 2 p) + vpush H p)) H := hx.kept (fun d h35 _ => si_o h35)
      rw [ldi_e (by omega) (by decide), (hx1.2.1 p hp').2.1, ldi_e h2p (by decide), holdsX hw hx1 hp', bv_e, sti_e h2p (by decide), pl_e, nI_1]
      have hg' : Gat (si (si X 35 (H 2 p) (X.1 35 (H 2 p) + vpush H p)) 36 (H 2 p) ((si X 35 (H 2 p) (X.1 35 (H 2 p) + vpush H p)).1 36 (H 2 p) + vhold H p)) H (p + 1) := by
        intro s hs
        obtain ⟨g1, g2⟩ := hg s hs
        rw [si_o (show (35 : Nat) ≠ 36 by decide), si_o (show (36 : Nat) ≠ 35 by decide), sm, sm]
        unfold fpu fho
        by_cases c : H 2 p = s
        · rw [if_pos c, if_pos c, c, si_h, si_h, g1, g2]
          exact ⟨rfl, rfl⟩
        · rw [if_neg c, if_neg c, si_s (fun q => c q.symm), si_s (fun q => c q.symm), g1, si_o (show (36 : Nat) ≠ 35 by decide), g2]
          constructor
          · show sm (fpu H s) p = sm (fpu H s) p + 0
            grind
          · show sm (fho H s) p = sm (fho H s) p + 0
            grind
      obtain ⟨X1, e1, e2, e3, e4⟩ := ih (p + 1) _ (hx1.kept (fun d _ h36 => si_o h36)) hg' (by omega) (by omega)
      refine ⟨X1, e1, e2, fun d h35 h36 => ?_, e4⟩
      rw [e3 d h35 h36, si_o h36, si_o h35]
theorem gatherX {F : Nat} (hF : 100 ≤ F) {X : St} {H : Hs} (hw : Wf H) (hx : FrX X H) : ∃ X1, fX0_gather F X = some X1 ∧ FrX X1 H ∧ Gat X1 H (H 0 0) ∧ (∀ d, d ≠ 35 → d ≠ 36 → X1.1 d = X.1 d) ∧ X1.2 = X.2 := by
  have hn := hw.1
  unfold fX0_gather fJ7_fill_53178
  rw [pl_e, show (Int32.ofNat 8) = nI 8 from rfl]
  have f1 := fill8_L (c := 35) (S := X) F 0 (by omega) (by omega)
  rw [show fillz X 35 0 0 = X from rfl] at f1
  have f2 := fill8_L (c := 36) (S := fillz X 35 0 8) F 0 (by omega) (by omega)
  rw [show fillz (fillz X 35 0 8) 36 0 0 = fillz X 35 0 8 from rfl] at f2
  rw [show (nI 0) = (0 : Int32) from rfl] at f1 f2
  rw [f1, bv_e, pl_e, f2, bv_e]
  have hg : Gat (fillz (fillz X 35 0 8) 36 0 8) H 0 := by
    intro s hs
    constructor
    · rw [fillz_o (by decide), fillz_a, if_pos ⟨rfl, by omega, by omega⟩]; rfl
    · rw [fillz_a, if_pos ⟨rfl, by omega, by omega⟩]; rfl
  obtain ⟨X1, e1, e2, e3, e4⟩ := gatherL hw F 0 (fillz (fillz X 35 0 8) 36 0 8) (hx.kept (fun d h35 h36 => by rw [fillz_o h36, fillz_o h35])) hg (by omega) (by omega)
  have hk : ∀ d, d ≠ 35 → d ≠ 36 → X1.1 d = X.1 d := fun d h35 h36 => by rw [e3 d h35 h36, fillz_o h36, fillz_o h35]
  exact ⟨X1, e1, hx.kept hk, e2, hk, by rw [e4, fillz_b, fillz_b]⟩
theorem holdX {X : St} {H : Hs} (hg : Gat X H (H 0 0)) {s : Nat} (hs : s < 8) : fX0_hold X (nI s) = some (vhd H s) := by
  unfold fX0_hold
  obtain ⟨e1, -, e3⟩ := sideN s hs
  rw [e1, e3, ldi_e (by omega) (by decide), ldi_e (by omega) (by decide), pl_e, ldi_e (by omega) (by decide), (hg s hs).2, (hg ((s + 1) % 8) (by omega)).2, (hg ((s + 7) % 8) (by omega)).2]
  rfl
theorem strainX {X : St} {H : Hs} (hw : Wf H) (hx : FrX X H) (hg : Gat X H (H 0 0)) {s : Nat} (hs : s < 8) : fX0_strain X (nI s) = some (vst H s) := by
  have h71 : H 7 1 ≤ 7 := hw.2.2.2.2.1 1 (by decide)
  unfold fX0_strain
  rw [hx.2.2.2.1, hx.2.2.2.2.1, (sideF s hs (H 7 1) (by omega)).1, ldi_e (by omega) (by decide), ldi_e (by omega) (by decide), (hg s hs).1, if2 (nI_eq (a := s) (b := (H 7 1 + 4) % 8) (by omega) (by omega)), if2 (nI_eq (a := s) (b := H 7 1) (by omega) (by omega))]
  unfold vst vwd
  by_cases c1 : s = (H 7 1 + 4) % 8
  · rw [if_pos c1, if_pos c1]; rfl
  · rw [if_neg c1, if_neg c1]
    by_cases c2 : s = H 7 1
    · rw [if_pos c2, if_pos c2]; rfl
    · rw [if_neg c2, if_neg c2]; rfl
theorem spareX {X : St} {H : Hs} (hw : Wf H) (hx : FrX X H) (hg : Gat X H (H 0 0)) {s : Nat} (hs : s < 8) : fX0_spare X (nI s) = some (vsp H s) := by
  unfold fX0_spare
  rw [holdX hg hs, strainX hw hx hg hs, bv_e, bv_e]
  rfl
