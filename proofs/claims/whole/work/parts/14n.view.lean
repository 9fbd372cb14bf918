-- THE FRAME: what a house as it is supposed is worth, on both sides
def FrX (X : St) (H : Hs) : Prop :=
  X.1 1 0 = nI (H 0 0) ∧
  (∀ p, p < H 0 0 → X.1 2 p = nI (H 1 p) ∧ X.1 3 p = nI (H 2 p) ∧ X.1 4 p = nI (H 3 p) ∧ X.1 5 p = nI (H 4 p) ∧ X.1 6 p = nI (H 5 p)) ∧
  (∀ j, 2 ≤ j → j < 5 → X.1 7 j = nI (H 7 j)) ∧ X.1 34 1 = nI (H 7 0) ∧ X.1 34 2 = nI (H 7 1) ∧ X.1 34 3 = nI (H 8 0) ∧ X.1 34 4 = nI (bits (H 6) (H 0 0))
def vgood (H : Hs) (p : Nat) : Int32 := if H 6 p = 0 then 0 else (nI (H 3 p) * (100 - nI (H 5 p))) / 100
def vpush (H : Hs) (p : Nat) : Int32 := if H 1 p = 1 then (if vgood H p ≤ 0 then 0 else vgood H p + nI (H 7 3) / 4) else if H 1 p = 5 then (if H 6 p = 0 then 0 else if H 2 p = H 7 1 then nI (H 7 0) else 0) else 0
def vdrawn (H : Hs) (p : Nat) : Int32 := (vgood H p * nI (H 8 0)) / 20
def vhold (H : Hs) (p : Nat) : Int32 := if H 1 p = 2 then vdrawn H p else if H 1 p = 3 then (if vgood H p ≤ 0 then 0 else nI (H 4 p)) else if H 1 p = 4 then vgood H p / 10 else if H 1 p = 5 then vgood H p / 10 else if H 1 p = 6 then vdrawn H p - (nI (H 7 2) * vdrawn H p) / 10 else 0
def vfelt (H : Hs) (p : Nat) : Int32 := if H 7 2 < 5 then vgood H p / 5 else vgood H p / 5 / 2
def vwarm (H : Hs) (p : Nat) : Int32 := if H 1 p = 4 then vfelt H p else if H 1 p = 5 then (if 0 ≤ vfelt H p - nI (H 7 0) / 10 then vfelt H p - nI (H 7 0) / 10 else 0) else 0
theorem if2 {α : Type} {c d : Prop} [Decidable c] [Decidable d] (h : c ↔ d) (x y : α) : (if c then x else y) = (if d then x else y) := by
  by_cases hc : c
  · rw [if_pos hc, if_pos (h.mp hc)]
  · rw [if_neg hc, if_neg (fun q => hc (h.mpr q))]
theorem lit_eq {a n : Nat} (ha : a < 2 ^ 31) (hn : n < 2 ^ 31) : nI a = (OfNat.ofNat n : Int32) ↔ a = n := nI_eq ha hn
theorem isHereX {X : St} {H : Hs} (hw : Wf H) (hx : FrX X H) {p : Nat} (hp : p < H 0 0) : fX0_isHere X (nI p) = some (nI (H 6 p)) := by
  have h6 : ∀ q, q < H 0 0 → H 6 q ≤ 1 := fun q hq => (hw.2.2.2.1 q hq).2.2.2.2.2
  unfold fX0_isHere
  rw [hx.2.2.2.2.2.2, bit_there h6 hw.1 hp]
  have := h6 p hp
  rcases (show H 6 p = 0 ∨ H 6 p = 1 by omega) with e | e
  · rw [e]; rfl
  · rw [e]; rfl
theorem goodX {X : St} {H : Hs} (hw : Wf H) (hx : FrX X H) {p : Nat} (hp : p < H 0 0) : fX0_good X (nI p) = some (vgood H p) := by
  have hn := hw.1
  have h6 := (hw.2.2.2.1 p hp).2.2.2.2.2
  unfold fX0_good vgood
  rw [isHereX hw hx hp, bv_e, if2 (lit_eq (a := H 6 p) (n := 0) (by omega) (by decide)), ldi_e (by omega) (by decide), ldi_e (by omega) (by decide), (hx.2.1 p hp).2.2.1, (hx.2.1 p hp).2.2.2.2]
  by_cases c : H 6 p = 0
  · rw [if_pos c, if_pos c]
  · rw [if_neg c, if_neg c]
theorem pushX {X : St} {H : Hs} (hw : Wf H) (hx : FrX X H) {p : Nat} (hp : p < H 0 0) : fX0_pushes X (nI p) = some (vpush H p) := by
  have hn := hw.1
  obtain ⟨h1, h2, -, -, -, h6⟩ := hw.2.2.2.1 p hp
  have h71 : H 7 1 ≤ 7 := hw.2.2.2.2.1 1 (by decide)
  unfold fX0_pushes vpush
  rw [ldi_e (by omega) (by decide), (hx.2.1 p hp).1, if2 (lit_eq (a := H 1 p) (n := 1) (by omega) (by decide)), goodX hw hx hp, bv_e, bv_e, isHereX hw hx hp, bv_e, ldi_l (c := 7) 3 (by decide) (by decide), ldi_e (by omega) (by decide), (hx.2.1 p hp).2.1, hx.2.2.1 3 (by decide) (by decide), hx.2.2.2.1, hx.2.2.2.2.1, if2 (lit_eq (a := H 1 p) (n := 5) (by omega) (by decide)), if2 (lit_eq (a := H 6 p) (n := 0) (by omega) (by decide)), if2 (nI_eq (a := H 2 p) (b := H 7 1) (by omega) (by omega))]
  grind
theorem drawnX {X : St} {H : Hs} (hw : Wf H) (hx : FrX X H) {p : Nat} (hp : p < H 0 0) : fX0_drawnHold X (nI p) = some (vdrawn H p) := by
  unfold fX0_drawnHold
  rw [goodX hw hx hp, bv_e, hx.2.2.2.2.2.1]
  rfl
theorem holdsX {X : St} {H : Hs} (hw : Wf H) (hx : FrX X H) {p : Nat} (hp : p < H 0 0) : fX0_holds X (nI p) = some (vhold H p) := by
  have hn := hw.1
  obtain ⟨h1, h2, -, -, -, h6⟩ := hw.2.2.2.1 p hp
  unfold fX0_holds vhold
  rw [ldi_e (by omega) (by decide), (hx.2.1 p hp).1, drawnX hw hx hp, goodX hw hx hp]
  simp only [bv_e]
  rw [ldi_l (c := 7) 2 (by decide) (by decide), ldi_e (by omega) (by decide), (hx.2.1 p hp).2.2.2.1, hx.2.2.1 2 (by decide) (by decide), if2 (lit_eq (a := H 1 p) (n := 2) (by omega) (by decide)), if2 (lit_eq (a := H 1 p) (n := 3) (by omega) (by decide)), if2 (lit_eq (a := H 1 p) (n := 4) (by omega) (by decide)), if2 (lit_eq (a := H 1 p) (n := 5) (by omega) (by decide)), if2 (lit_eq (a := H 1 p) (n := 6) (by omega) (by decide))]
  grind
theorem feltX {X : St} {H : Hs} (hw : Wf H) (hx : FrX X H) {p : Nat} (hp : p < H 0 0) : fX0_feltWarms X (nI p) = some (vfelt H p) := by
  have h72 : H 7 2 ≤ 9 := hw.2.2.2.2.1 2 (by decide)
  unfold fX0_feltWarms vfelt
  rw [goodX hw hx hp, bv_e, pl_e, ldi_l (c := 7) 2 (by decide) (by decide), hx.2.2.1 2 (by decide) (by decide)]
  by_cases c : H 7 2 < 5
  · rw [if_pos c, if_pos (show nI (H 7 2) < (5 : Int32) from nI_lt (b := 5) c (by decide))]
  · rw [if_neg c, if_neg (show ¬ nI (H 7 2) < (5 : Int32) from nI_nlt (a := H 7 2) (b := 5) (by omega) (by omega))]
theorem warmX {X : St} {H : Hs} (hw : Wf H) (hx : FrX X H) {p : Nat} (hp : p < H 0 0) : fX0_warms X (nI p) = some (vwarm H p) := by
  have hn := hw.1
  obtain ⟨h1, h2, -, -, -, h6⟩ := hw.2.2.2.1 p hp
  unfold fX0_warms vwarm
  rw [ldi_e (by omega) (by decide), (hx.2.1 p hp).1, feltX hw hx hp]
  simp only [bv_e]
  rw [hx.2.2.2.1, if2 (lit_eq (a := H 1 p) (n := 4) (by omega) (by decide)), if2 (lit_eq (a := H 1 p) (n := 5) (by omega) (by decide))]
  have key : ∀ x : Int32, (if (0 : Int32) < x then x else 0) = if 0 ≤ x then x else 0 := by
    intro x
    by_cases c : 0 < x
    · rw [if_pos c, if_pos (fa_of_lt c).1]
    · rw [if_neg c]
      by_cases c2 : 0 ≤ x
      · rw [if_pos c2]
        by_cases c3 : (0 : Int32) = x
        · exact c3
        · exact absurd (fa_le_ne c2 c3) c
      · rw [if_neg c2]
  rw [key]
  grind
theorem isThereM {M : St} {H : Hs} (hw : Wf H) (hm : ShM (M.1 1) H) {p : Nat} (hp : p < H 0 0) : fX7_isThere M (nI p) = some (nI (H 6 p)) := by
  have h6 := (hw.2.2.2.1 p hp).2.2.2.2.2
  have hn := hw.1
  unfold fX7_isThere
  rw [show (5 : Int32) = nI 5 from rfl, has_e (by omega) (by decide), bv_e, hm.2.2.2.1 p 5 hp (by decide)]
  rcases (show H 6 p = 0 ∨ H 6 p = 1 by omega) with e | e
  · rw [e]; rfl
  · rw [e]; rfl
theorem hasM {M : St} {H : Hs} (hw : Wf H) (hm : ShM (M.1 1) H) {p w : Nat} (hp : p < H 0 0) (hw6 : w < 6) : fX7_has M (nI p) (nI w) = some (nI (H (w + 1) p)) := by
  have hn := hw.1
  rw [has_e (by omega) hw6, hm.2.2.2.1 p w hp hw6]
theorem goodM {M : St} {H : Hs} (hw : Wf H) (hm : ShM (M.1 1) H) {p : Nat} (hp : p < H 0 0) : fX7_good M (nI p) = some (vgood H p) := by
  have hn := hw.1
  have h6 := (hw.2.2.2.1 p hp).2.2.2.2.2
  unfold fX7_good vgood
  rw [isThereM hw hm hp, bv_e, if2 (lit_eq (a := H 6 p) (n := 0) (by omega) (by decide)), show (2 : Int32) = nI 2 from rfl, show (4 : Int32) = nI 4 from rfl, hasM hw hm hp (by decide), hasM hw hm hp (by decide), bv_e, bv_e]
  by_cases c : H 6 p = 0
  · rw [if_pos c, if_pos c]
  · rw [if_neg c, if_neg c]
theorem pushM {M : St} {H : Hs} (hw : Wf H) (hm : ShM (M.1 1) H) {p : Nat} (hp : p < H 0 0) : fX7_pushes M (nI p) = some (vpush H p) := by
  have hn := hw.1
  obtain ⟨h1, h2, -, -, -, h6⟩ := hw.2.2.2.1 p hp
  have h71 : H 7 1 ≤ 7 := hw.2.2.2.2.1 1 (by decide)
  have e0 : fX7_has M (nI p) 0 = some (nI (H 1 p)) := hasM hw hm hp (w := 0) (by decide)
  have e1 : fX7_has M (nI p) 1 = some (nI (H 2 p)) := hasM hw hm hp (w := 1) (by decide)
  unfold fX7_pushes vpush
  rw [e0, goodM hw hm hp, isThereM hw hm hp, e1]
  simp only [bv_e]
  rw [if2 (lit_eq (a := H 1 p) (n := 1) (by omega) (by decide)), ldi_l (c := 1) 6 (by decide) (by decide), ldi_l (c := 1) 4 (by decide) (by decide), ldi_l (c := 1) 3 (by decide) (by decide), hm.2.2.2.2.1 3 (by decide), hm.2.2.2.2.1 1 (by decide), hm.2.2.2.2.1 0 (by decide), if2 (lit_eq (a := H 1 p) (n := 5) (by omega) (by decide)), if2 (lit_eq (a := H 6 p) (n := 0) (by omega) (by decide)), if2 (nI_eq (a := H 7 1) (b := H 2 p) (by omega) (by omega))]
  grind
theorem holdsM {M : St} {H : Hs} (hw : Wf H) (hm : ShM (M.1 1) H) {p : Nat} (hp : p < H 0 0) : fX7_holdsOf M (nI p) = some (vhold H p) := by
  have hn := hw.1
  obtain ⟨h1, h2, -, -, -, h6⟩ := hw.2.2.2.1 p hp
  have e0 : fX7_has M (nI p) 0 = some (nI (H 1 p)) := hasM hw hm hp (w := 0) (by decide)
  have e3 : fX7_has M (nI p) 3 = some (nI (H 4 p)) := hasM hw hm hp (w := 3) (by decide)
  unfold fX7_holdsOf vhold vdrawn
  rw [goodM hw hm hp, bv_e, ldi_l (c := 1) 8 (by decide) (by decide), pl_e, e0, e3, ldi_l (c := 1) 5 (by decide) (by decide), hm.2.2.2.2.1 2 (by decide), hm.2.2.2.2.2.1]
  simp only [bv_e]
  rw [if2 (lit_eq (a := H 1 p) (n := 2) (by omega) (by decide)), if2 (lit_eq (a := H 1 p) (n := 3) (by omega) (by decide)), if2 (lit_eq (a := H 1 p) (n := 4) (by omega) (by decide)), if2 (lit_eq (a := H 1 p) (n := 5) (by omega) (by decide)), if2 (lit_eq (a := H 1 p) (n := 6) (by omega) (by decide))]
  grind
theorem warmM {M : St} {H : Hs} (hw : Wf H) (hm : ShM (M.1 1) H) {p : Nat} (hp : p < H 0 0) : fX7_warms M (nI p) = some (vwarm H p) := by
  have hn := hw.1
  have h72 : H 7 2 ≤ 9 := hw.2.2.2.2.1 2 (by decide)
  obtain ⟨h1, h2, -, -, -, h6⟩ := hw.2.2.2.1 p hp
  have e0 : fX7_has M (nI p) 0 = some (nI (H 1 p)) := hasM hw hm hp (w := 0) (by decide)
  unfold fX7_warms vwarm vfelt
  simp only [pl_e]
  rw [e0, bv_e, goodM hw hm hp]
  simp only [bv_e]
  rw [ldi_l (c := 1) 5 (by decide) (by decide), hm.2.2.2.2.1 2 (by decide)]
  have l3 : ∀ k : Int32 → Option Int32, ldi M 1 3 216 k = k (nI (H 7 0)) := fun k => by rw [ldi_l (c := 1) 3 (by decide) (by decide), hm.2.2.2.2.1 0 (by decide)]
  simp only [l3]
  rw [if2 (lit_eq (a := H 1 p) (n := 4) (by omega) (by decide)), if2 (lit_eq (a := H 1 p) (n := 5) (by omega) (by decide))]
  have n54 : ¬ nI 5 = (4 : Int32) := by decide
  have n44 : nI 4 = (4 : Int32) := rfl
  have hlt : nI (H 7 2) < (5 : Int32) ↔ H 7 2 < 5 := by
    constructor
    · intro q
      refine Nat.lt_of_not_le (fun c => nI_nlt (a := H 7 2) (b := 5) c (by omega) q)
    · intro q
      exact nI_lt (b := 5) q (by decide)
  rw [if2 hlt]
  by_cases c7 : H 7 2 < 5
  · by_cases c4 : H 1 p = 4
    · simp [n44, c4, c7, if_true]
    · by_cases c5 : H 1 p = 5
      · by_cases c0 : 0 ≤ vgood H p / 5 - nI (H 7 0) / 10
        · simp [n54, c5, c7, c0]
        · simp [n54, c5, c7, c0]
      · simp [n44, c4, c5, if_false]
  · by_cases c4 : H 1 p = 4
    · simp [n44, c4, c7, if_true, if_false]
    · by_cases c5 : H 1 p = 5
      · by_cases c0 : 0 ≤ vgood H p / 5 / 2 - nI (H 7 0) / 10
        · simp [n54, c5, c7, c0]
        · simp [n54, c5, c7, c0]
      · simp [n44, c4, c5, if_false]
