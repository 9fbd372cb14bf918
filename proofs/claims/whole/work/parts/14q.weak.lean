-- kinds
theorem kindO {a : Int32} {G : Nat} {v : Int32} : fX6_isOfKind_L4 a (G + 4) v 0 = (if v = a then some 1 else ldt tbK v 7 fun v1 => if v1 = a then some 1 else ldt tbK v1 7 fun v2 => if v2 = a then some 1 else ldt tbK v2 7 fun _ => some 0) := by
  rw [fX6_isOfKind_L4, if_neg (by decide)]
  congr 1
def isK (k j : Nat) : Bool := k == j || j == 0 || (j == 2 && k == 6) || (j == 4 && k == 5)
theorem kindP : ∀ k, k < 7 → ∀ j, j < 7 → (if nI k = nI j then some (1 : Int32) else ldt tbK (nI k) 7 fun v1 => if v1 = nI j then some 1 else ldt tbK v1 7 fun v2 => if v2 = nI j then some 1 else ldt tbK v2 7 fun _ => some 0) = some (if isK k j then 1 else 0) := by decide +kernel
theorem kindX {F : Nat} (hF : 100 ≤ F) {X : St} {k j : Nat} (hk : k < 7) (hj : j < 7) : fX6_isOfKind F X (nI k) (nI j) = some (if isK k j then 1 else 0) := by
  unfold fX6_isOfKind
  obtain ⟨G, rfl⟩ : ∃ G, F = G + 4 := ⟨F - 4, by omega⟩
  rw [kindO, kindP k hk j hj]
-- does it stand? the class's
theorem polesL {X : St} {H : Hs} (hw : Wf H) (hx : FrX X H) {J : Int32 → Option Int32} : ∀ (G p : Nat), p ≤ H 0 0 → H 0 0 - p < G → fX0_hasPoles_L4 X J G (nI (vpole H p)) (nI p) = J (nI (vpole H (H 0 0))) := by
  have hn := hw.1
  intro G
  induction G with
  | zero => intro p h1 h2; omega
  | succ G ih =>
    intro p h1 h2
    rw [fX0_hasPoles_L4, hx.1]
    by_cases hp : p = H 0 0
    · subst hp
      rw [if_pos (nI_le (Nat.le_refl _) (by omega))]
    · have hp' : p < H 0 0 := by omega
      obtain ⟨k1, k2, -, -, -, k6⟩ := hw.2.2.2.1 p hp'
      rw [if_neg (nI_ge hp' (by omega)), ldi_e (by omega) (by decide), (hx.2.1 p hp').1, goodX hw hx hp']
      simp only [bv_e, pl_e]
      rw [ldi_e (by omega) (by decide), (hx.2.1 p hp').2.1, if2 (lit_eq (a := H 1 p) (n := 1) (by omega) (by decide)), nI_1]
      have hv := vpole_s hw hp'
      rw [← ih (p + 1) (by omega) (by omega), ← hv]
      by_cases c1 : H 1 p = 1
      · by_cases c2 : vgood H p ≤ 0
        · rw [if_pos c1, if_pos c2, if_neg (fun q => q.2 c2)]
          congr 1
          rw [show (0 : Int32) = nI 0 from rfl, fa_or, Nat.or_zero]
        · rw [if_pos c1, if_neg c2, if_pos ⟨c1, c2⟩]
      · rw [if_neg c1, if_neg (fun q => c1 q.1)]
        congr 1
        rw [show (0 : Int32) = nI 0 from rfl, fa_or, Nat.or_zero]
theorem overL {F : Nat} (hF : 100 ≤ F) {X : St} {H : Hs} (hw : Wf H) (hx : FrX X H) : ∀ (G p : Nat), p ≤ H 0 0 → H 0 0 - p < G → ((∃ q, p ≤ q ∧ q < H 0 0 ∧ vover H q) ∧ fX0_isOverdrawn_L2 F X G (nI p) = some 1) ∨ ((∀ q, p ≤ q → q < H 0 0 → ¬ vover H q) ∧ fX0_isOverdrawn_L2 F X G (nI p) = some 0) := by
  have hn := hw.1
  intro G
  induction G with
  | zero => intro p h1 h2; omega
  | succ G ih =>
    intro p h1 h2
    rw [fX0_isOverdrawn_L2, hx.1]
    by_cases hp : p = H 0 0
    · subst hp
      rw [if_pos (nI_le (Nat.le_refl _) (by omega))]
      exact Or.inr ⟨fun q h1 h2 => by omega, rfl⟩
    · have hp' : p < H 0 0 := by omega
      obtain ⟨k1, k2, -, -, -, k6⟩ := hw.2.2.2.1 p hp'
      rw [if_neg (nI_ge hp' (by omega)), isHereX hw hx hp', goodX hw hx hp']
      simp only [bv_e, pl_e]
      rw [ldi_e (by omega) (by decide), (hx.2.1 p hp').1, show (2 : Int32) = nI 2 from rfl, kindX hF k1 (by decide), bv_e, hx.2.2.2.2.2.1, if2 (lit_eq (a := H 6 p) (n := 0) (by omega) (by decide)), nI_1]
      have hk : (isK (H 1 p) 2 = true ↔ (H 1 p = 2 ∨ H 1 p = 6)) := by
        simp [isK]
      rw [show nI 2 = (2 : Int32) from rfl]
      by_cases hv : vover H p
      · refine Or.inl ⟨⟨p, Nat.le_refl _, hp', hv⟩, ?_⟩
        obtain ⟨v1, v2, v3⟩ := hv
        rw [if_neg v1, if_pos (hk.mpr v2), if_neg n10, if_neg v3]
      · have hi := ih (p + 1) (by omega) (by omega)
        have hr : (if H 6 p = 0 then fX0_isOverdrawn_L2 F X G (nI (p + 1)) else if (if isK (H 1 p) 2 = true then (1 : Int32) else 0) = 0 then fX0_isOverdrawn_L2 F X G (nI (p + 1)) else if nI (H 8 0) ≤ vgood H p / 2 + 20 then fX0_isOverdrawn_L2 F X G (nI (p + 1)) else some 1) = fX0_isOverdrawn_L2 F X G (nI (p + 1)) := by
          by_cases v1 : H 6 p = 0
          · rw [if_pos v1]
          · rw [if_neg v1]
            by_cases v2 : isK (H 1 p) 2 = true
            · rw [if_pos v2, if_neg n10, if_pos]
              refine Decidable.byContradiction (fun q => hv ⟨v1, hk.mp v2, q⟩)
            · rw [if_neg v2, if_pos rfl]
        rw [hr]
        rcases hi with ⟨⟨q, q1, q2, q3⟩, h⟩ | ⟨q, h⟩
        · exact Or.inl ⟨⟨q, by omega, q2, q3⟩, h⟩
        · refine Or.inr ⟨fun q' h1' h2' => ?_, h⟩
          by_cases e : q' = p
          · rw [e]; exact hv
          · exact q q' (by omega) h2'
theorem standXL {X : St} {H : Hs} (hw : Wf H) (hx : FrX X H) (hg : Gat X H (H 0 0)) : ∀ (G s : Nat), s ≤ 8 → 8 - s < G → ((∀ t, s ≤ t → t < 8 → 0 ≤ vsp H t) ∧ fX0_isStanding_L22 X G (nI s) = some (X, 1)) ∨ ((∃ t, t < 8 ∧ ¬ 0 ≤ vsp H t) ∧ fX0_isStanding_L22 X G (nI s) = some (X, 0)) := by
  intro G
  induction G with
  | zero => intro p h1 h2; omega
  | succ G ih =>
    intro s h1 h2
    rw [fX0_isStanding_L22]
    by_cases hs : s = 8
    · subst hs
      rw [if_pos (show (8 : Int32) ≤ nI 8 from by decide)]
      exact Or.inl ⟨fun t h1 h2 => by omega, rfl⟩
    · have hs' : s < 8 := by omega
      rw [if_neg (show ¬ (8 : Int32) ≤ nI s from nI_ge (b := 8) hs' (by decide)), spareX hw hx hg hs', bv_e, pl_e, nI_1]
      by_cases c : 0 ≤ vsp H s
      · rw [if_pos c]
        rcases ih (s + 1) (by omega) (by omega) with ⟨h, e⟩ | h
        · refine Or.inl ⟨fun t q1 q2 => ?_, e⟩
          by_cases et : t = s
          · rw [et]; exact c
          · exact h t (by omega) q2
        · exact Or.inr h
      · rw [if_neg c]
        exact Or.inr ⟨⟨s, hs', c⟩, rfl⟩
theorem standX {F : Nat} (hF : 100 ≤ F) {X : St} {H : Hs} (hw : Wf H) (hx : FrX X H) : ∃ X1, FrX X1 H ∧ (∀ d, d ≠ 35 → d ≠ 36 → X1.1 d = X.1 d) ∧ X1.2 = X.2 ∧ ((VS H ∧ fX0_isStanding F X = some (X1, 1)) ∨ (¬ VS H ∧ fX0_isStanding F X = some (X1, 0))) := by
  have hn := hw.1
  have hc := cnt8_le (vpole H (H 0 0))
  unfold fX0_isStanding
  have hp : fX0_hasPoles F X = if cnt8 (vpole H (H 0 0)) < 3 then some 0 else some 1 := by
    unfold fX0_hasPoles
    rw [pl_e]
    refine (polesL hw hx F 0 (by omega) (by omega)).trans ?_
    rw [bitC X _ (vpole_lt hw (H 0 0) (Nat.le_refl _)), bv_e]
    by_cases c3 : cnt8 (vpole H (H 0 0)) < 3
    · rw [if_pos c3, if_pos (show nI (cnt8 (vpole H (H 0 0))) < (3 : Int32) from nI_lt (b := 3) c3 (by decide))]
    · rw [if_neg c3, if_neg (show ¬ nI (cnt8 (vpole H (H 0 0))) < (3 : Int32) from nI_nlt (b := 3) (by omega) (by omega))]
  rw [hp]
  by_cases c3 : cnt8 (vpole H (H 0 0)) < 3
  · rw [if_pos c3, bv_e, if_pos rfl]
    exact ⟨X, hx, fun _ _ _ => rfl, rfl, Or.inr ⟨fun v => by have := v.1; omega, rfl⟩⟩
  · rw [if_neg c3, bv_e, if_neg n10]
    unfold fX0_isOverdrawn
    rcases overL hF hw hx F 0 (by omega) (by omega) with ⟨⟨q, -, q2, q3⟩, e⟩ | ⟨hq, e⟩
    · refine ⟨X, hx, fun _ _ _ => rfl, rfl, Or.inr ⟨fun v => v.2.1 q q2 q3, ?_⟩⟩
      rw [show (0 : Int32) = nI 0 from rfl, e, bv_e, show nI 0 = (0 : Int32) from rfl, if_neg n10]
    · obtain ⟨X1, g1, g2, g3, g4, g5⟩ := gatherX hF hw hx
      refine ⟨X1, g2, g4, g5, ?_⟩
      rw [show (0 : Int32) = nI 0 from rfl, e, bv_e, show nI 0 = (0 : Int32) from rfl, if_pos rfl, g1, bv_e]
      rcases standXL hw g2 g3 F 0 (by omega) (by omega) with ⟨h, e2⟩ | ⟨⟨t, t1, t2⟩, e2⟩
      · exact Or.inl ⟨⟨by omega, fun p hp => hq p (by omega) hp, fun s hs => h s (by omega) hs⟩, e2⟩
      · exact Or.inr ⟨fun v => t2 (v.2.2 t t1), e2⟩
-- the weakest side
def vweak (H : Hs) : Nat → Nat
  | 0 => 0
  | s + 1 => if vsp H (vweak H s) ≤ vsp H (s + 1) then vweak H s else s + 1
theorem vweak_le (H : Hs) : ∀ s, vweak H s ≤ s := by
  intro s
  induction s with
  | zero => exact Nat.le_refl _
  | succ s ih =>
    rw [vweak]
    split
    · omega
    · omega
theorem weakM {F : Nat} (hF : 100 ≤ F) {M : St} {H : Hs} (hw : Wf H) (hm : ShM (M.1 1) H) : ∀ (G s : Nat), s ≤ 7 → 7 - s < G → fX7_leastSpare_L4 F M G (nI (vweak H s)) (nI (s + 1)) = some (nI (vweak H 7)) := by
  intro G
  induction G with
  | zero => intro p h1 h2; omega
  | succ G ih =>
    intro s h1 h2
    rw [fX7_leastSpare_L4]
    by_cases hs : s = 7
    · subst hs
      rw [if_pos (show (8 : Int32) ≤ nI (7 + 1) from by decide)]
    · have hs' : s < 7 := by omega
      have hle := vweak_le H s
      rw [if_neg (show ¬ (8 : Int32) ≤ nI (s + 1) from nI_ge (b := 8) (by omega) (by decide)), spareM hF hw hm (by omega), spareM hF hw hm (by omega), bv_e, bv_e]
      simp only [pl_e]
      rw [nI_1]
      have := ih (s + 1) (by omega) (by omega)
      rw [vweak] at this
      by_cases c : vsp H (vweak H s) ≤ vsp H (s + 1)
      · rw [if_pos c] at this ⊢; exact this
      · rw [if_neg c] at this ⊢; exact this
theorem weakX {X : St} {H : Hs} (hw : Wf H) (hx : FrX X H) (hg : Gat X H (H 0 0)) : ∀ (G s : Nat), s ≤ 7 → 7 - s < G → fX0_weakestSide_L4 X G (nI (vweak H s)) (nI (s + 1)) = some (nI (vweak H 7)) := by
  intro G
  induction G with
  | zero => intro p h1 h2; omega
  | succ G ih =>
    intro s h1 h2
    rw [fX0_weakestSide_L4]
    by_cases hs : s = 7
    · subst hs
      rw [if_pos (show (8 : Int32) ≤ nI (7 + 1) from by decide)]
    · have hs' : s < 7 := by omega
      have hle := vweak_le H s
      rw [if_neg (show ¬ (8 : Int32) ≤ nI (s + 1) from nI_ge (b := 8) (by omega) (by decide)), spareX hw hx hg (by omega), spareX hw hx hg (by omega), bv_e, bv_e]
      simp only [pl_e]
      rw [nI_1]
      have := ih (s + 1) (by omega) (by omega)
      rw [vweak] at this
      by_cases c : vsp H (vweak H s) ≤ vsp H (s + 1)
      · rw [if_pos c] at this ⊢; exact this
      · rw [if_neg c] at this ⊢; exact this
theorem leastM {F : Nat} (hF : 100 ≤ F) {M : St} {H : Hs} (hw : Wf H) (hm : ShM (M.1 1) H) : fX7_leastSpare F M = some (nI (vweak H 7)) := weakM hF hw hm F 0 (by omega) (by omega)
theorem weakestX {F : Nat} (hF : 100 ≤ F) {X : St} {H : Hs} (hw : Wf H) (hx : FrX X H) (hg : Gat X H (H 0 0)) : fX0_weakestSide F X = some (nI (vweak H 7)) := weakX hw hx hg F 0 (by omega) (by omega)
-- warmth
def vws (H : Hs) : Int32 := (sm (vwarm H) (H 0 0) - nI (H 7 0) / 5) - nI (H 7 3) / 3
def vfuel (H : Hs) : Int32 := if 10 * nI (H 7 4) - vws H ≤ 0 then 0 else (10 * nI (H 7 4) - vws H) / 20 + 1
theorem warmML {M : St} {H : Hs} (hw : Wf H) (hm : ShM (M.1 1) H) {J : Int32 → Option Int32} : ∀ (G p : Nat), p ≤ H 0 0 → H 0 0 - p < G → fX7_warmthNow_L4 M J G (sm (vwarm H) p) (nI p) = J (sm (vwarm H) (H 0 0)) := by
  have hn := hw.1
  intro G
  induction G with
  | zero => intro p h1 h2; omega
  | succ G ih =>
    intro p h1 h2
    rw [fX7_warmthNow_L4, ldi_l (c := 1) 0 (by decide) (by decide), hm.1]
    by_cases hp : p = H 0 0
    · subst hp
      rw [if_pos (nI_le (Nat.le_refl _) (by omega))]
    · have hp' : p < H 0 0 := by omega
      rw [if_neg (nI_ge hp' (by omega)), warmM hw hm hp', bv_e, pl_e, pl_e, nI_1]
      exact ih (p + 1) (by omega) (by omega)
theorem warmXL {X : St} {H : Hs} (hw : Wf H) (hx : FrX X H) {J : Int32 → Option Int32} : ∀ (G p : Nat), p ≤ H 0 0 → H 0 0 - p < G → fX0_warmthOfAll_L4 X J G (sm (vwarm H) p) (nI p) = J (sm (vwarm H) (H 0 0)) := by
  have hn := hw.1
  intro G
  induction G with
  | zero => intro p h1 h2; omega
  | succ G ih =>
    intro p h1 h2
    rw [fX0_warmthOfAll_L4, hx.1]
    by_cases hp : p = H 0 0
    · subst hp
      rw [if_pos (nI_le (Nat.le_refl _) (by omega))]
    · have hp' : p < H 0 0 := by omega
      rw [if_neg (nI_ge hp' (by omega)), warmX hw hx hp', bv_e, pl_e, pl_e, nI_1]
      exact ih (p + 1) (by omega) (by omega)
theorem wsM {F : Nat} (hF : 100 ≤ F) {M : St} {H : Hs} (hw : Wf H) (hm : ShM (M.1 1) H) : fX7_warmthNow F M = some (vws H) := by
  have hn := hw.1
  unfold fX7_warmthNow
  rw [pl_e]
  refine (warmML hw hm F 0 (by omega) (by omega)).trans ?_
  rw [ldi_l (c := 1) 3 (by decide) (by decide), ldi_l (c := 1) 6 (by decide) (by decide), hm.2.2.2.2.1 0 (by decide), hm.2.2.2.2.1 3 (by decide)]
  rfl
theorem wsX {F : Nat} (hF : 100 ≤ F) {X : St} {H : Hs} (hw : Wf H) (hx : FrX X H) : fX0_warmthOfAll F X = some (vws H) := by
  have hn := hw.1
  unfold fX0_warmthOfAll
  rw [pl_e]
  refine (warmXL hw hx F 0 (by omega) (by omega)).trans ?_
  rw [ldi_l (c := 7) 3 (by decide) (by decide), hx.2.2.1 3 (by decide) (by decide), hx.2.2.2.1]
  rfl
theorem fuelM {F : Nat} (hF : 100 ≤ F) {M : St} {H : Hs} (hw : Wf H) (hm : ShM (M.1 1) H) : fX7_fuel F M = some (vfuel H) := by
  unfold fX7_fuel vfuel
  rw [ldi_l (c := 1) 7 (by decide) (by decide), hm.2.2.2.2.1 4 (by decide), wsM hF hw hm, bv_e, pl_e]
  split
  · rfl
  · rfl
theorem fuelX {F : Nat} (hF : 100 ≤ F) {X : St} {H : Hs} (hw : Wf H) (hx : FrX X H) : fX0_fuel F X = some (vfuel H) := by
  unfold fX0_fuel vfuel
  rw [ldi_l (c := 7) 4 (by decide) (by decide), hx.2.2.1 4 (by decide) (by decide), wsX hF hw hx, bv_e, pl_e, show nI (H 7 4) * 10 = 10 * nI (H 7 4) from Int32.mul_comm _ _]
  split
  · rfl
  · rfl
