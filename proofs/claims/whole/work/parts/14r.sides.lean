-- Rel says nothing of the cells 34 to 43
theorem rel_fr {X M X' : St} (h : Rel X M) (hx : ∀ d, d < 34 ∨ 43 < d → X'.1 d = X.1 d) (hx2 : X'.2 = X.2) : Rel X' M := by
  obtain ⟨⟨H, h1⟩, h2, h3, h4, h5, h6⟩ := h
  exact ⟨⟨H, h1.kept (fun k hk => hx _ (by omega)) rfl⟩, h2.kept (fun k hk => hx _ (by omega)) (by rw [hx 0 (by decide)]) rfl rfl, h3.kept (by rw [hx 44 (by decide)]) (hx 45 (by decide)) rfl rfl, h4.kept (fun t ht => hx _ (by omega)) (fun t ht => by rw [hx2]) rfl rfl rfl, h5.kept (hx 55 (by decide)) rfl, h6⟩
def asIs (X : St) : St := si (si (si (si X 34 1 (X.1 7 0)) 34 2 (X.1 7 1)) 34 3 (X.1 1 8)) 34 4 (X.1 1 6)
theorem asItIs_e {X : St} : fX0_asItIs X = some (asIs X) := by
  unfold fX0_asItIs
  simp only [pl_e]
  rw [ldi_l (c := 7) 0 (by decide) (by decide), ldi_l (c := 7) 1 (by decide) (by decide)]
  unfold asIs
  simp only [si_a]
  simp
theorem asIs_o {X : St} {d : Nat} (h : d ≠ 34) : (asIs X).1 d = X.1 d := by
  unfold asIs
  rw [si_o h, si_o h, si_o h, si_o h]
theorem asIs_fr {X : St} {H : Hs} (h : ShX X.1 1 H) : FrX (asIs X) H := by
  obtain ⟨h0, -, -, h1, h6, h7, h8, -⟩ := h
  unfold FrX
  rw [asIs_o (by decide), asIs_o (by decide), asIs_o (by decide), asIs_o (by decide), asIs_o (by decide), asIs_o (by decide), asIs_o (by decide)]
  refine ⟨h0, h1, fun j _ hj => h7 j hj, ?_, ?_, ?_, ?_⟩
  · unfold asIs; simp only [si_a]; simp; exact h7 0 (by decide)
  · unfold asIs; simp only [si_a]; simp; exact h7 1 (by decide)
  · unfold asIs; simp only [si_a]; simp; exact h8
  · unfold asIs; simp only [si_a]; simp; exact h6
theorem asIs_rel {X M : St} (h : Rel X M) : Rel (asIs X) M := rel_fr h (fun d hd => asIs_o (by omega)) rfl
theorem st_side {F : Nat} (hF : 100 ≤ F) : s_side Rel F := by
  intro X M a1 a2 hR
  show Ag _ _
  unfold fX6_side fX7_side
  simp only [bq_eta, pl_e]
  refine guard (by decide) (by decide) (find0 hR) (fun c => ?_)
  obtain ⟨s, -, hs, rfl⟩ := inb_nI (lo := 0) (hi := 7) c (by decide) (by decide)
  refine guard (by decide) (by decide) (find0 hR) (fun c => ?_)
  obtain ⟨k, -, hk, rfl⟩ := inb_nI (lo := 0) (hi := 2) c (by decide) (by decide)
  obtain ⟨⟨H, hS⟩, -⟩ := id hR
  obtain ⟨X1, g1, g2, g3, g4, g5⟩ := gatherX hF hS.1 (asIs_fr hS.2.1)
  have hR1 : Rel X1 M := rel_fr (asIs_rel hR) (fun d hd => g4 d (by omega) (by omega)) g5
  rw [asItIs_e, bv_e, g1, bv_e, strainX hS.1 g2 g3 (by omega), holdX g3 (by omega), spareX hS.1 g2 g3 (by omega), strainM hF hS.1 hS.2.2 (by omega), holdM hF hS.1 hS.2.2 (by omega), spareM hF hS.1 hS.2.2 (by omega)]
  simp only [bv_e]
  rcases (show k = 0 ∨ k = 1 ∨ k = 2 by omega) with rfl | rfl | rfl
  · exact ag_of rfl rfl hR1
  · exact ag_of rfl rfl hR1
  · exact ag_of rfl rfl hR1
theorem st_stands {F : Nat} (hF : 100 ≤ F) : s_stands Rel F := by
  intro X M hR
  obtain ⟨⟨H, hS⟩, -⟩ := id hR
  obtain ⟨X1, g1, g2, g3, g4⟩ := standX hF hS.1 (asIs_fr hS.2.1)
  have hR1 : Rel X1 M := rel_fr (asIs_rel hR) (fun d hd => g2 d (by omega) (by omega)) g3
  unfold fX6_stands fX7_stands
  rw [asItIs_e, bv_e]
  rcases g4 with ⟨v, e⟩ | ⟨v, e⟩ <;> rcases standM hF hS.1 hS.2.2 with ⟨v', e'⟩ | ⟨v', e'⟩
  · exact ⟨X1, 1, by rw [e]; rfl, by rw [e']; rfl, hR1⟩
  · exact absurd v v'
  · exact absurd v' v
  · exact ⟨X1, 0, by rw [e]; rfl, by rw [e']; rfl, hR1⟩
theorem st_first {F : Nat} (hF : 100 ≤ F) : s_first Rel F := by
  intro X M hR
  obtain ⟨⟨H, hS⟩, -⟩ := id hR
  obtain ⟨X1, g1, g2, g3, g4, g5⟩ := gatherX hF hS.1 (asIs_fr hS.2.1)
  have hR1 : Rel X1 M := rel_fr (asIs_rel hR) (fun d hd => g4 d (by omega) (by omega)) g5
  unfold fX6_first fX7_first
  rw [asItIs_e, bv_e, g1, bv_e, weakestX hF hS.1 g2 g3, leastM hF hS.1 hS.2.2]
  exact ⟨X1, _, rfl, rfl, hR1⟩
theorem st_warmth {F : Nat} (hF : 100 ≤ F) : s_warmth Rel F := by
  intro X M a1 hR
  show Ag _ _
  obtain ⟨⟨H, hS⟩, -⟩ := id hR
  unfold fX6_warmth fX7_warmth
  simp only [bq_eta]
  rw [asItIs_e, bv_e, wsX hF hS.1 (asIs_fr hS.2.1), fuelX hF hS.1 (asIs_fr hS.2.1), wsM hF hS.1 hS.2.2, fuelM hF hS.1 hS.2.2]
  simp only [bv_e]
  by_cases c0 : a1 = 0
  · subst c0
    rw [within_t (by unfold inb; decide), bv_e, if_neg n10, if_pos rfl, if_pos rfl]
    exact ag_of rfl rfl (asIs_rel hR)
  · by_cases c1 : a1 = 1
    · subst c1
      rw [within_t (by unfold inb; decide), bv_e, if_neg n10, if_neg n10, if_neg n10, if_pos rfl]
      exact ag_of rfl rfl (asIs_rel hR)
    · rw [within_f (fun hb => by
        obtain ⟨k, h1, h2, rfl⟩ := inb_nI (lo := 0) (hi := 1) hb (by decide) (by decide)
        rcases (show k = 0 ∨ k = 1 by omega) with rfl | rfl
        · exact c0 rfl
        · exact c1 rfl), bv_e, if_pos rfl, if_neg c0, if_neg c1]
      exact find0 hR
theorem isThereX {X : St} {H : Hs} (hw : Wf H) (hx : ShX X.1 1 H) {p : Nat} (hp : p < H 0 0) : fX4_isThere 1 X (nI p) = some (nI (H 6 p)) := by
  have h6 : ∀ q, q < H 0 0 → H 6 q ≤ 1 := fun q hq => (hw.2.2.2.1 q hq).2.2.2.2.2
  unfold fX4_isThere
  rw [hx.2.2.2.2.1, bit_there h6 hw.1 hp]
  have := h6 p hp
  rcases (show H 6 p = 0 ∨ H 6 p = 1 by omega) with e | e
  · rw [e]; rfl
  · rw [e]; rfl
theorem st_of {F : Nat} : s_of Rel F := by
  intro X M a1 a2 hR
  show Ag _ _
  unfold fX6_of fX7_of
  simp only [bq_eta, pl_e]
  obtain ⟨⟨H, hS⟩, -⟩ := id hR
  have hn := hS.1.1
  refine guardP hS.2.1.1 hS.2.2.1 hn (find0 hR) (fun p hp e => ?_)
  subst e
  refine guard (by decide) (by decide) (find0 hR) (fun c => ?_)
  obtain ⟨k, -, hk, rfl⟩ := inb_nI (lo := 0) (hi := 9) c (by decide) (by decide)
  have hf := asIs_fr hS.2.1
  have hR1 := asIs_rel hR
  have h6 := (hS.1.2.2.2.1 p hp).2.2.2.2.2
  have hsx : ShX (asIs X).1 1 H := hS.2.1.kept (fun k hk => asIs_o (by omega))
  rw [asItIs_e, bv_e, goodX hS.1 hf hp, pushX hS.1 hf hp, holdsX hS.1 hf hp, warmX hS.1 hf hp, isThereX hS.1 hsx hp, goodM hS.1 hS.2.2 hp, pushM hS.1 hS.2.2 hp, holdsM hS.1 hS.2.2 hp, warmM hS.1 hS.2.2 hp]
  simp only [bv_e]
  rw [ldi_e (by omega) (by decide), ldi_e (by omega) (by decide), ldi_e (by omega) (by decide), ldi_e (by omega) (by decide), ldi_e (by omega) (by decide), (hf.2.1 p hp).1, (hf.2.1 p hp).2.1, (hf.2.1 p hp).2.2.1, (hf.2.1 p hp).2.2.2.1, (hf.2.1 p hp).2.2.2.2]
  have key : ∀ w, w < 6 → (bv (fX7_has M (nI p) (nI w)) fun v9 => some (M, v9)) = some (M, nI (H (w + 1) p)) := fun w hw => by rw [hasM hS.1 hS.2.2 hp hw, bv_e]
  rcases (show k = 0 ∨ k = 1 ∨ k = 2 ∨ k = 3 ∨ k = 4 ∨ k = 5 ∨ k = 6 ∨ k = 7 ∨ k = 8 ∨ k = 9 by omega) with rfl | rfl | rfl | rfl | rfl | rfl | rfl | rfl | rfl | rfl
  · exact ag_of rfl (key 0 (by decide)) hR1
  · exact ag_of rfl (key 1 (by decide)) hR1
  · exact ag_of rfl (key 2 (by decide)) hR1
  · exact ag_of rfl (key 3 (by decide)) hR1
  · exact ag_of rfl (key 4 (by decide)) hR1
  · refine ag_of (v := nI (H 6 p)) (X1 := asIs X) ?_ (key 5 (by decide)) hR1
    rcases (show H 6 p = 0 ∨ H 6 p = 1 by omega) with e | e
    · rw [e]; rfl
    · rw [e]; rfl
  · exact ag_of rfl rfl hR1
  · exact ag_of rfl rfl hR1
  · exact ag_of rfl rfl hR1
  · exact ag_of rfl rfl hR1
theorem st_as {F : Nat} (hF : 100 ≤ F) : s_as Rel F := by
  intro X M a1 a2 hR
  show Ag _ _
  unfold fX6_as fX7_as
  simp only [bq_eta, pl_e]
  obtain ⟨⟨H, hS⟩, -⟩ := id hR
  have hn := hS.1.1
  refine guardP hS.2.1.1 hS.2.2.1 hn (find0 hR) (fun p hp e => ?_)
  subst e
  refine guard (by decide) (by decide) (find0 hR) (fun c => ?_)
  obtain ⟨k, -, hk, rfl⟩ := inb_nI (lo := 0) (hi := 6) c (by decide) (by decide)
  have hf := asIs_fr hS.2.1
  have hR1 := asIs_rel hR
  have h1 := (hS.1.2.2.2.1 p hp).1
  have e0 : fX7_has M (nI p) 0 = some (nI (H 1 p)) := hasM hS.1 hS.2.2 hp (w := 0) (by decide)
  rw [ldi_e (by omega) (by decide), show X.1 2 p = nI (H 1 p) from (hS.2.1.2.2.2.1 p hp).1, kindX hF h1 (by omega), bv_e, asItIs_e, bv_e, goodX hS.1 hf hp, goodM hS.1 hS.2.2 hp, e0]
  simp only [bv_e]
  rw [if2 (nI_eq (a := H 1 p) (b := k) (by omega) (by omega)), if2 (lit_eq (a := k) (n := 0) (by omega) (by decide)), if2 (lit_eq (a := k) (n := 4) (by omega) (by decide)), if2 (lit_eq (a := k) (n := 2) (by omega) (by decide)), if2 (lit_eq (a := H 1 p) (n := 5) (by omega) (by decide)), if2 (lit_eq (a := H 1 p) (n := 6) (by omega) (by decide)), if_neg n10]
  simp only [if_true]
  have hk2 : isK (H 1 p) k = true ↔ (H 1 p = k ∨ k = 0 ∨ (k = 2 ∧ H 1 p = 6) ∨ (k = 4 ∧ H 1 p = 5)) := by
    simp [isK, or_assoc]
  have hM : ∀ x y : Option (St × Int32), (if H 1 p = k then x else if k = 0 then x else if k = 4 then (if H 1 p = 5 then x else if k = 2 then (if H 1 p = 6 then x else y) else y) else if k = 2 then (if H 1 p = 6 then x else y) else y) = if isK (H 1 p) k = true then x else y := by
    intro x y
    rw [if2 hk2]
    grind
  rw [hM]
  by_cases c : isK (H 1 p) k = true
  · rw [if_pos c, if_pos c, if_neg n10]
    exact ag_of rfl rfl hR1
  · rw [if_neg c, if_neg c, if_pos rfl]
    exact find2 hR
