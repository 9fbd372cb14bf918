-- the model's word
theorem wordML {T : Nat → Nat} {n i j w : Nat} {X M : St} (h : TB T n j X M) (hi : M.1 0 16 = nI i) (hw : w < 13) (hij : i ≤ j) {G : Nat} : ∀ (d t e : Nat), t + d = wln w → e ≤ 1 → (e = 1 ↔ (i + t ≤ j ∧ ∀ s, s < t → nI (T (i + s)) = wle w s)) → (fX7_wordHere_L12 M (G + 1 + d) (nI w) (nI (i + t)) (nI e) (nI (wof w + t)) = some (nI w) ∧ Mat T i j w) ∨ (fX7_wordHere_L12 M (G + 1 + d) (nI w) (nI (i + t)) (nI e) (nI (wof w + t)) = fX7_wordHere_L12 M G (nI (w + 1)) (nI i) 1 (nI (wof (w + 1))) ∧ ¬ Mat T i j w) := by
  have hn := h.1
  have hj := h.2.1
  obtain ⟨w1, w2, w3, w4, w5⟩ := w_sl w hw
  have hl := h.2.2.2.2.2.2.2
  have h17 := h.2.2.2.2.2.2.1
  intro d
  induction d with
  | zero =>
    intro t e h1 h2 h3
    have ht : t = wln w := by omega
    subst ht
    rw [Nat.add_zero, fX7_wordHere_L12, if_neg (show ¬ (70 : Int32) ≤ nI (wof w + wln w) from nI_ge (b := 70) (by omega) (by decide)), ldi_e (by omega) (by decide), hl _ (by omega), show lett.getD (wof w + wln w) 0 = 0 from w_ze w hw, hi, h17]
    simp only [pl_e, if_true]
    rw [nI_1, nI_1, w4]
    by_cases e1 : e = 1
    · rw [if_neg (show ¬ nI e = 0 from nI_ne0 (by omega) (by omega))]
      by_cases c : i + wln w = j
      · rw [if_pos (by rw [c])]
        exact Or.inl ⟨rfl, c, (h3.mp e1).2⟩
      · rw [if_neg (fun q => c ((nI_eq (by omega) (by omega)).mp q))]
        exact Or.inr ⟨rfl, fun q => c q.1⟩
    · rw [if_pos (show nI e = 0 from by rw [show e = 0 by omega]; rfl)]
      exact Or.inr ⟨rfl, fun q => e1 (h3.mpr ⟨by have := q.1; omega, q.2⟩)⟩
  | succ d ih =>
    intro t e h1 h2 h3
    have ht : t < wln w := by omega
    obtain ⟨w6, w7⟩ := w_ch w hw t ht
    rw [show G + 1 + (d + 1) = (G + 1 + d) + 1 by omega, fX7_wordHere_L12, if_neg (show ¬ (70 : Int32) ≤ nI (wof w + t) from nI_ge (b := 70) (by omega) (by decide)), ldi_e (by omega) (by decide), hl _ (by omega), show lett.getD (wof w + t) 0 = wle w t from rfl, h17]
    simp only [pl_e]
    rw [if_neg w7, nI_1, nI_1]
    have no : ¬ (e = 1 ∧ i + t < j ∧ nI (T (i + t)) = wle w t) → (fX7_wordHere_L12 M (G + 1 + d) (nI w) (nI (i + t + 1)) 0 (nI (wof w + t + 1)) = some (nI w) ∧ Mat T i j w) ∨ (fX7_wordHere_L12 M (G + 1 + d) (nI w) (nI (i + t + 1)) 0 (nI (wof w + t + 1)) = fX7_wordHere_L12 M G (nI (w + 1)) (nI i) 1 (nI (wof (w + 1))) ∧ ¬ Mat T i j w) := by
      intro q
      refine ih (t + 1) 0 (by omega) (by decide) ⟨fun z => by omega, fun z => absurd ⟨h3.mpr ⟨by omega, fun s hs => z.2 s (by omega)⟩, by omega, z.2 t (by omega)⟩ q⟩
    by_cases e1 : e = 1
    · rw [if_neg (show ¬ nI e = 0 from nI_ne0 (by omega) (by omega))]
      by_cases c : i + t < j
      · rw [if_neg (nI_ge c (by omega)), byteE h (show i + t < n by omega), bv_e, ldi_e (by omega) (by decide), hl _ (by omega), show lett.getD (wof w + t) 0 = wle w t from rfl]
        by_cases c2 : nI (T (i + t)) = wle w t
        · rw [if_pos c2]
          refine ih (t + 1) 1 (by omega) (by decide) ⟨fun _ => ⟨by omega, fun s hs => ?_⟩, fun _ => rfl⟩
          by_cases q : s = t
          · rw [q]; exact c2
          · exact (h3.mp e1).2 s (by omega)
        · rw [if_neg c2]
          exact no (fun q => c2 q.2.2)
      · rw [if_pos (nI_le (by omega) (by omega))]
        exact no (fun q => c q.2.1)
    · rw [if_pos (show nI e = 0 from by rw [show e = 0 by omega]; rfl)]
      exact no (fun q => e1 q.1)
theorem wordM2 {T : Nat → Nat} {n i j : Nat} {X M : St} (h : TB T n j X M) (hi : M.1 0 16 = nI i) (hij : i ≤ j) : ∀ (k w G : Nat), w + k = 13 → 71 ≤ G + wof w → ∃ v, w ≤ v ∧ v ≤ 13 ∧ (v < 13 → Mat T i j v) ∧ (∀ u, w ≤ u → u < v → ¬ Mat T i j u) ∧ fX7_wordHere_L12 M G (nI w) (nI i) 1 (nI (wof w)) = some (if v < 13 then nI v else -1) := by
  intro k
  induction k with
  | zero =>
    intro w G h1 h2
    have : w = 13 := by omega
    subst this
    have e : wof 13 = 70 := rfl
    obtain ⟨g, rfl⟩ : ∃ g, G = g + 1 := ⟨G - 1, by omega⟩
    refine ⟨13, Nat.le_refl _, Nat.le_refl _, fun q => absurd q (by decide), fun u a b => by omega, ?_⟩
    rw [fX7_wordHere_L12, e, if_pos (show (70 : Int32) ≤ nI 70 from by decide), if_neg (by decide)]
  | succ k ih =>
    intro w G h1 h2
    have hw : w < 13 := by omega
    obtain ⟨w1, w2, w3, w4, w5⟩ := w_sl w hw
    obtain ⟨g, rfl⟩ : ∃ g, G = g + 1 + wln w := ⟨G - 1 - wln w, by omega⟩
    rcases wordML h hi hw hij (G := g) (wln w) 0 1 (by omega) (by decide) ⟨fun _ => ⟨by omega, fun s hs => by omega⟩, fun _ => rfl⟩ with ⟨r1, r2⟩ | ⟨r1, r2⟩
    · exact ⟨w, Nat.le_refl _, by omega, fun _ => r2, fun u a b => by omega, by rw [if_pos hw]; exact r1⟩
    · obtain ⟨v, v1, v2, v3, v4, v5⟩ := ih (w + 1) g (by omega) (by omega)
      refine ⟨v, by omega, v2, v3, fun u a b => ?_, ?_⟩
      · by_cases q : u = w
        · rw [q]; exact r2
        · exact v4 u (by omega) b
      · exact r1.trans v5
theorem wordM {F : Nat} (hF : 100 ≤ F) {T : Nat → Nat} {n i j : Nat} {X M : St} (h : TB T n j X M) (hi : M.1 0 16 = nI i) (hij : i ≤ j) : ∃ v, v ≤ 13 ∧ (∀ u, u < 13 → (Mat T i j u ↔ u = v)) ∧ fX7_wordHere F M = some (if v < 13 then nI v else -1) := by
  obtain ⟨v, v1, v2, v3, v4, v5⟩ := wordM2 h hi hij 13 0 F (by omega) (by omega)
  refine ⟨v, v2, fun u hu => ⟨fun q => ?_, fun q => ?_⟩, ?_⟩
  · by_cases c : u < v
    · exact absurd q (v4 u (by omega) c)
    · exact mat_u hu (by omega) q (v3 (by omega))
  · subst q; exact v3 hu
  · unfold fX7_wordHere
    rw [pl_e, hi]
    exact v5
-- a token at hand: its sort and its number, on both sides
def TkP (T : Nat → Nat) (X M : St) (i j tk v : Nat) : Prop :=
  (tk = 0 ∧ M.1 0 18 = 0) ∨ (tk = 1 ∧ v ≤ 13 ∧ (∀ u, u < 13 → (Mat T i j u ↔ u = v)) ∧ (v < 13 → M.1 0 18 = 1 ∧ M.1 0 19 = nI v) ∧ (v = 13 → M.1 0 18 = 4)) ∨ (tk = 2 ∧ v ≤ 1000 ∧ X.1 44 5 = nI v ∧ (v ≤ 999 → M.1 0 18 = 2 ∧ M.1 0 19 = nI v) ∧ (v = 1000 → M.1 0 18 = 4)) ∨ (tk = 3 ∧ M.1 0 18 = 3) ∨ (tk = 4 ∧ M.1 0 18 = 4)
def Tok (T : Nat → Nat) (n : Nat) (X M : St) (j i tk v : Nat) : Prop :=
  TB T n j X M ∧ i ≤ j ∧ X.1 44 3 = nI tk ∧ X.1 44 4 = nI i ∧ M.1 0 16 = nI i ∧ TkP T X M i j tk v
def SF (X M X1 M1 : St) : Prop := (∀ d, d ≠ 44 → X1.1 d = X.1 d) ∧ X1.2 = X.2 ∧ (∀ d, d ≠ 0 → M1.1 d = M.1 d) ∧ (∀ s, s < 16 ∨ s = 20 → M1.1 0 s = M.1 0 s) ∧ M1.2 = M.2
def restX (F : Nat) (S2 : St) : Option St := if (S2.1 44 2) < (S2.1 44 1) then (ldi S2 45 (S2.1 44 2) 120 fun v3 => bv (fX5_isLetter S2 v3) fun v4 => if v4 = 0 then (ldi S2 45 (S2.1 44 2) 120 fun v5 => bv (fX5_isDigit S2 v5) fun v6 => if v6 = 0 then (ldi S2 45 (S2.1 44 2) 120 fun v7 => if v7 = (44) then some (si (si S2 44 3 3) 44 2 (((si S2 44 3 3).1 44 2) + (1))) else some (si (si S2 44 3 4) 44 2 (((si S2 44 3 4).1 44 2) + (1)))) else fX5_step_L149 F (si (si S2 44 3 (2)) 44 5 (0))) else fX5_step_L85 F (si S2 44 3 (1))) else some (si S2 44 3 (0))
def restM (F : Nat) (S2 : St) : Option St := bv (fX7_byteAt S2 (S2.1 0 17)) fun v3 => if 0 ≤ v3 then (bv (fX7_isIn S2 (Int32.toInt64 v3) (97) (122)) fun v4 => if v4 = 0 then (bv (fX7_isIn S2 (Int32.toInt64 v3) (48) (57)) fun v5 => if v5 = 0 then (if v3 = (44) then some (si (si S2 0 17 ((S2.1 0 17) + (1))) 0 18 (3)) else some (si (si S2 0 17 ((S2.1 0 17) + (1))) 0 18 (4))) else fX7_goesOn_L149 (fun (S10 : St) => if (S10.1 0 19) ≤ (999) then some (si S10 0 18 (2)) else some (si S10 0 18 (4))) F (si S2 0 19 (0))) else fX7_goesOn_L69 (fun (S20 : St) => bv (fX7_wordHere F S20) fun v21 => if 0 ≤ ((si S20 0 19 v21).1 0 19) then some (si (si S20 0 19 v21) 0 18 (1)) else some (si (si S20 0 19 v21) 0 18 (4))) F S2) else some (si S2 0 18 (0))
theorem stepX_r {F : Nat} {X : St} : fX5_step F X = fX5_step_L0 (fun S1 => restX F (si S1 44 4 (S1.1 44 2))) F X := rfl
theorem goesOn_r {F : Nat} {M : St} : fX7_goesOn F M = fX7_goesOn_L0 (fun S1 => restM F (si S1 0 16 (S1.1 0 17))) F M := rfl
theorem restE_t {F : Nat} (hF : 200 ≤ F) {T : Nat → Nat} {n j : Nat} {X M : St} (h : TB T n j X M) (hi : X.1 44 4 = nI j) (hi' : M.1 0 16 = nI j) : ∃ X1 M1 j' tk v, restX F X = some X1 ∧ restM F M = some M1 ∧ Tok T n X1 M1 j' j tk v ∧ j ≤ j' ∧ (tk ≠ 0 → j < j') ∧ SF X M X1 M1 := by
  have hn := h.1
  have hj := h.2.1
  have hxn := h.2.2.2.1
  have hxj := h.2.2.2.2.2.1
  have hmj := h.2.2.2.2.2.2.1
  unfold restX restM
  rw [hxn, hxj, hmj]
  by_cases c : j = n
  · subst c
    rw [if_neg (nI_nlt (Nat.le_refl j) (by omega)), byteN h, bv_e, if_neg neg1.1]
    refine ⟨_, _, j, 0, 0, rfl, rfl, ⟨h.kept hj (si_o (by decide)) (si_s (by decide)) (by rw [si_s (by decide)]; exact hxj) (si_o (by decide)) (si_s (by decide)) (by rw [si_s (by decide)]; exact hmj) (si_o (by decide)), Nat.le_refl _, si_h, by rw [si_s (by decide)]; exact hi, by rw [si_s (by decide)]; exact hi', Or.inl ⟨rfl, si_h⟩⟩, Nat.le_refl _, fun q => absurd rfl q, ⟨fun d hd => si_o hd, rfl, fun d hd => si_o hd, fun s hs => si_s (by omega), rfl⟩⟩
  · have hjn : j < n := by omega
    obtain ⟨t1, t2, t3⟩ := h.2.2.1 j hjn
    rw [if_pos (nI_lt hjn (by omega)), byteE h hjn, bv_e, if_pos (nI_pos' (by omega)), ldi_e (by omega) (by decide), t2]
    by_cases cl : 97 ≤ T j ∧ T j ≤ 122
    · rw [letT cl.1 cl.2, bv_e, if_neg (by decide), isInT (lo := 97) (hi := 122) (by decide) (by decide) cl.1 cl.2 (by decide), bv_e, if_neg (by decide)]
      have hb : TB T n j (si X 44 3 1) M := h.kept hj (si_o (by decide)) (si_s (by decide)) (by rw [si_s (by decide)]; exact hxj) rfl rfl hmj rfl
      obtain ⟨j', g1, g2, g3, g4, g5⟩ := letters F F j _ _ hb (by omega) (by omega)
      have hb2 := hb.next g2
      obtain ⟨v, v1, v2, v3⟩ := wordM (F := F) (by omega) hb2 (i := j) (by rw [si_s (by decide)]; exact hi') g1
      rw [g3, g4, v3, bv_e, si_h]
      have lt := g5 hjn cl.1 cl.2
      by_cases cv : v < 13
      · rw [if_pos cv, if_pos (nI_pos' (by omega))]
        refine ⟨_, _, j', 1, v, rfl, rfl, ⟨hb2.kept g2 rfl rfl si_h (by rw [si_o (by decide), si_o (by decide)]) (by rw [si_s (by decide), si_s (by decide)]) (by rw [si_s (by decide), si_s (by decide), si_h]) (by rw [si_o (by decide), si_o (by decide)]), g1, by rw [si_s (by decide), si_h]; rfl, by rw [si_s (by decide), si_s (by decide)]; exact hi, by rw [si_s (by decide), si_s (by decide), si_s (by decide)]; exact hi', Or.inr (Or.inl ⟨rfl, v1, v2, fun _ => ⟨si_h, by rw [si_s (by decide), si_h]⟩, fun q => by omega⟩)⟩, g1, fun _ => lt, ⟨fun d hd => by rw [si_o hd, si_o hd], rfl, fun d hd => by rw [si_o hd, si_o hd, si_o hd], fun s hs => by rw [si_s (by omega), si_s (by omega), si_s (by omega)], rfl⟩⟩
      · rw [if_neg cv, if_neg neg1.1]
        refine ⟨_, _, j', 1, v, rfl, rfl, ⟨hb2.kept g2 rfl rfl si_h (by rw [si_o (by decide), si_o (by decide)]) (by rw [si_s (by decide), si_s (by decide)]) (by rw [si_s (by decide), si_s (by decide), si_h]) (by rw [si_o (by decide), si_o (by decide)]), g1, by rw [si_s (by decide), si_h]; rfl, by rw [si_s (by decide), si_s (by decide)]; exact hi, by rw [si_s (by decide), si_s (by decide), si_s (by decide)]; exact hi', Or.inr (Or.inl ⟨rfl, v1, v2, fun q => absurd q cv, fun _ => si_h⟩)⟩, g1, fun _ => lt, ⟨fun d hd => by rw [si_o hd, si_o hd], rfl, fun d hd => by rw [si_o hd, si_o hd, si_o hd], fun s hs => by rw [si_s (by omega), si_s (by omega), si_s (by omega)], rfl⟩⟩
    · rw [letF cl t1, bv_e, if_pos rfl, isInF (lo := 97) (hi := 122) (by decide) (by decide) cl (by omega) (by decide) (by decide), bv_e, if_pos rfl, ldi_e (by omega) (by decide), t2]
      by_cases cd : 48 ≤ T j ∧ T j ≤ 57
      · rw [digT cd.1 cd.2, bv_e, if_neg (by decide), isInT (lo := 48) (hi := 57) (by decide) (by decide) cd.1 cd.2 (by decide), bv_e, if_neg (by decide)]
        have hb : TB T n j (si (si X 44 3 2) 44 5 0) (si M 0 19 0) := h.kept hj (by rw [si_o (by decide), si_o (by decide)]) (by rw [si_s (by decide), si_s (by decide)]) (by rw [si_s (by decide), si_s (by decide)]; exact hxj) (si_o (by decide)) (si_s (by decide)) (by rw [si_s (by decide)]; exact hmj) (si_o (by decide))
        obtain ⟨j', a, b, g1, g2, g0, g3, g4, g5⟩ := digits F F j 0 0 _ _ hb si_h si_h (Or.inl ⟨by decide, rfl⟩) (by omega) (by omega)
        have lt := g5 hjn cd.1 cd.2
        have hb2 := hb.next2 (x := nI a) (y := nI b) g2
        rw [g3, g4, si_s (by decide), si_h]
        have ha : a ≤ 1000 := by unfold VR at g0; omega
        have hbb : b ≤ 9999 := by unfold VR at g0; omega
        by_cases cv : a ≤ 999
        · have e : b = a := by unfold VR at g0; omega
          subst e
          rw [if_pos (show nI b ≤ (999 : Int32) from nI_le (b := 999) cv (by decide))]
          refine ⟨_, _, j', 2, b, rfl, rfl, ⟨hb2.kept g2 rfl rfl si_h (si_o (by decide)) (si_s (by decide)) (by rw [si_s (by decide), si_h]) (si_o (by decide)), g1, by rw [si_s (by decide), si_s (by decide), si_s (by decide), si_h]; rfl, by rw [si_s (by decide), si_s (by decide), si_s (by decide), si_s (by decide)]; exact hi, by rw [si_s (by decide), si_s (by decide), si_s (by decide), si_s (by decide)]; exact hi', Or.inr (Or.inr (Or.inl ⟨rfl, ha, by rw [si_s (by decide), si_h], fun _ => ⟨si_h, by rw [si_s (by decide), si_s (by decide), si_h]⟩, fun q => by omega⟩))⟩, g1, fun _ => lt, ⟨fun d hd => by rw [si_o hd, si_o hd, si_o hd, si_o hd], rfl, fun d hd => by rw [si_o hd, si_o hd, si_o hd, si_o hd], fun s hs => by rw [si_s (by omega), si_s (by omega), si_s (by omega), si_s (by omega)], rfl⟩⟩
        · have e : 1000 ≤ b := by unfold VR at g0; omega
          rw [if_neg (show ¬ nI b ≤ (999 : Int32) from nI_ge (a := 999) (by omega) (by omega))]
          refine ⟨_, _, j', 2, a, rfl, rfl, ⟨hb2.kept g2 rfl rfl si_h (si_o (by decide)) (si_s (by decide)) (by rw [si_s (by decide), si_h]) (si_o (by decide)), g1, by rw [si_s (by decide), si_s (by decide), si_s (by decide), si_h]; rfl, by rw [si_s (by decide), si_s (by decide), si_s (by decide), si_s (by decide)]; exact hi, by rw [si_s (by decide), si_s (by decide), si_s (by decide), si_s (by decide)]; exact hi', Or.inr (Or.inr (Or.inl ⟨rfl, ha, by rw [si_s (by decide), si_h], fun q => absurd q cv, fun _ => si_h⟩))⟩, g1, fun _ => lt, ⟨fun d hd => by rw [si_o hd, si_o hd, si_o hd, si_o hd], rfl, fun d hd => by rw [si_o hd, si_o hd, si_o hd, si_o hd], fun s hs => by rw [si_s (by omega), si_s (by omega), si_s (by omega), si_s (by omega)], rfl⟩⟩
      · rw [digF cd t1, bv_e, if_pos rfl, isInF (lo := 48) (hi := 57) (by decide) (by decide) cd (by omega) (by decide) (by decide), bv_e, if_pos rfl, ldi_e (by omega) (by decide), t2, si_s (by decide), si_s (by decide), hxj, nI_1]
        by_cases cc : T j = 44
        · rw [if_pos (show nI (T j) = (44 : Int32) from by rw [cc]; rfl), if_pos (show nI (T j) = (44 : Int32) from by rw [cc]; rfl)]
          refine ⟨_, _, j + 1, 3, 0, rfl, rfl, ⟨h.kept (by omega) (by rw [si_o (by decide), si_o (by decide)]) (by rw [si_s (by decide), si_s (by decide)]) si_h (by rw [si_o (by decide), si_o (by decide)]) (by rw [si_s (by decide), si_s (by decide)]) (by rw [si_s (by decide), si_h]) (by rw [si_o (by decide), si_o (by decide)]), by omega, by rw [si_s (by decide), si_h]; rfl, by rw [si_s (by decide), si_s (by decide)]; exact hi, by rw [si_s (by decide), si_s (by decide)]; exact hi', Or.inr (Or.inr (Or.inr (Or.inl ⟨rfl, si_h⟩)))⟩, by omega, fun _ => by omega, ⟨fun d hd => by rw [si_o hd, si_o hd], rfl, fun d hd => by rw [si_o hd, si_o hd], fun s hs => by rw [si_s (by omega), si_s (by omega)], rfl⟩⟩
        · rw [if_neg (show ¬ nI (T j) = (44 : Int32) from fun q => cc ((nI_eq (b := 44) (by omega) (by decide)).mp q)), if_neg (show ¬ nI (T j) = (44 : Int32) from fun q => cc ((nI_eq (b := 44) (by omega) (by decide)).mp q))]
          refine ⟨_, _, j + 1, 4, 0, rfl, rfl, ⟨h.kept (by omega) (by rw [si_o (by decide), si_o (by decide)]) (by rw [si_s (by decide), si_s (by decide)]) si_h (by rw [si_o (by decide), si_o (by decide)]) (by rw [si_s (by decide), si_s (by decide)]) (by rw [si_s (by decide), si_h]) (by rw [si_o (by decide), si_o (by decide)]), by omega, by rw [si_s (by decide), si_h]; rfl, by rw [si_s (by decide), si_s (by decide)]; exact hi, by rw [si_s (by decide), si_s (by decide)]; exact hi', Or.inr (Or.inr (Or.inr (Or.inr ⟨rfl, si_h⟩)))⟩, by omega, fun _ => by omega, ⟨fun d hd => by rw [si_o hd, si_o hd], rfl, fun d hd => by rw [si_o hd, si_o hd], fun s hs => by rw [si_s (by omega), si_s (by omega)], rfl⟩⟩
theorem stepE {F : Nat} (hF : 200 ≤ F) {T : Nat → Nat} {n j : Nat} {X M : St} (h : TB T n j X M) : ∃ X1 M1 j' i' tk v, fX5_step F X = some X1 ∧ fX7_goesOn F M = some M1 ∧ Tok T n X1 M1 j' i' tk v ∧ j ≤ j' ∧ (tk ≠ 0 → j < j') ∧ SF X M X1 M1 := by
  have hn := h.1
  obtain ⟨j1, a1, a2, a3, a4, a5⟩ := blanks F F j X M h (by omega) (by omega)
  rw [stepX_r, goesOn_r, a3, a4, si_h, si_h]
  have hb : TB T n j1 (si (si X 44 2 (nI j1)) 44 4 (nI j1)) (si (si M 0 17 (nI j1)) 0 16 (nI j1)) := h.kept a2 (by rw [si_o (by decide), si_o (by decide)]) (by rw [si_s (by decide), si_s (by decide)]) (by rw [si_s (by decide), si_h]) (by rw [si_o (by decide), si_o (by decide)]) (by rw [si_s (by decide), si_s (by decide)]) (by rw [si_s (by decide), si_h]) (by rw [si_o (by decide), si_o (by decide)])
  obtain ⟨X1, M1, j', tk, v, b1, b2, b3, b4, b5, b6⟩ := restE_t hF hb si_h si_h
  refine ⟨X1, M1, j', j1, tk, v, b1, b2, b3, by omega, fun q => by have := b5 q; omega, ?_⟩
  obtain ⟨s1, s2, s3, s4, s5⟩ := b6
  exact ⟨fun d hd => by rw [s1 d hd, si_o hd, si_o hd], s2, fun d hd => by rw [s3 d hd, si_o hd, si_o hd], fun s hs => by rw [s4 s hs, si_s (by omega), si_s (by omega)], s5⟩
