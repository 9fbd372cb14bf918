-- THE TEXT: the house
theorem bv_eta {σ : Type} (x : Option σ) : bv x (fun s => some s) = x := by
  cases x with
  | none => rfl
  | some p => rfl
theorem out_k {X0 M0 : St} {T : Nat → Nat} {n j0 : Nat} {x : Option (St × Int32)} {m : Option St} (h : Out X0 M0 T n j0 x m) : Out X0 M0 T n j0 (bq x fun S v => ok (v &&& 1 = v) (some (S, v))) m := by
  obtain ⟨X1, M1, h1, h2, h3⟩ := h
  refine ⟨X1, M1, h1, h2, ?_⟩
  rcases h3 with ⟨rfl, h4⟩ | ⟨rfl, h4⟩
  · exact Or.inl ⟨by rw [bq_e, ok_e (by decide)], h4⟩
  · exact Or.inr ⟨by rw [bq_e, ok_e (by decide)], h4⟩
theorem out_d {X0 M0 : St} {T : Nat → Nat} {n j0 : Nat} {x : Option (St × Int32)} {m : Option St} (h : Out X0 M0 T n j0 x m) : Out X0 M0 T n j0 (bq x fun S v => if v = 0 then some (S, 0) else some (S, 1)) m := by
  obtain ⟨X1, M1, h1, h2, h3⟩ := h
  refine ⟨X1, M1, h1, h2, ?_⟩
  rcases h3 with ⟨rfl, h4⟩ | ⟨rfl, h4⟩
  · exact Or.inl ⟨by rw [bq_e, if_pos rfl], h4⟩
  · exact Or.inr ⟨by rw [bq_e, if_neg (by decide)], h4⟩
theorem kname {S : St} : ∀ k, k < 7 → fX5_kindName S (nI k) = some k := by
  intro k hk
  match k, hk with
  | 0, _ => rfl
  | 1, _ => rfl
  | 2, _ => rfl
  | 3, _ => rfl
  | 4, _ => rfl
  | 5, _ => rfl
  | 6, _ => rfl
theorem bs_e {β : Type} {w : Nat} (h : w < 13) (k : Nat → Option β) : bs (some w) k = k w := ok_e h _
theorem kindL {F : Nat} {X : St} {v : Nat} (hv : ∀ w, w < 13 → (w = v → fX5_isWord F w X = some 1) ∧ (¬ w = v → fX5_isWord F w X = some 0)) {J29 : Int32 → Option (St × Int32)} {J42 : Option (St × Int32)} : ∀ (G k : Nat), k ≤ 7 → 7 - k < G → k ≤ v → fX5_takeItem_L12 F X J29 J42 G (nI k) = if v < 7 then J29 (nI v) else J42 := by
  intro G
  induction G with
  | zero => intro k h1 h2; omega
  | succ G ih =>
    intro k h1 h2 h3
    rw [fX5_takeItem_L12]
    by_cases c : k = 7
    · subst c
      rw [if_pos (show (7 : Int32) ≤ nI 7 from by decide), if_neg (by omega)]
    · rw [if_neg (show ¬ (7 : Int32) ≤ nI k from nI_ge (b := 7) (by omega) (by decide)), kname k (by omega), bs_e (by omega)]
      by_cases e : k = v
      · rw [(hv k (by omega)).1 e, bv_e, if_neg (by decide), ← e, if_pos (by omega)]
      · rw [(hv k (by omega)).2 e, bv_e, if_pos rfl, pl_e, nI_1]
        exact ih (k + 1) (by omega) (by omega) (by omega)
def itM (F : Nat) (S : St) (v1 : Int32) : Option St := if v1 < 0 then putz S 0 20 1 (fun S2 => some S2) else (if v1 ≤ 9 then (if 7 ≤ v1 then (if v1 = 7 then bv (fX7_campItem F S) fun S8 => some S8 else (if v1 = 8 then bv (fX7_beastItem F S) fun S7 => some S7 else (bv (fX7_goesOn F S) fun S3 => bq (fX7_number F S3 0 99) fun S4 v5 => sti S4 1 8 216 v5 fun S6 => some S6))) else bv (fX7_partItem F S v1) fun S9 => some S9) else putz S 0 20 1 (fun S2 => some S2))
theorem item_r {F : Nat} {S : St} : fX7_item F S = if (S.1 0 18) = 1 then itM F S (S.1 0 19) else itM F S (-1) := rfl
theorem item_no {F : Nat} {M : St} (h : ¬ M.1 0 18 = 1) : fX7_item F M = some (si M 0 20 1) := by
  rw [item_r, if_neg h]
  unfold itM
  rw [if_pos neg1.2, putz_e (by decide)]
theorem itemE {F : Nat} (hF : 200 ≤ F) {X0 M0 : St} {T : Nat → Nat} {n j0 j : Nat} {X M : St} {i tk v : Nat} {H : Hs} (hw : Wf H) (h : Ps X0 M0 T n j0 X M j i tk v H H) : Out X0 M0 T n j (fX5_takeItem F X) (fX7_item F M) := by
  have t3 := h.1.2.2.1
  have no : ¬ X.1 44 3 = 1 → ¬ M.1 0 18 = 1 → Out X0 M0 T n j (fX5_takeItem F X) (fX7_item F M) := by
    intro q1 q2
    unfold fX5_takeItem
    rw [if_neg q1, item_no q2]
    exact out_bad' h
  rcases h.1.2.2.2.2.2 with ⟨e, m⟩ | ⟨e, c1, c2, c3, c4⟩ | ⟨e, c1, c2, c3, c4⟩ | ⟨e, m⟩ | ⟨e, m⟩
  · rw [e] at t3
    exact no (by rw [t3]; decide) (by rw [m]; decide)
  · rw [e] at t3
    have hv : ∀ w, w < 13 → (w = v → fX5_isWord F w X = some 1) ∧ (¬ w = v → fX5_isWord F w X = some 0) := by
      intro w hw'
      rcases wordX (F := F) (by omega) h.1.1 h.1.2.2.2.1 h.1.2.1 hw' with ⟨r1, r2⟩ | ⟨r1, r2⟩
      · exact ⟨fun _ => r1, fun q => absurd ((c2 w hw').mp r2) q⟩
      · exact ⟨fun q => absurd ((c2 w hw').mpr q) r2, fun _ => r1⟩
    unfold fX5_takeItem
    rw [if_pos (show X.1 44 3 = 1 from t3), pl_e, pl_e, show ∀ J29 J42, fX5_takeItem_L12 F X J29 J42 F 0 = if v < 7 then J29 (nI v) else J42 from fun J29 J42 => kindL hv F 0 (by decide) (by omega) (by omega)]
    have hno : ¬ v < 7 → ¬ v = 7 → ¬ v = 8 → ¬ v = 9 → Out X0 M0 T n j (if v < 7 then bq (fX5_takePart F X (nI v)) fun S2 v3 => ok (v3 &&& 1 = v3) (some (S2, v3)) else bv (fX5_isWord F 7 X) fun v4 => if v4 = 0 then bv (fX5_isWord F 8 X) fun v5 => if v5 = 0 then bv (fX5_isWord F 9 X) fun v6 => if v6 = 0 then some (X, 0) else bq (fX5_takeDraw F X) fun S7 v8 => if v8 = 0 then some (S7, 0) else some (S7, 1) else bq (fX5_takeBeast F X) fun S9 v10 => ok (v10 &&& 1 = v10) (some (S9, v10)) else bq (fX5_takeCamp F X) fun S11 v12 => ok (v12 &&& 1 = v12) (some (S11, v12))) (some (si M 0 20 1)) := by
      intro q0 q1 q2 q3
      rw [if_neg q0, (hv 7 (by decide)).2 (fun z => q1 z.symm), bv_e, if_pos rfl, (hv 8 (by decide)).2 (fun z => q2 z.symm), bv_e, if_pos rfl, (hv 9 (by decide)).2 (fun z => q3 z.symm), bv_e, if_pos rfl]
      exact out_bad' h
    by_cases q13 : v < 13
    · rw [item_r, if_pos (c3 q13).1, (c3 q13).2]
      by_cases q9 : v ≤ 9
      · unfold itM
        rw [if_neg (nI_pos (by omega)), if_pos (show nI v ≤ (9 : Int32) from nI_le (b := 9) q9 (by decide))]
        by_cases q7 : v < 7
        · rw [if_pos q7, if_neg (show ¬ (7 : Int32) ≤ nI v from nI_ge (b := 7) q7 (by decide)), bv_eta]
          exact out_k (partE hF hw h q7)
        · rw [if_neg q7, if_pos (show (7 : Int32) ≤ nI v from nI_le (a := 7) (by omega) (by omega))]
          rcases (show v = 7 ∨ v = 8 ∨ v = 9 by omega) with z | z | z
          · rw [(hv 7 (by decide)).1 z.symm, bv_e, if_neg (by decide), if_pos (show nI v = (7 : Int32) from by rw [z]; rfl), bv_eta]
            exact out_k (campE hF hw h)
          · rw [(hv 7 (by decide)).2 (by omega), bv_e, if_pos rfl, (hv 8 (by decide)).1 z.symm, bv_e, if_neg (by decide), if_neg (show ¬ nI v = (7 : Int32) from by rw [z]; decide), if_pos (show nI v = (8 : Int32) from by rw [z]; rfl), bv_eta]
            exact out_k (beastE hF hw h)
          · rw [(hv 7 (by decide)).2 (by omega), bv_e, if_pos rfl, (hv 8 (by decide)).2 (by omega), bv_e, if_pos rfl, (hv 9 (by decide)).1 z.symm, bv_e, if_neg (by decide), if_neg (show ¬ nI v = (7 : Int32) from by rw [z]; decide), if_neg (show ¬ nI v = (8 : Int32) from by rw [z]; decide)]
            exact out_d (drawE hF hw h.pb')
      · have : itM F M (nI v) = some (si M 0 20 1) := by
          unfold itM
          rw [if_neg (nI_pos (by omega)), if_neg (show ¬ nI v ≤ (9 : Int32) from nI_ge (a := 9) (by omega) (by omega)), putz_e (by decide)]
        rw [this]
        exact hno (by omega) (by omega) (by omega) (by omega)
    · rw [item_no (by rw [c4 (by omega)]; decide)]
      exact hno (by omega) (by omega) (by omega) (by omega)
  · rw [e] at t3
    refine no (by rw [t3]; decide) ?_
    by_cases q : v ≤ 999
    · rw [(c3 q).1]; decide
    · rw [c4 (by omega)]; decide
  · rw [e] at t3
    exact no (by rw [t3]; decide) (by rw [m]; decide)
  · rw [e] at t3
    exact no (by rw [t3]; decide) (by rw [m]; decide)
def tellJ : St → Option (St × Int32) := fun S => some (S, ((-1) - (S.1 44 4)))
theorem tellTo_r {F : Nat} {S : St} : fX5_tellTo F S = bv (fX5_step F (si S 44 2 0)) fun S2 => fX5_tellTo_L11 F tellJ tellJ tellJ F S2 1 := rfl
def HoP (X0 M0 X1 M1 : St) (r : Int32) (k : Nat) : Prop := (r = nI k ∧ k ≤ 120 ∧ M1.1 0 20 = 0 ∧ M1.1 0 18 = 0 ∧ ∃ H, Wf H ∧ ShX X1.1 23 H ∧ ShM (M1.1 1) H) ∨ ((∃ i, i ≤ 120 ∧ r = -1 - nI i ∧ M1.1 0 16 = nI i) ∧ (M1.1 0 20 = 1 ∨ (M1.1 0 20 = 0 ∧ ¬ M1.1 0 18 = 0)))
theorem houseL {F : Nat} (hF : 200 ≤ F) {X0 M0 : St} {T : Nat → Nat} {n : Nat} : ∀ (G G' k : Nat) (X M : St) (j0 j i tk v : Nat) (H : Hs), Wf H → Ps X0 M0 T n j0 X M j i tk v H H → n + 1 - j < G → n + 1 - j < G' → k ≤ j + 1 → (tk ≠ 0 → k ≤ j) → ∃ X1 M1 r k', fX5_tellTo_L11 F tellJ tellJ tellJ G X (nI k) = some (X1, r) ∧ (∀ J76, (bv (fX7_item F M) fun S5 => fX7_house_L47 F J76 G' S5 (nI k)) = J76 M1 (nI k')) ∧ Fr X0 M0 X1 M1 ∧ HoP X0 M0 X1 M1 r k' := by
  intro G
  induction G with
  | zero => intro G' k X M j0 j i tk v H hw h h1; omega
  | succ G ih =>
    intro G' k X M j0 j i tk v H hw h h1 h2 h3 h4
    obtain ⟨G', rfl⟩ : ∃ g, G' = g + 1 := ⟨G' - 1, by omega⟩
    have hn := h.1.1.1
    have hj := h.1.1.2.1
    rw [fX5_tellTo_L11]
    by_cases ck : 120 < k
    · have tk0 : tk = 0 := Decidable.byContradiction (fun q => by have := h4 q; omega)
      have m18 : M.1 0 18 = 0 := by
        rcases h.1.2.2.2.2.2 with ⟨-, m⟩ | ⟨e, -⟩ | ⟨e, -⟩ | ⟨e, -⟩ | ⟨e, -⟩
        · exact m
        · omega
        · omega
        · omega
        · omega
      rw [if_pos (show (120 : Int32) < nI k from nI_lt (a := 120) ck (by omega))]
      refine ⟨X, si M 0 20 1, _, k, rfl, fun J76 => ?_, ⟨h.2.2.1.1, h.2.2.1.2.1, fun d hd => by rw [si_o (by omega)]; exact h.2.2.1.2.2.1 d hd, fun s hs => by rw [si_s (by omega)]; exact h.2.2.1.2.2.2.1 s hs, h.2.2.1.2.2.2.2⟩, Or.inr ⟨⟨i, by have := h.1.2.1; omega, by rw [h.1.2.2.2.1], by rw [si_s (by decide)]; exact h.1.2.2.2.2.1⟩, Or.inl si_h⟩⟩
      rw [item_no (by rw [m18]; decide), bv_e, fX7_house_L47, si_h, if_neg (by decide)]
    · rw [if_neg (show ¬ (120 : Int32) < nI k from nI_nlt (a := 120) (by omega) (by omega))]
      obtain ⟨X1, M1, o1, o2, o3⟩ := itemE hF hw h
      rcases o3 with ⟨o4, ⟨i', p1, p2, p3⟩, o5⟩ | ⟨o4, H1, j1, i1, tk1, v1, hw1, o5⟩
      · rw [o4, bq_e, if_pos rfl]
        refine ⟨X1, M1, _, k, rfl, fun J76 => ?_, o2, Or.inr ⟨⟨i', p1, by rw [p2], p3⟩, ?_⟩⟩
        · rw [o1, bv_e, fX7_house_L47]
          rcases o5 with q | ⟨q1, q2, q3⟩
          · rw [q, if_neg (by decide)]
          · rw [if_pos q1, if_neg q3]
        · rcases o5 with q | ⟨q1, q2, q3⟩
          · exact Or.inl q
          · exact Or.inr ⟨q1, q2⟩
      · rw [o4, bq_e, if_neg (by decide)]
        have t3 := o5.1.2.2.1
        have pi := o5.1.2.1
        have pj := o5.1.1.2.1
        have oth : ¬ X1.1 44 3 = 0 → ¬ X1.1 44 3 = 3 → ¬ M1.1 0 18 = 0 → ¬ M1.1 0 18 = 3 → ∃ X2 M2 r k', (if (X1.1 44 3) = 0 then some (X1, nI k) else (if (X1.1 44 3) = 3 then (bv (fX5_step F X1) fun S10 => pl (nI k + 1) fun v11 => fX5_tellTo_L11 F tellJ tellJ tellJ G S10 v11) else tellJ X1)) = some (X2, r) ∧ (∀ J76, (bv (fX7_item F M) fun S5 => fX7_house_L47 F J76 (G' + 1) S5 (nI k)) = J76 M2 (nI k')) ∧ Fr X0 M0 X2 M2 ∧ HoP X0 M0 X2 M2 r k' := by
          intro q0 q3 m0 m3
          rw [if_neg q0, if_neg q3]
          refine ⟨X1, M1, _, k, rfl, fun J76 => ?_, o2, Or.inr ⟨⟨i1, by omega, by rw [o5.1.2.2.2.1], o5.1.2.2.2.2.1⟩, Or.inr ⟨o5.2.1, m0⟩⟩⟩
          rw [o1, bv_e, fX7_house_L47, if_pos o5.2.1, if_neg m3]
        rcases o5.1.2.2.2.2.2 with ⟨e, m⟩ | ⟨e, c1, c2, c3, c4⟩ | ⟨e, c1, c2, c3, c4⟩ | ⟨e, m⟩ | ⟨e, m⟩
        · rw [e] at t3
          rw [if_pos (show X1.1 44 3 = 0 from t3)]
          refine ⟨X1, M1, _, k, rfl, fun J76 => ?_, o2, Or.inl ⟨rfl, by omega, o5.2.1, m, H1, hw1, o5.2.2.2.1, o5.2.2.2.2.1⟩⟩
          rw [o1, bv_e, fX7_house_L47, if_pos o5.2.1, if_neg (by rw [m]; decide)]
        · rw [e] at t3
          have mm : M1.1 0 18 = 1 ∨ M1.1 0 18 = 4 := by
            by_cases q : v1 < 13
            · exact Or.inl (c3 q).1
            · exact Or.inr (c4 (by omega))
          exact oth (by rw [t3]; decide) (by rw [t3]; decide) (by rcases mm with q | q <;> rw [q] <;> decide) (by rcases mm with q | q <;> rw [q] <;> decide)
        · rw [e] at t3
          have mm : M1.1 0 18 = 2 ∨ M1.1 0 18 = 4 := by
            by_cases q : v1 ≤ 999
            · exact Or.inl (c3 q).1
            · exact Or.inr (c4 (by omega))
          exact oth (by rw [t3]; decide) (by rw [t3]; decide) (by rcases mm with q | q <;> rw [q] <;> decide) (by rcases mm with q | q <;> rw [q] <;> decide)
        · rw [e] at t3
          have lt := o5.2.2.2.2.2.2 (by omega)
          obtain ⟨X2, M2, j2, i2, tk2, v2, a1, a2, a3⟩ := advE hF o5.pb'
          have l2 := a3.2.2.2.2.2.1
          have l3 := a3.2.2.2.2.2.2
          obtain ⟨X3, M3, r, k', b1, b2, b3, b4⟩ := ih G' (k + 1) X2 M2 j1 j2 i2 tk2 v2 H1 hw1 a3 (by omega) (by omega) (by omega) (fun q => by have := l3 q; omega)
          refine ⟨X3, M3, r, k', ?_, fun J76 => ?_, b3, b4⟩
          · rw [if_neg (show ¬ X1.1 44 3 = 0 from by rw [t3]; decide), if_pos (show X1.1 44 3 = 3 from t3), a1, bv_e, pl_e, nI_1]
            exact b1
          · rw [o1, bv_e, fX7_house_L47, if_pos o5.2.1, if_pos m, a2, bv_e]
            have := b2 J76
            simp only [pl_e]
            rw [nI_1]
            exact this
        · rw [e] at t3
          exact oth (by rw [t3]; decide) (by rw [t3]; decide) (by rw [m]; decide) (by rw [m]; decide)
theorem house_L2 {J : St → Option (St × Int32)} {S : St} : ∀ (G i : Nat), i ≤ 216 → 216 - i < G → fX7_house_L2 J G (cprow S 1 3 i) (nI i) = J (cprow S 1 3 216) := by
  intro G
  induction G with
  | zero => intro m h1 h2; omega
  | succ G ih =>
    intro m h1 h2
    rw [fX7_house_L2]
    by_cases hm : m = 216
    · subst hm
      rw [if_pos (show (216 : Int32) ≤ nI 216 from by decide)]
    · rw [if_neg (show ¬ (216 : Int32) ≤ nI m from nI_ge (b := 216) (by omega) (by decide)), ldi_e (by omega) (by decide), sti_e (by omega) (by decide), pl_e, nI_1, cprow_o (by decide)]
      exact ih (m + 1) (by omega) (by omega)
theorem house_L115 {J : St → Option (St × Int32)} {S : St} : ∀ (G i : Nat), i ≤ 216 → 216 - i < G → fX7_house_L115 J G (cprow S 3 1 i) (nI i) = J (cprow S 3 1 216) := by
  intro G
  induction G with
  | zero => intro m h1 h2; omega
  | succ G ih =>
    intro m h1 h2
    rw [fX7_house_L115]
    by_cases hm : m = 216
    · subst hm
      rw [if_pos (show (216 : Int32) ≤ nI 216 from by decide)]
    · rw [if_neg (show ¬ (216 : Int32) ≤ nI m from nI_ge (b := 216) (by omega) (by decide)), ldi_e (by omega) (by decide), sti_e (by omega) (by decide), pl_e, nI_1, cprow_o (by decide)]
      exact ih (m + 1) (by omega) (by omega)
def hmK (F : Nat) (S6 : St) (v7 v8 : Int32) : Option (St × Int32) := putz S6 0 20 v8 fun S9 => if ((si S9 0 6 0).1 0 20) = 0 then some (si S9 0 6 0, v7) else fX7_house_L115 (fun (S11 : St) => some (S11, ((-1) - (S11.1 0 16)))) F (si S9 0 6 0) 0
def hmJ (F : Nat) (S6 : St) (v7 : Int32) : Option (St × Int32) := if (S6.1 0 20) = 0 then (if (S6.1 0 18) = 0 then hmK F S6 v7 0 else hmK F S6 v7 1) else hmK F S6 v7 1
theorem house_r {F : Nat} {S : St} : fX7_house F S = fX7_house_L2 (fun (S1 : St) => putz (si S1 0 17 0) 0 20 0 fun S3 => bv (fX7_goesOn F S3) fun S4 => bv (fX7_item F S4) fun S5 => fX7_house_L47 F (hmJ F) F S5 1) F S 0 := rfl
theorem rel_text {X M X' M' : St} (h : Rel X M) (hx : ∀ d, d = 0 ∨ (11 < d ∧ d < 23) ∨ 33 < d → d ≠ 44 → X'.1 d = X.1 d) (hx2 : X'.2 = X.2) (hm : ∀ d, 1 < d → d ≠ 3 → M'.1 d = M.1 d) (hm0 : M'.1 0 3 = M.1 0 3) (hm2 : M'.2 = M.2) (x1 : X'.1 44 1 = 0) (m6 : M'.1 0 6 = 0) (hs : ∃ H, St1 X'.1 1 (M'.1 1) H) : Rel X' M' := by
  obtain ⟨-, h2, h3, h4, h5, h6⟩ := h
  exact ⟨hs, h2.kept (fun k hk => hx _ (by omega) (by omega)) (by rw [hx 0 (by omega) (by decide)]) hm0 (hm 2 (by decide) (by decide)), ⟨0, by decide, x1, m6, fun k hk => by omega⟩, h4.kept (fun t ht => hx _ (by omega) (by omega)) (fun t ht => by rw [hx2]) (hm 6 (by decide) (by decide)) (hm 7 (by decide) (by decide)) (by rw [hm2]), h5.kept (hx 55 (by omega) (by decide)) (hm 4 (by decide) (by decide)), h6.kept (hm 14 (by decide) (by decide))⟩
theorem neg_i {i : Nat} (h : i ≤ 120) : (-1 : Int32) - nI i < 0 := by
  have e : (-1 : Int32) = nI 0 - nI 1 := by decide
  have e2 : (-1 : Int32) - nI i = nI 0 - nI (1 + i) := by rw [e, ← nI_add]; grind
  rw [e2]
  exact pk_sneg (by omega) (by omega)
theorem st_house {F : Nat} (hF : 1000 ≤ F) : s_house Rel F := by
  intro X M hR
  show Ag _ _
  obtain ⟨⟨H, hS⟩, -, ⟨n, hn, t1, t2, t3⟩, -, -, hL⟩ := id hR
  obtain ⟨Y, y1, y2, y3, y4⟩ := takeOver_ok (b := 23) (b1 := 1) (by decide) hS.1 hS.2.1
  unfold fX6_house
  rw [y1, bv_e, tellTo_r, house_r]
  have hl2 := house_L2 (J := fun (S1 : St) => putz (si S1 0 17 0) 0 20 0 fun S3 => bv (fX7_goesOn F S3) fun S4 => bv (fX7_item F S4) fun S5 => fX7_house_L47 F (hmJ F) F S5 1) (S := M) F 0 (by decide) (by omega)
  rw [show cprow M 1 3 0 = M from rfl, show nI 0 = (0 : Int32) from rfl, putz_e (by decide)] at hl2
  rw [hl2]
  have co : ∀ d, d ≠ 3 → (cprow M 1 3 216).1 d = M.1 d := fun d hd => cprow_o hd
  have hp : Pb Y (cprow M 1 3 216) (fun k => (M.1 5 k).toNatClampNeg) n 0 (si Y 44 2 0) (si (si (cprow M 1 3 216) 0 17 0) 0 20 0) 0 H H := by
    refine ⟨⟨hn, Nat.zero_le _, fun k hk => ?_, ?_, ?_, si_h, ?_, ?_⟩, si_h, ⟨fun d _ hd => si_o hd, rfl, fun d hd => by rw [si_o (by omega), si_o (by omega)], fun s hs => by rw [si_s (by omega), si_s (by omega)], by rw [si_b, si_b]⟩, y2.kept (fun k hk => si_o (by omega)), ?_, Nat.le_refl _⟩
    · obtain ⟨z1, c, z2, z3⟩ := t3 k hk
      rw [si_o (c := 44) (d := 45) (by decide), y3 45 (by decide), si_o (by decide), si_o (by decide), co 5 (by decide), z1]
      show (M.1 5 k).toNatClampNeg < 256 ∧ M.1 5 k = nI (M.1 5 k).toNatClampNeg ∧ M.1 5 k = nI (M.1 5 k).toNatClampNeg
      rw [z3, nI_clamp (by omega)]
      exact ⟨z2, rfl, rfl⟩
    · rw [si_s (by decide), y3 44 (by decide)]; exact t1
    · rw [si_s (by decide), si_s (by decide), co 0 (by decide)]; exact t2
    · rw [si_s (by decide), si_h]; rfl
    · exact hL.kept (by rw [si_o (by decide), si_o (by decide), co 14 (by decide)])
    · rw [si_o (by decide), si_o (by decide), co 1 (by decide)]; exact hS.2.2
  obtain ⟨X1, M1, j1, i1, tk1, v1, a1, a2, a3⟩ := advE (F := F) (by omega) hp
  rw [a1, bv_e, a2, bv_e]
  obtain ⟨X2, M2, r, k', b1, b2, b3, b4⟩ := houseL (F := F) (by omega) F F 1 X1 M1 0 j1 i1 tk1 v1 H hS.1 a3 (by omega) (by omega) (by omega) (fun q => a3.2.2.2.2.2.2 q)
  have b1' : fX5_tellTo_L11 F tellJ tellJ tellJ F X1 1 = some (X2, r) := b1
  have b2' : (bv (fX7_item F M1) fun S5 => fX7_house_L47 F (hmJ F) F S5 1) = hmJ F M2 (nI k') := b2 (hmJ F)
  rw [b1', b2', bq_e]
  simp only [pl_e]
  obtain ⟨f1, f2, f3, f4, f5⟩ := b3
  rcases b4 with ⟨g1, g2, g3, g4, H2, g5, g6, g7⟩ | ⟨⟨i, g1, g2, g3⟩, g4⟩
  · obtain ⟨Z, z1, z2, z3, z4⟩ := takeOver_ok (b := 1) (b1 := 23) (by decide) g5 g6
    have hm : hmJ F M2 (nI k') = some (si (si M2 0 20 0) 0 6 0, nI k') := by
      unfold hmJ
      rw [if_pos g3, if_pos g4]
      unfold hmK
      rw [putz_e (by decide), si_s (by decide), si_h, if_pos rfl]
    rw [g1, if_neg (nI_pos (by omega)), z1, bv_e, hm]
    refine ag_of rfl rfl (rel_text hR (fun d hd h44 => ?_) ?_ (fun d hd h3 => ?_) ?_ ?_ si_h si_h ⟨H2, g5, z2.kept (fun k hk => si_o (by omega)), ?_⟩)
    · rw [si_o h44, z3 d (by omega), f1 d (by omega) h44, y3 d (by omega)]
    · rw [si_b, z4, f2, y4]
    · rw [si_o (by omega), si_o (by omega), f3 d hd, co d h3]
    · rw [si_s (by decide), si_s (by decide), f4 3 (by decide), co 0 (by decide)]
    · rw [si_b, si_b, f5, cprow_b]
    · rw [si_o (by decide), si_o (by decide)]; exact g7
  · have hk1 : hmK F M2 (nI k') 1 = some (cprow (si (si M2 0 20 1) 0 6 0) 3 1 216, -1 - nI i) := by
      unfold hmK
      rw [putz_e (by decide), si_s (by decide), si_h, if_neg (by decide)]
      have := house_L115 (J := fun (S11 : St) => some (S11, ((-1) - (S11.1 0 16)))) (S := si (si M2 0 20 1) 0 6 0) F 0 (by decide) (by omega)
      rw [show cprow (si (si M2 0 20 1) 0 6 0) 3 1 0 = si (si M2 0 20 1) 0 6 0 from rfl, show nI 0 = (0 : Int32) from rfl] at this
      rw [this, cprow_o (by decide), si_s (by decide), si_s (by decide), g3]
    have hm : hmJ F M2 (nI k') = some (cprow (si (si M2 0 20 1) 0 6 0) 3 1 216, -1 - nI i) := by
      unfold hmJ
      rcases g4 with q | ⟨q1, q2⟩
      · rw [q, if_neg (by decide), hk1]
      · rw [if_pos q1, if_neg q2, hk1]
    rw [g2, if_pos (neg_i g1), hm]
    refine ag_of rfl rfl (rel_text hR (fun d hd h44 => ?_) ?_ (fun d hd h3 => ?_) ?_ ?_ si_h ?_ ⟨H, hS.1, hS.2.1.kept (fun k hk => ?_), hS.2.2.ext hS.1 (fun j hj => ?_)⟩)
    · rw [si_o h44, f1 d (by omega) h44, y3 d (by omega)]
    · rw [si_b, f2, y4]
    · rw [cprow_o (by omega), si_o (by omega), si_o (by omega), f3 d hd, co d h3]
    · rw [cprow_o (by decide), si_s (by decide), si_s (by decide), f4 3 (by decide), co 0 (by decide)]
    · rw [cprow_b, si_b, si_b, f5, cprow_b]
    · rw [cprow_o (by decide), si_h]
    · rw [si_o (by omega), f1 _ (by omega) (by omega), y3 _ (by omega)]
    · rw [cprow_a, if_pos ⟨rfl, hj⟩, si_o (by decide), si_o (by decide), f3 3 (by decide), cprow_a, if_pos ⟨rfl, hj⟩]
