-- months and moves
def vmove (H : Hs) (p q : Nat) : Int32 := nI (H 12 1) * (if 0 ≤ nI (H 10 p) - nI (H 10 q) then nI (H 10 p) - nI (H 10 q) else 0 - (nI (H 10 p) - nI (H 10 q))) + nI (H 12 2)
def veat (H : Hs) (c m k : Nat) : Int32 := if k = 0 then nI (H 11 (12 * c + m)) else if k = 1 then nI (H 11 (12 * c + m)) / 2 else 0
def vmonth (H : Hs) (c m k : Nat) : Int32 := if 0 ≤ nI (H 12 0) - veat H c m k then nI (H 12 0) - veat H c m k else 0
theorem moveX {X : St} {H : Hs} (hw : Wf H) (hx : ShX X.1 1 H) {p q : Nat} (hp : p < H 0 2) (hq : q < H 0 2) : fX4_moveCost 1 X (nI p) (nI q) = some (vmove H p q) := by
  have hn := hw.2.2.1
  unfold fX4_moveCost
  rw [ldi_l (c := 10 + 1) 1 (by decide) (by decide), ldi_e (by omega) (by decide), ldi_e (by omega) (by decide), ldi_l (c := 10 + 1) 2 (by decide) (by decide), show X.1 (8 + 1) p = nI (H 10 p) from hx.2.2.2.2.2.2.2.2.1 p hp, show X.1 (8 + 1) q = nI (H 10 q) from hx.2.2.2.2.2.2.2.2.1 q hq, show X.1 (10 + 1) 1 = nI (H 12 1) from hx.2.2.2.2.2.2.2.2.2.2 1 (by decide), show X.1 (10 + 1) 2 = nI (H 12 2) from hx.2.2.2.2.2.2.2.2.2.2 2 (by decide)]
  rfl
theorem moveM {M : St} {H : Hs} (hw : Wf H) (hm : ShM (M.1 1) H) {p q : Nat} (hp : p < H 0 2) (hq : q < H 0 2) : fX7_moveCost M (nI p) (nI q) = some (vmove H p q) := by
  have hn := hw.2.2.1
  unfold fX7_moveCost
  simp only [pl_e]
  rw [show (12 : Int32) = nI 12 from rfl, ix13, ix13, ldi_e (by omega) (by decide), ldi_e (by omega) (by decide), ldi_l (c := 1) 10 (by decide) (by decide), hm.2.2.2.2.2.2.2.1 p hp, hm.2.2.2.2.2.2.2.1 q hq, hm.2.2.2.2.2.2.2.2.2 1 (by decide)]
  have l11 : ∀ k : Int32 → Option Int32, ldi M 1 11 216 k = k (nI (H 12 2)) := fun k => by rw [ldi_l (c := 1) 11 (by decide) (by decide), hm.2.2.2.2.2.2.2.2.2 2 (by decide)]
  simp only [l11]
  unfold vmove
  by_cases c : 0 ≤ nI (H 10 p) - nI (H 10 q)
  · rw [if_pos c, if_pos c]
  · rw [if_neg c, if_neg c, Int32.zero_sub]
theorem max0 (x : Int32) : (if (0 : Int32) < x then x else 0) = if 0 ≤ x then x else 0 := by
  by_cases c : 0 < x
  · rw [if_pos c, if_pos (fa_of_lt c).1]
  · rw [if_neg c]
    by_cases c2 : 0 ≤ x
    · rw [if_pos c2]
      by_cases c3 : (0 : Int32) = x
      · exact c3
      · exact absurd (fa_le_ne c2 c3) c
    · rw [if_neg c2]
theorem monthX {X : St} {H : Hs} (hw : Wf H) (hx : ShX X.1 1 H) {c m k : Nat} (hc : c < H 0 2) (hm12 : m < 12) (hk : k ≤ 2) : fX4_monthCost 1 X (nI c) (nI m) (nI k) = some (vmonth H c m k) := by
  have hn := hw.2.2.1
  unfold fX4_monthCost
  simp only [pl_e]
  rw [ix12, ldi_e (by omega) (by decide), show X.1 (9 + 1) (12 * c + m) = nI (H 11 (12 * c + m)) from hx.2.2.2.2.2.2.2.2.2.1 c m hc hm12]
  have l0 : ∀ f : Int32 → Option Int32, ldi X (10 + 1) 0 3 f = f (nI (H 12 0)) := fun f => by rw [ldi_l (c := 10 + 1) 0 (by decide) (by decide), show X.1 (10 + 1) 0 = nI (H 12 0) from hx.2.2.2.2.2.2.2.2.2.2 0 (by decide)]
  simp only [l0, max0]
  rcases (show k = 0 ∨ k = 1 ∨ k = 2 by omega) with rfl | rfl | rfl
  · rw [if_neg (show ¬ nI 0 = (1 : Int32) from by decide), if_pos (show nI 0 ≤ (1 : Int32) from by decide)]; rfl
  · rw [if_pos (show nI 1 = (1 : Int32) from rfl)]; rfl
  · rw [if_neg (show ¬ nI 2 = (1 : Int32) from by decide), if_neg (show ¬ nI 2 ≤ (1 : Int32) from by decide)]; rfl
theorem monthM {M : St} {H : Hs} (hw : Wf H) (hm : ShM (M.1 1) H) {c m k : Nat} (hc : c < H 0 2) (hm12 : m < 1000) (hk : k ≤ 2) : fX7_monthCost M (nI c) (nI m) (nI (k + 1)) = some (vmonth H c (m % 12) k) := by
  have hn := hw.2.2.1
  unfold fX7_monthCost
  simp only [pl_e]
  rw [show nI m - nI m / 12 * 12 = nI (m % 12) from pk_rem (d := 12) (by omega) (by decide) (by decide), ix13, ldi_e (by omega) (by decide), hm.2.2.2.2.2.2.2.2.1 c (m % 12) hc (by omega), ldi_l (c := 1) 9 (by decide) (by decide), hm.2.2.2.2.2.2.2.2.2 0 (by decide)]
  have pull : ∀ x : Int32, (if 0 ≤ x then some x else some 0) = some (if 0 ≤ x then x else 0) := fun x => by split <;> rfl
  simp only [pull]
  rcases (show k = 0 ∨ k = 1 ∨ k = 2 by omega) with rfl | rfl | rfl
  · rw [if_pos (show nI (0 + 1) = (1 : Int32) from rfl)]; rfl
  · rw [if_neg (show ¬ nI (1 + 1) = (1 : Int32) from by decide), if_pos (show nI (1 + 1) = (2 : Int32) from rfl)]; rfl
  · rw [if_neg (show ¬ nI (2 + 1) = (1 : Int32) from by decide), if_neg (show ¬ nI (2 + 1) = (2 : Int32) from by decide)]; rfl
theorem wide_n {n : Nat} (h : n < 2 ^ 31) : Int32.toInt64 (nI n) = lN n := by
  rw [fa_eq64, Int32.toInt_toInt64, nI_toInt h, lN_toInt h]
theorem campU {M : St} {n : Nat} (hm : M.1 1 2 = nI n) (hn : n ≤ 6) (u : Int64) : (∃ c, c < n ∧ u = lN c ∧ fX7_isCamp M u = some 1 ∧ ¬ lg_cmp u 0 < 0 ∧ lg_cmp u (Int32.toInt64 (nI n)) < 0) ∨ (fX7_isCamp M u = some 0 ∧ (lg_cmp u 0 < 0 ∨ ¬ lg_cmp u (Int32.toInt64 (nI n)) < 0)) := by
  unfold fX7_isCamp
  rw [ldi_l (c := 1) 2 (by decide) (by decide), hm]
  by_cases c1 : lg_cmp u 0 < 0
  · rw [if_pos c1]
    exact Or.inr ⟨rfl, Or.inl c1⟩
  · rw [if_neg c1]
    by_cases c2 : lg_cmp u (Int32.toInt64 (nI n)) < 0
    · have c3 : ¬ 0 ≤ lg_cmp u (Int32.toInt64 (nI n)) := (fa_of_lt c2).2.1
      rw [if_neg c3]
      have d1 := c1
      have d2 := c2
      rw [cmp_lt] at d1 d2
      obtain ⟨k, hk, rfl⟩ := pk_lOf d1
      rw [wide_n (by omega)] at d2
      exact Or.inl ⟨k, (pk_lLT hk (by omega)).mp d2, rfl, rfl, c1, c2⟩
    · have c3 : 0 ≤ lg_cmp u (Int32.toInt64 (nI n)) := fa_of_nlt c2
      rw [if_pos c3]
      exact Or.inr ⟨rfl, Or.inr c2⟩
def CampU (M : St) (n t i : Nat) : Prop := fX7_isCamp M (M.2 8 (40 * t + i)) = some 1
theorem costX {X M : St} {t z n : Nat} (ht : t < 4) (hz : z ≤ 40) (hn : n ≤ 6) (hR : Rel X M) (hm : M.1 1 2 = nI n) (hx : X.1 1 11 = nI n) (hzx : X.1 (47 + t) 1 = nI z) {J86 J98 : Option (St × Int32)} : ∀ (G i : Nat), i ≤ z → z - i < G → ((∀ k, i ≤ k → k < z → CampU M n t k) ∧ fX6_costs_L43 X t J86 J98 G (nI i) = J98) ∨ ((∃ k, i ≤ k ∧ k < z ∧ ¬ CampU M n t k) ∧ fX6_costs_L43 X t J86 J98 G (nI i) = J86) := by
  intro G
  induction G with
  | zero => intro i h1 h2; omega
  | succ G ih =>
    intro i h1 h2
    rw [fX6_costs_L43, hzx]
    by_cases hi : i = z
    · subst hi
      rw [if_pos (nI_le (Nat.le_refl _) (by omega))]
      exact Or.inl ⟨fun k k1 k2 => by omega, rfl⟩
    · rw [if_neg (nI_ge (by omega) (by omega)), ldj_e (by omega) (by decide), ldj_e (by omega) (by decide), se_old hR ht (by omega), hx, pl_e, nI_1]
      rcases campU hm hn (M.2 8 (40 * t + i)) with ⟨c, c1, c2, c3, c4, c5⟩ | ⟨c3, c4⟩
      · rw [if_neg c4, if_pos c5]
        rcases ih (i + 1) (by omega) (by omega) with ⟨h, e⟩ | ⟨⟨k, k1, k2, k3⟩, e⟩
        · refine Or.inl ⟨fun k k1 k2 => ?_, e⟩
          by_cases ek : k = i
          · rw [ek]; exact c3
          · exact h k (by omega) k2
        · exact Or.inr ⟨⟨k, by omega, k2, k3⟩, e⟩
      · refine Or.inr ⟨⟨i, Nat.le_refl _, by omega, fun h => ?_⟩, ?_⟩
        · have := c3.symm.trans h
          exact absurd this (by decide)
        · rcases c4 with c4 | c4
          · rw [if_pos c4]
          · rw [if_neg c4]
            split
            · rfl
            · rfl
theorem costL {X M : St} {H : Hs} {t z a : Nat} (ht : t < 4) (hz : z ≤ 40) (ha : a ≤ 11) (hR : Rel X M) (hS : St1 X.1 1 (M.1 1) H) (hzx : X.1 (47 + t) 1 = nI z) (hzm : M.1 7 t = nI z) {J : Option (St × Int32)} : ∀ (G G' i l k : Nat) (s v7 v3 v8 : Int32), i ≤ z → z - i < G → z - i < G' → ((v7 = -1 ∧ v3 = -1 ∧ v8 = 0 ∧ k = 0) ∨ (l < H 0 2 ∧ v7 = nI l ∧ v3 = nI l ∧ v8 = nI (k + 1) ∧ k ≤ 2)) → ((∃ j, i ≤ j ∧ j < z ∧ ¬ CampU M (H 0 2) t j) ∧ fX7_costs_L60 M (nI t) (nI a) J G' s v7 v8 (nI i) = J) ∨ ((∀ j, i ≤ j → j < z → CampU M (H 0 2) t j) ∧ ∃ v, fX4_costOfRow_L11 X 1 t (nI a) G s (nI k) v3 (nI i) = some v ∧ fX7_costs_L60 M (nI t) (nI a) J G' s v7 v8 (nI i) = some (M, v)) := by
  have hn := hS.1.2.2.1
  intro G
  induction G with
  | zero => intro G' i l k s v7 v3 v8 h1 h2; omega
  | succ G ih =>
    intro G' i l k s v7 v3 v8 h1 h2 h3 hst
    obtain ⟨G', rfl⟩ : ∃ g, G' = g + 1 := ⟨G' - 1, by omega⟩
    rw [fX7_costs_L60, fX4_costOfRow_L11, hzx, ldi_e ht (by decide), hzm]
    by_cases hi : i = z
    · subst hi
      rw [if_pos (nI_le (Nat.le_refl _) (by omega)), if_pos (nI_le (Nat.le_refl _) (by omega))]
      exact Or.inr ⟨fun k k1 k2 => by omega, s, rfl, rfl⟩
    · rw [if_neg (nI_ge (by omega) (by omega)), if_neg (nI_ge (by omega) (by omega)), ldj_e (by omega) (by decide), show (40 : Int32) = nI 40 from rfl, pk_mul, nI_add, ldj_e (by omega) (by decide), se_old hR ht (by omega)]
      rcases campU (n := H 0 2) hS.2.2.2.2.1 hn (M.2 8 (40 * t + i)) with ⟨c, c1, c2, c3, c4, c5⟩ | ⟨c3, c4⟩
      · rw [c3, bv_e, if_neg n10, c2, lN_i]
        simp only [pl_e]
        rw [nI_1, nI_add, show nI (a + i) - nI (a + i) / 12 * 12 = nI ((a + i) % 12) from pk_rem (d := 12) (by omega) (by decide) (by decide)]
        have next : ∀ (k' : Nat) (s' : Int32), k' ≤ 2 → ((∃ j, i ≤ j ∧ j < z ∧ ¬ CampU M (H 0 2) t j) ∧ (bv (fX7_monthCost M (nI c) (nI (a + i)) (nI (k' + 1))) fun v17 => fX7_costs_L60 M (nI t) (nI a) J G' (s' + v17) (nI c) (nI (k' + 1)) (nI (i + 1))) = J) ∨ ((∀ j, i ≤ j → j < z → CampU M (H 0 2) t j) ∧ ∃ v, (bv (fX4_monthCost 1 X (nI c) (nI ((a + i) % 12)) (nI k')) fun v9 => fX4_costOfRow_L11 X 1 t (nI a) G (s' + v9) (nI k') (nI c) (nI (i + 1))) = some v ∧ (bv (fX7_monthCost M (nI c) (nI (a + i)) (nI (k' + 1))) fun v17 => fX7_costs_L60 M (nI t) (nI a) J G' (s' + v17) (nI c) (nI (k' + 1)) (nI (i + 1))) = some (M, v)) := by
          intro k' s' hk'
          rw [monthM hS.1 hS.2.2 c1 (by omega) hk', bv_e, monthX hS.1 hS.2.1 c1 (by omega) hk', bv_e]
          rcases ih G' (i + 1) c k' (s' + vmonth H c ((a + i) % 12) k') (nI c) (nI c) (nI (k' + 1)) (by omega) (by omega) (by omega) (Or.inr ⟨c1, rfl, rfl, rfl, hk'⟩) with ⟨⟨j, j1, j2, j3⟩, e⟩ | ⟨h, e⟩
          · exact Or.inl ⟨⟨j, by omega, j2, j3⟩, e⟩
          · refine Or.inr ⟨fun j j1 j2 => ?_, e⟩
            by_cases ej : j = i
            · rw [ej]; exact c3
            · exact h j (by omega) j2
        have s0 : s + 0 = s := by grind
        rcases hst with ⟨rfl, rfl, rfl, rfl⟩ | ⟨hl, rfl, rfl, rfl, hk⟩
        · have hne : ¬ nI c = (-1 : Int32) := fun q => by
            have := nI_pos (n := c) (by omega)
            rw [q] at this
            exact this neg1.2
          rw [if_pos neg1.2, if_neg hne, if_neg hne, if_pos rfl]
          exact next 0 (s + 0) (by omega)
        · have hl31 : l < 2 ^ 31 := by omega
          have hne : ¬ nI l = (-1 : Int32) := fun q => by
            have := nI_pos hl31
            rw [q] at this
            exact this neg1.2
          rw [if_neg (nI_pos hl31), if2 (nI_eq (a := c) (b := l) (by omega) hl31), if2 (nI_eq (a := c) (b := l) (by omega) hl31), if2 (nI_eq (a := c) (b := l) (by omega) hl31)]
          by_cases ecl : c = l
          · rw [if_pos ecl, if_pos ecl, if_pos ecl, s0]
            rw [nI_1, nI_1]
            by_cases k2 : k = 2
            · subst k2
              rw [if_pos (show (3 : Int32) ≤ nI (2 + 1) from by decide), if_pos (show (2 : Int32) < nI (2 + 1) from by decide)]
              exact next 2 s (by omega)
            · rw [if_neg (show ¬ (3 : Int32) ≤ nI (k + 1) from nI_ge (b := 3) (by omega) (by decide)), if_neg (show ¬ (2 : Int32) < nI (k + 1) from nI_nlt (a := 2) (by omega) (by decide))]
              exact next (k + 1) s (by omega)
          · have hcl : ¬ nI c = nI l := fun q => ecl ((nI_eq (by omega) hl31).mp q)
            simp only [if_neg ecl, if_neg hcl, if_neg hne]
            rw [moveM hS.1 hS.2.2 hl c1, moveX hS.1 hS.2.1 hl c1, bv_e, bv_e]
            exact next 0 _ (by omega)
      · refine Or.inl ⟨⟨i, Nat.le_refl _, by omega, fun h => ?_⟩, ?_⟩
        · have := c3.symm.trans h
          exact absurd this (by decide)
        · rw [c3, bv_e, if_pos rfl]
theorem st_costs {F : Nat} (hF : 100 ≤ F) : s_costs Rel F := by
  intro X M a1 a2 hR
  show Ag _ _
  unfold fX6_costs fX7_costs
  simp only [bq_eta, pl_e]
  refine guardS (fX := fun v1 => fX6_finding X v1) hR (find0 hR) (find5 hR) (fun t ht e => ?_)
  subst e
  refine guard (by decide) (by decide) (find0 hR) (fun c => ?_)
  obtain ⟨a, -, ha, rfl⟩ := inb_nI (lo := 0) (hi := 11) c (by decide) (by decide)
  obtain ⟨⟨H, hS⟩, -⟩ := id hR
  obtain ⟨b, z, s1, s2, s3, s4, s5, s6, s7, s8⟩ := hR.2.2.2.1 t ht
  rw [lds_e ht]
  unfold fX4_costOfRow
  rcases costX ht s2 hS.1.2.2.1 hR hS.2.2.2.2.1 hS.2.1.2.2.1 s5 (J86 := fX6_finding X 2) (J98 := bv (fX4_costOfRow_L11 X 1 t (nI a) F 0 0 (-1) 0) fun v6 => some (X, v6)) F 0 (by omega) (by omega) with ⟨h, e⟩ | ⟨⟨k, k1, k2, k3⟩, e⟩ <;> rcases costL ht s2 ha hR hS s5 s7 (J := fX7_finds M (-1000000003)) F F 0 0 0 0 (-1) (-1) 0 (by omega) (by omega) (by omega) (Or.inl ⟨rfl, rfl, rfl, rfl⟩) with ⟨⟨k', k1', k2', k3'⟩, e'⟩ | ⟨h', v, e', e''⟩
  · exact absurd (h k' k1' k2') k3'
  · refine ag_of (v := v) (X1 := X) (e.trans ?_) e'' hR
    show (bv (fX4_costOfRow_L11 X 1 t (nI a) F 0 0 (-1) 0) fun v6 => some (X, v6)) = some (X, v)
    rw [show fX4_costOfRow_L11 X 1 t (nI a) F 0 0 (-1) 0 = some v from e']
    rfl
  · exact (find2 hR).of_eq e e'
  · exact absurd (h' k k1 k2) k3
