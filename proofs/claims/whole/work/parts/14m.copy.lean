-- numbers of a sheet to another
def fwj (S : St) (a b : Nat) : Nat → St
  | 0 => S
  | k + 1 => sj (fwj S a b k) 8 (b + k) (S.2 8 (a + k))
def bwj (S : St) (a b n : Nat) : Nat → St
  | 0 => S
  | k + 1 => sj (bwj S a b n k) 8 (b + (n - 1 - k)) (S.2 8 (a + (n - 1 - k)))
theorem fwj_1 {S : St} {a b k : Nat} : (fwj S a b k).1 = S.1 := by
  induction k with
  | zero => rfl
  | succ n ih => exact ih
theorem bwj_1 {S : St} {a b n k : Nat} : (bwj S a b n k).1 = S.1 := by
  induction k with
  | zero => rfl
  | succ n ih => exact ih
theorem fwj_a {S : St} {a b k j : Nat} : (fwj S a b k).2 8 j = if b ≤ j ∧ j < b + k then S.2 8 (a + (j - b)) else S.2 8 j := by
  induction k with
  | zero => rw [if_neg (by omega)]; rfl
  | succ n ih =>
    show (sj _ _ _ _).2 8 j = _
    rw [sj_a, ih]
    by_cases e : j = b + n
    · subst e
      rw [if_pos rfl, if_pos rfl, if_pos (by omega), Nat.add_sub_cancel_left]
    · rw [if_pos rfl, if_neg e]
      by_cases c : b ≤ j ∧ j < b + n
      · rw [if_pos c, if_pos (by omega)]
      · rw [if_neg c, if_neg (by omega)]
theorem bwj_a {S : St} {a b n k j : Nat} (hk : k ≤ n) : (bwj S a b n k).2 8 j = if b + (n - k) ≤ j ∧ j < b + n then S.2 8 (a + (j - b)) else S.2 8 j := by
  induction k with
  | zero => rw [if_neg (by omega)]; rfl
  | succ m ih =>
    show (sj _ _ _ _).2 8 j = _
    rw [sj_a, ih (by omega)]
    by_cases e : j = b + (n - 1 - m)
    · subst e
      rw [if_pos rfl, if_pos rfl, if_pos (by omega), Nat.add_sub_cancel_left]
    · rw [if_pos rfl, if_neg e]
      by_cases c : b + (n - m) ≤ j ∧ j < b + n
      · rw [if_pos c, if_pos (by omega)]
      · rw [if_neg c, if_neg (by omega)]
theorem copy_Lf {S : St} {a b n : Nat} (hab : b ≤ a) (ha : a + n ≤ 160) : ∀ (G k : Nat), k ≤ n → n - k < G → fX7_copy_L136 (nI n) (nI a) (nI b) G (fwj S a b k) (nI k) = some (fwj S a b n, nI n) := by
  intro G
  induction G with
  | zero => intro k h1 h2; omega
  | succ G ih =>
    intro k h1 h2
    rw [fX7_copy_L136]
    by_cases e : k = n
    · subst e
      rw [if_pos (nI_le (Nat.le_refl _) (by omega))]
    · rw [if_neg (nI_ge (by omega) (by omega))]
      simp only [pl_e]
      rw [if_pos (nI_le hab (by omega)), nI_add, nI_add, ldj_e (by omega) (by decide), stj_e (by omega) (by decide), nI_1, fwj_a, if_neg (by omega)]
      exact ih (k + 1) (by omega) (by omega)
theorem copy_Lb {S : St} {a b n : Nat} (hab : a < b) (hb : b + n ≤ 160) : ∀ (G k : Nat), k ≤ n → n - k < G → fX7_copy_L136 (nI n) (nI a) (nI b) G (bwj S a b n k) (nI k) = some (bwj S a b n n, nI n) := by
  intro G
  induction G with
  | zero => intro k h1 h2; omega
  | succ G ih =>
    intro k h1 h2
    rw [fX7_copy_L136]
    by_cases e : k = n
    · subst e
      rw [if_pos (nI_le (Nat.le_refl _) (by omega))]
    · rw [if_neg (nI_ge (by omega) (by omega))]
      simp only [pl_e]
      have ei : nI n - 1 - nI k = nI (n - 1 - k) := by
        rw [show (1 : Int32) = nI 1 from rfl, pk_sub (by omega), pk_sub (by omega)]
      rw [if_neg (nI_ge hab (by omega)), ei, nI_add, nI_add, ldj_e (by omega) (by decide), stj_e (by omega) (by decide), nI_1, bwj_a (by omega), if_neg (by omega)]
      exact ih (k + 1) (by omega) (by omega)
theorem copyM {F : Nat} (hF : 200 ≤ F) {S : St} {a b n : Nat} (ha : a + n ≤ 160) (hb : b + n ≤ 160) : ∃ S1, fX7_copy_L136 (nI n) (nI a) (nI b) F S 0 = some (S1, nI n) ∧ S1.1 = S.1 ∧ ∀ j, S1.2 8 j = if b ≤ j ∧ j < b + n then S.2 8 (a + (j - b)) else S.2 8 j := by
  by_cases h : b ≤ a
  · exact ⟨_, copy_Lf h ha F 0 (by omega) (by omega), fwj_1, fun j => fwj_a⟩
  · refine ⟨_, copy_Lb (by omega) hb F 0 (by omega) (by omega), bwj_1, fun j => ?_⟩
    rw [bwj_a (Nat.le_refl _), Nat.sub_self, Nat.add_zero]
theorem range_t {X : St} {t z : Nat} {f n : Int32} (hz : X.1 (47 + t) 1 = nI z) (h40 : z ≤ 40) : (∃ i k, f = nI i ∧ n = nI k ∧ i + k ≤ z ∧ fX3_hasRange t X f n = some 1) ∨ (fX3_hasRange t X f n = some 0 ∧ (f < 0 ∨ n < 0 ∨ nI z - f < n)) := by
  unfold fX3_hasRange
  by_cases h1 : f < 0
  · rw [if_pos h1]; exact Or.inr ⟨rfl, Or.inl h1⟩
  rw [if_neg h1]
  by_cases h2 : n < 0
  · rw [if_pos h2]; exact Or.inr ⟨rfl, Or.inr (Or.inl h2)⟩
  rw [if_neg h2, hz]
  obtain ⟨i, hi, rfl⟩ := nI_of h1
  obtain ⟨k, hk, rfl⟩ := nI_of h2
  have e0 : (0 : Int32).toInt = 0 := by decide
  by_cases h3 : nI z < nI i
  · rw [if_pos h3]
    refine Or.inr ⟨rfl, Or.inr (Or.inr ?_)⟩
    have h3' := (nI_ltI (by omega) hi).mp h3
    rw [fa_lt, nI_toInt hk, Int32.toInt_sub, nI_toInt (by omega), nI_toInt hi]
    rw [Int.bmod_eq_of_le (by omega) (by omega)]
    omega
  · have h3' : i ≤ z := by
      rcases Nat.lt_or_ge z i with q | q
      · exact absurd ((nI_ltI (by omega) hi).mpr q) h3
      · exact q
    rw [if_neg h3, pk_sub h3']
    by_cases h4 : nI (z - i) < nI k
    · rw [if_pos h4]
      exact Or.inr ⟨rfl, Or.inr (Or.inr h4)⟩
    · rw [if_neg h4]
      have : k ≤ z - i := by
        rcases Nat.lt_or_ge (z - i) k with q | q
        · exact absurd ((nI_ltI (by omega) hk).mpr q) h4
        · exact q
      exact Or.inl ⟨i, k, rfl, rfl, by omega, rfl⟩
theorem st_copy {F : Nat} (hF : 200 ≤ F) : s_copy Rel F := by
  intro X M a1 a2 a3 a4 a5 hR
  show Ag _ _
  unfold fX6_copy fX7_copy
  simp only [bq_eta, pl_e]
  by_cases c1 : inb a1 0 3
  · rw [within_t c1, bv_e, if_neg n10]
    obtain ⟨t, -, ht, rfl⟩ := inb_nI (lo := 0) (hi := 3) c1 (by decide) (by decide)
    have ht' : t < 4 := by omega
    rw [isSheet_t ht', bv_e, if_neg n10]
    by_cases c3 : inb a3 0 3
    · rw [within_t c3, bv_e, if_neg n10]
      obtain ⟨u, -, hu, rfl⟩ := inb_nI (lo := 0) (hi := 3) c3 (by decide) (by decide)
      have hu' : u < 4 := by omega
      obtain ⟨b, z, g1, g2, g3, g4, g5, g6, g7, g8⟩ := hR.2.2.2.1 t ht'
      obtain ⟨b', z', g1', g2', g3', g4', g5', g6', g7', g8'⟩ := hR.2.2.2.1 u hu'
      rw [isSheet_t hu', bv_e, if_neg n10, lds_e ht', lds_e hu']
      unfold fX3_isMissing
      rw [ldi_e ht' (by decide), ldi_e hu' (by decide), ldi_e ht' (by decide), ldi_e hu' (by decide), ldi_e ht' (by decide), ldi_e hu' (by decide), g4, g4', g6, g6', g7, g7']
      have hb31 : b < 2 ^ 31 := by rcases g1 with h | h | h | h <;> (rw [h]; decide)
      have hb31' : b' < 2 ^ 31 := by rcases g1' with h | h | h | h <;> (rw [h]; decide)
      by_cases e : b = 0
      · subst e
        rw [if_pos (show nI 0 = (0 : Int32) from rfl), bv_e, if_neg n10, if_pos (show (if 0 = 0 then (-1 : Int32) else nI 0) < 0 from by decide)]
        exact find5 hR
      rw [if_neg (show ¬ nI b = (0 : Int32) from nI_ne0 (by omega) hb31), bv_e, if_pos rfl, if_neg (show ¬ (if b = 0 then (-1 : Int32) else nI b) < 0 from by rw [if_neg e]; exact nI_pos hb31)]
      by_cases e' : b' = 0
      · subst e'
        rw [if_pos (show nI 0 = (0 : Int32) from rfl), bv_e, if_neg n10, if_neg (show ¬ 0 ≤ (if 0 = 0 then (-1 : Int32) else nI 0) from by decide)]
        exact find5 hR
      rw [if_neg (show ¬ nI b' = (0 : Int32) from nI_ne0 (by omega) hb31'), bv_e, if_pos rfl, if_pos (show 0 ≤ (if b' = 0 then (-1 : Int32) else nI b') from by rw [if_neg e']; exact nI_pos' hb31'), if_neg e, if_neg e']
      by_cases eb : nI b = nI b'
      · rw [if_pos eb, if_pos eb]
        rcases range_t (t := t) (f := a2) (n := a5) g5 g2 with ⟨i, k, rfl, rfl, hik, r1⟩ | ⟨r1, r2⟩
        · rw [r1, bv_e, if_neg n10, if_neg (nI_pos (by omega))]
          rcases range_t (t := u) (f := a4) (n := nI k) g5' g2' with ⟨j, k', rfl, ek, hjk, r2⟩ | ⟨r2, r3⟩
          · have ek' := (nI_eq (by omega) (by omega)).mp ek
            subst ek'
            rw [r2, bv_e, if_neg n10, if_neg (nI_pos (by omega)), if_neg (nI_pos (by omega)), pk_sub (by omega), if_neg (nI_nlt (by omega) (by omega)), pk_sub (by omega), if_pos (nI_le (by omega) (by omega))]
            have hX : cpj X (51 + t) 40 (51 + u) 40 (nI i) (nI j) (nI k) (fun S15 => some (S15, nI k)) = some (sl X (51 + u) (va_cpy (X.2 (51 + t)) (X.2 (51 + u)) i j k), nI k) := by
              unfold cpj
              rw [nI_clamp (by omega), nI_clamp (by omega), nI_clamp (by omega), ok_e ⟨nI_pos (by omega), nI_pos (by omega), nI_pos (by omega), by omega, by omega⟩]
            rw [hX, show (40 : Int32) = nI 40 from rfl, pk_mul, pk_mul, nI_add, nI_add]
            obtain ⟨M1, m1, m2, m3⟩ := copyM hF (S := M) (a := 40 * t + i) (b := 40 * u + j) (n := k) (by omega) (by omega)
            rw [m1]
            refine ag_of rfl rfl (se_num hR rfl m2 (fun w l hw hl => ?_))
            rw [m3]
            show (if 51 + w = 51 + u then va_cpy (X.2 (51 + t)) (X.2 (51 + u)) i j k else X.2 (51 + w)) l = _
            by_cases ew : w = u
            · subst ew
              rw [if_pos rfl]
              by_cases cl : j ≤ l ∧ l < j + k
              · rw [pk_cpy_in cl.1 cl.2, if_pos (by omega), se_old hR ht' (by omega)]
                exact congrArg (M.2 8) (by omega)
              · rw [pk_cpy_out (by omega), if_neg (by omega), se_old hR hw hl]
            · rw [if_neg (by omega), if_neg (by omega), se_old hR hw hl]
          · rw [r2, bv_e, if_pos rfl]
            by_cases q1 : a4 < 0
            · rw [if_pos q1]; exact find0 hR
            rw [if_neg q1, if_neg (nI_pos (by omega)), pk_sub (by omega), if_neg (nI_nlt (by omega) (by omega))]
            rcases r3 with r3 | r3 | r3
            · exact absurd r3 q1
            · exact absurd r3 (nI_pos (by omega))
            · rw [if_neg (fun q => by rw [fa_le] at q; rw [fa_lt] at r3; omega)]
              exact find0 hR
        · rw [r1, bv_e, if_pos rfl]
          by_cases q1 : a2 < 0
          · rw [if_pos q1]; exact find0 hR
          rw [if_neg q1]
          by_cases q2 : a4 < 0
          · rw [if_pos q2]; exact find0 hR
          rw [if_neg q2]
          by_cases q3 : a5 < 0
          · rw [if_pos q3]; exact find0 hR
          rw [if_neg q3]
          rcases r2 with r2 | r2 | r2
          · exact absurd r2 q1
          · exact absurd r2 q3
          · rw [if_pos r2]; exact find0 hR
      · rw [if_neg eb, if_neg eb]
        exact find2 hR
    · rw [within_f c3, bv_e, if_pos rfl, isSheet_f c3, bv_e, if_pos rfl]
      exact find0 hR
  · rw [within_f c1, bv_e, if_pos rfl, isSheet_f c1, bv_e, if_pos rfl]
    exact find0 hR
