-- BEASTS: the model's way
def CA (C W : Nat → Nat) (m n : Nat) (S : St) (z : Nat) : Prop := (S.1 11 z = 1 ∧ Car C W m n z) ∨ (S.1 11 z = 0 ∧ ¬ Car C W m n z)
theorem CA.o {C W : Nat → Nat} {m n : Nat} {S : St} {z k : Nat} {v : Int32} (h : CA C W m n S z) (hz : z ≠ k) : CA C W m n (si S 11 k v) z := by
  unfold CA
  rw [si_s hz]
  exact h
theorem doneL {c x y : Int32} {G : Nat} {S : St} {k : Nat} (hx : x = nI k) (hk : k < 1024) (h : S.1 11 k = 1) (J : St → Option (St × Int32)) : fX7_beasts_L112 c x J (G + 1) S y = J S := by
  subst hx
  rw [fX7_beasts_L112]
  by_cases c0 : y ≤ 0
  · rw [if_pos c0]
  · rw [if_neg c0, ldi_e hk (by decide), h, if_neg (by decide)]
theorem partL {C W : Nat → Nat} {m n x c : Nat} (hm : m ≤ 10) (hx : x < 2 ^ m) (hc : c ≤ 999) (hW : ∀ t, t < m → W t ≤ 99) : ∀ (G y : Nat) (S : St), Sub y x → y + 1 < G → S.1 11 x = 0 → (∀ z, z < x → CA C W m n S z) → (∀ z, z < 2 ^ m → S.1 10 z = nI (ws W z m)) → ((∃ p, Sub p x ∧ p ≠ 0 ∧ p ≤ y ∧ ws W p m ≤ c ∧ Car C W m n (x ^^^ p)) ∧ ∀ J, fX7_beasts_L112 (nI c) (nI x) J G S (nI y) = J (si S 11 x 1)) ∨ ((¬ ∃ p, Sub p x ∧ p ≠ 0 ∧ p ≤ y ∧ ws W p m ≤ c ∧ Car C W m n (x ^^^ p)) ∧ ∀ J, fX7_beasts_L112 (nI c) (nI x) J G S (nI y) = J S) := by
  have h10 : 2 ^ m ≤ 2 ^ 10 := Nat.pow_le_pow_right (by decide) hm
  intro G
  induction G with
  | zero => intro y S h1 h2; omega
  | succ G ih =>
    intro y S h1 h2 h3 h4 h5
    by_cases cy : y = 0
    · subst cy
      refine Or.inr ⟨fun ⟨p, q1, q2, q3, q4⟩ => q2 (by omega), fun J => ?_⟩
      rw [fX7_beasts_L112, if_pos (show nI 0 ≤ 0 from by decide)]
    · have hyx := sub_le h1
      have hw := ws_le (x := y) hW
      have hxor := xor_lt h1 cy
      have eM : ∀ J, fX7_beasts_L112 (nI c) (nI x) J (G + 1) S (nI y) = if c < ws W y m then fX7_beasts_L112 (nI c) (nI x) J G S (nI ((y - 1) &&& x)) else if S.1 11 (x ^^^ y) = 0 then fX7_beasts_L112 (nI c) (nI x) J G S (nI ((y - 1) &&& x)) else fX7_beasts_L112 (nI c) (nI x) J G (si S 11 x 1) (nI ((y - 1) &&& x)) := by
        intro J
        rw [fX7_beasts_L112, if_neg (nI_nle (by omega) (by omega)), ldi_e (by omega) (by decide), h3, if_pos rfl, ldi_e (by omega) (by decide), h5 y (by omega)]
        simp only [pl_e]
        rw [show nI y - 1 = nI (y - 1) from pk_sub (b := 1) (by omega), nx_and, sti_e (by omega) (by decide), sti_e (by omega) (by decide), show (0 : Int32) &&& 1 = 0 from by decide, show (1 : Int32) &&& 1 = 1 from by decide, si_v h3, nx_xor, ldi_e (by omega) (by decide), if2 (nI_ltI (a := c) (b := ws W y m) (by omega) (by omega))]
      have hz : (y - 1) &&& x ≤ y - 1 := Nat.and_le_left
      have hsz : Sub ((y - 1) &&& x) x := fun t ht => by
        rw [Nat.testBit_and] at ht
        exact (Bool.and_eq_true_iff.mp ht).2
      have go : ¬ (ws W y m ≤ c ∧ Car C W m n (x ^^^ y)) → ((∃ p, Sub p x ∧ p ≠ 0 ∧ p ≤ y ∧ ws W p m ≤ c ∧ Car C W m n (x ^^^ p)) ∧ ∀ J, fX7_beasts_L112 (nI c) (nI x) J G S (nI ((y - 1) &&& x)) = J (si S 11 x 1)) ∨ ((¬ ∃ p, Sub p x ∧ p ≠ 0 ∧ p ≤ y ∧ ws W p m ≤ c ∧ Car C W m n (x ^^^ p)) ∧ ∀ J, fX7_beasts_L112 (nI c) (nI x) J G S (nI ((y - 1) &&& x)) = J S) := by
        intro hno
        rcases ih ((y - 1) &&& x) S hsz (by omega) h3 h4 h5 with ⟨⟨p, q1, q2, q3, q4⟩, r⟩ | ⟨q, r⟩
        · exact Or.inl ⟨⟨p, q1, q2, Nat.le_trans q3 (Nat.le_trans hz (Nat.sub_le _ _)), q4⟩, r⟩
        · refine Or.inr ⟨fun ⟨p, q1, q2, q3, q4⟩ => ?_, r⟩
          by_cases e : p = y
          · subst e; exact hno q4
          · exact q ⟨p, q1, q2, enum y x p h1 q1 (Nat.lt_of_le_of_ne q3 e), q4⟩
      by_cases c1 : c < ws W y m
      · rcases go (fun q => by omega) with ⟨a, b⟩ | ⟨a, b⟩
        · exact Or.inl ⟨a, fun J => by rw [eM, if_pos c1]; exact b J⟩
        · exact Or.inr ⟨a, fun J => by rw [eM, if_pos c1]; exact b J⟩
      · rcases h4 (x ^^^ y) hxor with ⟨d1, d2⟩ | ⟨d1, d2⟩
        · refine Or.inl ⟨⟨y, h1, cy, Nat.le_refl _, by omega, d2⟩, fun J => ?_⟩
          obtain ⟨g, rfl⟩ : ∃ g, G = g + 1 := ⟨G - 1, by omega⟩
          rw [eM, if_neg c1, d1, if_neg (by decide)]
          exact doneL rfl (by omega) si_h J
        · rcases go (fun q => d2 q.2) with ⟨a, b⟩ | ⟨a, b⟩
          · exact Or.inl ⟨a, fun J => by rw [eM, if_neg c1, if_pos d1]; exact b J⟩
          · exact Or.inr ⟨a, fun J => by rw [eM, if_neg c1, if_pos d1]; exact b J⟩
theorem rowL {F : Nat} (hF : 2000 ≤ F) {C W : Nat → Nat} {m n : Nat} (hm : m ≤ 10) (hc : C n ≤ 999) (hW : ∀ t, t < m → W t ≤ 99) {M0 : St} : ∀ (x G : Nat) (S : St), x < 2 ^ m → x < G → FM M0 S → (∀ z, z ≤ x → CA C W m n S z) → (∀ z, x < z → z < 2 ^ m → CA C W m (n + 1) S z) → (∀ z, z < 2 ^ m → S.1 10 z = nI (ws W z m)) → ∃ S1, (∀ J, fX7_beasts_L103 F (nI (C n)) J G S (nI x) = J S1) ∧ FM M0 S1 ∧ (∀ z, z < 2 ^ m → CA C W m (n + 1) S1 z) ∧ S1.1 10 = S.1 10 := by
  have h10 : 2 ^ m ≤ 2 ^ 10 := Nat.pow_le_pow_right (by decide) hm
  intro x
  induction x with
  | zero =>
    intro G S h1 h2 fm h3 h4 h5
    obtain ⟨g, rfl⟩ : ∃ g, G = g + 1 := ⟨G - 1, by omega⟩
    refine ⟨S, fun J => ?_, fm, fun z hz => ?_, rfl⟩
    · rw [fX7_beasts_L103, if_pos (show nI 0 ≤ 0 from by decide)]
    · by_cases e : z = 0
      · subst e
        rcases h3 0 (Nat.le_refl _) with ⟨d1, d2⟩ | ⟨d1, d2⟩
        · exact Or.inl ⟨d1, car_0⟩
        · exact absurd car_0 d2
      · exact h4 z (by omega) hz
  | succ x ih =>
    intro G S h1 h2 fm h3 h4 h5
    obtain ⟨g, rfl⟩ : ∃ g, G = g + 1 := ⟨G - 1, by omega⟩
    have eM : ∀ J, fX7_beasts_L103 F (nI (C n)) J (g + 1) S (nI (x + 1)) = fX7_beasts_L112 (nI (C n)) (nI (x + 1)) (fun S20 => fX7_beasts_L103 F (nI (C n)) J g S20 (nI x)) F S (nI (x + 1)) := by
      intro J
      rw [fX7_beasts_L103, if_neg (nI_nle (by omega) (by omega))]
      simp only [pl_e]
      rw [pk_m1]
    rcases h3 (x + 1) (Nat.le_refl _) with ⟨d1, d2⟩ | ⟨d1, d2⟩
    · obtain ⟨S1, g1, g2, g3, g4⟩ := ih g S (by omega) (by omega) fm (fun z hz => h3 z (by omega)) (fun z hz hz2 => by
        by_cases e : z = x + 1
        · subst e; exact Or.inl ⟨d1, car_up d2⟩
        · exact h4 z (by omega) hz2) h5
      refine ⟨S1, fun J => ?_, g2, g3, g4⟩
      obtain ⟨f, rfl⟩ : ∃ f, F = f + 1 := ⟨F - 1, by omega⟩
      rw [eM, doneL rfl (by omega) d1]
      exact g1 J
    · rcases partL (n := n) (c := C n) hm h1 hc hW F (x + 1) S (sub_r _) (by omega) d1 (fun z hz => h3 z (by omega)) h5 with ⟨⟨p, q1, q2, q3, q4, q5⟩, r⟩ | ⟨q, r⟩
      · obtain ⟨S1, g1, g2, g3, g4⟩ := ih g (si S 11 (x + 1) 1) (by omega) (by omega) (fm.w (by decide)) (fun z hz => (h3 z (by omega)).o (by omega)) (fun z hz hz2 => by
          by_cases e : z = x + 1
          · subst e; exact Or.inl ⟨si_h, p, q1, q4, q5⟩
          · exact (h4 z (by omega) hz2).o e) (fun z hz => by rw [si_o (by decide)]; exact h5 z hz)
        refine ⟨S1, fun J => ?_, g2, g3, by rw [g4, si_o (by decide)]⟩
        rw [eM, r]
        exact g1 J
      · obtain ⟨S1, g1, g2, g3, g4⟩ := ih g S (by omega) (by omega) fm (fun z hz => h3 z (by omega)) (fun z hz hz2 => by
          by_cases e : z = x + 1
          · subst e
            refine Or.inr ⟨d1, fun ⟨p, q1, q4, q5⟩ => ?_⟩
            by_cases e0 : p = 0
            · subst e0
              rw [Nat.xor_zero] at q5
              exact d2 q5
            · exact q ⟨p, q1, e0, sub_le q1, q4, q5⟩
          · exact h4 z (by omega) hz2) h5
        refine ⟨S1, fun J => ?_, g2, g3, g4⟩
        rw [eM, r]
        exact g1 J
theorem beastL {F : Nat} (hF : 2000 ≤ F) {C W : Nat → Nat} {m B : Nat} (hm : m ≤ 10) (hB : B ≤ 6) (hC : ∀ b, b < B → C b ≤ 999) (hW : ∀ t, t < m → W t ≤ 99) {M0 : St} (hB0 : M0.1 1 1 = nI B) (hC0 : ∀ b, b < B → M0.1 1 (132 + b) = nI (C b)) : ∀ (G n : Nat) (S : St), n ≤ B → B - n < G → FM M0 S → (∀ z, z < 2 ^ m → CA C W m n S z) → (∀ z, z < 2 ^ m → S.1 10 z = nI (ws W z m)) → ∃ S1 n', (∀ J, fX7_beasts_L69 F (nI (2 ^ m - 1)) J G S (nI n) = J S1 (nI n')) ∧ FM M0 S1 ∧ n ≤ n' ∧ n' ≤ B ∧ ((S1.1 11 (2 ^ m - 1) = 1 ∧ Car C W m n' (2 ^ m - 1) ∧ ∀ k, n ≤ k → k < n' → ¬ Car C W m k (2 ^ m - 1)) ∨ (S1.1 11 (2 ^ m - 1) = 0 ∧ n' = B ∧ ¬ Car C W m B (2 ^ m - 1))) := by
  have h10 : 2 ^ m ≤ 2 ^ 10 := Nat.pow_le_pow_right (by decide) hm
  have hp := Nat.two_pow_pos m
  intro G
  induction G with
  | zero => intro n S h1 h2; omega
  | succ G ih =>
    intro n S h1 h2 fm h3 h5
    have e1 : S.1 1 = M0.1 1 := fm.1 1 (by decide) (by omega)
    rcases h3 (2 ^ m - 1) (by omega) with ⟨d1, d2⟩ | ⟨d1, d2⟩
    · refine ⟨S, n, fun J => ?_, fm, Nat.le_refl _, h1, Or.inl ⟨d1, d2, fun k a b => by omega⟩⟩
      rw [fX7_beasts_L69, ldi_e (by omega) (by decide), d1, if_neg (by decide)]
    · by_cases c : n = B
      · subst c
        refine ⟨S, n, fun J => ?_, fm, Nat.le_refl _, h1, Or.inr ⟨d1, rfl, d2⟩⟩
        rw [fX7_beasts_L69, ldi_e (by omega) (by decide), d1, if_pos rfl, ldi_l (c := 1) 1 (by decide) (by decide), e1, hB0, if_pos (nI_le (Nat.le_refl _) (by omega))]
      · have hn : n < B := by omega
        obtain ⟨S2, k1, k2, k3, k4⟩ := rowL (n := n) hF hm (hC n hn) hW (2 ^ m - 1) F S (by omega) (by omega) fm (fun z hz => h3 z (by omega)) (fun z hz hz2 => by omega) h5
        obtain ⟨S1, n', g1, g2, g3, g4, g5⟩ := ih (n + 1) S2 (by omega) (by omega) k2 k3 (fun z hz => by rw [k4]; exact h5 z hz)
        refine ⟨S1, n', fun J => ?_, g2, by omega, g4, ?_⟩
        · rw [fX7_beasts_L69, ldi_e (by omega) (by decide), d1, if_pos rfl, ldi_l (c := 1) 1 (by decide) (by decide), e1, hB0, if_neg (nI_ge hn (by omega)), show (132 : Int32) + nI n = nI (132 + n) from nI_add 132 n, ldi_e (by omega) (by decide), e1, hC0 n hn]
          simp only [pl_e]
          rw [k1, nI_1]
          exact g1 J
        · rcases g5 with ⟨a1, a2, a3⟩ | a
          · refine Or.inl ⟨a1, a2, fun k z1 z2 => ?_⟩
            by_cases e : k = n
            · subst e; exact d2
            · exact a3 k (by omega) z2
          · exact Or.inr a
theorem initL {C W : Nat → Nat} {m : Nat} (hm : m ≤ 10) {M0 : St} : ∀ (G x : Nat) (S : St), x ≤ 2 ^ m → 2 ^ m - x < G → FM M0 S → (∀ z, z < x → CA C W m 0 S z) → ∃ S1, (∀ J, fX7_beasts_L41 (nI (2 ^ m - 1)) J G S (nI x) = J S1) ∧ FM M0 S1 ∧ (∀ z, z < 2 ^ m → CA C W m 0 S1 z) ∧ S1.1 10 = S.1 10 := by
  have h10 : 2 ^ m ≤ 2 ^ 10 := Nat.pow_le_pow_right (by decide) hm
  have hp := Nat.two_pow_pos m
  intro G
  induction G with
  | zero => intro x S h1 h2; omega
  | succ G ih =>
    intro x S h1 h2 fm h3
    by_cases c : x = 2 ^ m
    · refine ⟨S, fun J => ?_, fm, fun z hz => h3 z (by omega), rfl⟩
      rw [fX7_beasts_L41, if_pos (nI_lt (by omega) (by omega))]
    · have hx : x < 2 ^ m := by omega
      obtain ⟨S1, g1, g2, g3, g4⟩ := ih (x + 1) (si S 11 x (if x = 0 then 1 else 0)) (by omega) (by omega) (fm.w (by decide)) (fun z hz => by
        by_cases e : z = x
        · subst e
          by_cases e0 : z = 0
          · rw [if_pos e0]; exact Or.inl ⟨si_h, e0⟩
          · rw [if_neg e0]; exact Or.inr ⟨si_h, e0⟩
        · exact (h3 z (by omega)).o e)
      refine ⟨S1, fun J => ?_, g2, g3, by rw [g4, si_o (by decide)]⟩
      rw [fX7_beasts_L41, if_neg (nI_nlt (by omega) (by omega))]
      simp only [pl_e]
      rw [sti_e (by omega) (by decide), sti_e (by omega) (by decide), show (0 : Int32) &&& 1 = 0 from by decide, show (1 : Int32) &&& 1 = 1 from by decide, nI_1, if2 (lit_eq (a := x) (n := 0) (by omega) (by decide))]
      by_cases e0 : x = 0
      · rw [if_pos e0] at g1
        rw [if_pos e0]
        exact g1 J
      · rw [if_neg e0] at g1
        rw [if_neg e0]
        exact g1 J
