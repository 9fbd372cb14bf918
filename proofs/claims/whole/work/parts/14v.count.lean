-- read
theorem readL {F t z : Nat} (hF : 100 ≤ F) {X M : St} {H : Hs} (ht : t < 4) (hw : Wf H) (hx : FrX X H) (hg : Gat X H (H 0 0)) (hm : ShM (M.1 1) H) (hR : Rel X M) (hz : z ≤ 40) (hzx : X.1 (47 + t) 1 = nI z) (hzm : M.1 7 t = nI z) : ∀ (G G' i : Nat), i ≤ 8 → 9 - i < G → 9 - i < G' → Ag (fX6_read_L40 t X (fun v5 => some (X, 1 + v5)) G (nI i)) (fX7_read_L32 F M (nI t) (fun v3 => some (M, v3 + 1)) G' (nI i)) := by
  intro G
  induction G with
  | zero => intro G' i h1 h2; omega
  | succ G ih =>
    intro G' i h1 h2 h3
    obtain ⟨G', rfl⟩ : ∃ g, G' = g + 1 := ⟨G' - 1, by omega⟩
    rw [fX6_read_L40, fX7_read_L32, ldi_e ht (by decide), hzm, hzx]
    by_cases c : z ≤ i
    · rw [if_pos (nI_le c (by omega)), if_pos (nI_le c (by omega))]
      exact ag_of rfl rfl hR
    · rw [if_neg (nI_ge (by omega) (by omega)), if_neg (nI_ge (by omega) (by omega))]
      by_cases hi : i = 8
      · subst hi
        rw [if_pos (show (8 : Int32) ≤ nI 8 from by decide), if_pos (show (8 : Int32) ≤ nI 8 from by decide)]
        exact ag_of rfl rfl hR
      · rw [if_neg (show ¬ (8 : Int32) ≤ nI i from nI_ge (b := 8) (by omega) (by decide)), if_neg (show ¬ (8 : Int32) ≤ nI i from nI_ge (b := 8) (by omega) (by decide)), ldj_e (by omega) (by decide), show (40 : Int32) = nI 40 from rfl, pk_mul, nI_add, ldj_e (by omega) (by decide), spareX hw hx hg (by omega), spareM hF hw hm (by omega), bv_e, bv_e, se_old hR ht (by omega), pl_e, pl_e, nI_1]
        by_cases e : lg_cmp (M.2 8 (40 * t + i)) (Int32.toInt64 (vsp H i)) = 0
        · rw [if_pos e, if_pos e]
          exact ih G' (i + 1) (by omega) (by omega) (by omega)
        · rw [if_neg e, if_neg e]
          refine ag_of rfl ?_ hR
          rw [Int32.add_comm 1 (nI i), nI_1]
theorem st_read {F : Nat} (hF : 100 ≤ F) : s_read Rel F := by
  intro X M a1 hR
  show Ag _ _
  unfold fX6_read fX7_read
  simp only [bq_eta, pl_e]
  refine guardS (fX := fun v1 => fX6_finding X v1) hR (find0 hR) (find5 hR) (fun t ht e => ?_)
  subst e
  obtain ⟨⟨H, hS⟩, -⟩ := id hR
  obtain ⟨X1, g1, g2, g3, g4, g5⟩ := gatherX hF hS.1 (asIs_fr hS.2.1)
  have hR1 : Rel X1 M := rel_fr (asIs_rel hR) (fun d hd => g4 d (by omega) (by omega)) g5
  rw [lds_e ht, asItIs_e, bv_e, g1, bv_e]
  obtain ⟨b, z, s1, s2, s3, s4, s5, s6, s7, s8⟩ := hR1.2.2.2.1 t ht
  exact readL hF ht hS.1 g2 g3 hS.2.2 hR1 s2 s5 s7 F F 0 (by omega) (by omega) (by omega)
-- how many bits
theorem and_split (n m : Nat) : n &&& m = (n % 256 &&& m % 256) + 256 * (n / 256 &&& m / 256) := by
  have h1 : (n &&& m) % 2 ^ 8 = (n % 2 ^ 8) &&& (m % 2 ^ 8) := Nat.and_mod_two_pow
  have h2 : (n &&& m) / 2 ^ 8 = (n / 2 ^ 8) &&& (m / 2 ^ 8) := Nat.and_div_two_pow
  have h3 := Nat.div_add_mod (n &&& m) (2 ^ 8)
  rw [h1, h2] at h3
  show n &&& m = (n % 2 ^ 8 &&& m % 2 ^ 8) + 2 ^ 8 * (n / 2 ^ 8 &&& m / 2 ^ 8)
  omega
theorem and_low {u m j : Nat} (hm : m < 2 ^ j) : u &&& m = u % 2 ^ j &&& m := by
  have h1 : (u &&& m) % 2 ^ j = (u % 2 ^ j) &&& (m % 2 ^ j) := Nat.and_mod_two_pow
  have h2 : u &&& m < 2 ^ j := Nat.lt_of_le_of_lt Nat.and_le_right hm
  rw [Nat.mod_eq_of_lt h2, Nat.mod_eq_of_lt hm] at h1
  exact h1
theorem and3 {n m x y z j : Nat} (hj : j ≤ 8) (hm : m < 2 ^ j) (h0 : n % 256 % 2 ^ j = x) (h1 : n / 256 % 256 % 2 ^ j = y) (h2 : n / 65536 % 256 % 2 ^ j = z) (h3 : n < 16777216) : n &&& (m + 256 * m + 65536 * m + 16777216 * m) = (x &&& m) + 256 * (y &&& m) + 65536 * (z &&& m) := by
  have hm8 : m < 256 := Nat.lt_of_lt_of_le hm (Nat.pow_le_pow_right (by decide) hj)
  rw [and_split n, and_split (n / 256), and_split (n / 256 / 256)]
  have q1 : (m + 256 * m + 65536 * m + 16777216 * m) / 256 = m + 256 * m + 65536 * m := by omega
  have q2 : (m + 256 * m + 65536 * m) / 256 = m + 256 * m := by omega
  rw [q1, q2, show (m + 256 * m + 65536 * m + 16777216 * m) % 256 = m by omega, show (m + 256 * m + 65536 * m) % 256 = m by omega, show (m + 256 * m) % 256 = m by omega, show n / 256 / 256 / 256 = 0 by omega, Nat.zero_and]
  rw [and_low hm (u := n % 256), and_low hm (u := n / 256 % 256), and_low hm (u := n / 256 / 256 % 256), h0, h1, show n / 256 / 256 % 256 = n / 65536 % 256 by omega, h2]
  omega
theorem byt1 : ∀ a, a < 256 → (a / 2 &&& 85) ≤ a ∧ ((a - (a / 2 &&& 85)) &&& 51) + ((a - (a / 2 &&& 85)) / 4 &&& 51) ≤ 68 ∧ (((a - (a / 2 &&& 85)) &&& 51) + ((a - (a / 2 &&& 85)) / 4 &&& 51)) % 16 ≤ 4 ∧ ((((a - (a / 2 &&& 85)) &&& 51) + ((a - (a / 2 &&& 85)) / 4 &&& 51)) + (((a - (a / 2 &&& 85)) &&& 51) + ((a - (a / 2 &&& 85)) / 4 &&& 51)) / 16) % 16 = cnt8 a := by decide +kernel
theorem ush {n k : Nat} (hn : n < 2 ^ 31) (hk : k < 32) : ushr (nI n) (nI k) = nI (n / 2 ^ k) := by
  apply b_ext
  intro i hi
  unfold ushr
  rw [b_ushr k hk, bt_nI, bt_nI, Nat.testBit_div_two_pow, Nat.add_comm i k]
  by_cases c : k + i < 32
  · simp [c, hi]
  · have : n.testBit (k + i) = false := Nat.testBit_lt_two_pow (Nat.lt_of_lt_of_le hn (Nat.pow_le_pow_right (by decide) (by omega)))
    simp [this]
theorem nib {A A1 A0 : Nat} (hA : A = 16 * A1 + A0) (h0 : A0 ≤ 4) (h1 : A1 ≤ 4) : (A + A / 16) % 16 = A1 + A0 := by
  have e : A / 16 = A1 := by omega
  rw [e]
  omega
theorem dig3 {u v w : Nat} (hu : u < 256) (hv : v < 256) (hw : w < 256) : (u + 256 * v + 65536 * w) % 256 = u ∧ (u + 256 * v + 65536 * w) / 256 % 256 = v ∧ (u + 256 * v + 65536 * w) / 65536 % 256 = w := by
  have e1 : (u + 256 * v + 65536 * w) / 256 = v + 256 * w := by omega
  have e2 : (u + 256 * v + 65536 * w) / 65536 = w := by omega
  rw [e1, e2]
  omega
theorem nib3 {A1 A0 : Nat} (h0 : A0 ≤ 4) (h1 : A1 ≤ 4) : (17 * A1 + A0) % 2 ^ 4 = A1 + A0 := by omega
theorem nib2 {A1 A0 B0 : Nat} (h0 : A0 ≤ 4) (h1 : A1 ≤ 4) : (17 * A1 + A0 + 16 * B0) % 2 ^ 4 = A1 + A0 := by omega
theorem bitC3 {A B D A1 A0 B1 B0 D1 D0 : Nat} (hA : A = 16 * A1 + A0) (hB : B = 16 * B1 + B0) (hD : D = 16 * D1 + D0) (hA0 : A0 ≤ 4) (hA1 : A1 ≤ 4) (hB0 : B0 ≤ 4) (hB1 : B1 ≤ 4) (hD0 : D0 ≤ 4) (hD1 : D1 ≤ 4) : (nI (A + 256 * B + 65536 * D) + ushr (nI (A + 256 * B + 65536 * D)) 4) &&& 252645135 = nI ((A1 + A0) + 256 * (B1 + B0) + 65536 * (D1 + D0)) := by
  have hq : (A + 256 * B + 65536 * D) / 2 ^ 4 = A1 + 16 * B + 4096 * D := by omega
  have hs : A + 256 * B + 65536 * D + (A1 + 16 * B + 4096 * D) = (17 * A1 + A0 + 16 * B0) + 256 * (17 * B1 + B0 + 16 * D0) + 65536 * (17 * D1 + D0) := by omega
  have u1 : 17 * A1 + A0 + 16 * B0 < 256 := by omega
  have u2 : 17 * B1 + B0 + 16 * D0 < 256 := by omega
  have u3 : 17 * D1 + D0 < 256 := by omega
  have u4 : A + 256 * B + 65536 * D < 2 ^ 31 := by omega
  have u5 : (17 * A1 + A0 + 16 * B0) + 256 * (17 * B1 + B0 + 16 * D0) + 65536 * (17 * D1 + D0) < 16777216 := by omega
  obtain ⟨g1, g2, g3⟩ := dig3 u1 u2 u3
  have w1 := nib2 (B0 := B0) hA0 hA1
  have w2 := nib2 (B0 := D0) hB0 hB1
  have w3 := nib3 hD0 hD1
  rw [← g1] at w1
  rw [← g2] at w2
  rw [← g3] at w3
  have key := and3 (j := 4) (m := 15) (by decide) (by decide) w1 w2 w3 u5
  rw [show (4 : Int32) = nI 4 from rfl, ush u4 (by decide), hq, nI_add, hs, show (252645135 : Int32) = nI (15 + 256 * 15 + 65536 * 15 + 16777216 * 15) from rfl, fa_and, key]
  have m15 : ∀ u, u ≤ 8 → u &&& 15 = u := by decide
  rw [m15 _ (by omega), m15 _ (by omega), m15 _ (by omega)]
theorem bitC4 {p q r : Nat} (hp : p ≤ 8) (hq : q ≤ 8) (hr : r ≤ 8) : nI (p + 256 * q + 65536 * r) + ushr (nI (p + 256 * q + 65536 * r)) 8 = nI ((p + q) + 256 * (q + r) + 65536 * r) := by
  have e : (p + 256 * q + 65536 * r) / 2 ^ 8 = q + 256 * r := by omega
  rw [show (8 : Int32) = nI 8 from rfl, ush (by omega) (by decide), e, nI_add]
  congr 1
  omega
theorem bitC5 {p q r : Nat} (hp : p ≤ 8) (hq : q ≤ 8) (hr : r ≤ 8) : nI ((p + q) + 256 * (q + r) + 65536 * r) + ushr (nI ((p + q) + 256 * (q + r) + 65536 * r)) 16 = nI ((p + q + r) + 256 * (q + r) + 65536 * r) := by
  have e : ((p + q) + 256 * (q + r) + 65536 * r) / 2 ^ 16 = r := by omega
  rw [show (16 : Int32) = nI 16 from rfl, ush (by omega) (by decide), e, nI_add]
  congr 1
  omega
theorem bitC6 {p q r : Nat} (hp : p ≤ 8) (hq : q ≤ 8) (hr : r ≤ 8) : nI ((p + q + r) + 256 * (q + r) + 65536 * r) &&& 63 = nI (p + q + r) := by
  rw [show (63 : Int32) = nI (2 ^ 6 - 1) from rfl, fa_mask]
  congr 1
  omega
theorem bitCT {S : St} {T : Nat} (hT : T < 16777216) : fJ6_bitCount_0f7a4 S (nI T) = some (nI (cnt8 (T % 256) + cnt8 (T / 256 % 256) + cnt8 (T / 65536))) := by
  unfold fJ6_bitCount_0f7a4
  simp only [pl_e]
  obtain ⟨a, b, d, ha, hb, hd, hT2⟩ : ∃ a b d, a < 256 ∧ b < 256 ∧ d < 256 ∧ T = a + 256 * b + 65536 * d := ⟨T % 256, T / 256 % 256, T / 65536, by omega, by omega, by omega, by omega⟩
  have e1 : T % 256 = a := by omega
  have e2 : T / 256 % 256 = b := by omega
  have e3 : T / 65536 = d := by omega
  rw [e1, e2, e3]
  obtain ⟨a1, a2, a3, a4⟩ := byt1 a ha
  obtain ⟨b1, b2, b3, b4⟩ := byt1 b hb
  obtain ⟨d1, d2, d3, d4⟩ := byt1 d hd
  have h1 : nI T - (ushr (nI T) 1 &&& 1431655765) = nI ((a - (a / 2 &&& 85)) + 256 * (b - (b / 2 &&& 85)) + 65536 * (d - (d / 2 &&& 85))) := by
    rw [show (1 : Int32) = nI 1 from rfl, ush (by omega) (by decide), show (1431655765 : Int32) = nI (85 + 256 * 85 + 65536 * 85 + 16777216 * 85) from rfl, fa_and, and3 (j := 7) (x := a / 2) (y := b / 2) (z := d / 2) (by decide) (by decide) (by omega) (by omega) (by omega) (by omega), pk_sub (by omega)]
    congr 1
    omega
  rw [h1]
  have al : a - (a / 2 &&& 85) < 256 := by omega
  have bl : b - (b / 2 &&& 85) < 256 := by omega
  have dl : d - (d / 2 &&& 85) < 256 := by omega
  clear h1 a1 b1 d1
  generalize a - (a / 2 &&& 85) = a' at *
  generalize b - (b / 2 &&& 85) = b' at *
  generalize d - (d / 2 &&& 85) = d' at *
  have h2 : (nI (a' + 256 * b' + 65536 * d') &&& 858993459) + (ushr (nI (a' + 256 * b' + 65536 * d')) 2 &&& 858993459) = nI (((a' &&& 51) + (a' / 4 &&& 51)) + 256 * ((b' &&& 51) + (b' / 4 &&& 51)) + 65536 * ((d' &&& 51) + (d' / 4 &&& 51))) := by
    rw [show (2 : Int32) = nI 2 from rfl, ush (by omega) (by decide), show (858993459 : Int32) = nI (51 + 256 * 51 + 65536 * 51 + 16777216 * 51) from rfl, fa_and, fa_and, and3 (j := 8) (x := a') (y := b') (z := d') (by decide) (by decide) (by omega) (by omega) (by omega) (by omega), and3 (j := 6) (x := a' / 4) (y := b' / 4) (z := d' / 4) (by decide) (by decide) (by omega) (by omega) (by omega) (by omega), nI_add]
    congr 1
    omega
  rw [h2]
  clear h2
  generalize (a' &&& 51) + (a' / 4 &&& 51) = A at *
  generalize (b' &&& 51) + (b' / 4 &&& 51) = B at *
  generalize (d' &&& 51) + (d' / 4 &&& 51) = D at *
  obtain ⟨A1, A0, hA, hA0, hA1⟩ : ∃ A1 A0, A = 16 * A1 + A0 ∧ A0 ≤ 4 ∧ A1 ≤ 4 := ⟨A / 16, A % 16, by omega, by omega, by omega⟩
  obtain ⟨B1, B0, hB, hB0, hB1⟩ : ∃ A1 A0, B = 16 * A1 + A0 ∧ A0 ≤ 4 ∧ A1 ≤ 4 := ⟨B / 16, B % 16, by omega, by omega, by omega⟩
  obtain ⟨D1, D0, hD, hD0, hD1⟩ : ∃ A1 A0, D = 16 * A1 + A0 ∧ A0 ≤ 4 ∧ A1 ≤ 4 := ⟨D / 16, D % 16, by omega, by omega, by omega⟩
  have a5 : cnt8 a = A1 + A0 := a4.symm.trans (nib hA hA0 hA1)
  have b5 : cnt8 b = B1 + B0 := b4.symm.trans (nib hB hB0 hB1)
  have d5 : cnt8 d = D1 + D0 := d4.symm.trans (nib hD hD0 hD1)
  rw [a5, b5, d5]
  rw [bitC3 hA hB hD hA0 hA1 hB0 hB1 hD0 hD1]
  have p8 : A1 + A0 ≤ 8 := Nat.add_le_add hA1 hA0
  have q8 : B1 + B0 ≤ 8 := Nat.add_le_add hB1 hB0
  have r8 : D1 + D0 ≤ 8 := Nat.add_le_add hD1 hD0
  rw [bitC4 p8 q8 r8, bitC5 p8 q8 r8, bitC6 p8 q8 r8]
