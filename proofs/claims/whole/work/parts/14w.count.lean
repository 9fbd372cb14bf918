-- as many as are there
def smN (f : Nat → Nat) : Nat → Nat
  | 0 => 0
  | n + 1 => smN f n + f n
theorem cntS_u (T s : Nat) : cntS T (s + 1) = cntS T s + T / 2 ^ s % 2 := rfl
theorem cntS_bits {f : Nat → Nat} {n : Nat} (h : ∀ p, p < n → f p ≤ 1) : ∀ m, cntS (bits f n) m = smN f (min n m) := by
  intro m
  induction m with
  | zero => rw [Nat.min_zero]; rfl
  | succ m ih =>
    rw [cntS, ih]
    by_cases c : m < n
    · rw [bits_at h c, Nat.min_eq_right (by omega), Nat.min_eq_right (by omega)]; rfl
    · rw [Nat.min_eq_left (by omega), Nat.min_eq_left (by omega)]
      have h1 := bits_lt h
      have h2 : 2 ^ n ≤ 2 ^ m := Nat.pow_le_pow_right (by decide) (by omega)
      rw [Nat.div_eq_of_lt (by omega)]
      rfl
theorem cnt24 (T : Nat) (hT : T < 16777216) : cntS T 24 = cnt8 (T % 256) + cnt8 (T / 256 % 256) + cnt8 (T / 65536) := by
  have k : ∀ m, m ≤ 8 → cntS T m = cntS (T % 256) m ∧ cntS T (8 + m) = cntS T 8 + cntS (T / 256 % 256) m ∧ cntS T (16 + m) = cntS T 16 + cntS (T / 65536) m := by
    intro m
    induction m with
    | zero => intro _; exact ⟨rfl, rfl, rfl⟩
    | succ m ih =>
      intro hm
      obtain ⟨i1, i2, i3⟩ := ih (by omega)
      have d1 : T / 2 ^ m % 2 = T % 256 / 2 ^ m % 2 := by
        rcases (show m = 0 ∨ m = 1 ∨ m = 2 ∨ m = 3 ∨ m = 4 ∨ m = 5 ∨ m = 6 ∨ m = 7 by omega) with rfl | rfl | rfl | rfl | rfl | rfl | rfl | rfl <;> omega
      have d2 : T / 2 ^ (8 + m) % 2 = T / 256 % 256 / 2 ^ m % 2 := by
        rcases (show m = 0 ∨ m = 1 ∨ m = 2 ∨ m = 3 ∨ m = 4 ∨ m = 5 ∨ m = 6 ∨ m = 7 by omega) with rfl | rfl | rfl | rfl | rfl | rfl | rfl | rfl <;> omega
      have d3 : T / 2 ^ (16 + m) % 2 = T / 65536 / 2 ^ m % 2 := by
        rcases (show m = 0 ∨ m = 1 ∨ m = 2 ∨ m = 3 ∨ m = 4 ∨ m = 5 ∨ m = 6 ∨ m = 7 by omega) with rfl | rfl | rfl | rfl | rfl | rfl | rfl | rfl <;> omega
      refine ⟨?_, ?_, ?_⟩
      · rw [cntS_u, cntS_u, i1, d1]
      · have e := cntS_u T (8 + m)
        rw [Nat.add_assoc] at e
        rw [e, i2, d2, cntS_u (T / 256 % 256) m, Nat.add_assoc]
      · have e := cntS_u T (16 + m)
        rw [Nat.add_assoc] at e
        rw [e, i3, d3, cntS_u (T / 65536) m, Nat.add_assoc]
  rw [← cntS_8, ← cntS_8, ← cntS_8]
  have k8 := k 8 (by decide)
  rw [show (24 : Nat) = 16 + 8 from rfl, k8.2.2, show (16 : Nat) = 8 + 8 from rfl, k8.2.1, k8.1]
theorem bitB {S : St} {f : Nat → Nat} {n : Nat} (h : ∀ p, p < n → f p ≤ 1) (hn : n ≤ 20) : fJ6_bitCount_0f7a4 S (nI (bits f n)) = some (nI (smN f n)) := by
  have h1 := bits_lt h
  have h2 : 2 ^ n ≤ 2 ^ 20 := Nat.pow_le_pow_right (by decide) hn
  have h3 : bits f n < 16777216 := by omega
  rw [bitCT h3, ← cnt24 _ h3, cntS_bits h, Nat.min_eq_left (by omega)]
theorem thereN {M : St} {H : Hs} (hw : Wf H) (hm : ShM (M.1 1) H) : ∀ (G p : Nat), p ≤ H 0 0 → H 0 0 - p < G → fX7_ofThere_L4 M 0 G (nI (smN (H 6) p)) (nI p) = some (nI (smN (H 6) (H 0 0))) := by
  have hn := hw.1
  intro G
  induction G with
  | zero => intro p h1 h2; omega
  | succ G ih =>
    intro p h1 h2
    rw [fX7_ofThere_L4, ldi_l (c := 1) 0 (by decide) (by decide), hm.1]
    by_cases hp : p = H 0 0
    · subst hp
      rw [if_pos (nI_le (Nat.le_refl _) (by omega))]
    · have hp' : p < H 0 0 := by omega
      have h6 := (hw.2.2.2.1 p hp').2.2.2.2.2
      rw [if_neg (nI_ge hp' (by omega)), isThereM hw hm hp', bv_e]
      simp only [pl_e]
      have := ih (p + 1) (by omega) (by omega)
      rw [smN, ← nI_add] at this
      rw [nI_1]
      rcases (show H 6 p = 0 ∨ H 6 p = 1 by omega) with e | e
      · rw [e] at this ⊢; exact this
      · rw [e] at this ⊢; exact this
def fwt (H : Hs) (p : Nat) : Int32 := if H 6 p = 0 then 0 else nI (H 4 p)
theorem thereW {M : St} {H : Hs} (hw : Wf H) (hm : ShM (M.1 1) H) : ∀ (G p : Nat), p ≤ H 0 0 → H 0 0 - p < G → fX7_ofThere_L4 M 1 G (sm (fwt H) p) (nI p) = some (sm (fwt H) (H 0 0)) := by
  have hn := hw.1
  intro G
  induction G with
  | zero => intro p h1 h2; omega
  | succ G ih =>
    intro p h1 h2
    rw [fX7_ofThere_L4, ldi_l (c := 1) 0 (by decide) (by decide), hm.1]
    by_cases hp : p = H 0 0
    · subst hp
      rw [if_pos (nI_le (Nat.le_refl _) (by omega))]
    · have hp' : p < H 0 0 := by omega
      have h6 := (hw.2.2.2.1 p hp').2.2.2.2.2
      have e3 : fX7_has M (nI p) 3 = some (nI (H 4 p)) := hasM hw hm hp' (w := 3) (by decide)
      rw [if_neg (nI_ge hp' (by omega)), isThereM hw hm hp', bv_e, e3]
      simp only [pl_e, bv_e]
      have := ih (p + 1) (by omega) (by omega)
      rw [sm] at this
      unfold fwt at this ⊢
      rw [nI_1, if2 (lit_eq (a := H 6 p) (n := 0) (by omega) (by decide)), if_neg n10]
      by_cases c : H 6 p = 0
      · rw [if_pos c] at this ⊢; exact this
      · rw [if_neg c] at this ⊢; exact this
theorem thereWX {X : St} {H : Hs} (hw : Wf H) (hx : ShX X.1 1 H) : ∀ (G p : Nat), p ≤ H 0 0 → H 0 0 - p < G → fX4_weightThere_L4 X 1 G (sm (fwt H) p) (nI p) = some (sm (fwt H) (H 0 0)) := by
  have hn := hw.1
  intro G
  induction G with
  | zero => intro p h1 h2; omega
  | succ G ih =>
    intro p h1 h2
    rw [fX4_weightThere_L4, hx.1]
    by_cases hp : p = H 0 0
    · subst hp
      rw [if_pos (nI_le (Nat.le_refl _) (by omega))]
    · have hp' : p < H 0 0 := by omega
      have h6 := (hw.2.2.2.1 p hp').2.2.2.2.2
      rw [if_neg (nI_ge hp' (by omega)), isThereX hw hx hp', bv_e]
      simp only [pl_e]
      have := ih (p + 1) (by omega) (by omega)
      rw [sm] at this
      unfold fwt at this ⊢
      rw [nI_1, ldi_e (by omega) (by decide), show X.1 (4 + 1) p = nI (H 4 p) from (hx.2.2.2.1 p hp').2.2.2.1, if2 (lit_eq (a := H 6 p) (n := 0) (by omega) (by decide))]
      by_cases c : H 6 p = 0
      · rw [if_pos c] at this ⊢; exact this
      · rw [if_neg c] at this ⊢; exact this
theorem st_count {F : Nat} (hF : 100 ≤ F) : s_count Rel F := by
  intro X M a1 hR
  show Ag _ _
  obtain ⟨⟨H, hS⟩, -, ⟨tn, ht, t1, t2, -⟩, -⟩ := id hR
  have hn := hS.1.1
  have h6 : ∀ q, q < H 0 0 → H 6 q ≤ 1 := fun q hq => (hS.1.2.2.2.1 q hq).2.2.2.2.2
  unfold fX6_count fX7_count fX4_weightThere fX7_ofThere
  simp only [bq_eta]
  have e1 : fX7_ofThere_L4 M 0 F 0 0 = some (nI (smN (H 6) (H 0 0))) := thereN hS.1 hS.2.2 F 0 (by omega) (by omega)
  have e2 : fX7_ofThere_L4 M 1 F 0 0 = some (sm (fwt H) (H 0 0)) := thereW hS.1 hS.2.2 F 0 (by omega) (by omega)
  have e3 : fX4_weightThere_L4 X 1 F 0 0 = some (sm (fwt H) (H 0 0)) := thereWX hS.1 hS.2.1 F 0 (by omega) (by omega)
  rw [e1, e2, e3, hS.2.1.2.2.2.2.1, bitB h6 hn, ldi_l (c := 1) 0 (by decide) (by decide), ldi_l (c := 1) 1 (by decide) (by decide), ldi_l (c := 1) 2 (by decide) (by decide), ldi_l (c := 1) 8 (by decide) (by decide), hS.2.1.1, hS.2.1.2.1, hS.2.1.2.2.1, hS.2.1.2.2.2.2.2.2.1, hS.2.2.1, hS.2.2.2.1, hS.2.2.2.2.1, hS.2.2.2.2.2.2.2.1, t1, t2]
  simp only [bv_e]
  by_cases c0 : a1 = 0
  · rw [if_pos c0, if_pos c0]; exact ag_of rfl rfl hR
  rw [if_neg c0, if_neg c0]
  by_cases c0 : a1 = 1
  · rw [if_pos c0, if_pos c0]; exact ag_of rfl rfl hR
  rw [if_neg c0, if_neg c0]
  by_cases c0 : a1 = 2
  · rw [if_pos c0, if_pos c0]; exact ag_of rfl rfl hR
  rw [if_neg c0, if_neg c0]
  by_cases c0 : a1 = 3
  · rw [if_pos c0, if_pos c0]; exact ag_of rfl rfl hR
  rw [if_neg c0, if_neg c0]
  by_cases c0 : a1 = 4
  · rw [if_pos c0, if_pos c0]; exact ag_of rfl rfl hR
  rw [if_neg c0, if_neg c0]
  by_cases c0 : a1 = 5
  · rw [if_pos c0, if_pos c0]; exact ag_of rfl rfl hR
  rw [if_neg c0, if_neg c0]
  by_cases c0 : a1 = 6
  · rw [if_pos c0, if_pos c0]; exact ag_of rfl rfl hR
  rw [if_neg c0, if_neg c0]
  exact find0 hR
