-- parts
theorem bits_tb {f : Nat → Nat} {n : Nat} (h : ∀ p, p < n → f p ≤ 1) (j : Nat) : (bits f n).testBit j = decide (j < n ∧ f j = 1) := by
  by_cases hj : j < n
  · rw [Nat.testBit_eq_decide_div_mod_eq, bits_at h hj]
    simp [hj]
  · have h1 := bits_lt h
    have h2 : 2 ^ n ≤ 2 ^ j := Nat.pow_le_pow_right (by decide) (by omega)
    rw [Nat.testBit_lt_two_pow (by omega)]
    simp [hj]
def put1 (f : Nat → Nat) (p v : Nat) : Nat → Nat := fun j => if j = p then v else f j
theorem bits_xor {f : Nat → Nat} {n p v : Nat} (h : ∀ p, p < n → f p ≤ 1) (hp : p < n) (hv : v ≤ 1) (hne : v ≠ f p) : bits (put1 f p v) n = bits f n ^^^ 2 ^ p := by
  have h' : ∀ q, q < n → put1 f p v q ≤ 1 := fun q hq => by
    unfold put1
    by_cases e : q = p
    · rw [if_pos e]; exact hv
    · rw [if_neg e]; exact h q hq
  apply Nat.eq_of_testBit_eq
  intro j
  rw [Nat.testBit_xor, bits_tb h', bits_tb h, Nat.testBit_two_pow]
  have hf := h p hp
  unfold put1
  by_cases e : j = p
  · subst e
    rw [if_pos rfl]
    rcases (show v = 0 ∨ v = 1 by omega) with rfl | rfl
    · have : f j = 1 := by omega
      simp [hp, this]
    · have : f j = 0 := by omega
      simp [hp, this]
  · rw [if_neg e]
    simp [show ¬ p = j from fun q => e q.symm]
theorem up2_6 {H : Hs} {p v : Nat} : up2 H 6 p v 6 = put1 (H 6) p v := by
  funext j
  simp [up2, put1]
theorem up_there {A : St} {r : St} {H : Hs} {p v : Nat} {x : Int32} (h : St1 A.1 1 (r.1 1) H) (hp : p < H 0 0) (hv : v ≤ 1) (hx0 : x = nI (bits (put1 (H 6) p v) (H 0 0))) : St1 (si A 1 6 x).1 1 ((si r 1 (12 + 6 * p + 5) (nI v)).1 1) (up2 H 6 p v) := by
  obtain ⟨hw, hx, hm⟩ := h
  have hb : H 0 0 ≤ 20 ∧ H 0 1 ≤ 6 ∧ H 0 2 ≤ 6 := ⟨hw.1, hw.2.1, hw.2.2.1⟩
  refine ⟨?_, ?_, ?_⟩
  · unfold Wf at *; simp only [up2]; grind
  · unfold ShX at *; rw [up2_6]; simp only [si_a, up2]; grind
  · unfold ShM at *; simp only [si_a, up2]; grind
theorem st_want {F : Nat} : s_want Rel F := by
  intro X M a1 a2 hR h01
  show Ag _ _
  unfold fX6_want fX7_want
  simp only [bq_eta, pl_e]
  obtain ⟨⟨H, hS⟩, -⟩ := id hR
  have hn := hS.1.1
  refine guardP hS.2.1.1 hS.2.2.1 hn (find0 hR) (fun p hp e => ?_)
  subst e
  have h6 : ∀ q, q < H 0 0 → H 6 q ≤ 1 := fun q hq => (hS.1.2.2.2.1 q hq).2.2.2.2.2
  obtain ⟨v, hv, rfl⟩ : ∃ v, v ≤ 1 ∧ a2 = nI v := by
    rcases h01 with h | h
    · exact ⟨0, by decide, h⟩
    · exact ⟨1, by decide, h⟩
  have hX : fX4_isThere 1 X (nI p) = some (nI (H 6 p)) := by
    unfold fX4_isThere
    rw [hS.2.1.2.2.2.2.1, bit_there h6 hn hp]
    have := h6 p hp
    rcases (show H 6 p = 0 ∨ H 6 p = 1 by omega) with e | e
    · rw [e]; rfl
    · rw [e]; rfl
  have hM : (if nI v = 0 then bq (fX7_becomes M (12 + 6 * nI p + 5) 0) fun S3 v4 => if v4 = 0 then some (S3, (0 : Int32)) else some (S3, 1) else bq (fX7_becomes M (12 + 6 * nI p + 5) 1) fun S3 v4 => if v4 = 1 then some (S3, 0) else some (S3, 1)) = some (si M 1 (12 + 6 * p + 5) (nI v), if H 6 p = v then 0 else 1) := by
    have h6p := h6 p hp
    have e5 : (5 : Int32) = nI 5 := rfl
    have hm6 : M.1 1 (12 + 6 * p + 5) = nI (H 6 p) := hS.2.2.2.2.2.1 p 5 hp (by decide)
    rw [e5, ix6]
    rcases (show v = 0 ∨ v = 1 by omega) with rfl | rfl
    · rw [if_pos (show nI 0 = (0 : Int32) from rfl), becomes_e (by omega), bq_e, hm6]
      rcases (show H 6 p = 0 ∨ H 6 p = 1 by omega) with e | e
      · rw [e]; rfl
      · rw [e]; rfl
    · rw [if_neg (by decide), becomes_e (by omega), bq_e, hm6]
      rcases (show H 6 p = 0 ∨ H 6 p = 1 by omega) with e | e
      · rw [e]; rfl
      · rw [e]; rfl
  rw [hX, bv_e, hM]
  by_cases e : H 6 p = v
  · rw [if_pos (by rw [e]), if_pos e]
    refine ag_of rfl rfl (rel_now hR (fun d hd => rfl) rfl (fun d hd => si_o hd) rfl ⟨H, hS.1, hS.2.1, ?_⟩)
    have hm := hS.2.2
    have hb : H 0 0 ≤ 20 ∧ H 0 1 ≤ 6 ∧ H 0 2 ≤ 6 := ⟨hS.1.1, hS.1.2.1, hS.1.2.2.1⟩
    unfold ShM at *; simp only [si_a]; grind
  · have h20 : 2 ^ H 0 0 ≤ 2 ^ 20 := Nat.pow_le_pow_right (by decide) hn
    have hl := bits_lt h6
    rw [if_neg (fun q => e ((nI_eq (by have := h6 p hp; omega) (by omega)).mp q)), if_neg e]
    refine ag_of rfl rfl (rel_now hR (fun d hd => si_o (by omega)) rfl (fun d hd => si_o hd) rfl ⟨_, up_there hS hp hv ?_⟩)
    rw [hS.2.1.2.2.2.2.1, shl1 p (by omega), nx_xor, bits_xor h6 hp hv (fun q => e q.symm)]
-- a new part
def addP (H : Hs) (k1 k2 k3 k4 k5 : Nat) : Hs := fun f i => if f = 0 ∧ i = 0 then H 0 0 + 1 else if i = H 0 0 then (if f = 1 then k1 else if f = 2 then k2 else if f = 3 then k3 else if f = 4 then k4 else if f = 5 then k5 else if f = 6 then 1 else H f i) else H f i
theorem addP_6 {H : Hs} {k1 k2 k3 k4 k5 : Nat} : bits (addP H k1 k2 k3 k4 k5 6) (H 0 0 + 1) = bits (H 6) (H 0 0) + 2 ^ H 0 0 := by
  show bits _ (H 0 0) + _ * _ = _
  rw [bits_ext (g := H 6) (fun p hp => by simp [addP, show ¬ p = H 0 0 by omega])]
  simp [addP]
section
variable {H : Hs} {k1 k2 k3 k4 k5 : Nat}
theorem aP_n : addP H k1 k2 k3 k4 k5 0 0 = H 0 0 + 1 := by simp [addP]
theorem aP_b : addP H k1 k2 k3 k4 k5 0 1 = H 0 1 := by simp [addP]
theorem aP_c : addP H k1 k2 k3 k4 k5 0 2 = H 0 2 := by simp [addP]
theorem aP_1 {i : Nat} : addP H k1 k2 k3 k4 k5 1 i = if i = H 0 0 then k1 else H 1 i := by simp [addP]
theorem aP_2 {i : Nat} : addP H k1 k2 k3 k4 k5 2 i = if i = H 0 0 then k2 else H 2 i := by simp [addP]
theorem aP_3 {i : Nat} : addP H k1 k2 k3 k4 k5 3 i = if i = H 0 0 then k3 else H 3 i := by simp [addP]
theorem aP_4 {i : Nat} : addP H k1 k2 k3 k4 k5 4 i = if i = H 0 0 then k4 else H 4 i := by simp [addP]
theorem aP_5 {i : Nat} : addP H k1 k2 k3 k4 k5 5 i = if i = H 0 0 then k5 else H 5 i := by simp [addP]
theorem aP_6 {i : Nat} : addP H k1 k2 k3 k4 k5 6 i = if i = H 0 0 then 1 else H 6 i := by simp [addP]
theorem aP_7 {f : Nat} (h : 7 ≤ f) : addP H k1 k2 k3 k4 k5 f = H f := by
  funext i
  simp only [addP]
  rw [if_neg (by omega), if_neg (show ¬ f = 1 by omega), if_neg (show ¬ f = 2 by omega), if_neg (show ¬ f = 3 by omega), if_neg (show ¬ f = 4 by omega), if_neg (show ¬ f = 5 by omega), if_neg (show ¬ f = 6 by omega)]
  simp
end
theorem addP_wf {H : Hs} {k1 k2 k3 k4 k5 : Nat} (h : Wf H) (hn : H 0 0 < 20) (h1 : k1 < 7) (h2 : k2 < 8) (h3 : 1 ≤ k3 ∧ k3 ≤ 999) (h4 : k4 ≤ 99) (h5 : k5 ≤ 99) : Wf (addP H k1 k2 k3 k4 k5) := by
  unfold Wf at *
  rw [aP_n, aP_b, aP_c, aP_7 (f := 7) (by decide), aP_7 (f := 8) (by decide), aP_7 (f := 9) (by decide), aP_7 (f := 10) (by decide), aP_7 (f := 11) (by decide), aP_7 (f := 12) (by decide)]
  simp only [aP_1, aP_2, aP_3, aP_4, aP_5, aP_6]
  grind
theorem addPart_ok {X : St} {b : Nat} {H : Hs} {k1 k2 k3 k4 : Nat} (h : ShX X.1 b H) (hn : H 0 0 < 20) (h6 : ∀ q, q < H 0 0 → H 6 q ≤ 1) : ∃ X1, fX4_addPart b X (nI k1) (nI k2) (nI k3) (nI k4) = some (X1, nI (H 0 0)) ∧ ShX X1.1 b (addP H k1 k2 k3 k4 0) ∧ (∀ d, d < b ∨ b + 5 < d → X1.1 d = X.1 d) ∧ X1.2 = X.2 := by
  have h20 : 2 ^ H 0 0 ≤ 2 ^ 20 := Nat.pow_le_pow_right (by decide) (by omega)
  have hl := bits_lt h6
  refine ⟨si (si (si (si (si (si (si X (1 + b) (H 0 0) (nI k1)) (2 + b) (H 0 0) (nI k2)) (3 + b) (H 0 0) (nI k3)) (4 + b) (H 0 0) (nI k4)) (5 + b) (H 0 0) 0) b 6 (nI (bits (H 6) (H 0 0) + 2 ^ H 0 0))) b 0 (nI (H 0 0 + 1)), ?_, ?_, ?_, rfl⟩
  · unfold fX4_addPart
    have h0 := h.1
    have h6' := h.2.2.2.2.1
    rw [h0, if_pos (show nI (H 0 0) < (20 : Int32) from nI_lt (b := 20) hn (by decide))]
    rw [pl_e, sti_e hn (by decide), sti_e hn (by decide), sti_e hn (by decide), sti_e hn (by decide), sti_e hn (by decide), pl_e, pl_e]
    have e1 : (nI (bits (H 6) (H 0 0)) ||| (1 : Int32) <<< (nI (H 0 0) &&& 31)) = nI (bits (H 6) (H 0 0) + 2 ^ H 0 0) := by
      rw [shl1 _ (by omega), fa_or]
      congr 1
      have := Nat.two_pow_add_eq_or_of_lt hl 1
      rw [Nat.mul_one] at this
      rw [Nat.or_comm, ← this, Nat.add_comm]
    simp only [si_a]
    rw [if_neg (by omega), if_neg (by omega), if_neg (by omega), if_neg (by omega), if_neg (by omega), h6', e1]
    simp only [show ¬ b = 5 + b by omega, show ¬ b = 4 + b by omega, show ¬ b = 3 + b by omega, show ¬ b = 2 + b by omega, show ¬ b = 1 + b by omega, if_false, if_true]
    rw [if_neg (by decide), h0, nI_1]
  · unfold ShX at *
    rw [aP_n, addP_6, aP_b, aP_c, aP_7 (f := 7) (by decide), aP_7 (f := 8) (by decide), aP_7 (f := 9) (by decide), aP_7 (f := 10) (by decide), aP_7 (f := 11) (by decide), aP_7 (f := 12) (by decide)]
    simp only [si_a, aP_1, aP_2, aP_3, aP_4, aP_5]
    generalize bits (H 6) (H 0 0) + 2 ^ H 0 0 = B
    obtain ⟨g1, g2, g3, g4, g5, g6, g7, g8, g9, g10, g11⟩ := h
    refine ⟨by grind, by grind, by grind, ?_, by grind, by grind, by grind, by grind, by grind, by grind, by grind⟩
    intro p hp
    have g4p := g4 p
    by_cases e : p = H 0 0
    · simp [e, nI_0]
    · have := g4p (by omega)
      grind
  · intro d hd
    rw [si_o (by omega), si_o (by omega), si_o (by omega), si_o (by omega), si_o (by omega), si_o (by omega), si_o (by omega)]
theorem gets_e {M : St} {p w : Nat} {v : Int32} (hp : p < 20) (hw : w < 6) : fX7_gets M (nI p) (nI w) v = some (si M 1 (12 + 6 * p + w) v) := by
  unfold fX7_gets
  rw [ix6, sti_e (by omega) (by decide)]
theorem has_e {M : St} {p w : Nat} (hp : p < 20) (hw : w < 6) : fX7_has M (nI p) (nI w) = some (M.1 1 (12 + 6 * p + w)) := by
  unfold fX7_has
  rw [ix6, ldi_e (by omega) (by decide)]
theorem comes_ok {M : St} {H : Hs} {k1 k2 k3 k4 k5 : Nat} (h : ShM (M.1 1) H) (hn : H 0 0 < 20) (hb : H 0 1 ≤ 6 ∧ H 0 2 ≤ 6) : ∃ M1, fX7_comes M (nI k1) (nI k2) (nI k3) (nI k4) (nI k5) = some M1 ∧ ShM (M1.1 1) (addP H k1 k2 k3 k4 k5) ∧ (∀ d, d ≠ 1 → M1.1 d = M.1 d) ∧ M1.2 = M.2 := by
  have h0 := h.1
  refine ⟨si (si (si (si (si (si (si M 1 (12 + 6 * H 0 0 + 0) (nI k1)) 1 (12 + 6 * H 0 0 + 1) (nI k2)) 1 (12 + 6 * H 0 0 + 2) (nI k3)) 1 (12 + 6 * H 0 0 + 3) (nI k4)) 1 (12 + 6 * H 0 0 + 4) (nI k5)) 1 (12 + 6 * H 0 0 + 5) (nI 1)) 1 0 (nI (H 0 0 + 1)), ?_, ?_, ?_, rfl⟩
  · unfold fX7_comes
    rw [show (0 : Int32) = nI 0 from rfl, show (1 : Int32) = nI 1 from rfl, show (2 : Int32) = nI 2 from rfl, show (3 : Int32) = nI 3 from rfl, show (4 : Int32) = nI 4 from rfl, show (5 : Int32) = nI 5 from rfl]
    rw [ldi_e (by decide) (by decide), h0, gets_e hn (by decide), bv_e, gets_e hn (by decide), bv_e, gets_e hn (by decide), bv_e, gets_e hn (by decide), bv_e, gets_e hn (by decide), bv_e, gets_e hn (by decide), bv_e, ldi_e (by decide) (by decide), sti_e (by decide) (by decide)]
    rw [si_s (by omega), si_s (by omega), si_s (by omega), si_s (by omega), si_s (by omega), si_s (by omega), h0, nI_add]
  · unfold ShM at *
    rw [aP_n, aP_b, aP_c, aP_7 (f := 7) (by decide), aP_7 (f := 8) (by decide), aP_7 (f := 9) (by decide), aP_7 (f := 10) (by decide), aP_7 (f := 11) (by decide), aP_7 (f := 12) (by decide)]
    simp only [si_a]
    obtain ⟨g1, g2, g3, g4, g5, g6, g7, g8, g9, g10⟩ := h
    refine ⟨by grind, by grind, by grind, ?_, by grind, by grind, by grind, by grind, by grind, by grind⟩
    intro p w hp hw
    by_cases e : p = H 0 0
    · subst e
      rcases (show w = 0 ∨ w = 1 ∨ w = 2 ∨ w = 3 ∨ w = 4 ∨ w = 5 by omega) with rfl | rfl | rfl | rfl | rfl | rfl
      · rw [aP_1]; grind
      · rw [aP_2]; grind
      · rw [aP_3]; grind
      · rw [aP_4]; grind
      · rw [aP_5]; grind
      · rw [aP_6]; grind
    · have g := g4 p w (by omega) hw
      have e2 : addP H k1 k2 k3 k4 k5 (w + 1) p = H (w + 1) p := by
        simp only [addP]
        rw [if_neg (by omega), if_neg e]
      rw [e2]
      grind
  · intro d hd
    rw [si_o hd, si_o hd, si_o hd, si_o hd, si_o hd, si_o hd, si_o hd]
theorem st_part {F : Nat} : s_part Rel F := by
  intro X M a1 a2 a3 a4 hR
  show Ag _ _
  unfold fX6_part fX7_part
  simp only [bq_eta, pl_e]
  obtain ⟨⟨H, hS⟩, -⟩ := id hR
  refine guard (by decide) (by decide) (find0 hR) (fun c1 => ?_)
  refine guard (by decide) (by decide) (find0 hR) (fun c2 => ?_)
  refine guard (by decide) (by decide) (find0 hR) (fun c3 => ?_)
  refine guard (by decide) (by decide) (find0 hR) (fun c4 => ?_)
  obtain ⟨k1, -, hk1, rfl⟩ := inb_nI (lo := 0) (hi := 6) c1 (by decide) (by decide)
  obtain ⟨k2, -, hk2, rfl⟩ := inb_nI (lo := 0) (hi := 7) c2 (by decide) (by decide)
  obtain ⟨k3, hk31, hk3, rfl⟩ := inb_nI (lo := 1) (hi := 999) c3 (by decide) (by decide)
  obtain ⟨k4, -, hk4, rfl⟩ := inb_nI (lo := 0) (hi := 99) c4 (by decide) (by decide)
  have hn := hS.1.1
  rw [hS.2.1.1, ldi_l 0 (by decide) (by decide), hS.2.2.1]
  by_cases c : H 0 0 = 20
  · rw [if_neg (show ¬ nI (H 0 0) < (20 : Int32) from by rw [c]; decide), if_pos (show nI (H 0 0) = (20 : Int32) from by rw [c]; rfl)]
    exact find1 hR
  · have hlt : H 0 0 < 20 := by omega
    rw [if_pos (show nI (H 0 0) < (20 : Int32) from nI_lt (b := 20) hlt (by decide)), if_neg (show ¬ nI (H 0 0) = (20 : Int32) from fun q => c ((nI_eq (b := 20) (by omega) (by decide)).mp q))]
    obtain ⟨X1, e1, s1, o1, t1⟩ := addPart_ok (k1 := k1) (k2 := k2) (k3 := k3) (k4 := k4) hS.2.1 hlt (fun q hq => (hS.1.2.2.2.1 q hq).2.2.2.2.2)
    obtain ⟨M1, e2, s2, o2, t2⟩ := comes_ok (k1 := k1) (k2 := k2) (k3 := k3) (k4 := k4) (k5 := 0) hS.2.2 hlt ⟨hS.1.2.1, hS.1.2.2.1⟩
    rw [e1, show (0 : Int32) = nI 0 from rfl, e2, bv_e, ldi_e (by decide) (by decide), s2.1]
    refine ag_of rfl ?_ (rel_now hR (fun d hd => o1 d (by omega)) t1 o2 t2 ⟨_, addP_wf hS.1 hlt (by omega) (by omega) ⟨hk31, hk3⟩ hk4 (by decide), s1, s2⟩)
    rw [show addP H k1 k2 k3 k4 0 0 0 = H 0 0 + 1 from by simp [addP], show (1 : Int32) = nI 1 from rfl, pk_sub (by omega)]
    rfl
