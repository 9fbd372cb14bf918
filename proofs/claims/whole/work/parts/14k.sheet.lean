-- sheets
theorem n10 : ¬ (1 : Int32) = 0 := by decide
def fillj (S : St) (c base : Nat) : Nat → St
  | 0 => S
  | n + 1 => sj (fillj S c base n) c (base + n) 0
theorem fillj_a {S : St} {c base n d j : Nat} : (fillj S c base n).2 d j = if d = c ∧ base ≤ j ∧ j < base + n then 0 else S.2 d j := by
  induction n with
  | zero => rw [if_neg (by omega)]; rfl
  | succ n ih =>
    show (sj _ _ _ _).2 d j = _
    rw [sj_a, ih]
    grind
theorem fillj_b {S : St} {c base n : Nat} : (fillj S c base n).1 = S.1 := by
  induction n with
  | zero => rfl
  | succ n ih => exact ih
theorem fillj_o {S : St} {c base n d : Nat} (h : d ≠ c) : (fillj S c base n).2 d = S.2 d := by
  funext j
  rw [fillj_a, if_neg (fun q => h q.1)]
theorem fillJ_L {s : Nat} {S : St} : ∀ (G i : Nat), i ≤ 40 → 40 - i < G → fJ7_fill_d0a16_L6 s 0 (nI 40) G (fillj S (51 + s) 0 i) (nI i) = some (fillj S (51 + s) 0 40) := by
  intro G
  induction G with
  | zero => intro m h1 h2; omega
  | succ G ih =>
    intro m h1 h2
    rw [fJ7_fill_d0a16_L6]
    by_cases hm : m = 40
    · subst hm
      rw [if_pos (by decide)]
    · rw [if_neg (nI_ge (by omega) (by decide)), stj_e (by omega) (by decide), pl_e, nI_1]
      have := ih (m + 1) (by omega) (by omega)
      rw [show fillj S (51 + s) 0 (m + 1) = sj (fillj S (51 + s) 0 m) (51 + s) (0 + m) 0 from rfl, Nat.zero_add] at this
      exact this
theorem sheetM_L {t : Nat} {J : St → Option (St × Int32)} {S : St} (ht : t < 4) : ∀ (G i : Nat), i ≤ 40 → 40 - i < G → fX7_sheet_L93 (nI t) J G (fillj S 8 (40 * t) i) (nI i) = J (fillj S 8 (40 * t) 40) := by
  intro G
  induction G with
  | zero => intro m h1 h2; omega
  | succ G ih =>
    intro m h1 h2
    rw [fX7_sheet_L93]
    by_cases hm : m = 40
    · subst hm
      rw [if_pos (show (40 : Int32) ≤ nI 40 from by decide)]
    · rw [if_neg (show ¬ (40 : Int32) ≤ nI m from nI_ge (b := 40) (by omega) (by decide)), show (40 : Int32) = nI 40 from rfl, pk_mul, nI_add, stj_e (by omega) (by decide), pl_e, nI_1]
      exact ih (m + 1) (by omega) (by omega)
theorem lay_ok {F s b z : Nat} (hF : 100 ≤ F) {X : St} (hb : b < 2 ^ 31) : fX3_lay F s X (nI b) (nI z) = some (fillj (si (si X (47 + s) 0 (nI b)) (47 + s) 1 (nI (if b = 0 then 0 else z))) (51 + s) 0 40) := by
  unfold fX3_lay fJ7_fill_d0a16
  simp only [pl_e]
  have hL : ∀ S : St, fJ7_fill_d0a16_L6 s 0 (Int32.ofNat 40) F S 0 = some (fillj S (51 + s) 0 40) := fun S => fillJ_L (S := S) F 0 (by decide) (by omega)
  by_cases e : b = 0
  · subst e
    rw [if_pos (show nI 0 = (0 : Int32) from rfl), hL, bv_e, if_pos rfl]
    rfl
  · rw [if_neg (show ¬ nI b = (0 : Int32) from nI_ne0 (by omega) hb), hL, bv_e, if_neg e]
theorem se_put {X M : St} {t b z : Nat} (h : Rel X M) (ht : t < 4) (hb : bitsok b) (hz : z ≤ 40) (h0 : b = 0 → z = 0) : Rel (fillj (si (si X (47 + t) 0 (nI b)) (47 + t) 1 (nI z)) (51 + t) 0 40) (fillj (si (si M 6 t (if b = 0 then -1 else nI b)) 7 t (nI z)) 8 (40 * t) 40) := by
  obtain ⟨⟨H, hS⟩, h2, h3, h4, h5, h6⟩ := h
  have xo : ∀ d, d ≠ 47 + t → (fillj (si (si X (47 + t) 0 (nI b)) (47 + t) 1 (nI z)) (51 + t) 0 40).1 d = X.1 d := fun d hd => by rw [fillj_b, si_o hd, si_o hd]
  have mo : ∀ d, d ≠ 6 → d ≠ 7 → (fillj (si (si M 6 t (if b = 0 then -1 else nI b)) 7 t (nI z)) 8 (40 * t) 40).1 d = M.1 d := fun d h6 h7 => by rw [fillj_b, si_o h7, si_o h6]
  refine ⟨⟨H, hS.kept (fun k hk => xo _ (by omega)) (mo 1 (by decide) (by decide))⟩, h2.kept (fun k hk => xo _ (by omega)) (by rw [xo 0 (by omega)]) (by rw [mo 0 (by decide) (by decide)]) (mo 2 (by decide) (by decide)), h3.kept (by rw [xo 44 (by omega)]) (xo 45 (by omega)) (by rw [mo 0 (by decide) (by decide)]) (mo 5 (by decide) (by decide)), ?_, h5.kept (xo 55 (by omega)) (mo 4 (by decide) (by decide)), h6.kept (mo 14 (by decide) (by decide))⟩
  intro u hu
  by_cases e : u = t
  · subst e
    refine ⟨b, z, hb, hz, h0, ?_, ?_, ?_, ?_, ?_⟩
    · rw [fillj_b, si_s (by decide), si_h]
    · rw [fillj_b, si_h]
    · rw [fillj_b, si_o (by decide), si_h]
    · rw [fillj_b, si_h]
    · intro k hk
      rw [fillj_a, if_pos ⟨rfl, by omega, by omega⟩, fillj_a, if_pos ⟨rfl, by omega, by omega⟩]
  · obtain ⟨b', z', g1, g2, g3, g4, g5, g6, g7, g8⟩ := h4 u hu
    refine ⟨b', z', g1, g2, g3, ?_, ?_, ?_, ?_, ?_⟩
    · rw [xo _ (by omega)]; exact g4
    · rw [xo _ (by omega)]; exact g5
    · rw [fillj_b, si_o (by decide), si_s e]; exact g6
    · rw [fillj_b, si_s e, si_o (by decide)]; exact g7
    · intro k hk
      rw [fillj_o (by omega), si_b, si_b, fillj_a, if_neg (by omega), si_b, si_b]
      exact g8 k hk
theorem isSheet_t {M : St} {t : Nat} (h : t < 4) : fX7_isSheet M (nI t) = some 1 := by
  unfold fX7_isSheet
  rw [if_neg (nI_pos (by omega)), if_neg (show ¬ (4 : Int32) ≤ nI t from nI_ge (b := 4) h (by decide))]
theorem isSheet_f {M : St} {a : Int32} (h : ¬ inb a 0 3) : fX7_isSheet M a = some 0 := by
  unfold fX7_isSheet
  by_cases h0 : a < 0
  · rw [if_pos h0]
  · rw [if_neg h0]
    by_cases h4 : (4 : Int32) ≤ a
    · rw [if_pos h4]
    · exfalso
      apply h
      refine ⟨fa_of_nlt h0, ?_⟩
      rw [fa_le] at h4 ⊢
      have e3 : (3 : Int32).toInt = 3 := by decide
      have e4 : (4 : Int32).toInt = 4 := by decide
      omega
theorem st_sheet {F : Nat} (hF : 100 ≤ F) : s_sheet Rel F := by
  intro X M a1 a2 a3 hR
  show Ag _ _
  unfold fX6_sheet fX7_sheet
  simp only [bq_eta, pl_e]
  by_cases c1 : inb a1 0 3
  · rw [within_t c1, bv_e, if_neg n10]
    obtain ⟨t, -, ht, rfl⟩ := inb_nI (lo := 0) (hi := 3) c1 (by decide) (by decide)
    rw [isSheet_t (by omega), bv_e, if_neg n10]
    have main : ∀ b, bitsok b → a2 = nI b → Ag (if 0 ≤ a3 then if a3 ≤ 40 then lds (nI t) fun s5 => bv (fX3_lay F s5 X a2 a3) fun S6 => lds (nI t) fun s7 => some (S6, S6.1 (47 + s7) 1) else fX6_finding X 0 else fX6_finding X 6) (if 0 ≤ a3 then if a3 ≤ 40 then (if a2 = 0 then sti M 6 (nI t) 4 (-1) fun S5 => if a2 = 0 then sti S5 7 (nI t) 4 0 fun S7 => fX7_sheet_L93 (nI t) (fun S8 => ldi S8 7 (nI t) 4 fun v9 => some (S8, v9)) F S7 0 else sti S5 7 (nI t) 4 a3 fun S7 => fX7_sheet_L93 (nI t) (fun S8 => ldi S8 7 (nI t) 4 fun v9 => some (S8, v9)) F S7 0 else sti M 6 (nI t) 4 a2 fun S5 => if a2 = 0 then sti S5 7 (nI t) 4 0 fun S7 => fX7_sheet_L93 (nI t) (fun S8 => ldi S8 7 (nI t) 4 fun v9 => some (S8, v9)) F S7 0 else sti S5 7 (nI t) 4 a3 fun S7 => fX7_sheet_L93 (nI t) (fun S8 => ldi S8 7 (nI t) 4 fun v9 => some (S8, v9)) F S7 0) else fX7_finds M (-1000000001) else fX7_finds M (-1000000007)) := by
      intro b hb e2
      by_cases c0 : 0 ≤ a3
      · rw [if_pos c0, if_pos c0]
        by_cases c40 : a3 ≤ 40
        · rw [if_pos c40, if_pos c40]
          obtain ⟨z, -, hz, e3⟩ := inb_nI (a := a3) (lo := 0) (hi := 40) ⟨c0, c40⟩ (by decide) (by decide)
          subst e3
          subst e2
          have hb31 : b < 2 ^ 31 := by rcases hb with h | h | h | h <;> (rw [h]; decide)
          rw [lds_e (by omega), lay_ok hF hb31, bv_e, lds_e (by omega), fillj_b, si_h]
          have hM : ∀ S : St, fX7_sheet_L93 (nI t) (fun S8 => ldi S8 7 (nI t) 4 fun v9 => some (S8, v9)) F S 0 = some (fillj S 8 (40 * t) 40, S.1 7 t) := fun S => by
            have := sheetM_L (t := t) (S := S) (J := fun S8 => ldi S8 7 (nI t) 4 fun v9 => some (S8, v9)) (by omega) F 0 (by decide) (by omega)
            rw [ldi_e (by omega) (by decide), fillj_b] at this
            exact this
          have := se_put (t := t) (b := b) (z := if b = 0 then 0 else z) hR (by omega) hb (by by_cases q : b = 0 <;> simp [q]; omega) (fun q => by simp [q])
          by_cases e : b = 0
          · subst e
            rw [if_pos (show nI 0 = (0 : Int32) from rfl), sti_e (by omega) (by decide), if_pos (show nI 0 = (0 : Int32) from rfl), sti_e (by omega) (by decide), hM, si_h]
            exact ag_of rfl rfl this
          · have ne : ¬ nI b = (0 : Int32) := nI_ne0 (by omega) hb31
            rw [if_neg ne, sti_e (by omega) (by decide), if_neg ne, sti_e (by omega) (by decide), hM, si_h]
            simp only [e, if_false] at this ⊢
            exact ag_of rfl rfl this
        · rw [if_neg c40, if_neg c40]
          exact find0 hR
      · rw [if_neg c0, if_neg c0]
        exact find6 hR
    unfold fX6_isWidth
    by_cases e0 : a2 = 0
    · have := main 0 (Or.inl rfl) e0
      rw [if_pos e0, bv_e, if_neg n10, if_pos e0]
      exact this
    by_cases e8 : a2 = 8
    · have := main 8 (Or.inr (Or.inl rfl)) e8
      rw [if_neg e0, if_pos e8, bv_e, if_neg n10, if_neg e0, if_pos e8]
      exact this
    by_cases e16 : a2 = 16
    · have := main 16 (Or.inr (Or.inr (Or.inl rfl))) e16
      rw [if_neg e0, if_neg e8, if_pos e16, bv_e, if_neg n10, if_neg e0, if_neg e8, if_pos e16]
      exact this
    by_cases e64 : a2 = 64
    · have := main 64 (Or.inr (Or.inr (Or.inr rfl))) e64
      rw [if_neg e0, if_neg e8, if_neg e16, if_pos e64, bv_e, if_neg n10, if_neg e0, if_neg e8, if_neg e16, if_pos e64]
      exact this
    rw [if_neg e0, if_neg e8, if_neg e16, if_neg e64, bv_e, if_pos rfl, if_neg e0, if_neg e8, if_neg e16, if_neg e64]
    exact find0 hR
  · rw [within_f c1, bv_e, if_pos rfl, isSheet_f c1, bv_e, if_pos rfl]
    exact find0 hR
