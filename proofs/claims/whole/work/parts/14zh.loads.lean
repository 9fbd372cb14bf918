-- LOADS: a set of parts that are there
def LD (H : Hs) (s : Nat) : Prop := s < 2 ^ H 0 0 ∧ ∀ p, p < H 0 0 → s.testBit p = true → H 6 p = 1
theorem bitI {s p : Nat} (hs : s < 2 ^ 31) (hp : p < 31) : (nI s >>> (nI p &&& 31)) &&& 1 = if s.testBit p = true then 1 else 0 := by
  rw [bit_eq hs hp, Nat.testBit_eq_decide_div_mod_eq]
  by_cases c : s / 2 ^ p % 2 = 1
  · rw [if_pos (by simp [c]), c]; rfl
  · rw [if_neg (by simp [c]), show s / 2 ^ p % 2 = 0 by omega]; rfl
theorem tb_lt {s n p : Nat} (hs : s < 2 ^ n) (h : s.testBit p = true) : p < n := by
  refine Nat.lt_of_not_le (fun q => ?_)
  have h2 : 2 ^ n ≤ 2 ^ p := Nat.pow_le_pow_right (by decide) q
  rw [Nat.testBit_lt_two_pow (by omega)] at h
  exact absurd h (by decide)
theorem ld_iff {H : Hs} {s : Nat} (hw : Wf H) (hs : s < 2 ^ 32) : nI s &&& (nI (bits (H 6) (H 0 0)) ^^^ (-1)) = 0 ↔ LD H s := by
  have hn := hw.1
  have h6 : ∀ q, q < H 0 0 → H 6 q ≤ 1 := fun q hq => (hw.2.2.2.1 q hq).2.2.2.2.2
  have key : ∀ i, i < 32 → bt (nI s &&& (nI (bits (H 6) (H 0 0)) ^^^ (-1))) i = (s.testBit i && !decide (i < H 0 0 ∧ H 6 i = 1)) := by
    intro i hi
    rw [b_and, b_xor, b_m1 i hi, bt_nI, bt_nI, bits_tb h6]
    simp [hi]
  constructor
  · intro h
    have k2 : ∀ i, i < 32 → s.testBit i = true → i < H 0 0 ∧ H 6 i = 1 := by
      intro i hi hb
      have := key i hi
      rw [h, b_0, hb, Bool.true_and] at this
      refine Decidable.byContradiction (fun q => ?_)
      rw [decide_eq_false q] at this
      exact absurd this (by decide)
    refine ⟨Nat.lt_pow_two_of_testBit s (fun i hi => ?_), fun p hp hb => (k2 p (by omega) hb).2⟩
    by_cases c : i < 32
    · refine ts_nt (fun q => ?_)
      have := (k2 i c q).1
      omega
    · have h2 : 2 ^ 32 ≤ 2 ^ i := Nat.pow_le_pow_right (by decide) (by omega)
      exact Nat.testBit_lt_two_pow (by omega)
  · intro h
    apply b_ext
    intro i hi
    rw [key i hi, b_0]
    by_cases c : s.testBit i = true
    · have := tb_lt h.1 c
      rw [c, decide_eq_true ⟨this, h.2 i this c⟩]
      rfl
    · rw [ts_nt c]
      rfl
theorem isLoad0 {M : St} {a : Int32} {H : Hs} (hm : ShM (M.1 1) H) {G : Nat} {p : Int32} : fX7_isLoad_L24 M a (G + 1) 0 p = some 0 := by
  rw [fX7_isLoad_L24, ldi_l (c := 1) 0 (by decide) (by decide), if_pos (show (0 : Int32) = 0 from rfl), ok_e (by decide)]
  by_cases c : M.1 1 0 ≤ p
  · rw [if_pos c]
  · rw [if_neg c]
theorem isLoadL {M : St} {H : Hs} {s : Nat} (hw : Wf H) (hm : ShM (M.1 1) H) (hs : s < 2 ^ 31) : ∀ (G p : Nat), p ≤ H 0 0 → H 0 0 - p + 1 < G → (fX7_isLoad_L24 M (nI s) G 1 (nI p) = some 1 ∧ ∀ q, p ≤ q → q < H 0 0 → s.testBit q = true → H 6 q = 1) ∨ (fX7_isLoad_L24 M (nI s) G 1 (nI p) = some 0 ∧ ¬ ∀ q, p ≤ q → q < H 0 0 → s.testBit q = true → H 6 q = 1) := by
  have hn := hw.1
  intro G
  induction G with
  | zero => intro p h1 h2; omega
  | succ G ih =>
    intro p h1 h2
    rw [fX7_isLoad_L24, ldi_l (c := 1) 0 (by decide) (by decide), hm.1]
    by_cases c : p = H 0 0
    · subst c
      rw [if_pos (nI_le (Nat.le_refl _) (by omega)), ok_e (by decide)]
      exact Or.inl ⟨rfl, fun q a b => by omega⟩
    · have hp : p < H 0 0 := by omega
      have h6 := (hw.2.2.2.1 p hp).2.2.2.2.2
      rw [if_neg (nI_ge hp (by omega)), if_neg (show ¬ (1 : Int32) = 0 from by decide)]
      simp only [pl_e]
      rw [bitI hs (by omega), nI_1, isThereM hw hm hp, bv_e]
      have nx : (s.testBit p = true → H 6 p = 1) → (fX7_isLoad_L24 M (nI s) G 1 (nI (p + 1)) = some 1 ∧ ∀ q, p ≤ q → q < H 0 0 → s.testBit q = true → H 6 q = 1) ∨ (fX7_isLoad_L24 M (nI s) G 1 (nI (p + 1)) = some 0 ∧ ¬ ∀ q, p ≤ q → q < H 0 0 → s.testBit q = true → H 6 q = 1) := by
        intro hb
        rcases ih (p + 1) (by omega) (by omega) with ⟨r1, r2⟩ | ⟨r1, r2⟩
        · refine Or.inl ⟨r1, fun q a b z => ?_⟩
          by_cases e : q = p
          · rw [e] at z ⊢; exact hb z
          · exact r2 q (by omega) b z
        · exact Or.inr ⟨r1, fun z => r2 (fun q a b c => z q (by omega) b c)⟩
      by_cases c2 : s.testBit p = true
      · rw [if_pos c2, if_neg (show ¬ (1 : Int32) = 0 from by decide)]
        by_cases c3 : H 6 p = 0
        · obtain ⟨g, rfl⟩ : ∃ g, G = g + 1 := ⟨G - 1, by omega⟩
          rw [if_pos (show nI (H 6 p) = 0 from by rw [c3]; rfl), isLoad0 hm]
          exact Or.inr ⟨rfl, fun z => by have := z p (Nat.le_refl _) hp c2; omega⟩
        · rw [if_neg (show ¬ nI (H 6 p) = 0 from nI_ne0 (by omega) (by omega))]
          exact nx (fun _ => by omega)
      · rw [if_neg c2, if_pos rfl]
        exact nx (fun q => absurd q c2)
theorem loadE {F : Nat} (hF : 100 ≤ F) {X M : St} {H : Hs} (hS : St1 X.1 1 (M.1 1) H) (a : Int32) : (∃ s, a = nI s ∧ LD H s ∧ fX4_areAllThere 1 X a = some 1 ∧ fX7_isLoad F M a = some 1) ∨ (fX4_areAllThere 1 X a = some 0 ∧ fX7_isLoad F M a = some 0) := by
  obtain ⟨hw, hx, hm⟩ := hS
  have hn := hw.1
  have h20 : 2 ^ H 0 0 ≤ 2 ^ 20 := Nat.pow_le_pow_right (by decide) hn
  obtain ⟨s, hs, rfl⟩ := wb_of32 a
  have hX : fX4_areAllThere 1 X (nI s) = if nI s &&& (nI (bits (H 6) (H 0 0)) ^^^ (-1)) = 0 then some 1 else some 0 := by
    unfold fX4_areAllThere
    rw [hx.2.2.2.2.1]
  obtain ⟨F', rfl⟩ : ∃ f, F = f + 1 := ⟨F - 1, by omega⟩
  have z : fX7_isLoad_L24 M (nI s) (F' + 1) 0 0 = some 0 := isLoad0 hm
  have hM : fX7_isLoad (F' + 1) M (nI s) = if nI s < 0 then some 0 else if nI (2 ^ H 0 0) ≤ nI s then some 0 else fX7_isLoad_L24 M (nI s) (F' + 1) 1 0 := by
    unfold fX7_isLoad
    simp only [pl_e]
    rw [z, ldi_l (c := 1) 0 (by decide) (by decide), hm.1, shl1 _ (by omega)]
  rw [hX, hM]
  by_cases c : LD H s
  · have c' := c.1
    refine Or.inl ⟨s, rfl, c, by rw [if_pos ((ld_iff hw hs).mpr c)], ?_⟩
    rw [if_neg (nI_pos (by omega)), if_neg (nI_ge c' (by omega))]
    rcases isLoadL hw hm (s := s) (by omega) (F' + 1) 0 (by omega) (by omega) with ⟨r1, r2⟩ | ⟨r1, r2⟩
    · exact r1
    · exact absurd (fun q _ b d => c.2 q b d) r2
  · refine Or.inr ⟨by rw [if_neg (fun q => c ((ld_iff hw hs).mp q))], ?_⟩
    by_cases c1 : nI s < 0
    · rw [if_pos c1]
    · rw [if_neg c1]
      have hs31 : s < 2 ^ 31 := by
        obtain ⟨j, hj, e⟩ := nI_of c1
        have := congrArg (fun z : Int32 => z.toBitVec.toNat) e
        change (nI s).toBitVec.toNat = (nI j).toBitVec.toNat at this
        rw [pk_tn hs, pk_tn (by omega)] at this
        omega
      by_cases c2 : s < 2 ^ H 0 0
      · rw [if_neg (nI_ge c2 (by omega))]
        rcases isLoadL hw hm hs31 (F' + 1) 0 (by omega) (by omega) with ⟨r1, r2⟩ | ⟨r1, r2⟩
        · exact absurd ⟨c2, fun p hp hb => r2 p (by omega) hp hb⟩ c
        · exact r1
      · rw [if_pos (nI_le (by omega) hs31)]
theorem cntS_stop {s n : Nat} (hs : s < 2 ^ n) : ∀ d, cntS s (n + d) = cntS s n := by
  intro d
  induction d with
  | zero => rfl
  | succ d ih =>
    have h2 : 2 ^ n ≤ 2 ^ (n + d) := Nat.pow_le_pow_right (by decide) (by omega)
    rw [← Nat.add_assoc, cntS_u, ih, Nat.div_eq_of_lt (by omega)]
    rfl
theorem countE {S : St} {s n : Nat} (hs : s < 2 ^ n) (hn : n ≤ 20) : fJ6_bitCount_0f7a4 S (nI s) = some (nI (cntS s n)) := by
  have h2 : 2 ^ n ≤ 2 ^ 20 := Nat.pow_le_pow_right (by decide) hn
  have h3 : s < 16777216 := by omega
  have := cntS_stop hs (24 - n)
  rw [show n + (24 - n) = 24 by omega] at this
  rw [bitCT h3, ← cnt24 _ h3, this]
theorem cntS_le (s : Nat) : ∀ p, cntS s p ≤ p := by
  intro p
  induction p with
  | zero => exact Nat.le_refl _
  | succ p ih =>
    rw [cntS_u]
    have : s / 2 ^ p % 2 < 2 := Nat.mod_lt _ (by decide)
    omega
theorem cntS_b {s p : Nat} : cntS s (p + 1) = cntS s p + if s.testBit p = true then 1 else 0 := by
  rw [cntS_u, Nat.testBit_eq_decide_div_mod_eq]
  by_cases c : s / 2 ^ p % 2 = 1
  · rw [if_pos (by simp [c]), c]
  · rw [if_neg (by simp [c]), show s / 2 ^ p % 2 = 0 by omega]
-- what loads may change
def FX (X X1 : St) : Prop := (∀ d, d < 37 ∨ 40 < d → X1.1 d = X.1 d) ∧ X1.2 = X.2
def FM (M M1 : St) : Prop := (∀ d, d ≠ 0 → d < 9 ∨ 11 < d → M1.1 d = M.1 d) ∧ (∀ s, s ≠ 11 → M1.1 0 s = M.1 0 s) ∧ M1.2 = M.2
theorem FX.tr {X Y Z : St} (h1 : FX X Y) (h2 : FX Y Z) : FX X Z := ⟨fun d hd => (h2.1 d hd).trans (h1.1 d hd), h2.2.trans h1.2⟩
theorem FM.tr {X Y Z : St} (h1 : FM X Y) (h2 : FM Y Z) : FM X Z := ⟨fun d h0 hd => (h2.1 d h0 hd).trans (h1.1 d h0 hd), fun s hs => (h2.2.1 s hs).trans (h1.2.1 s hs), h2.2.2.trans h1.2.2⟩
theorem FX.re (X : St) : FX X X := ⟨fun _ _ => rfl, rfl⟩
theorem FM.re (X : St) : FM X X := ⟨fun _ _ _ => rfl, fun _ _ => rfl, rfl⟩
theorem FX.w {X Y : St} (h : FX X Y) {c k : Nat} {v : Int32} (hc : 37 ≤ c ∧ c ≤ 40) : FX X (si Y c k v) := ⟨fun d hd => by rw [si_o (by omega)]; exact h.1 d hd, h.2⟩
theorem FM.w {X Y : St} (h : FM X Y) {c k : Nat} {v : Int32} (hc : 9 ≤ c ∧ c ≤ 11) : FM X (si Y c k v) := ⟨fun d h0 hd => by rw [si_o (by omega)]; exact h.1 d h0 hd, fun s hs => by rw [si_o (by omega)]; exact h.2.1 s hs, h.2.2⟩
theorem FM.s0 {X Y : St} (h : FM X Y) {v : Int32} : FM X (si Y 0 11 v) := ⟨fun d h0 hd => by rw [si_o h0]; exact h.1 d h0 hd, fun s hs => by rw [si_s hs]; exact h.2.1 s hs, h.2.2⟩
theorem rel_ld {X M X1 M1 : St} (h : Rel X M) (hx : FX X X1) (hm : FM M M1) : Rel X1 M1 := by
  have h' : Rel X1 M := rel_fr h (fun d hd => hx.1 d (by omega)) hx.2
  obtain ⟨⟨H, h1⟩, h2, h3, h4, h5, h6⟩ := h'
  exact ⟨⟨H, h1.kept (fun k hk => rfl) (hm.1 1 (by decide) (by omega))⟩, h2.kept (fun k hk => rfl) rfl (hm.2.1 3 (by decide)) (hm.1 2 (by decide) (by omega)), h3.kept rfl rfl (hm.2.1 6 (by decide)) (hm.1 5 (by decide) (by omega)), h4.kept (fun t ht => rfl) (fun t ht => rfl) (hm.1 6 (by decide) (by omega)) (hm.1 7 (by decide) (by omega)) (by rw [hm.2.2]), h5.kept rfl (hm.1 4 (by decide) (by omega)), h6.kept (hm.1 14 (by decide) (by omega))⟩
/-- the parts of a load, on both sides -/
def LdI (H : Hs) (X M : St) (m : Nat) : Prop := X.1 37 3 = nI m ∧ M.1 0 11 = nI m ∧ ∀ t, t < m → ∃ q, q < H 0 0 ∧ X.1 38 t = nI q ∧ X.1 39 t = nI (H 4 q) ∧ M.1 9 t = nI q
theorem layL {H : Hs} {s : Nat} (hw : Wf H) (hs : s < 2 ^ H 0 0) {X0 M0 : St} (hx0 : ShX X0.1 1 H) (hm0 : ShM (M0.1 1) H) : ∀ (G G' p : Nat) (X M : St), p ≤ H 0 0 → H 0 0 - p < G → H 0 0 - p < G' → FX X0 X → FM M0 M → LdI H X M (min 10 (cntS s p)) → ∃ X1 M1, fX1_lay_L7 (nI s) G X (nI p) = some X1 ∧ (∀ J, fX7_findLoad_L9 (nI s) J G' M (nI (cntS s p)) (nI p) = J M1 (nI (cntS s (H 0 0)))) ∧ FX X0 X1 ∧ FM M0 M1 ∧ LdI H X1 M1 (min 10 (cntS s (H 0 0))) := by
  have hn := hw.1
  have h20 : 2 ^ H 0 0 ≤ 2 ^ 20 := Nat.pow_le_pow_right (by decide) hn
  intro G
  induction G with
  | zero => intro G' p X M h1 h2; omega
  | succ G ih =>
    intro G' p X M h1 h2 h3 fx fm hl
    obtain ⟨G', rfl⟩ : ∃ g, G' = g + 1 := ⟨G' - 1, by omega⟩
    have hXn : X.1 1 0 = nI (H 0 0) := by rw [fx.1 1 (by omega)]; exact hx0.1
    have hMn : M.1 1 0 = nI (H 0 0) := by rw [fm.1 1 (by decide) (by omega)]; exact hm0.1
    have hle := cntS_le s p
    by_cases c : p = H 0 0
    · subst c
      refine ⟨X, M, ?_, fun J => ?_, fx, fm, hl⟩
      · rw [fX1_lay_L7, hXn, if_pos (nI_le (Nat.le_refl _) (by omega))]
      · rw [fX7_findLoad_L9, ldi_l (c := 1) 0 (by decide) (by decide), hMn, if_pos (nI_le (Nat.le_refl _) (by omega))]
    · have hp : p < H 0 0 := by omega
      have hb := bitI (s := s) (p := p) (by omega) (by omega)
      by_cases c2 : s.testBit p = true
      · have hcn : cntS s (p + 1) = cntS s p + 1 := by rw [cntS_b, if_pos c2]
        rw [if_pos c2] at hb
        by_cases c10 : cntS s p < 10
        · have e0 : min 10 (cntS s p) = cntS s p := by omega
          have e1 : min 10 (cntS s (p + 1)) = cntS s p + 1 := by omega
          rw [e0] at hl
          have hX5 : X.1 5 p = nI (H 4 p) := by rw [fx.1 5 (by omega)]; exact (hx0.2.2.2.1 p hp).2.2.2.1
          obtain ⟨X1, M1, g1, g2, g3, g4, g5⟩ := ih G' (p + 1) (si (si (si X 38 (cntS s p) (nI p)) 39 (cntS s p) (nI (H 4 p))) 37 3 (nI (cntS s p + 1))) (si (si M 9 (cntS s p) (nI p)) 0 11 (nI (cntS s p + 1))) (by omega) (by omega) (by omega) (((fx.w (by decide)).w (by decide)).w (by decide)) ((fm.w (c := 9) (by decide)).s0) (by
            rw [e1]
            refine ⟨si_h, si_h, fun t ht => ?_⟩
            rw [si_o (d := 38) (c := 37) (by decide), si_o (d := 38) (c := 39) (by decide), si_o (d := 39) (c := 37) (by decide), si_o (d := 9) (c := 0) (by decide)]
            by_cases e : t = cntS s p
            · subst e
              exact ⟨p, hp, si_h, si_h, si_h⟩
            · obtain ⟨q, q1, q2, q3, q4⟩ := hl.2.2 t (by omega)
              refine ⟨q, q1, by rw [si_s e]; exact q2, by rw [si_s e, si_o (by decide)]; exact q3, by rw [si_s e]; exact q4⟩)
          refine ⟨X1, M1, ?_, fun J => ?_, g3, g4, g5⟩
          · rw [fX1_lay_L7, hXn, if_neg (nI_ge hp (by omega))]
            simp only [pl_e]
            rw [hb, if_pos rfl, hl.1, if_neg (show ¬ (10 : Int32) ≤ nI (cntS s p) from nI_ge (b := 10) c10 (by decide)), sti_e c10 (by decide), ldi_e (by omega) (by decide), si_o (by decide), si_o (by decide), hl.1, hX5, sti_e c10 (by decide), si_o (by decide), si_o (by decide), hl.1, nI_1, nI_1]
            exact g1
          · rw [fX7_findLoad_L9, ldi_l (c := 1) 0 (by decide) (by decide), hMn, if_neg (nI_ge hp (by omega))]
            simp only [pl_e]
            rw [hb, if_pos rfl, if_neg (show ¬ (10 : Int32) ≤ nI (cntS s p) from nI_ge (b := 10) c10 (by decide)), sti_e c10 (by decide), si_o (by decide), hl.2.1, nI_1, nI_1]
            have := g2 J
            rw [hcn] at this
            exact this
        · have e0 : min 10 (cntS s p) = 10 := by omega
          have e1 : min 10 (cntS s (p + 1)) = 10 := by omega
          rw [e0] at hl
          obtain ⟨X1, M1, g1, g2, g3, g4, g5⟩ := ih G' (p + 1) X M (by omega) (by omega) (by omega) fx fm (by rw [e1]; exact hl)
          refine ⟨X1, M1, ?_, fun J => ?_, g3, g4, g5⟩
          · rw [fX1_lay_L7, hXn, if_neg (nI_ge hp (by omega))]
            simp only [pl_e]
            rw [hb, if_pos rfl, hl.1, if_pos (show (10 : Int32) ≤ nI 10 from by decide), nI_1]
            exact g1
          · rw [fX7_findLoad_L9, ldi_l (c := 1) 0 (by decide) (by decide), hMn, if_neg (nI_ge hp (by omega))]
            simp only [pl_e]
            rw [hb, if_pos rfl, if_pos (show (10 : Int32) ≤ nI (cntS s p) from nI_le (a := 10) (by omega) (by omega)), nI_1, nI_1]
            have := g2 J
            rw [hcn] at this
            exact this
      · have hcn : cntS s (p + 1) = cntS s p := by rw [cntS_b, if_neg c2]; rfl
        rw [if_neg c2] at hb
        obtain ⟨X1, M1, g1, g2, g3, g4, g5⟩ := ih G' (p + 1) X M (by omega) (by omega) (by omega) fx fm (by rw [hcn]; exact hl)
        refine ⟨X1, M1, ?_, fun J => ?_, g3, g4, g5⟩
        · rw [fX1_lay_L7, hXn, if_neg (nI_ge hp (by omega))]
          simp only [pl_e]
          rw [hb, if_neg (by decide), nI_1]
          exact g1
        · rw [fX7_findLoad_L9, ldi_l (c := 1) 0 (by decide) (by decide), hMn, if_neg (nI_ge hp (by omega))]
          simp only [pl_e]
          rw [hb, if_neg (by decide), nI_1]
          have := g2 J
          rw [hcn] at this
          exact this
