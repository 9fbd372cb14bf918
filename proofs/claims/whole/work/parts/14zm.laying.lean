-- BEASTS: the class's way
theorem s10 : (((10 : Int32) &&& 31).toBitVec.smod 32).toNat = 10 := by decide
theorem shl10 {B : Nat} (hB : B ≤ 6) : nI B <<< ((10 : Int32) &&& 31) = nI (B * 1024) := pk_shlN _ 10 s10 (by omega)
theorem shr10 {v : Nat} (hv : v < 2 ^ 31) : nI v >>> ((10 : Int32) &&& 31) = nI (v / 1024) := pk_shrN hv _ 10 s10
theorem and10 {v : Nat} (hv : v < 2 ^ 31) : nI v &&& (1023 : Int32) = nI (v % 1024) := pk_andN (by omega) 10 (by decide)
theorem nextB {C : Nat → Nat} {B w : Nat} {X : St} (hB : B ≤ 6) (hw : w ≤ 99) (hC : ∀ b, b < B → C b ≤ 999) (h9 : X.1 1 9 = nI B) (h8 : ∀ b, b < B → X.1 8 b = nI (C b)) {J70 : Int32 → Option Int32} {J84 : Option Int32} : ∀ (G k : Nat), k ≤ B + 1 → B + 1 - k < G → (fX1_afterLaying_L44 X (nI w) J70 J84 G (nI k) = J84 ∧ ∀ b, k ≤ b → b < B → C b < w) ∨ (∃ b, k ≤ b ∧ b < B ∧ w ≤ C b ∧ fX1_afterLaying_L44 X (nI w) J70 J84 G (nI k) = J70 (nI b) ∧ ∀ b', k ≤ b' → b' < b → C b' < w) := by
  intro G
  induction G with
  | zero => intro k h1 h2; omega
  | succ G ih =>
    intro k h1 h2
    rw [fX1_afterLaying_L44, h9]
    by_cases c : B ≤ k
    · rw [if_pos (nI_le c (by omega))]
      exact Or.inl ⟨rfl, fun b a b => by omega⟩
    · have hk : k < B := by omega
      have := hC k hk
      rw [if_neg (nI_ge hk (by omega)), ldi_e (by omega) (by decide), h8 k hk]
      by_cases c2 : C k < w
      · rw [if_pos (nI_lt c2 (by omega)), pl_e, nI_1]
        rcases ih (k + 1) (by omega) (by omega) with ⟨r1, r2⟩ | ⟨b, r1, r2, r3, r4, r5⟩
        · refine Or.inl ⟨r1, fun b z1 z2 => ?_⟩
          by_cases e : b = k
          · subst e; exact c2
          · exact r2 b (by omega) z2
        · refine Or.inr ⟨b, by omega, r2, r3, r4, fun b' z1 z2 => ?_⟩
          by_cases e : b' = k
          · subst e; exact c2
          · exact r5 b' (by omega) z2
      · rw [if_neg (nI_nlt (by omega) (by omega))]
        exact Or.inr ⟨k, Nat.le_refl _, hk, by omega, rfl, fun b' z1 z2 => by omega⟩
theorem p2_fit {C : Nat → Nat} {B v w : Nat} : P2 C B v w (v + w) := fun b c _ _ h => by omega
set_option maxRecDepth 20000 in
theorem ar2 {v b c cb : Nat} (h : v ≤ b * 1024 + c) (hc : c ≤ cb) (hb : cb ≤ 999) : v / 1024 ≤ b ∧ (v / 1024 = b → v % 1024 ≤ c) := by omega
set_option maxRecDepth 20000 in
theorem ar3 {b' b c w : Nat} (h : b' ≤ b) : b' * 1024 + w ≤ b * 1024 + c + w := by omega
theorem afterE {F : Nat} (hF : 100 ≤ F) {C : Nat → Nat} {B v w : Nat} {X : St} (hB : B ≤ 6) (hw : w ≤ 99) (hC : ∀ b, b < B → C b ≤ 999) (h9 : X.1 1 9 = nI B) (h8 : ∀ b, b < B → X.1 8 b = nI (C b)) (hv : v ≤ B * 1024) : ∃ r, fX1_afterLaying F X (nI v) (nI w) = some (nI r) ∧ r ≤ B * 1024 ∧ P1 C B v w r ∧ P2 C B v w r := by
  have hv31 : v < 2 ^ 31 := by omega
  unfold fX1_afterLaying
  simp only [pl_e]
  rw [shr10 hv31, h9, shl10 hB, and10 hv31, nI_add, nI_1, nI_add]
  have rest : ¬ (v / 1024 < B ∧ v % 1024 + w ≤ C (v / 1024)) → ∃ r, fX1_afterLaying_L44 X (nI w) (fun v3 => some (v3 <<< ((10 : Int32) &&& 31) + nI w)) (some (nI (B * 1024))) F (nI (v / 1024 + 1)) = some (nI r) ∧ r ≤ B * 1024 ∧ P1 C B v w r ∧ P2 C B v w r := by
    intro hno
    rcases nextB hB hw hC h9 h8 (J70 := fun v3 => some (v3 <<< ((10 : Int32) &&& 31) + nI w)) (J84 := some (nI (B * 1024))) F (v / 1024 + 1) (by omega) (by omega) with ⟨r1, r2⟩ | ⟨b', r1, r2, r3, r4, r5⟩
    · refine ⟨B * 1024, r1, Nat.le_refl _, Or.inl rfl, fun b c hb hcw hvb => ?_⟩
      have := hC b hb
      obtain ⟨a1, a2⟩ := ar2 (cb := C b) hvb (by omega) this
      by_cases e : v / 1024 = b
      · exact absurd ⟨by omega, by rw [e]; have := a2 e; omega⟩ hno
      · have := r2 b (by omega) hb
        omega
    · have hb' := hC b' r2
      refine ⟨b' * 1024 + w, ?_, by omega, Or.inr (Or.inr ⟨b', by omega, r2, r3, rfl⟩), fun b c hb hcw hvb => ?_⟩
      · rw [r4, shl10 (by omega), nI_add]
      · have := hC b hb
        obtain ⟨a1, a2⟩ := ar2 (cb := C b) hvb (by omega) this
        by_cases e : v / 1024 = b
        · exact absurd ⟨by omega, by rw [e]; have := a2 e; omega⟩ hno
        · refine ar3 (Nat.le_of_not_lt (fun q => ?_))
          have := r5 b (by omega) q
          omega
  by_cases c1 : v / 1024 < B
  · have hc := hC _ c1
    rw [if_neg (nI_ge c1 (by omega)), ldi_e (by omega) (by decide), h8 _ c1]
    by_cases c2 : C (v / 1024) < v % 1024 + w
    · rw [if_pos (nI_lt c2 (by omega))]
      exact rest (fun q => by omega)
    · rw [if_neg (nI_nlt (by omega) (by omega))]
      exact ⟨v + w, rfl, by omega, Or.inr (Or.inl ⟨c1, by omega, rfl⟩), p2_fit⟩
  · rw [if_pos (nI_le (by omega) (by omega))]
    exact rest (fun q => c1 q.1)
theorem put_h {f : Nat → Nat} {p v : Nat} : put1 f p v p = v := if_pos rfl
theorem put_o {f : Nat → Nat} {p v j : Nat} (h : ¬ j = p) : put1 f p v j = f j := if_neg h
def Dn (C W S : Nat → Nat) (m B y0 i0 : Nat) : Prop := ∀ y i b c, (y < y0 ∨ (y = y0 ∧ i < i0)) → y < 2 ^ m → i < m → y.testBit i = false → b < B → c + W i ≤ C b → S y ≤ b * 1024 + c → S (y ||| 2 ^ i) ≤ b * 1024 + c + W i
def XI (C W : Nat → Nat) (m B : Nat) (X0 X : St) (S : Nat → Nat) (y0 i0 : Nat) : Prop := FX X0 X ∧ X.1 37 3 = nI m ∧ (∀ t, t < m → X.1 39 t = nI (W t)) ∧ (∀ x, x < 2 ^ m → X.1 40 x = nI (S x) ∧ S x ≤ B * 1024 ∧ Snd C W m B x (S x)) ∧ S 0 = 0 ∧ Dn C W S m B y0 i0
theorem or_ne {y i : Nat} (h : y.testBit i = false) : y < y ||| 2 ^ i := by
  refine Nat.lt_of_le_of_ne Nat.left_le_or (fun e => ?_)
  have := congrArg (fun z => z.testBit i) e
  change y.testBit i = (y ||| 2 ^ i).testBit i at this
  rw [or_bits, h, decide_eq_true rfl] at this
  exact absurd this (by decide)
theorem or_eq {y i : Nat} (h : y.testBit i = true) : y ||| 2 ^ i = y := by
  apply Nat.eq_of_testBit_eq
  intro t
  rw [or_bits]
  by_cases c : i = t
  · subst c; rw [h]; rfl
  · rw [decide_eq_false c, Bool.or_false]
theorem innerL {F : Nat} (hF : 100 ≤ F) {C W : Nat → Nat} {m B : Nat} (hm : m ≤ 10) (hB : B ≤ 6) (hC : ∀ b, b < B → C b ≤ 999) (hW : ∀ t, t < m → W t ≤ 99) {X0 : St} (h9 : X0.1 1 9 = nI B) (h8 : ∀ b, b < B → X0.1 8 b = nI (C b)) {y : Nat} (hy : y < 2 ^ m) : ∀ (G i : Nat) (X : St) (S : Nat → Nat), i ≤ m → m - i < G → XI C W m B X0 X S y i → ∃ X1 S1, (∀ J, fX1_leastBeasts_L54 F (nI y) J G X (nI i) = J X1) ∧ XI C W m B X0 X1 S1 (y + 1) 0 := by
  have h10 : 2 ^ m ≤ 2 ^ 10 := Nat.pow_le_pow_right (by decide) hm
  intro G
  induction G with
  | zero => intro i X S h1 h2; omega
  | succ G ih =>
    intro i X S h1 h2 h
    obtain ⟨fx, x3, x39, x40, s0, dn⟩ := h
    have k9 : X.1 1 9 = nI B := by rw [fx.1 1 (by omega)]; exact h9
    have k8 : ∀ b, b < B → X.1 8 b = nI (C b) := fun b hb => by rw [fx.1 8 (by omega)]; exact h8 b hb
    by_cases c : i = m
    · subst c
      refine ⟨X, S, fun J => ?_, fx, x3, x39, x40, s0, fun y' i' b c hh => ?_⟩
      · rw [fX1_leastBeasts_L54, x3, if_pos (nI_le (Nat.le_refl _) (by omega))]
      · intro a1 a2
        refine dn y' i' b c ?_ a1 a2
        rcases hh with q | ⟨q, q2⟩
        · by_cases e : y' = y
          · exact Or.inr ⟨e, a2⟩
          · exact Or.inl (by omega)
        · omega
    · have hi : i < m := by omega
      by_cases cb : y.testBit i = true
      · obtain ⟨X1, S1, g1, g2⟩ := ih (i + 1) X S (by omega) (by omega) ⟨fx, x3, x39, x40, s0, fun y' i' b c hh a1 a2 a3 => by
          refine dn y' i' b c ?_ a1 a2 a3
          rcases hh with q | ⟨q, q2⟩
          · exact Or.inl q
          · refine Or.inr ⟨q, ?_⟩
            by_cases e : i' = i
            · subst q e
              rw [cb] at a3
              exact absurd a3 (by decide)
            · omega⟩
        refine ⟨X1, S1, fun J => ?_, g2⟩
        rw [fX1_leastBeasts_L54, x3, if_neg (nI_ge hi (by omega))]
        simp only [pl_e]
        rw [shl1 i (by omega), fa_or, or_eq cb, if_pos rfl, nI_1]
        exact g1 J
      · have cb' : y.testBit i = false := ts_nt cb
        have hlt := or_ne cb'
        have hmo : y ||| 2 ^ i < 2 ^ m := Nat.or_lt_two_pow hy (Nat.pow_lt_pow_right (by decide) hi)
        obtain ⟨y1, y2, y3⟩ := x40 y hy
        obtain ⟨z1, z2, z3⟩ := x40 (y ||| 2 ^ i) hmo
        obtain ⟨r, r1, r2, r3, r4⟩ := afterE (F := F) (C := C) (B := B) (v := S y) (w := W i) (X := X) hF hB (hW i hi) hC k9 k8 y2
        have hmin : (if nI r < nI (S (y ||| 2 ^ i)) then nI r else nI (S (y ||| 2 ^ i))) = nI (if r < S (y ||| 2 ^ i) then r else S (y ||| 2 ^ i)) := by
          rw [if2 (nI_ltI (a := r) (b := S (y ||| 2 ^ i)) (by omega) (by omega))]
          by_cases q : r < S (y ||| 2 ^ i)
          · rw [if_pos q, if_pos q]
          · rw [if_neg q, if_neg q]
        have hv : (if r < S (y ||| 2 ^ i) then r else S (y ||| 2 ^ i)) ≤ r ∧ (if r < S (y ||| 2 ^ i) then r else S (y ||| 2 ^ i)) ≤ S (y ||| 2 ^ i) ∧ Snd C W m B (y ||| 2 ^ i) (if r < S (y ||| 2 ^ i) then r else S (y ||| 2 ^ i)) := by
          by_cases q : r < S (y ||| 2 ^ i)
          · rw [if_pos q]
            exact ⟨Nat.le_refl _, Nat.le_of_lt q, snd_step hC y3 cb' hi r3⟩
          · rw [if_neg q]
            exact ⟨Nat.le_of_not_lt q, Nat.le_refl _, z3⟩
        generalize hmx : (if r < S (y ||| 2 ^ i) then r else S (y ||| 2 ^ i)) = u at hmin hv
        generalize hmo' : y ||| 2 ^ i = mo at *
        obtain ⟨X1, S1, g1, g2⟩ := ih (i + 1) (si X 40 mo (nI u)) (put1 S mo u) (by omega) (by omega) ⟨fx.w (by decide), by rw [si_o (by decide)]; exact x3, fun t ht => by rw [si_o (by decide)]; exact x39 t ht, fun x hx => by
            by_cases e : x = mo
            · rw [e, si_h, put_h]
              exact ⟨rfl, by omega, hv.2.2⟩
            · rw [si_s e, put_o e]
              exact x40 x hx, by rw [put_o (by omega)]; exact s0, fun y' i' b c hh a1 a2 a3 a4 a5 a6 => by
            have ne : y' ≠ mo := by rcases hh with q | ⟨q, q2⟩ <;> omega
            rw [put_o ne] at a6
            by_cases e : y' = y ∧ i' = i
            · obtain ⟨q1, q2⟩ := e
              rw [q1, q2, hmo', put_h]
              rw [q1] at a6
              rw [q2] at a5
              exact Nat.le_trans hv.1 (r4 b c a4 a5 a6)
            · have old := dn y' i' b c (by rcases hh with q | ⟨q, q2⟩ <;> omega) a1 a2 a3 a4 a5 a6
              by_cases e2 : y' ||| 2 ^ i' = mo
              · rw [e2, put_h]
                rw [e2] at old
                exact Nat.le_trans hv.2.1 old
              · rw [put_o e2]
                exact old⟩
        refine ⟨X1, S1, fun J => ?_, g2⟩
        rw [fX1_leastBeasts_L54, x3, if_neg (nI_ge hi (by omega))]
        simp only [pl_e]
        rw [shl1 i (by omega), fa_or, hmo', if_neg (fun q => by have := (nI_eq (by omega) (by omega)).mp q; omega), ldi_e (by omega) (by decide), ldi_e (by omega) (by decide), ldi_e (by omega) (by decide), z1, y1, x39 i hi, r1, bv_e, hmin, sti_e (by omega) (by decide), nI_1]
        exact g1 J
theorem outerL {F : Nat} (hF : 100 ≤ F) {C W : Nat → Nat} {m B : Nat} (hm : m ≤ 10) (hB : B ≤ 6) (hC : ∀ b, b < B → C b ≤ 999) (hW : ∀ t, t < m → W t ≤ 99) {X0 : St} (h9 : X0.1 1 9 = nI B) (h8 : ∀ b, b < B → X0.1 8 b = nI (C b)) : ∀ (G y : Nat) (X : St) (S : Nat → Nat), y ≤ 2 ^ m - 1 → 2 ^ m - 1 - y < G → XI C W m B X0 X S y 0 → ∃ X1 S1, (∀ J, fX1_leastBeasts_L46 F (nI (2 ^ m - 1)) J G X (nI y) = J X1) ∧ XI C W m B X0 X1 S1 (2 ^ m - 1) 0 := by
  have h10 : 2 ^ m ≤ 2 ^ 10 := Nat.pow_le_pow_right (by decide) hm
  have hp := Nat.two_pow_pos m
  intro G
  induction G with
  | zero => intro y X S h1 h2; omega
  | succ G ih =>
    intro y X S h1 h2 h
    by_cases c : y = 2 ^ m - 1
    · refine ⟨X, S, fun J => ?_, by rw [← c]; exact h⟩
      rw [fX1_leastBeasts_L46, if_pos (nI_le (by omega) (by omega))]
    · obtain ⟨X2, S2, k1, k2⟩ := innerL hF hm hB hC hW h9 h8 (y := y) (by omega) F 0 X S (by omega) (by omega) h
      obtain ⟨X1, S1, g1, g2⟩ := ih (y + 1) X2 S2 (by omega) (by omega) k2
      refine ⟨X1, S1, fun J => ?_, g2⟩
      rw [fX1_leastBeasts_L46, if_neg (nI_ge (by omega) (by omega))]
      simp only [pl_e]
      refine (k1 _).trans ?_
      rw [nI_1]
      exact g1 J
theorem fillL {v : Int32} {X0 : St} : ∀ (G i : Nat) (X : St), i ≤ 1024 → 1024 - i < G → FX X0 X → (∀ j, j < i → X.1 40 j = v) → ∃ X1, fJ7_fill_53178_L5 40 1024 v (nI 1024) G X (nI i) = some X1 ∧ FX X0 X1 ∧ (∀ j, j < 1024 → X1.1 40 j = v) ∧ X1.1 37 = X.1 37 ∧ X1.1 39 = X.1 39 := by
  intro G
  induction G with
  | zero => intro i X h1 h2; omega
  | succ G ih =>
    intro i X h1 h2 fx h3
    rw [fJ7_fill_53178_L5]
    by_cases hi : i = 1024
    · rw [if_pos (nI_le (by omega) (by omega))]
      exact ⟨X, rfl, fx, fun j hj => h3 j (by omega), rfl, rfl⟩
    · rw [if_neg (nI_ge (by omega) (by decide)), sti_e (by omega) (by decide), pl_e, nI_1]
      obtain ⟨X1, g1, g2, g3, g4, g5⟩ := ih (i + 1) (si X 40 i v) (by omega) (by omega) (fx.w (by decide)) (fun j hj => by
        by_cases e : j = i
        · subst e; exact si_h
        · rw [si_s e]; exact h3 j (by omega))
      exact ⟨X1, g1, g2, g3, by rw [g4, si_o (by decide)], by rw [g5, si_o (by decide)]⟩
theorem leastX {F : Nat} (hF : 2000 ≤ F) {C W : Nat → Nat} {m B : Nat} (hm : m ≤ 10) (hB : B ≤ 6) (hC : ∀ b, b < B → C b ≤ 999) (hW : ∀ t, t < m → W t ≤ 99) {X : St} (h9 : X.1 1 9 = nI B) (h8 : ∀ b, b < B → X.1 8 b = nI (C b)) (h3 : X.1 37 3 = nI m) (h39 : ∀ t, t < m → X.1 39 t = nI (W t)) (hm0 : 0 < m) : ∃ X1 v, fX1_leastBeasts F X = some (X1, nI (v + 1)) ∧ FX X X1 ∧ ((v < B ∧ Car C W m (v + 1) (2 ^ m - 1) ∧ ∀ n, n ≤ v → ¬ Car C W m n (2 ^ m - 1)) ∨ (v = B ∧ ∀ n, n ≤ B → ¬ Car C W m n (2 ^ m - 1))) := by
  have h10 : 2 ^ m ≤ 2 ^ 10 := Nat.pow_le_pow_right (by decide) hm
  have hp := Nat.two_pow_pos m
  have ea : (1 : Int32) <<< (nI m &&& 31) - 1 = nI (2 ^ m - 1) := by
    rw [shl1 m (by omega)]
    exact pk_sub (b := 1) hp
  obtain ⟨X1, f1, f2, f3, f4, f5⟩ := fillL (v := nI (B * 1024)) (X0 := X) F 0 X (by omega) (by omega) (FX.re X) (fun j hj => by omega)
  obtain ⟨X2, S, g1, g2⟩ := outerL (F := F) (by omega) hm hB hC hW h9 h8 F 0 (si X1 40 0 (nI 0)) (put1 (fun _ => B * 1024) 0 0) (by omega) (by omega) ⟨f2.w (by decide), by rw [si_o (by decide), f4]; exact h3, fun t ht => by rw [si_o (by decide), f5]; exact h39 t ht, fun x hx => by
    by_cases e : x = 0
    · subst e
      rw [si_h, put_h]
      refine ⟨rfl, Nat.zero_le _, ?_⟩
      by_cases b0 : B = 0
      · exact Or.inl (by omega)
      · exact Or.inr ⟨0, 0, by omega, by omega, Nat.zero_le _, 0, sub_0 0, ws_0 m, rfl⟩
    · rw [si_s e, put_o e, f3 x (by omega)]
      exact ⟨rfl, Nat.le_refl _, Or.inl rfl⟩, put_h, fun y i b c hh => by rcases hh with q | ⟨q, q2⟩ <;> omega⟩
  obtain ⟨fx, x3, x39, x40, s0, dn⟩ := g2
  obtain ⟨z1, z2, z3⟩ := x40 (2 ^ m - 1) (by omega)
  have hD : ∀ y i b c, y < 2 ^ m → i < m → y.testBit i = false → b < B → c + W i ≤ C b → S y ≤ b * 1024 + c → S (y ||| 2 ^ i) ≤ b * 1024 + c + W i := by
    intro y i b c a1 a2 a3
    by_cases e : y = 2 ^ m - 1
    · rw [e, Nat.testBit_two_pow_sub_one, decide_eq_true a2] at a3
      exact absurd a3 (by decide)
    · exact dn y i b c (Or.inl (by omega)) a1 a2 a3
  refine ⟨X2, S (2 ^ m - 1) / 1024, ?_, fx, least hC s0 hD hm0 z3⟩
  unfold fX1_leastBeasts
  rw [h3, if_neg (nI_ne0 hm0 (by omega)), ea, h9, shl10 hB]
  simp only [pl_e]
  rw [show fJ7_fill_53178 F 40 1024 X (nI (B * 1024)) = some X1 from f1, bv_e, sti_l (c := 40) 0 (by decide) (by decide)]
  refine (g1 _).trans ?_
  rw [ldi_e (by omega) (by decide), z1, shr10 (by omega), nI_1]
theorem st_beasts {F : Nat} (hF : 2000 ≤ F) : s_beasts Rel F := by
  intro X M a1 hR
  show Ag _ _
  unfold fX6_beasts fX7_beasts
  simp only [bq_eta, pl_e]
  obtain ⟨⟨H, hS⟩, -⟩ := id hR
  have hn := hS.1.1
  have hB := hS.1.2.1
  rcases loadE (F := F) (by omega) hS a1 with ⟨s, rfl, hl, r1, r2⟩ | ⟨r1, r2⟩
  · rw [r1, r2, bv_e, bv_e, if_neg (show ¬ (1 : Int32) = 0 from by decide), if_neg (show ¬ (1 : Int32) = 0 from by decide)]
    have hle := cntS_le s (H 0 0)
    obtain ⟨X1, M1, e1, e2, e3, e4⟩ := findE (F := F) hF hS hl.1
    rw [countE hl.1 hn, bv_e]
    rcases e4 with ⟨c10, f1, W, f2, f3, f4, f5⟩ | ⟨c10, f1⟩
    · rw [if_pos (show nI (cntS s (H 0 0)) ≤ (10 : Int32) from nI_le (b := 10) c10 (by decide)), e1, bv_e, f1, bq_e, if_neg (show ¬ (1 : Int32) = 0 from by decide)]
      generalize cntS s (H 0 0) = m at c10 f2 f3 f4 f5 hle
      have h10 : 2 ^ m ≤ 2 ^ 10 := Nat.pow_le_pow_right (by decide) c10
      have hp := Nat.two_pow_pos m
      have hW : ∀ t, t < m → W t ≤ 99 := fun t ht => (f4 t ht).1
      have hC : ∀ b, b < H 0 1 → H 9 b ≤ 999 := fun b hb => (hS.1.2.2.2.2.2.2.1 b hb).2
      have ea : (1 : Int32) <<< (nI m &&& 31) - 1 = nI (2 ^ m - 1) := by
        rw [shl1 m (by omega)]
        exact pk_sub (b := 1) hp
      have k9 : X1.1 1 9 = nI (H 0 1) := by rw [e2.1 1 (by omega)]; exact hS.2.1.2.1
      have k8 : ∀ b, b < H 0 1 → X1.1 8 b = nI (H 9 b) := fun b hb => by rw [e2.1 8 (by omega)]; exact hS.2.1.2.2.2.2.2.2.2.1 b hb
      obtain ⟨M2, i1, i2, i3, i4⟩ := initL (C := H 9) (W := W) c10 F 0 M1 (Nat.zero_le _) (by omega) e3 (fun z hz => by omega)
      obtain ⟨M3, n, j1, j2, j3, j4, j5⟩ := beastL (F := F) hF c10 hB hC hW hS.2.2.2.1 (fun b hb => hS.2.2.2.2.2.2.2.2.1 b hb) F 0 M2 (Nat.zero_le _) (by omega) i2 i3 (fun z hz => by rw [i4]; exact f5 z hz)
      have hM : ∀ J67 : St → Option (St × Int32), (J67 = fun S5 => fX7_beasts_L69 F (nI (2 ^ m - 1)) (fun S6 v7 => ldi S6 11 (nI (2 ^ m - 1)) 1024 fun v8 => if v8 = 0 then fX7_finds S6 (-1000000004) else some (S6, v7)) F S5 0) → fX7_beasts_L41 (nI (2 ^ m - 1)) J67 F M1 0 = if M3.1 11 (2 ^ m - 1) = 0 then fX7_finds M3 (-1000000004) else some (M3, nI n) := by
        intro J67 e
        refine (i1 _).trans ?_
        rw [e]
        refine (j1 _).trans ?_
        rw [ldi_e (by omega) (by decide)]
      rw [f3.1, ea, hM _ rfl]
      by_cases m0 : m = 0
      · subst m0
        have hx : fX1_leastBeasts F X1 = some (X1, 0) := by
          unfold fX1_leastBeasts
          rw [f2, if_pos (show nI 0 = 0 from rfl)]
        rw [hx, bq_e, k9, if_pos (show (0 : Int32) ≤ nI (H 0 1) from nI_pos' (by omega))]
        have n0 : n = 0 ∧ M3.1 11 (2 ^ 0 - 1) = 1 := by
          rcases j5 with ⟨a1, a2, a3⟩ | ⟨a1, a2, a3⟩
          · refine ⟨Decidable.byContradiction (fun q => a3 0 (Nat.le_refl _) (by omega) rfl), a1⟩
          · exact absurd car_0 a3
        rw [n0.2, if_neg (by decide), n0.1]
        exact ag_of rfl rfl (rel_ld hR e2 j2)
      · obtain ⟨X2, v, l1, l2, l3⟩ := leastX (F := F) hF c10 hB hC hW k9 k8 f2 (fun t ht => (f4 t ht).2.1) (by omega)
        have k9' : X2.1 1 9 = nI (H 0 1) := by rw [l2.1 1 (by omega)]; exact k9
        have hRf := rel_ld hR (e2.tr l2) j2
        rw [l1, bq_e, k9']
        rcases l3 with ⟨v1, v2, v3⟩ | ⟨v1, v2⟩
        · rw [if_pos (nI_le (by omega) (by omega))]
          rcases j5 with ⟨a1, a2, a3⟩ | ⟨a1, a2, a3⟩
          · have en : n = v + 1 := by
              rcases Nat.lt_trichotomy n (v + 1) with q | q | q
              · exact absurd a2 (v3 n (by omega))
              · exact q
              · exact absurd v2 (a3 (v + 1) (Nat.zero_le _) q)
            rw [a1, if_neg (by decide), en]
            exact ag_of rfl rfl hRf
          · exact absurd (car_le' v2 (by omega)) a3
        · rw [if_neg (nI_ge (by omega) (by omega))]
          rcases j5 with ⟨a1, a2, a3⟩ | ⟨a1, a2, a3⟩
          · exact absurd a2 (v2 n j4)
          · rw [a1, if_pos rfl]
            exact find3 hRf
    · rw [if_neg (show ¬ nI (cntS s (H 0 0)) ≤ (10 : Int32) from nI_ge (a := 10) c10 (by omega)), f1, bq_e, if_pos rfl]
      exact find6 (rel_ld hR (FX.re X) e3)
  · rw [r1, r2, bv_e, bv_e, if_pos rfl, if_pos rfl]
    exact find0 hR
