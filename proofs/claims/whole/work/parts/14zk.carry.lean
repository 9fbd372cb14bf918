-- BEASTS: what can be carried
def Sub (p x : Nat) : Prop := ∀ t, p.testBit t = true → x.testBit t = true
theorem sub_and {p x : Nat} : p &&& x = p ↔ Sub p x := by
  constructor
  · intro h t ht
    have := congrArg (fun z => z.testBit t) h
    change (p &&& x).testBit t = p.testBit t at this
    rw [Nat.testBit_and, ht, Bool.true_and] at this
    exact this
  · intro h
    apply Nat.eq_of_testBit_eq
    intro t
    rw [Nat.testBit_and]
    by_cases c : p.testBit t = true
    · rw [c, h t c]; rfl
    · rw [ts_nt c]; rfl
theorem sub_le {p x : Nat} (h : Sub p x) : p ≤ x := by
  rw [← sub_and.mpr h]
  exact Nat.and_le_right
theorem sub_0 (x : Nat) : Sub 0 x := fun t ht => by rw [Nat.zero_testBit] at ht; exact absurd ht (by decide)
theorem sub_r (x : Nat) : Sub x x := fun _ h => h
theorem sub_xor {p x : Nat} (h : Sub p x) : Sub (x ^^^ p) x := by
  intro t ht
  rw [Nat.testBit_xor] at ht
  by_cases c : x.testBit t = true
  · exact c
  · have c2 : p.testBit t = false := ts_nt (fun q => c (h t q))
    rw [ts_nt c, c2] at ht
    exact absurd ht (by decide)
theorem xor_lt {p x : Nat} (h : Sub p x) (hp : p ≠ 0) : x ^^^ p < x := by
  have h1 := sub_le (sub_xor h)
  refine Nat.lt_of_le_of_ne h1 (fun e => hp ?_)
  obtain ⟨t, ht⟩ := Nat.exists_testBit_of_ne_zero hp
  have := congrArg (fun z => z.testBit t) e
  change (x ^^^ p).testBit t = x.testBit t at this
  rw [Nat.testBit_xor, ht, h t ht] at this
  exact absurd this (by decide)
theorem enum : ∀ (y x p : Nat), Sub y x → Sub p x → p < y → p ≤ (y - 1) &&& x := by
  intro y
  induction y using Nat.strongRecOn with
  | ind y ih =>
    intro x p hy hp hlt
    have hd : ((y - 1) &&& x) / 2 = (y - 1) / 2 &&& x / 2 := Nat.and_div_two
    have hm : ((y - 1) &&& x) % 2 ^ 1 = ((y - 1) % 2 ^ 1) &&& (x % 2 ^ 1) := Nat.and_mod_two_pow
    have sh : ∀ {z w : Nat}, Sub z w → Sub (z / 2) (w / 2) := fun h t ht => by
      rw [Nat.testBit_div_two] at ht ⊢
      exact h _ ht
    by_cases c : y % 2 = 1
    · have e : (y - 1) / 2 = y / 2 := by omega
      rw [e, sub_and.mpr (sh hy)] at hd
      omega
    · have e : (y - 1) / 2 = y / 2 - 1 := by omega
      have e1 : (y - 1) % 2 ^ 1 = 1 := by omega
      have i1 := ih (y / 2) (by omega) (x / 2) (p / 2) (sh hy) (sh hp) (by omega)
      rw [e] at hd
      have hx2 : x % 2 ^ 1 = 0 ∨ x % 2 ^ 1 = 1 := by omega
      have hpx : p % 2 ≤ x % 2 := by
        by_cases q : p % 2 = 1
        · have := hp 0 (by rw [Nat.testBit_zero, q]; rfl)
          rw [Nat.testBit_zero] at this
          have := of_decide_eq_true this
          omega
        · omega
      rw [e1] at hm
      have hz : ((y - 1) &&& x) % 2 = x % 2 := by
        rcases hx2 with q | q
        · rw [q] at hm
          have : (1 : Nat) &&& 0 = 0 := rfl
          omega
        · rw [q] at hm
          have : (1 : Nat) &&& 1 = 1 := rfl
          omega
      omega
-- one more
theorem or_bits {y i t : Nat} : (y ||| 2 ^ i).testBit t = (y.testBit t || decide (i = t)) := by rw [Nat.testBit_or, Nat.testBit_two_pow]
theorem sub_or {p y i : Nat} (h : Sub p y) : Sub (p ||| 2 ^ i) (y ||| 2 ^ i) := by
  intro t ht
  rw [or_bits] at ht ⊢
  by_cases c : i = t
  · rw [decide_eq_true c, Bool.or_true]
  · rw [decide_eq_false c, Bool.or_false] at ht ⊢
    exact h t ht
theorem sub_one {y i : Nat} : Sub (2 ^ i) (y ||| 2 ^ i) := by
  intro t ht
  rw [or_bits, Nat.testBit_two_pow] at *
  rw [ht, Bool.or_true]
theorem xor_or {p y i : Nat} (h : Sub p y) (hi : y.testBit i = false) : (y ||| 2 ^ i) ^^^ (p ||| 2 ^ i) = y ^^^ p := by
  apply Nat.eq_of_testBit_eq
  intro t
  rw [Nat.testBit_xor, Nat.testBit_xor, or_bits, or_bits]
  by_cases c : i = t
  · subst c
    have : p.testBit i = false := ts_nt (fun q => by have := h i q; rw [hi] at this; exact absurd this (by decide))
    rw [hi, this]; simp
  · rw [decide_eq_false c, Bool.or_false, Bool.or_false]
theorem xor_one {y i : Nat} (hi : y.testBit i = false) : (y ||| 2 ^ i) ^^^ 2 ^ i = y := by
  apply Nat.eq_of_testBit_eq
  intro t
  rw [Nat.testBit_xor, or_bits, Nat.testBit_two_pow]
  by_cases c : i = t
  · subst c
    rw [hi]; simp
  · rw [decide_eq_false c, Bool.or_false, Bool.xor_false]
theorem ws_or {W : Nat → Nat} {p i m : Nat} (hi : p.testBit i = false) (him : i < m) : ws W (p ||| 2 ^ i) m = ws W p m + W i := by
  have := ws_cut (W := W) (x := p ||| 2 ^ i) (y := p) (k := i) (by rw [or_bits, decide_eq_true rfl, Bool.or_true]) m (fun t _ => by
    rw [or_bits]
    by_cases c : i = t
    · subst c
      rw [hi]; simp
    · rw [decide_eq_false c, Bool.or_false, decide_eq_false (fun q => c q.symm)]; simp)
  rw [if_pos him] at this
  exact this
theorem ws_0 {W : Nat → Nat} : ∀ m, ws W 0 m = 0 := by
  intro m
  induction m with
  | zero => rfl
  | succ m ih =>
    show ws W 0 m + (if (0 : Nat).testBit m = true then W m else 0) = 0
    rw [ih, Nat.zero_testBit, if_neg (by decide)]
theorem ws_1 {W : Nat → Nat} {i m : Nat} (him : i < m) : ws W (2 ^ i) m = W i := by
  have := ws_or (W := W) (p := 0) (i := i) (m := m) (Nat.zero_testBit i) him
  rw [ws_0, Nat.zero_or, Nat.zero_add] at this
  exact this
/-- one less -/
theorem less {x i : Nat} (h : x.testBit i = true) : (x ^^^ 2 ^ i).testBit i = false ∧ (x ^^^ 2 ^ i) ||| 2 ^ i = x := by
  refine ⟨by rw [Nat.testBit_xor, h, Nat.testBit_two_pow, decide_eq_true rfl]; rfl, ?_⟩
  apply Nat.eq_of_testBit_eq
  intro t
  rw [or_bits, Nat.testBit_xor, Nat.testBit_two_pow]
  by_cases c : i = t
  · subst c
    rw [h, decide_eq_true rfl]; rfl
  · rw [decide_eq_false c, Bool.or_false, Bool.xor_false]
theorem sub_less {p x i : Nat} (h : Sub p x) : Sub (p ^^^ 2 ^ i) (x ^^^ 2 ^ i) ∨ p.testBit i = false := by
  by_cases c : p.testBit i = true
  · left
    intro t ht
    rw [Nat.testBit_xor, Nat.testBit_two_pow] at ht ⊢
    by_cases c2 : i = t
    · subst c2
      rw [c, decide_eq_true rfl] at ht
      exact absurd ht (by decide)
    · rw [decide_eq_false c2, Bool.xor_false] at ht ⊢
      exact h t ht
  · exact Or.inr (ts_nt c)
-- carried by the first beasts
def Car (C W : Nat → Nat) (m : Nat) : Nat → Nat → Prop
  | 0, x => x = 0
  | n + 1, x => ∃ p, Sub p x ∧ ws W p m ≤ C n ∧ Car C W m n (x ^^^ p)
theorem car_up {C W : Nat → Nat} {m n x : Nat} (h : Car C W m n x) : Car C W m (n + 1) x := ⟨0, sub_0 x, by rw [ws_0]; exact Nat.zero_le _, by rw [Nat.xor_zero]; exact h⟩
theorem car_le {C W : Nat → Nat} {m n x : Nat} (h : Car C W m n x) : ∀ d, Car C W m (n + d) x := by
  intro d
  induction d with
  | zero => exact h
  | succ d ih => exact car_up ih
theorem car_le' {C W : Nat → Nat} {m n k x : Nat} (h : Car C W m n x) (hk : n ≤ k) : Car C W m k x := by
  have := car_le h (k - n)
  rw [show n + (k - n) = k by omega] at this
  exact this
theorem car_0 {C W : Nat → Nat} {m n : Nat} : Car C W m n 0 := car_le' (n := 0) rfl (Nat.zero_le _)
theorem car_first {C W : Nat → Nat} {m x : Nat} (hx : x ≠ 0) : ∀ b, Car C W m b x → ∃ b0 p, b0 < b ∧ p ≠ 0 ∧ Sub p x ∧ ws W p m ≤ C b0 ∧ Car C W m b0 (x ^^^ p) := by
  intro b
  induction b with
  | zero => intro h; exact absurd h hx
  | succ b ih =>
    intro h
    obtain ⟨p, h1, h2, h3⟩ := h
    by_cases c : p = 0
    · subst c
      rw [Nat.xor_zero] at h3
      obtain ⟨b0, p, k1, k2⟩ := ih h3
      exact ⟨b0, p, by omega, k2⟩
    · exact ⟨b, p, by omega, c, h1, h2, h3⟩
def Rch (C W : Nat → Nat) (m x b c : Nat) : Prop := c ≤ C b ∧ ∃ p, Sub p x ∧ ws W p m = c ∧ Car C W m b (x ^^^ p)
theorem rch_car {C W : Nat → Nat} {m x b c : Nat} (h : Rch C W m x b c) : Car C W m (b + 1) x := by
  obtain ⟨h1, p, h2, h3, h4⟩ := h
  exact ⟨p, h2, by omega, h4⟩
def Snd (C W : Nat → Nat) (m B x v : Nat) : Prop := v = B * 1024 ∨ ∃ b c, b < B ∧ v = b * 1024 + c ∧ Rch C W m x b c
def P1 (C : Nat → Nat) (B v w r : Nat) : Prop := r = B * 1024 ∨ (v / 1024 < B ∧ v % 1024 + w ≤ C (v / 1024) ∧ r = v + w) ∨ ∃ b, v / 1024 < b ∧ b < B ∧ w ≤ C b ∧ r = b * 1024 + w
def P2 (C : Nat → Nat) (B v w r : Nat) : Prop := ∀ b c, b < B → c + w ≤ C b → v ≤ b * 1024 + c → r ≤ b * 1024 + c + w
theorem snd_step {C W : Nat → Nat} {m B y i v r : Nat} (hC : ∀ b, b < B → C b ≤ 999) (hv : Snd C W m B y v) (hi : y.testBit i = false) (him : i < m) (hr : P1 C B v (W i) r) : Snd C W m B (y ||| 2 ^ i) r := by
  rcases hr with e | ⟨e1, e2, e3⟩ | ⟨b', e1, e2, e3, e4⟩
  · exact Or.inl e
  · rcases hv with e | ⟨b, c, h1, h2, h3, p, h4, h5, h6⟩
    · omega
    · have := hC b h1
      have eb : v / 1024 = b := by omega
      have ec : v % 1024 = c := by omega
      rw [eb, ec] at e2
      have hp : p.testBit i = false := ts_nt (fun q => by have := h4 i q; rw [hi] at this; exact absurd this (by decide))
      exact Or.inr ⟨b, c + W i, h1, by omega, e2, p ||| 2 ^ i, sub_or h4, by rw [ws_or hp him, h5], by rw [xor_or h4 hi]; exact h6⟩
  · rcases hv with e | ⟨b, c, h1, h2, h3⟩
    · omega
    · have := hC b h1
      have := h3.1
      refine Or.inr ⟨b', W i, e2, e4, e3, 2 ^ i, sub_one, ws_1 him, ?_⟩
      rw [xor_one hi]
      exact car_le' (rch_car h3) (by omega)
set_option maxRecDepth 20000 in
theorem ar1 {s b0 b c w cb : Nat} (h1 : s ≤ b0 * 1024 + w) (h2 : w ≤ cb) (h3 : cb ≤ 999) (h4 : b0 < b) : s ≤ b * 1024 + c := by omega
/-- no way is better than the one that was kept -/
theorem best {C W S : Nat → Nat} {m B : Nat} (hC : ∀ b, b < B → C b ≤ 999) (h0 : S 0 = 0) (hD : ∀ y i b c, y < 2 ^ m → i < m → y.testBit i = false → b < B → c + W i ≤ C b → S y ≤ b * 1024 + c → S (y ||| 2 ^ i) ≤ b * 1024 + c + W i) : ∀ x, x < 2 ^ m → ∀ b c, b < B → Rch C W m x b c → S x ≤ b * 1024 + c := by
  intro x
  induction x using Nat.strongRecOn with
  | ind x ih =>
    intro hx
    have key : ∀ b p, b < B → p ≠ 0 → Sub p x → ws W p m ≤ C b → Car C W m b (x ^^^ p) → S x ≤ b * 1024 + ws W p m := by
      intro b p hb hp h1 h2 h3
      obtain ⟨i, hi⟩ := Nat.exists_testBit_of_ne_zero hp
      have hxi := h1 i hi
      have him := tb_lt hx hxi
      obtain ⟨l1, l2⟩ := less hxi
      obtain ⟨k1, k2⟩ := less hi
      have hlt : x ^^^ 2 ^ i < x := xor_lt (fun t ht => by
        rw [Nat.testBit_two_pow] at ht
        have := of_decide_eq_true ht
        subst this
        exact hxi) (by have := Nat.two_pow_pos i; omega)
      have hs : Sub (p ^^^ 2 ^ i) (x ^^^ 2 ^ i) := by
        rcases sub_less (i := i) h1 with q | q
        · exact q
        · rw [hi] at q; exact absurd q (by decide)
      have hw : ws W p m = ws W (p ^^^ 2 ^ i) m + W i := by
        have := ws_or (W := W) k1 him
        rw [k2] at this
        exact this
      have hc : Car C W m b ((x ^^^ 2 ^ i) ^^^ (p ^^^ 2 ^ i)) := by
        have := xor_or hs l1
        rw [l2, k2] at this
        rw [← this]
        exact h3
      have i1 := ih (x ^^^ 2 ^ i) hlt (by omega) b (ws W (p ^^^ 2 ^ i) m) hb ⟨by omega, _, hs, rfl, hc⟩
      have := hD (x ^^^ 2 ^ i) i b (ws W (p ^^^ 2 ^ i) m) (by omega) him l1 hb (by omega) i1
      rw [l2] at this
      rw [hw, ← Nat.add_assoc]
      exact this
    intro b c hb hr
    obtain ⟨h1, p, h2, h3, h4⟩ := hr
    by_cases cx : x = 0
    · rw [cx, h0]; exact Nat.zero_le _
    · by_cases cp : p = 0
      · subst cp
        rw [Nat.xor_zero] at h4
        obtain ⟨b0, p0, k1, k2, k3, k4, k5⟩ := car_first cx b h4
        exact ar1 (key b0 p0 (Nat.lt_trans k1 hb) k2 k3 k4 k5) k4 (hC b0 (Nat.lt_trans k1 hb)) k1
      · rw [← h3]
        exact key b p hb cp h2 (h3 ▸ h1) h4
theorem least {C W S : Nat → Nat} {m B : Nat} (hC : ∀ b, b < B → C b ≤ 999) (h0 : S 0 = 0) (hD : ∀ y i b c, y < 2 ^ m → i < m → y.testBit i = false → b < B → c + W i ≤ C b → S y ≤ b * 1024 + c → S (y ||| 2 ^ i) ≤ b * 1024 + c + W i) (hm : 0 < m) (hs : Snd C W m B (2 ^ m - 1) (S (2 ^ m - 1))) : (S (2 ^ m - 1) / 1024 < B ∧ Car C W m (S (2 ^ m - 1) / 1024 + 1) (2 ^ m - 1) ∧ ∀ n, n ≤ S (2 ^ m - 1) / 1024 → ¬ Car C W m n (2 ^ m - 1)) ∨ (S (2 ^ m - 1) / 1024 = B ∧ ∀ n, n ≤ B → ¬ Car C W m n (2 ^ m - 1)) := by
  have hp : 2 ^ 1 ≤ 2 ^ m := Nat.pow_le_pow_right (by decide) hm
  have ne : 2 ^ m - 1 ≠ 0 := by omega
  have no : ∀ n, n ≤ B → Car C W m n (2 ^ m - 1) → ∃ b0, b0 < n ∧ S (2 ^ m - 1) ≤ b0 * 1024 + 999 := by
    intro n hn h
    obtain ⟨b0, p0, k1, k2, k3, k4, k5⟩ := car_first ne n h
    have := best hC h0 hD (2 ^ m - 1) (by omega) b0 (ws W p0 m) (by omega) ⟨k4, p0, k3, rfl, k5⟩
    have := hC b0 (by omega)
    exact ⟨b0, k1, by omega⟩
  rcases hs with e | ⟨b, c, h1, h2, h3⟩
  · refine Or.inr ⟨by omega, fun n hn h => ?_⟩
    obtain ⟨b0, k1, k2⟩ := no n hn h
    omega
  · have := hC b h1
    have hc := h3.1
    have eb : S (2 ^ m - 1) / 1024 = b := by omega
    rw [eb]
    refine Or.inl ⟨h1, rch_car h3, fun n hn h => ?_⟩
    obtain ⟨b0, k1, k2⟩ := no n (by omega) h
    omega
