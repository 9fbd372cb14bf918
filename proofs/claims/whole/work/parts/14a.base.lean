-- THE PURE SIDE
theorem pl_e {α β : Type} (a : α) (k : α → β) : pl a k = k a := rfl
theorem bv_e {σ β : Type} (p : σ) (k : σ → Option β) : bv (some p) k = k p := rfl
theorem bq_e {σ α β : Type} (p : σ) (a : α) (k : σ → α → Option β) : bq (some (p, a)) k = k p a := rfl
theorem ok_e {β : Type} {c : Prop} [Decidable c] (h : c) (k : Option β) : ok c k = k := if_pos h
theorem ld_e {β : Type} {n N : Nat} (h : n < N) (hN : N < 2 ^ 31) (k : Nat → Option β) : ld (nI n) N k = k n := by
  unfold ld
  rw [if_neg (nI_in h hN), nI_clamp (by omega)]
theorem ldi_e {β : Type} {S : St} {c n N : Nat} (h : n < N) (hN : N < 2 ^ 31) (k : Int32 → Option β) : ldi S c (nI n) N k = k (S.1 c n) := ld_e h hN _
theorem ldj_e {β : Type} {S : St} {c n N : Nat} (h : n < N) (hN : N < 2 ^ 31) (k : Int64 → Option β) : ldj S c (nI n) N k = k (S.2 c n) := ld_e h hN _
theorem sti_e {β : Type} {S : St} {c n N : Nat} {x : Int32} (h : n < N) (hN : N < 2 ^ 31) (k : St → Option β) : sti S c (nI n) N x k = k (si S c n x) := ld_e h hN _
theorem stj_e {β : Type} {S : St} {c n N : Nat} {x : Int64} (h : n < N) (hN : N < 2 ^ 31) (k : St → Option β) : stj S c (nI n) N x k = k (sj S c n x) := ld_e h hN _
theorem lds_e {β : Type} {n : Nat} (h : n < 4) (k : Nat → Option β) : lds (nI n) k = k n := ld_e h (by decide) _
theorem ldt_e {β : Type} {f : Nat → Int32} {n N : Nat} (h : n < N) (hN : N < 2 ^ 31) (k : Int32 → Option β) : ldt f (nI n) N k = k (f n) := ld_e h hN _
theorem putz_e {β : Type} {S : St} {k slot : Nat} {x : Int32} (h : x &&& 1 = x) (A : St → Option β) : putz S k slot x A = A (si S k slot x) := ok_e h _
-- literals as places
theorem ldi_l {β : Type} {S : St} {c N : Nat} (n : Nat) (h : n < N) (hN : N < 2 ^ 31) (k : Int32 → Option β) : ldi S c (OfNat.ofNat n) N k = k (S.1 c n) := ldi_e h hN k
theorem sti_l {β : Type} {S : St} {c N : Nat} {x : Int32} (n : Nat) (h : n < N) (hN : N < 2 ^ 31) (k : St → Option β) : sti S c (OfNat.ofNat n) N x k = k (si S c n x) := sti_e h hN k
-- states
theorem si_a {S : St} {c k d j : Nat} {v : Int32} : (si S c k v).1 d j = if d = c then (if j = k then v else S.1 d j) else S.1 d j := by
  unfold si
  by_cases h : d = c
  · subst h; simp [upd]
  · simp [h]
theorem si_b {S : St} {c k : Nat} {v : Int32} : (si S c k v).2 = S.2 := rfl
theorem sj_a {S : St} {c k d j : Nat} {v : Int64} : (sj S c k v).2 d j = if d = c then (if j = k then v else S.2 d j) else S.2 d j := by
  unfold sj
  by_cases h : d = c
  · subst h; simp [vp_updL]
  · simp [h]
theorem sj_b {S : St} {c k : Nat} {v : Int64} : (sj S c k v).1 = S.1 := rfl
theorem sr_a {S : St} {c d : Nat} {f : Nat → Int32} : (sr S c f).1 d = if d = c then f else S.1 d := rfl
theorem sr_b {S : St} {c : Nat} {f : Nat → Int32} : (sr S c f).2 = S.2 := rfl
theorem sl_a {S : St} {c d : Nat} {f : Nat → Int64} : (sl S c f).2 d = if d = c then f else S.2 d := rfl
theorem sl_b {S : St} {c : Nat} {f : Nat → Int64} : (sl S c f).1 = S.1 := rfl
-- a number between two
def inb (a lo hi : Int32) : Prop := lo ≤ a ∧ a ≤ hi
theorem within_t {S : St} {a lo hi : Int32} (h : inb a lo hi) : fX6_within S a lo hi = some 1 := by
  unfold fX6_within
  obtain ⟨h1, h2⟩ := h
  rw [fa_le] at h1 h2
  rw [if_neg (by rw [fa_lt]; omega), if_neg (by rw [fa_lt]; omega)]
theorem within_f {S : St} {a lo hi : Int32} (h : ¬ inb a lo hi) : fX6_within S a lo hi = some 0 := by
  unfold fX6_within
  by_cases h1 : a < lo
  · rw [if_pos h1]
  · rw [if_neg h1, if_pos]
    rw [fa_lt] at h1 ⊢
    refine Int.not_le.mp (fun q => h ⟨by rw [fa_le]; omega, by rw [fa_le]; omega⟩)
theorem cmp_lt {x y : Int64} : lg_cmp x y < 0 ↔ x < y := by
  unfold lg_cmp
  by_cases h : y < x
  · simp only [h, if_true]
    rw [fa_lt64] at h
    constructor
    · intro q; exact absurd q (by decide)
    · intro q; rw [fa_lt64] at q; omega
  · by_cases h2 : x = y
    · subst h2; simp
    · simp only [h, h2, if_false]
      constructor
      · intro _
        rw [fa_lt64] at h ⊢
        have : x.toInt ≠ y.toInt := fun e => h2 ((fa_eq64 _ _).mpr e)
        omega
      · intro _; decide
theorem cmp_gt {x y : Int64} : 0 < lg_cmp x y ↔ y < x := by
  unfold lg_cmp
  by_cases h : y < x
  · simp only [h, if_true]
    constructor
    · intro _; trivial
    · intro _; decide
  · by_cases h2 : x = y
    · subst h2; simp
    · simp only [h, h2, if_false]
      constructor
      · intro q; exact absurd q (by decide)
      · intro q; exact False.elim q
theorem cmp_ge {x y : Int64} : 0 ≤ lg_cmp x y ↔ y ≤ x := by
  have h := @cmp_lt x y
  have e : (0 : Int32).toInt = 0 := by decide
  rw [fa_lt, fa_lt64, e] at h
  rw [fa_le, fa_le64, e]
  omega
theorem isIn_t {S : St} {a lo hi : Int32} {l h : Int64} (e1 : lo.toInt64 = l) (e2 : hi.toInt64 = h) (hb : inb a lo hi) : fX7_isIn S (Int32.toInt64 a) l h = some 1 := by
  subst e1 e2
  unfold fX7_isIn
  obtain ⟨h1, h2⟩ := hb
  rw [fa_le] at h1 h2
  rw [if_neg (by rw [cmp_lt, fa_wide_lt, fa_lt]; omega), if_neg (by rw [cmp_gt, fa_wide_lt, fa_lt]; omega)]
theorem isIn_f {S : St} {a lo hi : Int32} {l h : Int64} (e1 : lo.toInt64 = l) (e2 : hi.toInt64 = h) (hb : ¬ inb a lo hi) : fX7_isIn S (Int32.toInt64 a) l h = some 0 := by
  subst e1 e2
  unfold fX7_isIn
  by_cases h1 : a < lo
  · rw [if_pos (by rw [cmp_lt, fa_wide_lt]; exact h1)]
  · rw [if_neg (by rw [cmp_lt, fa_wide_lt]; exact h1), if_pos]
    rw [cmp_gt, fa_wide_lt]
    rw [fa_lt] at h1 ⊢
    refine Int.not_le.mp (fun q => hb ⟨by rw [fa_le]; omega, by rw [fa_le]; omega⟩)
theorem inb_nI {a : Int32} {lo hi : Nat} (h : inb a (nI lo) (nI hi)) (hl : lo < 2 ^ 31) (hh : hi < 2 ^ 31) : ∃ k, lo ≤ k ∧ k ≤ hi ∧ a = nI k := by
  obtain ⟨h1, h2⟩ := h
  have h1' := h1
  rw [fa_le, nI_toInt hl] at h1
  rw [fa_le, nI_toInt hh] at h2
  have h0 : ¬ a < 0 := by rw [fa_lt]; have e : (0 : Int32).toInt = 0 := by decide
                          omega
  obtain ⟨j, hj, rfl⟩ := nI_of h0
  rw [nI_toInt hj] at h1 h2
  exact ⟨j, by omega, by omega, rfl⟩
theorem inb_of {k lo hi : Nat} (h1 : lo ≤ k) (h2 : k ≤ hi) (h : hi < 2 ^ 31) : inb (nI k) (nI lo) (nI hi) := ⟨nI_le h1 (by omega), nI_le h2 h⟩
