-- WHAT THE TWO STATES SHARE: a house, as numbers
/-- the set of those that are there -/
def bits (f : Nat → Nat) : Nat → Nat
  | 0 => 0
  | n + 1 => bits f n + f n * 2 ^ n
/-- 0 counts (parts, beasts, camps); of parts 1 kind 2 side 3 strength 4 weight 5 wear 6 there; 7 sky; 8 draw; 9 caps; 10 fars; 11 grass; 12 herding -/
abbrev Hs : Type := Nat → Nat → Nat
def ShX (A : Nat → Nat → Int32) (b : Nat) (H : Hs) : Prop :=
  A b 0 = nI (H 0 0) ∧ A b 9 = nI (H 0 1) ∧ A b 11 = nI (H 0 2) ∧
  (∀ p, p < H 0 0 → A (1 + b) p = nI (H 1 p) ∧ A (2 + b) p = nI (H 2 p) ∧ A (3 + b) p = nI (H 3 p) ∧ A (4 + b) p = nI (H 4 p) ∧ A (5 + b) p = nI (H 5 p)) ∧
  A b 6 = nI (bits (H 6) (H 0 0)) ∧ (∀ j, j < 5 → A (6 + b) j = nI (H 7 j)) ∧ A b 8 = nI (H 8 0) ∧
  (∀ j, j < H 0 1 → A (7 + b) j = nI (H 9 j)) ∧ (∀ c, c < H 0 2 → A (8 + b) c = nI (H 10 c)) ∧ (∀ c m, c < H 0 2 → m < 12 → A (9 + b) (12 * c + m) = nI (H 11 (12 * c + m))) ∧ (∀ j, j < 3 → A (10 + b) j = nI (H 12 j))
def ShM (r : Nat → Int32) (H : Hs) : Prop :=
  r 0 = nI (H 0 0) ∧ r 1 = nI (H 0 1) ∧ r 2 = nI (H 0 2) ∧
  (∀ p w, p < H 0 0 → w < 6 → r (12 + 6 * p + w) = nI (H (w + 1) p)) ∧
  (∀ j, j < 5 → r (3 + j) = nI (H 7 j)) ∧ r 8 = nI (H 8 0) ∧
  (∀ j, j < H 0 1 → r (132 + j) = nI (H 9 j)) ∧ (∀ c, c < H 0 2 → r (138 + 13 * c + 12) = nI (H 10 c)) ∧ (∀ c m, c < H 0 2 → m < 12 → r (138 + 13 * c + m) = nI (H 11 (12 * c + m))) ∧ (∀ j, j < 3 → r (9 + j) = nI (H 12 j))
def skM (j : Nat) : Nat := ([99, 7, 9, 99, 60] : List Nat).getD j 0
def hdM (j : Nat) : Nat := ([999, 99, 999] : List Nat).getD j 0
def Wf (H : Hs) : Prop :=
  H 0 0 ≤ 20 ∧ H 0 1 ≤ 6 ∧ H 0 2 ≤ 6 ∧
  (∀ p, p < H 0 0 → H 1 p < 7 ∧ H 2 p < 8 ∧ (1 ≤ H 3 p ∧ H 3 p ≤ 999) ∧ H 4 p ≤ 99 ∧ H 5 p ≤ 99 ∧ H 6 p ≤ 1) ∧
  (∀ j, j < 5 → H 7 j ≤ skM j) ∧ H 8 0 ≤ 99 ∧
  (∀ j, j < H 0 1 → 1 ≤ H 9 j ∧ H 9 j ≤ 999) ∧ (∀ c, c < H 0 2 → H 10 c ≤ 99) ∧ (∀ c m, c < H 0 2 → m < 12 → H 11 (12 * c + m) ≤ 999) ∧ (∀ j, j < 3 → H 12 j ≤ hdM j)
def St1 (A : Nat → Nat → Int32) (b : Nat) (r : Nat → Int32) (H : Hs) : Prop := Wf H ∧ ShX A b H ∧ ShM r H
/-- the tape -/
def TxR (X M : St) : Prop := ∃ n, n ≤ 120 ∧ X.1 44 1 = nI n ∧ M.1 0 6 = nI n ∧ ∀ k, k < n → X.1 45 k = M.1 5 k ∧ ∃ c, c < 256 ∧ M.1 5 k = nI c
def bitsok (b : Nat) : Prop := b = 0 ∨ b = 8 ∨ b = 16 ∨ b = 64
/-- the sheets -/
def SeR (X M : St) : Prop := ∀ t, t < 4 → ∃ b z, bitsok b ∧ z ≤ 40 ∧ (b = 0 → z = 0) ∧ X.1 (47 + t) 0 = nI b ∧ X.1 (47 + t) 1 = nI z ∧ M.1 6 t = (if b = 0 then -1 else nI b) ∧ M.1 7 t = nI z ∧ ∀ k, k < 40 → X.2 (51 + t) k = M.2 8 (40 * t + k)
/-- the findings -/
def FiR (X M : St) : Prop := (∀ k, k < 7 → X.1 55 k = M.1 4 (k + 1)) ∧ M.1 4 0 = X.1 55 0 + X.1 55 1 + X.1 55 2 + X.1 55 3 + X.1 55 4 + X.1 55 5 + X.1 55 6
def lett : List Int32 := [112, 97, 114, 116, 0, 112, 111, 108, 101, 0, 98, 97, 110, 100, 0, 115, 116, 111, 110, 101, 0, 102, 101, 108, 116, 0, 102, 108, 97, 112, 0, 114, 111, 112, 101, 0, 99, 97, 109, 112, 0, 98, 101, 97, 115, 116, 0, 100, 114, 97, 119, 0, 119, 101, 105, 103, 104, 116, 0, 119, 101, 97, 114, 0, 103, 114, 97, 115, 115, 0]
def LeR (M : St) : Prop := ∀ k, k < 70 → M.1 14 k = lett.getD k 0
def KeR (X M : St) : Prop := (X.1 0 3 = 0 ∧ M.1 0 3 = 0) ∨ (X.1 0 3 = 1 ∧ M.1 0 3 = 1 ∧ ∃ H, St1 X.1 12 (M.1 2) H)
def Rel (X M : St) : Prop := (∃ H, St1 X.1 1 (M.1 1) H) ∧ KeR X M ∧ TxR X M ∧ SeR X M ∧ FiR X M ∧ LeR M
-- what each part rests on
theorem ShX.kept {A A' : Nat → Nat → Int32} {b : Nat} {H : Hs} (h : ShX A b H) (e : ∀ k, k < 11 → A' (k + b) = A (k + b)) : ShX A' b H := by
  have e0 := e 0 (by decide)
  rw [Nat.zero_add] at e0
  unfold ShX
  rw [e0, e 1 (by decide), e 2 (by decide), e 3 (by decide), e 4 (by decide), e 5 (by decide), e 6 (by decide), e 7 (by decide), e 8 (by decide), e 9 (by decide), e 10 (by decide)]
  exact h
theorem St1.kept {A A' : Nat → Nat → Int32} {b : Nat} {r r' : Nat → Int32} {H : Hs} (h : St1 A b r H) (e : ∀ k, k < 11 → A' (k + b) = A (k + b)) (er : r' = r) : St1 A' b r' H := ⟨h.1, h.2.1.kept e, by rw [er]; exact h.2.2⟩
theorem KeR.kept {X M X' M' : St} (h : KeR X M) (e : ∀ k, k < 11 → X'.1 (k + 12) = X.1 (k + 12)) (e0 : X'.1 0 3 = X.1 0 3) (m0 : M'.1 0 3 = M.1 0 3) (m2 : M'.1 2 = M.1 2) : KeR X' M' := by
  rcases h with ⟨h1, h2⟩ | ⟨h1, h2, H, h3⟩
  · exact Or.inl ⟨by rw [e0]; exact h1, by rw [m0]; exact h2⟩
  · exact Or.inr ⟨by rw [e0]; exact h1, by rw [m0]; exact h2, H, h3.kept e m2⟩
theorem TxR.kept {X M X' M' : St} (h : TxR X M) (e1 : X'.1 44 1 = X.1 44 1) (e2 : X'.1 45 = X.1 45) (e3 : M'.1 0 6 = M.1 0 6) (e4 : M'.1 5 = M.1 5) : TxR X' M' := by
  unfold TxR
  rw [e1, e2, e3, e4]
  exact h
theorem SeR.kept {X M X' M' : St} (h : SeR X M) (e1 : ∀ t, t < 4 → X'.1 (47 + t) = X.1 (47 + t)) (e2 : ∀ t, t < 4 → X'.2 (51 + t) = X.2 (51 + t)) (e3 : M'.1 6 = M.1 6) (e4 : M'.1 7 = M.1 7) (e5 : M'.2 8 = M.2 8) : SeR X' M' := by
  intro t ht
  rw [e1 t ht, e2 t ht, e3, e4, e5]
  exact h t ht
theorem FiR.kept {X M X' M' : St} (h : FiR X M) (e1 : X'.1 55 = X.1 55) (e2 : M'.1 4 = M.1 4) : FiR X' M' := by
  unfold FiR
  rw [e1, e2]
  exact h
theorem LeR.kept {M M' : St} (h : LeR M) (e : M'.1 14 = M.1 14) : LeR M' := by
  unfold LeR
  rw [e]
  exact h
-- si at other cells
theorem si_o {S : St} {c k d : Nat} {v : Int32} (h : d ≠ c) : (si S c k v).1 d = S.1 d := si_n d h
theorem si_s {S : St} {c k j : Nat} {v : Int32} (h : j ≠ k) : (si S c k v).1 c j = S.1 c j := by
  rw [si_k]; exact pk_un h
theorem si_h {S : St} {c k : Nat} {v : Int32} : (si S c k v).1 c k = v := by
  rw [si_k]; exact pk_us
/-- a finding on both sides -/
theorem find_rel {X M : St} (h : Rel X M) {k : Nat} (hk : k < 7) : Rel (si X 55 k (X.1 55 k + 1)) (si (si M 4 0 (M.1 4 0 + 1)) 4 (k + 1) (M.1 4 (k + 1) + 1)) := by
  obtain ⟨⟨H, h1⟩, h2, h3, h4, h5, h6⟩ := h
  have mo : ∀ d, d ≠ 4 → (si (si M 4 0 (M.1 4 0 + 1)) 4 (k + 1) (M.1 4 (k + 1) + 1)).1 d = M.1 d := fun d hd => by rw [si_o hd, si_o hd]
  refine ⟨⟨H, h1.kept (fun j hj => si_o (by omega)) (mo 1 (by decide))⟩, h2.kept (fun j hj => si_o (by omega)) (by rw [si_o (by decide)]) (by rw [mo 0 (by decide)]) (mo 2 (by decide)), h3.kept (by rw [si_o (by decide)]) (by rw [si_o (by decide)]) (by rw [mo 0 (by decide)]) (mo 5 (by decide)), h4.kept (fun t ht => si_o (by omega)) (fun t ht => rfl) (mo 6 (by decide)) (mo 7 (by decide)) rfl, ?_, h6.kept (mo 14 (by decide))⟩
  obtain ⟨f1, f2⟩ := h5
  refine ⟨fun j hj => ?_, ?_⟩
  · by_cases hjk : j = k
    · subst hjk
      rw [si_h, si_h, f1 j hj]
    · rw [si_s hjk, si_s (by omega), si_s (by omega)]
      exact f1 j hj
  · rw [si_s (by omega), si_h, f2]
    match k, hk with
    | 0, _ => simp only [si_a]; simp; grind
    | 1, _ => simp only [si_a]; simp; grind
    | 2, _ => simp only [si_a]; simp; grind
    | 3, _ => simp only [si_a]; simp; grind
    | 4, _ => simp only [si_a]; simp; grind
    | 5, _ => simp only [si_a]; simp; grind
    | 6, _ => simp only [si_a]; simp; grind
