/-- both answer alike, and stay together -/
def Ag {α : Type} (x y : Option (St × α)) : Prop := ∃ (X1 M1 : St) (v : α), x = some (X1, v) ∧ y = some (M1, v) ∧ Rel X1 M1
theorem ag_of {α : Type} {x y : Option (St × α)} {X1 M1 : St} {v : α} (h1 : x = some (X1, v)) (h2 : y = some (M1, v)) (h : Rel X1 M1) : Ag x y := ⟨X1, M1, v, h1, h2, h⟩
theorem bq_eta {α : Type} (x : Option (St × α)) : bq x (fun a b => some (a, b)) = x := by
  cases x with
  | none => rfl
  | some p => rfl
theorem ag_bqL {x y : Option (St × Int32)} (h : Ag x y) : Ag (bq x fun S v => some (S, Int32.toInt64 v)) (bq y fun S v => some (S, Int32.toInt64 v)) := by
  obtain ⟨X1, M1, v, rfl, rfl, hR⟩ := h
  exact ⟨X1, M1, _, rfl, rfl, hR⟩
theorem find_ok {X M : St} (h : Rel X M) {k : Nat} (hk : k < 7) {c : Int32} (hc : (-1000000001) - nI k = c) : Ag (fX6_finding X (nI k)) (fX7_finds M c) := by
  have e : ((-1000000001) - c) + 1 = nI (k + 1) := by
    rw [← hc, ← nI_1]; grind
  have e0 : ((0 : Int32)) = nI 0 := rfl
  refine ag_of (v := c) (X1 := si X 55 k (X.1 55 k + 1)) (M1 := si (si M 4 0 (M.1 4 0 + 1)) 4 (k + 1) (M.1 4 (k + 1) + 1)) ?_ ?_ (find_rel h hk)
  · unfold fX6_finding
    rw [ldi_e hk (by decide), sti_e hk (by decide), hc]
  · unfold fX7_finds
    rw [e, e0, ldi_e (by decide) (by decide), sti_e (by decide) (by decide), ldi_e (by omega) (by decide), sti_e (by omega) (by decide), si_s (by omega)]
theorem find0 {X M : St} (h : Rel X M) : Ag (fX6_finding X 0) (fX7_finds M (-1000000001)) := find_ok h (k := 0) (by decide) (by decide)
theorem find1 {X M : St} (h : Rel X M) : Ag (fX6_finding X 1) (fX7_finds M (-1000000002)) := find_ok h (k := 1) (by decide) (by decide)
theorem find2 {X M : St} (h : Rel X M) : Ag (fX6_finding X 2) (fX7_finds M (-1000000003)) := find_ok h (k := 2) (by decide) (by decide)
theorem find3 {X M : St} (h : Rel X M) : Ag (fX6_finding X 3) (fX7_finds M (-1000000004)) := find_ok h (k := 3) (by decide) (by decide)
theorem find5 {X M : St} (h : Rel X M) : Ag (fX6_finding X 5) (fX7_finds M (-1000000006)) := find_ok h (k := 5) (by decide) (by decide)
theorem find6 {X M : St} (h : Rel X M) : Ag (fX6_finding X 6) (fX7_finds M (-1000000007)) := find_ok h (k := 6) (by decide) (by decide)
theorem guard {α : Type} {X M : St} {a lo hi : Int32} {l h : Int64} {JX KX JM KM : Option (St × α)} (e1 : lo.toInt64 = l) (e2 : hi.toInt64 = h) (hf : Ag JX JM) (ht : inb a lo hi → Ag KX KM) : Ag (bv (fX6_within X a lo hi) fun v => if v = 0 then JX else KX) (bv (fX7_isIn M (Int32.toInt64 a) l h) fun v => if v = 0 then JM else KM) := by
  by_cases c : inb a lo hi
  · rw [within_t c, isIn_t e1 e2 c, bv_e, bv_e, if_neg (by decide), if_neg (by decide)]
    exact ht c
  · rw [within_f c, isIn_f e1 e2 c, bv_e, bv_e, if_pos rfl, if_pos rfl]
    exact hf
-- bits
theorem shl1 : ∀ n, n < 31 → (1 : Int32) <<< (nI n &&& 31) = nI (2 ^ n) := by decide
theorem bits_lt {f : Nat → Nat} {n : Nat} (h : ∀ p, p < n → f p ≤ 1) : bits f n < 2 ^ n := by
  induction n with
  | zero => exact Nat.one_pos
  | succ n ih =>
    have h1 := ih (fun p hp => h p (by omega))
    have h2 := h n (by omega)
    have h3 : f n * 2 ^ n ≤ 1 * 2 ^ n := Nat.mul_le_mul_right _ h2
    show bits f n + f n * 2 ^ n < 2 ^ (n + 1)
    rw [Nat.pow_succ]
    omega
theorem bits_ext {f g : Nat → Nat} {n : Nat} (h : ∀ p, p < n → f p = g p) : bits f n = bits g n := by
  induction n with
  | zero => rfl
  | succ n ih =>
    show bits f n + f n * 2 ^ n = bits g n + g n * 2 ^ n
    rw [ih (fun p hp => h p (by omega)), h n (by omega)]
theorem bits_at {f : Nat → Nat} {n p : Nat} (h : ∀ p, p < n → f p ≤ 1) (hp : p < n) : bits f n / 2 ^ p % 2 = f p := by
  induction n with
  | zero => omega
  | succ n ih =>
    show (bits f n + f n * 2 ^ n) / 2 ^ p % 2 = f p
    have hl := bits_lt (f := f) (n := n) (fun p hp => h p (by omega))
    by_cases hpn : p = n
    · subst hpn
      rw [Nat.add_mul_div_right _ _ (Nat.two_pow_pos p), Nat.div_eq_of_lt hl, Nat.zero_add]
      exact Nat.mod_eq_of_lt (by have := h p (by omega); omega)
    · have hp' : p < n := by omega
      have e : 2 ^ n = 2 ^ (n - p - 1) * 2 * 2 ^ p := by
        rw [← Nat.pow_succ, ← Nat.pow_add]
        congr 1
        omega
      have e2 : f n * 2 ^ n = (f n * 2 ^ (n - p - 1) * 2) * 2 ^ p := by rw [e]; simp [Nat.mul_assoc]
      rw [e2, Nat.add_mul_div_right _ _ (Nat.two_pow_pos p), Nat.add_mul_mod_self_right]
      exact ih (fun p hp => h p (by omega)) hp'
theorem smod31 : ∀ p, p < 31 → ((nI p &&& 31).toBitVec.smod 32).toNat = p := by decide
theorem bit_eq {T p : Nat} (hT : T < 2 ^ 31) (hp : p < 31) : (nI T >>> (nI p &&& 31)) &&& 1 = nI (T / 2 ^ p % 2) := by
  rw [pk_shrN hT _ p (smod31 p hp)]
  have e : (1 : Int32) = nI (2 ^ 1 - 1) := rfl
  rw [e, fa_mask]
theorem bit_there {f : Nat → Nat} {n p : Nat} (h : ∀ p, p < n → f p ≤ 1) (hn : n ≤ 20) (hp : p < n) : (nI (bits f n) >>> (nI p &&& 31)) &&& 1 = nI (f p) := by
  have hl := bits_lt h
  have h20 : 2 ^ n ≤ 2 ^ 20 := Nat.pow_le_pow_right (by decide) hn
  rw [bit_eq (by omega) (by omega), bits_at h hp]
