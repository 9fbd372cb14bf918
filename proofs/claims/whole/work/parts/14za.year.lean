-- year and moves
def vnext (f : Nat → Int32) : Nat → Nat
  | 0 => 0
  | m + 1 => if f (vnext f m) ≤ f (m + 1) then vnext f m else m + 1
theorem vnext_le (f : Nat → Int32) : ∀ m, vnext f m ≤ m := by
  intro m
  induction m with
  | zero => exact Nat.le_refl _
  | succ m ih =>
    rw [vnext]
    split
    · omega
    · omega
theorem vnext_ext {f g : Nat → Int32} {n : Nat} (h : ∀ q, q < n → f q = g q) : ∀ m, m < n → vnext f m = vnext g m := by
  intro m
  induction m with
  | zero => intro _; rfl
  | succ m ih =>
    intro hm
    have hl := vnext_le g m
    rw [vnext, vnext, ih (by omega), h _ (by omega), h (m + 1) hm]
def von (T : Nat → Int32) (H : Hs) (i p k q : Nat) : Int32 := if q = p then T (18 * i + 3 * p + (if k = 2 then 2 else k + 1)) else T (18 * i + 3 * q) + vmove H p q
theorem atX {X : St} {i c k : Nat} : fX2_at X (nI i) (nI c) (nI k) = some (nI (18 * i + 3 * c + k)) := by
  unfold fX2_at
  rw [show (6 : Int32) = nI 6 from rfl, show (3 : Int32) = nI 3 from rfl, pk_mul, nI_add, pk_mul, nI_add, show (i * 6 + c) * 3 + k = 18 * i + 3 * c + k by omega]
theorem atM {M : St} {i c k : Nat} : fX7_placeOf M (nI i) (nI c) (nI (k + 1)) = some (nI (18 * i + 3 * c + k)) := by
  unfold fX7_placeOf
  rw [show (18 : Int32) = nI 18 from rfl, show (3 : Int32) = nI 3 from rfl, show (1 : Int32) = nI 1 from rfl, pk_mul, pk_mul, nI_add, nI_add, pk_sub (by omega), show 18 * i + 3 * c + (k + 1) - 1 = 18 * i + 3 * c + k by omega]
theorem longX {X : St} {k : Nat} (hk : k ≤ 2) : fX2_longer X (nI k) = some (nI (if k = 2 then 2 else k + 1)) := by
  unfold fX2_longer
  rcases (show k = 0 ∨ k = 1 ∨ k = 2 by omega) with rfl | rfl | rfl
  · rfl
  · rfl
  · rfl
theorem onX {X : St} {H : Hs} (hw : Wf H) (hx : ShX X.1 1 H) {i p k q : Nat} (hi : i < 24) (hp : p < H 0 2) (hq : q < H 0 2) (hk : k ≤ 2) : fX2_onwardCost X (nI i) (nI p) (nI k) (nI q) = some (von (X.1 42) H i p k q) := by
  have hn := hw.2.2.1
  unfold fX2_onwardCost von
  rw [if2 (nI_eq (a := q) (b := p) (by omega) (by omega)), longX hk, bv_e, atX, bv_e, show (0 : Int32) = nI 0 from rfl, atX, bv_e, moveX hw hx hp hq, ldi_e (by split <;> omega) (by decide), ldi_e (by omega) (by decide), bv_e, Nat.add_zero]
  by_cases c : q = p
  · rw [if_pos c, if_pos c]
  · rw [if_neg c, if_neg c]; rfl
theorem onM {M : St} {H : Hs} (hw : Wf H) (hm : ShM (M.1 1) H) {i p k q : Nat} (hi : i < 24) (hp : p < H 0 2) (hq : q < H 0 2) (hk : k ≤ 2) : fX7_costNext M (nI i) (nI p) (nI (k + 1)) (nI q) = some (von (M.1 12) H i p k q) := by
  have hn := hw.2.2.1
  unfold fX7_costNext von
  simp only [pl_e]
  have h1 : fX7_placeOf M (nI i) (nI q) 1 = some (nI (18 * i + 3 * q + 0)) := atM (k := 0)
  have h3 : fX7_placeOf M (nI i) (nI q) 3 = some (nI (18 * i + 3 * q + 2)) := atM (k := 2)
  rw [h1, h3, nI_1, atM, bv_e, bv_e, bv_e, moveM hw hm hp hq, if2 (nI_eq (a := p) (b := q) (by omega) (by omega)), ldi_e (by omega) (by decide), ldi_e (by omega) (by decide), ldi_e (by omega) (by decide), if_pos (nI_pos' (by omega)), bv_e]
  by_cases c : p = q
  · subst c
    rw [if_pos rfl, if_pos rfl]
    by_cases k2 : k = 2
    · subst k2
      rw [if_pos (show (3 : Int32) ≤ nI (2 + 1) from by decide), if_pos rfl]
    · rw [if_neg (show ¬ (3 : Int32) ≤ nI (k + 1) from nI_ge (b := 3) (by omega) (by decide)), if_neg k2]
  · rw [if_neg c, if_neg (fun q => c q.symm)]; rfl
theorem onM0 {M : St} {q : Nat} (hq : q < 6) : fX7_costNext M 0 (-1) 0 (nI q) = some (M.1 12 (3 * q)) := by
  unfold fX7_costNext
  simp only [pl_e]
  have h1 : fX7_placeOf M 0 (nI q) 1 = some (nI (18 * 0 + 3 * q + 0)) := atM (i := 0) (k := 0)
  have hne : ¬ (-1 : Int32) = nI q := fun e => by
    have := nI_pos (n := q) (by omega)
    rw [← e] at this
    exact this neg1.2
  rw [h1, bv_e, if_neg hne, ldi_e (by omega) (by decide), if_neg neg1.1, show 18 * 0 + 3 * q + 0 = 3 * q by omega]
  congr 1
  grind
theorem nextX {X : St} {H : Hs} (hw : Wf H) (hx : ShX X.1 1 H) {i p k : Nat} (hi : i < 24) (hp : p < H 0 2) (hk : k ≤ 2) : ∀ (G m : Nat), m < H 0 2 → H 0 2 - m < G + 1 → fX2_nextCamp_L16 X (nI i) (nI p) (nI k) G (nI (vnext (von (X.1 42) H i p k) m)) (von (X.1 42) H i p k (vnext (von (X.1 42) H i p k) m)) (nI (m + 1)) = some (nI (vnext (von (X.1 42) H i p k) (H 0 2 - 1))) := by
  have hn := hw.2.2.1
  intro G
  induction G with
  | zero => intro m h1 h2; omega
  | succ G ih =>
    intro m h1 h2
    rw [fX2_nextCamp_L16, hx.2.2.1]
    by_cases hm : m + 1 = H 0 2
    · rw [if_pos (nI_le (by omega) (by omega)), show H 0 2 - 1 = m by omega]
    · rw [if_neg (nI_ge (by omega) (by omega)), onX hw hx hi hp (by omega) hk, bv_e]
      simp only [pl_e]
      rw [nI_1]
      have := ih (m + 1) (by omega) (by omega)
      rw [vnext] at this
      by_cases c : von (X.1 42) H i p k (vnext (von (X.1 42) H i p k) m) ≤ von (X.1 42) H i p k (m + 1)
      · rw [if_pos c] at this ⊢; exact this
      · rw [if_neg c] at this ⊢; exact this
theorem nextX' {F : Nat} (hF : 100 ≤ F) {X : St} {H : Hs} (hw : Wf H) (hx : ShX X.1 1 H) {i p k : Nat} (hi : i < 24) (hp : p < H 0 2) (hk : k ≤ 2) : fX2_nextCamp F X (nI i) (nI p) (nI k) = some (nI (vnext (von (X.1 42) H i p k) (H 0 2 - 1))) := by
  have hn := hw.2.2.1
  unfold fX2_nextCamp
  rw [show (0 : Int32) = nI 0 from rfl, onX hw hx hi hp (by omega) hk, bv_e]
  exact nextX hw hx hi hp hk F 0 (by omega) (by omega)
theorem nextML {M : St} {n : Nat} {a b e : Int32} {f : Nat → Int32} (hn0 : M.1 1 2 = nI n) (hn : n ≤ 6) (hf : ∀ q, q < n → fX7_costNext M a b e (nI q) = some (f q)) : ∀ (G m : Nat), m < n → n - m < G + 1 → fX7_nextCamp_L6 M a b e G (nI (vnext f m)) (nI (m + 1)) = some (nI (vnext f (n - 1))) := by
  intro G
  induction G with
  | zero => intro m h1 h2; omega
  | succ G ih =>
    intro m h1 h2
    have hl := vnext_le f m
    rw [fX7_nextCamp_L6, ldi_l (c := 1) 2 (by decide) (by decide), hn0]
    by_cases hm : m + 1 = n
    · rw [if_pos (nI_le (by omega) (by omega)), show n - 1 = m by omega]
    · rw [if_neg (nI_ge (by omega) (by omega)), hf _ (by omega), hf _ (by omega), bv_e, bv_e]
      simp only [pl_e]
      rw [nI_1]
      have := ih (m + 1) (by omega) (by omega)
      rw [vnext] at this
      by_cases c : f (vnext f m) ≤ f (m + 1)
      · rw [if_pos c] at this ⊢; exact this
      · rw [if_neg c] at this ⊢; exact this
theorem nextM' {F : Nat} (hF : 100 ≤ F) {M : St} {H : Hs} (hw : Wf H) (hm : ShM (M.1 1) H) {i p k : Nat} (hi : i < 24) (hp : p < H 0 2) (hk : k ≤ 2) : fX7_nextCamp F M (nI i) (nI p) (nI (k + 1)) = some (nI (vnext (von (M.1 12) H i p k) (H 0 2 - 1))) := by
  have hn := hw.2.2.1
  unfold fX7_nextCamp
  exact nextML hm.2.2.1 hn (fun q hq => onM hw hm hi hp hq hk) F 0 (by omega) (by omega)
theorem nextM0 {F : Nat} (hF : 100 ≤ F) {M : St} {H : Hs} (hw : Wf H) (hm : ShM (M.1 1) H) (hp : 0 < H 0 2) : fX7_nextCamp F M 0 (-1) 0 = some (nI (vnext (fun q => M.1 12 (3 * q)) (H 0 2 - 1))) := by
  have hn := hw.2.2.1
  unfold fX7_nextCamp
  exact nextML (f := fun q => M.1 12 (3 * q)) hm.2.2.1 hn (fun q hq => onM0 (by omega)) F 0 (by omega) (by omega)
theorem firstX {X : St} {H : Hs} (hw : Wf H) (hx : ShX X.1 1 H) : ∀ (G m : Nat), m < H 0 2 → H 0 2 - m < G + 1 → fX2_firstCamp_L4 X G (nI (vnext (fun q => X.1 42 (3 * q)) m)) (nI (m + 1)) = some (nI (vnext (fun q => X.1 42 (3 * q)) (H 0 2 - 1))) := by
  have hn := hw.2.2.1
  intro G
  induction G with
  | zero => intro m h1 h2; omega
  | succ G ih =>
    intro m h1 h2
    have hl := vnext_le (fun q => X.1 42 (3 * q)) m
    rw [fX2_firstCamp_L4, hx.2.2.1]
    by_cases hm : m + 1 = H 0 2
    · rw [if_pos (nI_le (by omega) (by omega)), show H 0 2 - 1 = m by omega]
    · rw [if_neg (nI_ge (by omega) (by omega)), show (0 : Int32) = nI 0 from rfl, atX, bv_e, atX, ldi_e (by omega) (by decide), bv_e, ldi_e (by omega) (by decide)]
      simp only [pl_e]
      rw [nI_1, show 18 * 0 + 3 * (m + 1) + 0 = 3 * (m + 1) by omega, show 18 * 0 + 3 * vnext (fun q => X.1 42 (3 * q)) m + 0 = 3 * vnext (fun q => X.1 42 (3 * q)) m by omega]
      have := ih (m + 1) (by omega) (by omega)
      rw [vnext] at this
      by_cases c : X.1 42 (3 * vnext (fun q => X.1 42 (3 * q)) m) ≤ X.1 42 (3 * (m + 1))
      · rw [if_pos c] at this ⊢; exact this
      · rw [if_neg c] at this ⊢; exact this
