-- does it stand?
def vpole (H : Hs) : Nat → Nat
  | 0 => 0
  | p + 1 => vpole H p ||| (if H 1 p = 1 ∧ ¬ vgood H p ≤ 0 then 2 ^ H 2 p else 0)
def vover (H : Hs) (p : Nat) : Prop := H 6 p ≠ 0 ∧ (H 1 p = 2 ∨ H 1 p = 6) ∧ ¬ nI (H 8 0) ≤ vgood H p / 2 + 20
def cnt8 (k : Nat) : Nat := k % 2 + k / 2 % 2 + k / 4 % 2 + k / 8 % 2 + k / 16 % 2 + k / 32 % 2 + k / 64 % 2 + k / 128 % 2
def VS (H : Hs) : Prop := 3 ≤ cnt8 (vpole H (H 0 0)) ∧ (∀ p, p < H 0 0 → ¬ vover H p) ∧ (∀ s, s < 8 → 0 ≤ vsp H s)
theorem vpole_lt {H : Hs} (hw : Wf H) : ∀ p, p ≤ H 0 0 → vpole H p < 256 := by
  intro p
  induction p with
  | zero => intro _; exact Nat.le_of_ble_eq_true rfl
  | succ p ih =>
    intro hp
    have h2 := (hw.2.2.2.1 p (by omega)).2.1
    have h3 := ih (by omega)
    rw [vpole]
    refine Nat.or_lt_two_pow (n := 8) h3 ?_
    by_cases c : H 1 p = 1 ∧ ¬ vgood H p ≤ 0
    · rw [if_pos c]; exact Nat.pow_lt_pow_right (by decide) h2
    · rw [if_neg c]; decide
theorem vpole_s {H : Hs} {p : Nat} (hw : Wf H) (hp : p < H 0 0) : (nI (vpole H p) ||| (if H 1 p = 1 ∧ ¬ vgood H p ≤ 0 then (1 : Int32) <<< (nI (H 2 p) &&& 31) else 0)) = nI (vpole H (p + 1)) := by
  have h2 := (hw.2.2.2.1 p hp).2.1
  rw [vpole, shl1 _ (by omega), ← fa_or]
  by_cases c : H 1 p = 1 ∧ ¬ vgood H p ≤ 0
  · rw [if_pos c, if_pos c]
  · rw [if_neg c, if_neg c]; rfl
theorem bitC : ∀ (S : St) (k : Nat), k < 256 → fJ6_bitCount_0f7a4 S (nI k) = some (nI (cnt8 k)) := by
  have h : ∀ k, k < 256 → ((nI k - ((ushr (nI k) (1)) &&& (1431655765)))) = nI (k - (k / 2 &&& 85)) ∧ True := by decide +kernel
  have hh : ∀ k, k < 256 → (fun a1 : Int32 => (fun v1 : Int32 => (fun v2 : Int32 => (fun v3 : Int32 => (fun v4 : Int32 => (fun v5 : Int32 => v5 &&& 63) (v4 + (ushr v4 (16)))) (v3 + (ushr v3 (8)))) ((v2 + (ushr v2 (4))) &&& (252645135))) ((v1 &&& (858993459)) + ((ushr v1 (2)) &&& (858993459)))) (a1 - ((ushr a1 (1)) &&& (1431655765)))) (nI k) = nI (cnt8 k) := by decide +kernel
  intro S k hk
  exact congrArg some (hh k hk)
theorem bit8 : ∀ k, k < 256 → ∀ s, s < 8 → ((nI k) >>> (nI s &&& 31)) &&& 1 = nI (k / 2 ^ s % 2) := fun k hk s hs => bit_eq (by omega) (by omega)
theorem cnt8_le (k : Nat) : cnt8 k ≤ 8 := by unfold cnt8; omega
def cntS (k : Nat) : Nat → Nat
  | 0 => 0
  | s + 1 => cntS k s + k / 2 ^ s % 2
theorem cntS_8 (k : Nat) : cntS k 8 = cnt8 k := by
  simp only [cntS, cnt8]
  simp
-- the model's
theorem standS {F : Nat} (hF : 100 ≤ F) {M : St} {H : Hs} (hw : Wf H) (hm : ShM (M.1 1) H) {k : Nat} (hk : k < 256) {J : Int32 → Int32 → Option Int32} : ∀ (G s e : Nat), s ≤ 8 → 8 - s < G → e ≤ 1 → (e = 1 ↔ ∀ t, t < s → 0 ≤ vsp H t) → ∃ e', e' ≤ 1 ∧ (e' = 1 ↔ ∀ t, t < 8 → 0 ≤ vsp H t) ∧ fX7_isStanding_L103 F M (nI k) J G (nI (cntS k s)) (nI e) (nI s) = J (nI (cnt8 k)) (nI e') := by
  intro G
  induction G with
  | zero => intro s e h1 h2; omega
  | succ G ih =>
    intro s e h1 h2 he hes
    rw [fX7_isStanding_L103]
    by_cases hs : s = 8
    · subst hs
      exact ⟨e, he, hes, by rw [if_pos (show (8 : Int32) ≤ nI 8 from by decide), cntS_8]⟩
    · have hs' : s < 8 := by omega
      rw [if_neg (show ¬ (8 : Int32) ≤ nI s from nI_ge (b := 8) hs' (by decide)), bit8 k hk s hs', nI_add, spareM hF hw hm hs']
      simp only [pl_e, bv_e]
      rw [nI_1, if2 (lit_eq (a := e) (n := 0) (by omega) (by decide))]
      by_cases c : e = 0
      · rw [if_pos c]
        refine ih (s + 1) 0 (by omega) (by omega) (by omega) ?_
        constructor
        · intro q; omega
        · intro q
          have := hes.mpr (fun t ht => q t (by omega))
          omega
      · rw [if_neg c]
        have hall := hes.mp (by omega)
        by_cases c2 : vsp H s < 0
        · rw [if_pos c2]
          refine ih (s + 1) 0 (by omega) (by omega) (by omega) ?_
          constructor
          · intro q; omega
          · intro q
            have := q s (by omega)
            rw [fa_le] at this
            rw [fa_lt] at c2
            omega
        · rw [if_neg c2]
          refine ih (s + 1) 1 (by omega) (by omega) (by omega) ⟨fun _ t ht => ?_, fun _ => rfl⟩
          by_cases ht' : t = s
          · rw [ht']; exact fa_of_nlt c2
          · exact hall t (by omega)
theorem standP {M : St} {H : Hs} (hw : Wf H) (hm : ShM (M.1 1) H) {J : Int32 → Option Int32} : ∀ (G p : Nat), p ≤ H 0 0 → H 0 0 - p < G → ((∃ q, p ≤ q ∧ q < H 0 0 ∧ vover H q) ∧ fX7_isStanding_L4 M J G (nI (vpole H p)) (nI p) = some 0) ∨ ((∀ q, p ≤ q → q < H 0 0 → ¬ vover H q) ∧ fX7_isStanding_L4 M J G (nI (vpole H p)) (nI p) = J (nI (vpole H (H 0 0)))) := by
  have hn := hw.1
  intro G
  induction G with
  | zero => intro p h1 h2; omega
  | succ G ih =>
    intro p h1 h2
    rw [fX7_isStanding_L4, ldi_l (c := 1) 0 (by decide) (by decide), hm.1]
    by_cases hp : p = H 0 0
    · subst hp
      rw [if_pos (nI_le (Nat.le_refl _) (by omega))]
      exact Or.inr ⟨fun q h1 h2 => by omega, rfl⟩
    · have hp' : p < H 0 0 := by omega
      obtain ⟨k1, k2, -, -, -, k6⟩ := hw.2.2.2.1 p hp'
      have e0 : fX7_has M (nI p) 0 = some (nI (H 1 p)) := hasM hw hm hp' (w := 0) (by decide)
      have e1 : fX7_has M (nI p) 1 = some (nI (H 2 p)) := hasM hw hm hp' (w := 1) (by decide)
      rw [if_neg (nI_ge hp' (by omega)), e0, bv_e, goodM hw hm hp', isThereM hw hm hp', e1]
      simp only [bv_e, pl_e]
      rw [ldi_l (c := 1) 8 (by decide) (by decide), hm.2.2.2.2.2.1, if2 (lit_eq (a := H 1 p) (n := 1) (by omega) (by decide)), if2 (lit_eq (a := H 1 p) (n := 2) (by omega) (by decide)), if2 (lit_eq (a := H 1 p) (n := 6) (by omega) (by decide)), if2 (lit_eq (a := H 6 p) (n := 0) (by omega) (by decide)), nI_1]
      have hv := vpole_s hw hp'
      have hst : (if H 1 p = 1 then (if vgood H p ≤ 0 then fX7_isStanding_L4 M J G (nI (vpole H p) ||| 0) (nI (p + 1)) else fX7_isStanding_L4 M J G (nI (vpole H p) ||| (1 : Int32) <<< (nI (H 2 p) &&& 31)) (nI (p + 1))) else fX7_isStanding_L4 M J G (nI (vpole H p) ||| 0) (nI (p + 1))) = fX7_isStanding_L4 M J G (nI (vpole H (p + 1))) (nI (p + 1)) := by
        rw [← hv]
        by_cases c1 : H 1 p = 1
        · by_cases c2 : vgood H p ≤ 0
          · rw [if_pos c1, if_pos c2, if_neg (fun q => q.2 c2)]
          · rw [if_pos c1, if_neg c2, if_pos ⟨c1, c2⟩]
        · rw [if_neg c1, if_neg (fun q => c1 q.1)]
      rw [hst]
      by_cases hv : vover H p
      · refine Or.inl ⟨⟨p, Nat.le_refl _, hp', hv⟩, ?_⟩
        obtain ⟨v1, v2, v3⟩ := hv
        rw [if_neg v1, if_neg v3]
        rcases v2 with v2 | v2
        · rw [if_pos v2]
        · rw [if_pos v2, ite_self]
      · have hi := ih (p + 1) (by omega) (by omega)
        have hr : (if H 1 p = 2 then (if H 6 p = 0 then fX7_isStanding_L4 M J G (nI (vpole H (p + 1))) (nI (p + 1)) else if nI (H 8 0) ≤ vgood H p / 2 + 20 then fX7_isStanding_L4 M J G (nI (vpole H (p + 1))) (nI (p + 1)) else some 0) else if H 1 p = 6 then (if H 6 p = 0 then fX7_isStanding_L4 M J G (nI (vpole H (p + 1))) (nI (p + 1)) else if nI (H 8 0) ≤ vgood H p / 2 + 20 then fX7_isStanding_L4 M J G (nI (vpole H (p + 1))) (nI (p + 1)) else some 0) else fX7_isStanding_L4 M J G (nI (vpole H (p + 1))) (nI (p + 1))) = fX7_isStanding_L4 M J G (nI (vpole H (p + 1))) (nI (p + 1)) := by
          unfold vover at hv
          grind
        rw [hr]
        rcases hi with ⟨⟨q, q1, q2, q3⟩, h⟩ | ⟨q, h⟩
        · exact Or.inl ⟨⟨q, by omega, q2, q3⟩, h⟩
        · refine Or.inr ⟨fun q' h1' h2' => ?_, h⟩
          by_cases e : q' = p
          · rw [e]; exact hv
          · exact q q' (by omega) h2'
theorem standM {F : Nat} (hF : 100 ≤ F) {M : St} {H : Hs} (hw : Wf H) (hm : ShM (M.1 1) H) : (VS H ∧ fX7_isStanding F M = some 1) ∨ (¬ VS H ∧ fX7_isStanding F M = some 0) := by
  have hn := hw.1
  unfold fX7_isStanding
  rw [pl_e]
  rcases standP hw hm (J := fun v1 => pl (fun (v2 : Int32) (v3 : Int32) => if v3 = 0 then (some (0 : Int32)) else (if v2 < (3) then (some (0)) else (some (1)))) fun J144 => fX7_isStanding_L103 F M v1 J144 F (0) (1) (0)) F 0 (by omega) (by omega) with ⟨⟨q, -, q2, q3⟩, h⟩ | ⟨hq, h⟩
  · exact Or.inr ⟨fun v => v.2.1 q q2 q3, h⟩
  · obtain ⟨e, e1, e2, e3⟩ := standS hF hw hm (vpole_lt hw (H 0 0) (Nat.le_refl _)) (J := fun v2 v3 => if v3 = 0 then (some (0 : Int32)) else (if v2 < (3) then (some (0)) else (some (1)))) F 0 1 (by omega) (by omega) (by omega) ⟨fun _ t ht => by omega, fun _ => rfl⟩
    have h' := h.trans ((pl_e _ _).trans e3)
    have hc := cnt8_le (vpole H (H 0 0))
    rw [if2 (lit_eq (a := e) (n := 0) (by omega) (by decide))] at h'
    by_cases c : e = 0
    · rw [if_pos c] at h'
      refine Or.inr ⟨fun v => ?_, h'⟩
      have := e2.mpr v.2.2
      omega
    · rw [if_neg c] at h'
      by_cases c3 : cnt8 (vpole H (H 0 0)) < 3
      · rw [if_pos (show nI (cnt8 (vpole H (H 0 0))) < (3 : Int32) from nI_lt (b := 3) c3 (by decide))] at h'
        refine Or.inr ⟨fun v => ?_, h'⟩
        have := v.1
        omega
      · rw [if_neg (show ¬ nI (cnt8 (vpole H (H 0 0))) < (3 : Int32) from nI_nlt (b := 3) (by omega) (by omega))] at h'
        exact Or.inl ⟨⟨by omega, fun p hp => hq p (by omega) hp, e2.mp (by omega)⟩, h'⟩
