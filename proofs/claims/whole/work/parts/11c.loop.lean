def s_part (Rel : St → St → Prop) (F : Nat) : Prop := ∀ (Sx Sm : St) (a1 : Int32) (a2 : Int32) (a3 : Int32) (a4 : Int32), Rel Sx Sm → ∃ (Sx1 Sm1 : St) (v : Int32), fX6_part Sx a1 a2 a3 a4 = some (Sx1, v) ∧ fX7_part Sm a1 a2 a3 a4 = some (Sm1, v) ∧ Rel Sx1 Sm1
def s_of (Rel : St → St → Prop) (F : Nat) : Prop := ∀ (Sx Sm : St) (a1 : Int32) (a2 : Int32), Rel Sx Sm → ∃ (Sx1 Sm1 : St) (v : Int32), fX6_of Sx a1 a2 = some (Sx1, v) ∧ fX7_of Sm a1 a2 = some (Sm1, v) ∧ Rel Sx1 Sm1
def s_set (Rel : St → St → Prop) (F : Nat) : Prop := ∀ (Sx Sm : St) (a1 : Int32) (a2 : Int32) (a3 : Int32), Rel Sx Sm → ∃ (Sx1 Sm1 : St) (v : Int32), fX6_set Sx a1 a2 a3 = some (Sx1, v) ∧ fX7_set Sm a1 a2 a3 = some (Sm1, v) ∧ Rel Sx1 Sm1
def s_want (Rel : St → St → Prop) (F : Nat) : Prop := ∀ (Sx Sm : St) (a1 : Int32) (a2 : Int32), Rel Sx Sm → (a2 = 0 ∨ a2 = 1) → ∃ (Sx1 Sm1 : St) (v : Int32), fX6_want Sx a1 a2 = some (Sx1, v) ∧ fX7_want Sm a1 a2 = some (Sm1, v) ∧ Rel Sx1 Sm1
def s_as (Rel : St → St → Prop) (F : Nat) : Prop := ∀ (Sx Sm : St) (a1 : Int32) (a2 : Int32), Rel Sx Sm → ∃ (Sx1 Sm1 : St) (v : Int32), fX6_as F Sx a1 a2 = some (Sx1, v) ∧ fX7_as Sm a1 a2 = some (Sm1, v) ∧ Rel Sx1 Sm1
def s_sky (Rel : St → St → Prop) (F : Nat) : Prop := ∀ (Sx Sm : St) (a1 : Int32) (a2 : Int32), Rel Sx Sm → ∃ (Sx1 Sm1 : St) (v : Int32), fX6_sky Sx a1 a2 = some (Sx1, v) ∧ fX7_sky Sm a1 a2 = some (Sm1, v) ∧ Rel Sx1 Sm1
def s_draw (Rel : St → St → Prop) (F : Nat) : Prop := ∀ (Sx Sm : St) (a1 : Int32), Rel Sx Sm → ∃ (Sx1 Sm1 : St) (v : Int32), fX6_draw Sx a1 = some (Sx1, v) ∧ fX7_draw Sm a1 = some (Sm1, v) ∧ Rel Sx1 Sm1
def s_age (Rel : St → St → Prop) (F : Nat) : Prop := ∀ (Sx Sm : St) (a1 : Int32), Rel Sx Sm → ∃ (Sx1 Sm1 : St) (v : Int32), fX6_age F Sx a1 = some (Sx1, v) ∧ fX7_age F Sm a1 = some (Sm1, v) ∧ Rel Sx1 Sm1
def s_side (Rel : St → St → Prop) (F : Nat) : Prop := ∀ (Sx Sm : St) (a1 : Int32) (a2 : Int32), Rel Sx Sm → ∃ (Sx1 Sm1 : St) (v : Int32), fX6_side F Sx a1 a2 = some (Sx1, v) ∧ fX7_side F Sm a1 a2 = some (Sm1, v) ∧ Rel Sx1 Sm1
def s_stands (Rel : St → St → Prop) (F : Nat) : Prop := ∀ (Sx Sm : St) , Rel Sx Sm → ∃ (Sx1 : St) (v : Int32), fX6_stands F Sx = some (Sx1, v) ∧ fX7_stands F Sm = some v ∧ Rel Sx1 Sm
def s_first (Rel : St → St → Prop) (F : Nat) : Prop := ∀ (Sx Sm : St) , Rel Sx Sm → ∃ (Sx1 : St) (v : Int32), fX6_first F Sx = some (Sx1, v) ∧ fX7_first F Sm = some v ∧ Rel Sx1 Sm
def s_gust (Rel : St → St → Prop) (F : Nat) : Prop := ∀ (Sx Sm : St) , Rel Sx Sm → ∃ (Sx1 Sm1 : St) (v : Int32), fX6_gust F Sx = some (Sx1, v) ∧ fX7_gust F Sm = some (Sm1, v) ∧ Rel Sx1 Sm1
def s_canWant (Rel : St → St → Prop) (F : Nat) : Prop := ∀ (Sx Sm : St) , Rel Sx Sm → ∃ (Sx1 Sm1 : St) (v : Int32), fX6_canWant F Sx = some (Sx1, v) ∧ fX7_canWant F Sm = some (Sm1, v) ∧ Rel Sx1 Sm1
def s_span (Rel : St → St → Prop) (F : Nat) : Prop := ∀ (Sx Sm : St) (a1 : Int32), Rel Sx Sm → ∃ (Sx1 Sm1 : St) (v : Int32), fX6_span F Sx a1 = some (Sx1, v) ∧ fX7_span F Sm a1 = some (Sm1, v) ∧ Rel Sx1 Sm1
def s_worst (Rel : St → St → Prop) (F : Nat) : Prop := ∀ (Sx Sm : St) , Rel Sx Sm → ∃ (Sx1 Sm1 : St) (v : Int32), fX6_worst F Sx = some (Sx1, v) ∧ fX7_worst F Sm = some (Sm1, v) ∧ Rel Sx1 Sm1
def s_warmth (Rel : St → St → Prop) (F : Nat) : Prop := ∀ (Sx Sm : St) (a1 : Int32), Rel Sx Sm → ∃ (Sx1 Sm1 : St) (v : Int32), fX6_warmth F Sx a1 = some (Sx1, v) ∧ fX7_warmth F Sm a1 = some (Sm1, v) ∧ Rel Sx1 Sm1
def s_idle (Rel : St → St → Prop) (F : Nat) : Prop := ∀ (Sx Sm : St) , Rel Sx Sm → ∃ (Sx1 Sm1 : St) (v : Int32), fX6_idle F Sx = some (Sx1, v) ∧ fX7_idle F Sm = some (Sm1, v) ∧ Rel Sx1 Sm1
def s_beast (Rel : St → St → Prop) (F : Nat) : Prop := ∀ (Sx Sm : St) (a1 : Int32), Rel Sx Sm → ∃ (Sx1 Sm1 : St) (v : Int32), fX6_beast Sx a1 = some (Sx1, v) ∧ fX7_beast Sm a1 = some (Sm1, v) ∧ Rel Sx1 Sm1
def s_cap (Rel : St → St → Prop) (F : Nat) : Prop := ∀ (Sx Sm : St) (a1 : Int32), Rel Sx Sm → ∃ (Sx1 Sm1 : St) (v : Int32), fX6_cap Sx a1 = some (Sx1, v) ∧ fX7_cap Sm a1 = some (Sm1, v) ∧ Rel Sx1 Sm1
def s_beasts (Rel : St → St → Prop) (F : Nat) : Prop := ∀ (Sx Sm : St) (a1 : Int32), Rel Sx Sm → ∃ (Sx1 Sm1 : St) (v : Int32), fX6_beasts F Sx a1 = some (Sx1, v) ∧ fX7_beasts F Sm a1 = some (Sm1, v) ∧ Rel Sx1 Sm1
def s_even (Rel : St → St → Prop) (F : Nat) : Prop := ∀ (Sx Sm : St) (a1 : Int32) (a2 : Int32), Rel Sx Sm → ∃ (Sx1 Sm1 : St) (v : Int32), fX6_even F Sx a1 a2 = some (Sx1, v) ∧ fX7_even F Sm a1 a2 = some (Sm1, v) ∧ Rel Sx1 Sm1
def s_camp (Rel : St → St → Prop) (F : Nat) : Prop := ∀ (Sx Sm : St) (a1 : Int32), Rel Sx Sm → ∃ (Sx1 Sm1 : St) (v : Int32), fX6_camp F Sx a1 = some (Sx1, v) ∧ fX7_camp F Sm a1 = some (Sm1, v) ∧ Rel Sx1 Sm1
def s_grass (Rel : St → St → Prop) (F : Nat) : Prop := ∀ (Sx Sm : St) (a1 : Int32) (a2 : Int32) (a3 : Int32), Rel Sx Sm → ∃ (Sx1 Sm1 : St) (v : Int32), fX6_grass Sx a1 a2 a3 = some (Sx1, v) ∧ fX7_grass Sm a1 a2 a3 = some (Sm1, v) ∧ Rel Sx1 Sm1
def s_campOf (Rel : St → St → Prop) (F : Nat) : Prop := ∀ (Sx Sm : St) (a1 : Int32) (a2 : Int32), Rel Sx Sm → ∃ (Sx1 Sm1 : St) (v : Int32), fX6_campOf Sx a1 a2 = some (Sx1, v) ∧ fX7_campOf Sm a1 a2 = some (Sm1, v) ∧ Rel Sx1 Sm1
def s_herd (Rel : St → St → Prop) (F : Nat) : Prop := ∀ (Sx Sm : St) (a1 : Int32) (a2 : Int32), Rel Sx Sm → ∃ (Sx1 Sm1 : St) (v : Int32), fX6_herd Sx a1 a2 = some (Sx1, v) ∧ fX7_herd Sm a1 a2 = some (Sm1, v) ∧ Rel Sx1 Sm1
def s_year (Rel : St → St → Prop) (F : Nat) : Prop := ∀ (Sx Sm : St) (a1 : Int32) (a2 : Int32) (a3 : Int32), Rel Sx Sm → ∃ (Sx1 Sm1 : St) (v : Int32), fX6_year F Sx a1 a2 a3 = some (Sx1, v) ∧ fX7_year F Sm a1 a2 a3 = some (Sm1, v) ∧ Rel Sx1 Sm1
def s_moves (Rel : St → St → Prop) (F : Nat) : Prop := ∀ (Sx Sm : St) (a1 : Int32) (a2 : Int32), Rel Sx Sm → ∃ (Sx1 Sm1 : St) (v : Int32), fX6_moves F Sx a1 a2 = some (Sx1, v) ∧ fX7_moves F Sm a1 a2 = some (Sm1, v) ∧ Rel Sx1 Sm1
def s_feed (Rel : St → St → Prop) (F : Nat) : Prop := ∀ (Sx Sm : St) (a1 : Int32) (a2 : Int32), Rel Sx Sm → ∃ (Sx1 Sm1 : St) (v : Int32), fX6_feed F Sx a1 a2 = some (Sx1, v) ∧ fX7_feed F Sm a1 a2 = some (Sm1, v) ∧ Rel Sx1 Sm1
def s_wipe (Rel : St → St → Prop) (F : Nat) : Prop := ∀ (Sx Sm : St) , Rel Sx Sm → ∃ (Sx1 Sm1 : St) (v : Int32), fX6_wipe Sx = some (Sx1, v) ∧ fX7_wipe Sm = some (Sm1, v) ∧ Rel Sx1 Sm1
def s_house (Rel : St → St → Prop) (F : Nat) : Prop := ∀ (Sx Sm : St) , Rel Sx Sm → ∃ (Sx1 Sm1 : St) (v : Int32), fX6_house F Sx = some (Sx1, v) ∧ fX7_house F Sm = some (Sm1, v) ∧ Rel Sx1 Sm1
def s_sheet (Rel : St → St → Prop) (F : Nat) : Prop := ∀ (Sx Sm : St) (a1 : Int32) (a2 : Int32) (a3 : Int32), Rel Sx Sm → ∃ (Sx1 Sm1 : St) (v : Int32), fX6_sheet F Sx a1 a2 a3 = some (Sx1, v) ∧ fX7_sheet F Sm a1 a2 a3 = some (Sm1, v) ∧ Rel Sx1 Sm1
def s_write (Rel : St → St → Prop) (F : Nat) : Prop := ∀ (Sx Sm : St) (a1 : Int32) (a2 : Int32) (a3 : Int64), Rel Sx Sm → ∃ (Sx1 Sm1 : St) (v : Int64), fX6_write Sx a1 a2 a3 = some (Sx1, v) ∧ fX7_write Sm a1 a2 a3 = some (Sm1, v) ∧ Rel Sx1 Sm1
def s_copy (Rel : St → St → Prop) (F : Nat) : Prop := ∀ (Sx Sm : St) (a1 : Int32) (a2 : Int32) (a3 : Int32) (a4 : Int32) (a5 : Int32), Rel Sx Sm → ∃ (Sx1 Sm1 : St) (v : Int32), fX6_copy Sx a1 a2 a3 a4 a5 = some (Sx1, v) ∧ fX7_copy F Sm a1 a2 a3 a4 a5 = some (Sm1, v) ∧ Rel Sx1 Sm1
def s_lays (Rel : St → St → Prop) (F : Nat) : Prop := ∀ (Sx Sm : St) (a1 : Int32) (a2 : Int32), Rel Sx Sm → ∃ (Sx1 Sm1 : St) (v : Int32), fX6_lays F Sx a1 a2 = some (Sx1, v) ∧ fX7_lays F Sm a1 a2 = some (Sm1, v) ∧ Rel Sx1 Sm1
def s_costs (Rel : St → St → Prop) (F : Nat) : Prop := ∀ (Sx Sm : St) (a1 : Int32) (a2 : Int32), Rel Sx Sm → ∃ (Sx1 Sm1 : St) (v : Int32), fX6_costs F Sx a1 a2 = some (Sx1, v) ∧ fX7_costs F Sm a1 a2 = some (Sm1, v) ∧ Rel Sx1 Sm1
def s_read (Rel : St → St → Prop) (F : Nat) : Prop := ∀ (Sx Sm : St) (a1 : Int32), Rel Sx Sm → ∃ (Sx1 Sm1 : St) (v : Int32), fX6_read F Sx a1 = some (Sx1, v) ∧ fX7_read F Sm a1 = some (Sm1, v) ∧ Rel Sx1 Sm1
def s_image (Rel : St → St → Prop) (F : Nat) : Prop := ∀ (Sx Sm : St) , Rel Sx Sm → ∃ (Sx1 Sm1 : St) (v : Int32), fX6_image Sx = some (Sx1, v) ∧ fX7_image F Sm = some (Sm1, v) ∧ Rel Sx1 Sm1
def s_undo (Rel : St → St → Prop) (F : Nat) : Prop := ∀ (Sx Sm : St) , Rel Sx Sm → ∃ (Sx1 Sm1 : St) (v : Int32), fX6_undo Sx = some (Sx1, v) ∧ fX7_undo F Sm = some (Sm1, v) ∧ Rel Sx1 Sm1
def s_tear (Rel : St → St → Prop) (F : Nat) : Prop := ∀ (Sx Sm : St) , Rel Sx Sm → ∃ (Sx1 Sm1 : St) (v : Int32), fX6_tear Sx = some (Sx1, v) ∧ fX7_tear Sm = some (Sm1, v) ∧ Rel Sx1 Sm1
def s_count (Rel : St → St → Prop) (F : Nat) : Prop := ∀ (Sx Sm : St) (a1 : Int32), Rel Sx Sm → ∃ (Sx1 Sm1 : St) (v : Int32), fX6_count F Sx a1 = some (Sx1, v) ∧ fX7_count F Sm a1 = some (Sm1, v) ∧ Rel Sx1 Sm1
def s_status (Rel : St → St → Prop) (F : Nat) : Prop := ∀ (Sx Sm : St) (a1 : Int32), Rel Sx Sm → ∃ (Sx1 Sm1 : St) (v : Int32), fX6_status F Sx a1 = some (Sx1, v) ∧ fX7_status Sm a1 = some (Sm1, v) ∧ Rel Sx1 Sm1
def Steps41 (Rel : St → St → Prop) (F : Nat) : Prop := s_part Rel F ∧ s_of Rel F ∧ s_set Rel F ∧ s_want Rel F ∧ s_as Rel F ∧ s_sky Rel F ∧ s_draw Rel F ∧ s_age Rel F ∧ s_side Rel F ∧ s_stands Rel F ∧ s_first Rel F ∧ s_gust Rel F ∧ s_canWant Rel F ∧ s_span Rel F ∧ s_worst Rel F ∧ s_warmth Rel F ∧ s_idle Rel F ∧ s_beast Rel F ∧ s_cap Rel F ∧ s_beasts Rel F ∧ s_even Rel F ∧ s_camp Rel F ∧ s_grass Rel F ∧ s_campOf Rel F ∧ s_herd Rel F ∧ s_year Rel F ∧ s_moves Rel F ∧ s_feed Rel F ∧ s_wipe Rel F ∧ s_house Rel F ∧ s_sheet Rel F ∧ s_write Rel F ∧ s_copy Rel F ∧ s_lays Rel F ∧ s_costs Rel F ∧ s_read Rel F ∧ s_image Rel F ∧ s_undo Rel F ∧ s_tear Rel F ∧ s_count Rel F ∧ s_status Rel F
theorem lim_gt {i L : Nat} (hL : L ≤ 3072) (hi : i ≤ 3078) : Int32.ofNat L - 6 < nI i ↔ L < i + 6 := by
  have e : (Int32.ofNat L - 6 : Int32) = nI L - nI 6 := rfl
  rw [e, fa_lt]
  rw [pk_sub_toInt (by omega) (by omega), nI_toInt (by omega)]
  omega
set_option maxRecDepth 100000 in
set_option maxHeartbeats 4000000 in
theorem law_loop {Rel : St → St → Prop} {F : Nat} (hst : Steps41 Rel F) {q : QT} {X : XT} {b L : Nat} {xs : Nat → Int32} (hL : L ≤ 3072) (C : LOk q X b L xs) : ∀ (n i : Nat) (Sx Sm : St), Rel Sx Sm → i ≤ L + 6 → L + 7 ≤ i + n → LW q X Sx Sm 18 [(0, .ref b), (1, rf (qX q) 0), (2, rf (qM q) 0), (3, .int (nI i))] [] := by
  obtain ⟨h_part, h_of, h_set, h_want, h_as, h_sky, h_draw, h_age, h_side, h_stands, h_first, h_gust, h_canWant, h_span, h_worst, h_warmth, h_idle, h_beast, h_cap, h_beasts, h_even, h_camp, h_grass, h_campOf, h_herd, h_year, h_moves, h_feed, h_wipe, h_house, h_sheet, h_write, h_copy, h_lays, h_costs, h_read, h_image, h_undo, h_tear, h_count, h_status⟩ := hst
  intro n
  induction n with
  | zero => intro i Sx Sm hR h1 h2; omega
  | succ n ih =>
    intro i Sx Sm hR h1 h2
    refine l_iload C dL_law_18 rfl 3 rfl ?_
    refine l_aload C dL_law_19 rfl 0 rfl ?_
    refine l_slen C dL_law_20 ?_
    refine l_bipush (v := 6) C dL_law_21 (by decide) ?_
    refine l_isub C dL_law_23 ?_
    refine l_gt C 1388 dL_law_24 (by decide) (fun hc => ?_) (fun hc => ?_)
    · refine l_iconst (v := 1) C dL_law_1388 (by decide) ?_
      exact l_ret C dL_law_1389
    have hi : i + 6 ≤ L := by
      have := mt (lim_gt hL (by omega)).mpr hc
      omega
    have hgo : ∀ Sx1 Sm1, Rel Sx1 Sm1 → LW q X Sx1 Sm1 1382 [(0, .ref b), (1, rf (qX q) 0), (2, rf (qM q) 0), (3, .int (nI i))] [] := by
      intro Sx1 Sm1 hR1
      refine l_iinc (v := nI (i + 6)) (w := nI 6) C dL_law_1382 3 rfl (by decide) (nI_add i 6) (by decide) [(3, .int (nI (i + 6))), (0, .ref b), (1, rf (qX q) 0), (2, rf (qM q) 0)] rfl ?_
      refine l_goto C 18 dL_law_1385 (by decide) ?_
      exact l_sub [1, 2, 3, 0] rfl (ih (i + 6) Sx1 Sm1 hR1 (by omega) (by omega))
    refine l_aload C dL_law_27 rfl 0 rfl ?_
    refine l_iload C dL_law_28 rfl 3 rfl ?_
    obtain ⟨a0, e0⟩ : ∃ a0, xs (nI i).toNatClampNeg = a0 := ⟨_, rfl⟩
    refine l_sld C (vp_in_nI (by omega) (by omega)) e0 dL_law_29 ?_
    refine l_bipush (v := 63) C dL_law_30 (by decide) ?_
    refine l_iand C dL_law_32 ?_
    obtain ⟨a1, e1⟩ : ∃ a, xs (nI i + 1).toNatClampNeg = a := ⟨_, rfl⟩
    obtain ⟨a2, e2⟩ : ∃ a, xs (nI i + 2).toNatClampNeg = a := ⟨_, rfl⟩
    obtain ⟨a3, e3⟩ : ∃ a, xs (nI i + 3).toNatClampNeg = a := ⟨_, rfl⟩
    obtain ⟨a4, e4⟩ : ∃ a, xs (nI i + 4).toNatClampNeg = a := ⟨_, rfl⟩
    obtain ⟨a5, e5⟩ : ∃ a, xs (nI i + 5).toNatClampNeg = a := ⟨_, rfl⟩
    obtain ⟨op, eop⟩ : ∃ o, a0 &&& 63 = o := ⟨_, rfl⟩
    rw [eop]
    by_cases c0 : op = 0
    · obtain ⟨Sx1, Sm1, v, hX, hM, hR1⟩ := h_part Sx Sm a1 a2 a3 a4 hR
      refine l_tabIn C 212 dL_law_33 c0 rfl (by decide) (by decide) rfl (by decide) ?_
      exact lc_part (F := F) C hi hL e1 e2 e3 e4 hX hM (hgo _ _ hR1)
    by_cases c1 : op = 1
    · obtain ⟨Sx1, Sm1, v, hX, hM, hR1⟩ := h_of Sx Sm a1 a2 hR
      refine l_tabIn C 265 dL_law_33 c1 rfl (by decide) (by decide) rfl (by decide) ?_
      exact lc_of (F := F) C hi hL e1 e2 hX hM (hgo _ _ hR1)
    by_cases c2 : op = 2
    · obtain ⟨Sx1, Sm1, v, hX, hM, hR1⟩ := h_set Sx Sm a1 a2 a3 hR
      refine l_tabIn C 298 dL_law_33 c2 rfl (by decide) (by decide) rfl (by decide) ?_
      exact lc_set (F := F) C hi hL e1 e2 e3 hX hM (hgo _ _ hR1)
    by_cases c3 : op = 3
    · obtain ⟨Sx1, Sm1, v, hX, hM, hR1⟩ := h_want Sx Sm a1 (if a2 = 0 then 0 else 1) hR (by by_cases z : a2 = 0 <;> simp [z])
      refine l_tabIn C 341 dL_law_33 c3 rfl (by decide) (by decide) rfl (by decide) ?_
      exact lc_want (F := F) C hi hL e1 e2 rfl hX hM (hgo _ _ hR1)
    by_cases c4 : op = 4
    · obtain ⟨Sx1, Sm1, v, hX, hM, hR1⟩ := h_as Sx Sm a1 a2 hR
      refine l_tabIn C 390 dL_law_33 c4 rfl (by decide) (by decide) rfl (by decide) ?_
      exact lc_as (F := F) C hi hL e1 e2 hX hM (hgo _ _ hR1)
    by_cases c5 : op = 5
    · obtain ⟨Sx1, Sm1, v, hX, hM, hR1⟩ := h_sky Sx Sm a1 a2 hR
      refine l_tabIn C 423 dL_law_33 c5 rfl (by decide) (by decide) rfl (by decide) ?_
      exact lc_sky (F := F) C hi hL e1 e2 hX hM (hgo _ _ hR1)
    by_cases c6 : op = 6
    · obtain ⟨Sx1, Sm1, v, hX, hM, hR1⟩ := h_draw Sx Sm a1 hR
      refine l_tabIn C 456 dL_law_33 c6 rfl (by decide) (by decide) rfl (by decide) ?_
      exact lc_draw (F := F) C hi hL e1 hX hM (hgo _ _ hR1)
    by_cases c7 : op = 7
    · obtain ⟨Sx1, Sm1, v, hX, hM, hR1⟩ := h_age Sx Sm a1 hR
      refine l_tabIn C 479 dL_law_33 c7 rfl (by decide) (by decide) rfl (by decide) ?_
      exact lc_age (F := F) C hi hL e1 hX hM (hgo _ _ hR1)
    by_cases c8 : op = 8
    · obtain ⟨Sx1, Sm1, v, hX, hM, hR1⟩ := h_side Sx Sm a1 a2 hR
      refine l_tabIn C 502 dL_law_33 c8 rfl (by decide) (by decide) rfl (by decide) ?_
      exact lc_side (F := F) C hi hL e1 e2 hX hM (hgo _ _ hR1)
    by_cases c9 : op = 9
    · obtain ⟨Sx1, v, hX, hM, hR1⟩ := h_stands Sx Sm  hR
      refine l_tabIn C 535 dL_law_33 c9 rfl (by decide) (by decide) rfl (by decide) ?_
      exact lc_stands (F := F) C hi hL  hX hM (hgo _ _ hR1)
    by_cases c10 : op = 10
    · obtain ⟨Sx1, v, hX, hM, hR1⟩ := h_first Sx Sm  hR
      refine l_tabIn C 548 dL_law_33 c10 rfl (by decide) (by decide) rfl (by decide) ?_
      exact lc_first (F := F) C hi hL  hX hM (hgo _ _ hR1)
    by_cases c11 : op = 11
    · obtain ⟨Sx1, Sm1, v, hX, hM, hR1⟩ := h_gust Sx Sm  hR
      refine l_tabIn C 561 dL_law_33 c11 rfl (by decide) (by decide) rfl (by decide) ?_
      exact lc_gust (F := F) C hi hL  hX hM (hgo _ _ hR1)
    by_cases c12 : op = 12
    · obtain ⟨Sx1, Sm1, v, hX, hM, hR1⟩ := h_canWant Sx Sm  hR
      refine l_tabIn C 574 dL_law_33 c12 rfl (by decide) (by decide) rfl (by decide) ?_
      exact lc_canWant (F := F) C hi hL  hX hM (hgo _ _ hR1)
    by_cases c13 : op = 13
    · obtain ⟨Sx1, Sm1, v, hX, hM, hR1⟩ := h_span Sx Sm a1 hR
      refine l_tabIn C 587 dL_law_33 c13 rfl (by decide) (by decide) rfl (by decide) ?_
      exact lc_span (F := F) C hi hL e1 hX hM (hgo _ _ hR1)
    by_cases c14 : op = 14
    · obtain ⟨Sx1, Sm1, v, hX, hM, hR1⟩ := h_worst Sx Sm  hR
      refine l_tabIn C 610 dL_law_33 c14 rfl (by decide) (by decide) rfl (by decide) ?_
      exact lc_worst (F := F) C hi hL  hX hM (hgo _ _ hR1)
    by_cases c15 : op = 15
    · obtain ⟨Sx1, Sm1, v, hX, hM, hR1⟩ := h_warmth Sx Sm a1 hR
      refine l_tabIn C 623 dL_law_33 c15 rfl (by decide) (by decide) rfl (by decide) ?_
      exact lc_warmth (F := F) C hi hL e1 hX hM (hgo _ _ hR1)
    by_cases c16 : op = 16
    · obtain ⟨Sx1, Sm1, v, hX, hM, hR1⟩ := h_idle Sx Sm  hR
      refine l_tabIn C 646 dL_law_33 c16 rfl (by decide) (by decide) rfl (by decide) ?_
      exact lc_idle (F := F) C hi hL  hX hM (hgo _ _ hR1)
    by_cases c17 : op = 17
    · obtain ⟨Sx1, Sm1, v, hX, hM, hR1⟩ := h_beast Sx Sm a1 hR
      refine l_tabIn C 659 dL_law_33 c17 rfl (by decide) (by decide) rfl (by decide) ?_
      exact lc_beast (F := F) C hi hL e1 hX hM (hgo _ _ hR1)
    by_cases c18 : op = 18
    · obtain ⟨Sx1, Sm1, v, hX, hM, hR1⟩ := h_cap Sx Sm a1 hR
      refine l_tabIn C 682 dL_law_33 c18 rfl (by decide) (by decide) rfl (by decide) ?_
      exact lc_cap (F := F) C hi hL e1 hX hM (hgo _ _ hR1)
    by_cases c19 : op = 19
    · obtain ⟨Sx1, Sm1, v, hX, hM, hR1⟩ := h_beasts Sx Sm a1 hR
      refine l_tabIn C 705 dL_law_33 c19 rfl (by decide) (by decide) rfl (by decide) ?_
      exact lc_beasts (F := F) C hi hL e1 hX hM (hgo _ _ hR1)
    by_cases c20 : op = 20
    · obtain ⟨Sx1, Sm1, v, hX, hM, hR1⟩ := h_even Sx Sm a1 a2 hR
      refine l_tabIn C 728 dL_law_33 c20 rfl (by decide) (by decide) rfl (by decide) ?_
      exact lc_even (F := F) C hi hL e1 e2 hX hM (hgo _ _ hR1)
    by_cases c21 : op = 21
    · obtain ⟨Sx1, Sm1, v, hX, hM, hR1⟩ := h_camp Sx Sm a1 hR
      refine l_tabIn C 761 dL_law_33 c21 rfl (by decide) (by decide) rfl (by decide) ?_
      exact lc_camp (F := F) C hi hL e1 hX hM (hgo _ _ hR1)
    by_cases c22 : op = 22
    · obtain ⟨Sx1, Sm1, v, hX, hM, hR1⟩ := h_grass Sx Sm a1 a2 a3 hR
      refine l_tabIn C 784 dL_law_33 c22 rfl (by decide) (by decide) rfl (by decide) ?_
      exact lc_grass (F := F) C hi hL e1 e2 e3 hX hM (hgo _ _ hR1)
    by_cases c23 : op = 23
    · obtain ⟨Sx1, Sm1, v, hX, hM, hR1⟩ := h_campOf Sx Sm a1 a2 hR
      refine l_tabIn C 827 dL_law_33 c23 rfl (by decide) (by decide) rfl (by decide) ?_
      exact lc_campOf (F := F) C hi hL e1 e2 hX hM (hgo _ _ hR1)
    by_cases c24 : op = 24
    · obtain ⟨Sx1, Sm1, v, hX, hM, hR1⟩ := h_herd Sx Sm a1 a2 hR
      refine l_tabIn C 860 dL_law_33 c24 rfl (by decide) (by decide) rfl (by decide) ?_
      exact lc_herd (F := F) C hi hL e1 e2 hX hM (hgo _ _ hR1)
    by_cases c25 : op = 25
    · obtain ⟨Sx1, Sm1, v, hX, hM, hR1⟩ := h_year Sx Sm a1 a2 a3 hR
      refine l_tabIn C 893 dL_law_33 c25 rfl (by decide) (by decide) rfl (by decide) ?_
      exact lc_year (F := F) C hi hL e1 e2 e3 hX hM (hgo _ _ hR1)
    by_cases c26 : op = 26
    · obtain ⟨Sx1, Sm1, v, hX, hM, hR1⟩ := h_moves Sx Sm a1 a2 hR
      refine l_tabIn C 936 dL_law_33 c26 rfl (by decide) (by decide) rfl (by decide) ?_
      exact lc_moves (F := F) C hi hL e1 e2 hX hM (hgo _ _ hR1)
    by_cases c27 : op = 27
    · obtain ⟨Sx1, Sm1, v, hX, hM, hR1⟩ := h_feed Sx Sm a1 a2 hR
      refine l_tabIn C 969 dL_law_33 c27 rfl (by decide) (by decide) rfl (by decide) ?_
      exact lc_feed (F := F) C hi hL e1 e2 hX hM (hgo _ _ hR1)
    by_cases c28 : op = 28
    · obtain ⟨Sx1, Sm1, v, hX, hM, hR1⟩ := h_wipe Sx Sm  hR
      refine l_tabIn C 1002 dL_law_33 c28 rfl (by decide) (by decide) rfl (by decide) ?_
      exact lc_wipe (F := F) C hi hL  hX hM (hgo _ _ hR1)
    by_cases c29 : op = 29
    · obtain ⟨Sx1, Sm1, v, hX, hM, hR1⟩ := h_house Sx Sm  hR
      refine l_tabIn C 1015 dL_law_33 c29 rfl (by decide) (by decide) rfl (by decide) ?_
      exact lc_house (F := F) C hi hL  hX hM (hgo _ _ hR1)
    by_cases c30 : op = 30
    · obtain ⟨Sx1, Sm1, v, hX, hM, hR1⟩ := h_sheet Sx Sm a1 a2 a3 hR
      refine l_tabIn C 1028 dL_law_33 c30 rfl (by decide) (by decide) rfl (by decide) ?_
      exact lc_sheet (F := F) C hi hL e1 e2 e3 hX hM (hgo _ _ hR1)
    by_cases c31 : op = 31
    · obtain ⟨Sx1, Sm1, v, hX, hM, hR1⟩ := h_write Sx Sm a1 a2 (a3.toInt64 <<< ((32 : Int32).toInt64 &&& 63) ||| a4.toInt64 &&& 4294967295) hR
      refine l_tabIn C 1071 dL_law_33 c31 rfl (by decide) (by decide) rfl (by decide) ?_
      exact lc_write (F := F) C hi hL e1 e2 e3 e4 hX hM (hgo _ _ hR1)
    by_cases c32 : op = 32
    · obtain ⟨Sx1, Sm1, v, hX, hM, hR1⟩ := h_copy Sx Sm a1 a2 a3 a4 a5 hR
      refine l_tabIn C 1145 dL_law_33 c32 rfl (by decide) (by decide) rfl (by decide) ?_
      exact lc_copy (F := F) C hi hL e1 e2 e3 e4 e5 hX hM (hgo _ _ hR1)
    by_cases c33 : op = 33
    · obtain ⟨Sx1, Sm1, v, hX, hM, hR1⟩ := h_lays Sx Sm a1 a2 hR
      refine l_tabIn C 1208 dL_law_33 c33 rfl (by decide) (by decide) rfl (by decide) ?_
      exact lc_lays (F := F) C hi hL e1 e2 hX hM (hgo _ _ hR1)
    by_cases c34 : op = 34
    · obtain ⟨Sx1, Sm1, v, hX, hM, hR1⟩ := h_costs Sx Sm a1 a2 hR
      refine l_tabIn C 1241 dL_law_33 c34 rfl (by decide) (by decide) rfl (by decide) ?_
      exact lc_costs (F := F) C hi hL e1 e2 hX hM (hgo _ _ hR1)
    by_cases c35 : op = 35
    · obtain ⟨Sx1, Sm1, v, hX, hM, hR1⟩ := h_read Sx Sm a1 hR
      refine l_tabIn C 1274 dL_law_33 c35 rfl (by decide) (by decide) rfl (by decide) ?_
      exact lc_read (F := F) C hi hL e1 hX hM (hgo _ _ hR1)
    by_cases c36 : op = 36
    · obtain ⟨Sx1, Sm1, v, hX, hM, hR1⟩ := h_image Sx Sm  hR
      refine l_tabIn C 1297 dL_law_33 c36 rfl (by decide) (by decide) rfl (by decide) ?_
      exact lc_image (F := F) C hi hL  hX hM (hgo _ _ hR1)
    by_cases c37 : op = 37
    · obtain ⟨Sx1, Sm1, v, hX, hM, hR1⟩ := h_undo Sx Sm  hR
      refine l_tabIn C 1310 dL_law_33 c37 rfl (by decide) (by decide) rfl (by decide) ?_
      exact lc_undo (F := F) C hi hL  hX hM (hgo _ _ hR1)
    by_cases c38 : op = 38
    · obtain ⟨Sx1, Sm1, v, hX, hM, hR1⟩ := h_tear Sx Sm  hR
      refine l_tabIn C 1323 dL_law_33 c38 rfl (by decide) (by decide) rfl (by decide) ?_
      exact lc_tear (F := F) C hi hL  hX hM (hgo _ _ hR1)
    by_cases c39 : op = 39
    · obtain ⟨Sx1, Sm1, v, hX, hM, hR1⟩ := h_count Sx Sm a1 hR
      refine l_tabIn C 1336 dL_law_33 c39 rfl (by decide) (by decide) rfl (by decide) ?_
      exact lc_count (F := F) C hi hL e1 hX hM (hgo _ _ hR1)
    by_cases c40 : op = 40
    · obtain ⟨Sx1, Sm1, v, hX, hM, hR1⟩ := h_status Sx Sm a1 hR
      refine l_tabIn C 1359 dL_law_33 c40 rfl (by decide) (by decide) rfl (by decide) ?_
      exact lc_status (F := F) C hi hL e1 hX hM (hgo _ _ hR1)
    refine l_tabOut C 1382 dL_law_33 (by have n0 := lv_neT c0 (a := 0) rfl; have n1 := lv_neT c1 (a := 1) rfl; have n2 := lv_neT c2 (a := 2) rfl; have n3 := lv_neT c3 (a := 3) rfl; have n4 := lv_neT c4 (a := 4) rfl; have n5 := lv_neT c5 (a := 5) rfl; have n6 := lv_neT c6 (a := 6) rfl; have n7 := lv_neT c7 (a := 7) rfl; have n8 := lv_neT c8 (a := 8) rfl; have n9 := lv_neT c9 (a := 9) rfl; have n10 := lv_neT c10 (a := 10) rfl; have n11 := lv_neT c11 (a := 11) rfl; have n12 := lv_neT c12 (a := 12) rfl; have n13 := lv_neT c13 (a := 13) rfl; have n14 := lv_neT c14 (a := 14) rfl; have n15 := lv_neT c15 (a := 15) rfl; have n16 := lv_neT c16 (a := 16) rfl; have n17 := lv_neT c17 (a := 17) rfl; have n18 := lv_neT c18 (a := 18) rfl; have n19 := lv_neT c19 (a := 19) rfl; have n20 := lv_neT c20 (a := 20) rfl; have n21 := lv_neT c21 (a := 21) rfl; have n22 := lv_neT c22 (a := 22) rfl; have n23 := lv_neT c23 (a := 23) rfl; have n24 := lv_neT c24 (a := 24) rfl; have n25 := lv_neT c25 (a := 25) rfl; have n26 := lv_neT c26 (a := 26) rfl; have n27 := lv_neT c27 (a := 27) rfl; have n28 := lv_neT c28 (a := 28) rfl; have n29 := lv_neT c29 (a := 29) rfl; have n30 := lv_neT c30 (a := 30) rfl; have n31 := lv_neT c31 (a := 31) rfl; have n32 := lv_neT c32 (a := 32) rfl; have n33 := lv_neT c33 (a := 33) rfl; have n34 := lv_neT c34 (a := 34) rfl; have n35 := lv_neT c35 (a := 35) rfl; have n36 := lv_neT c36 (a := 36) rfl; have n37 := lv_neT c37 (a := 37) rfl; have n38 := lv_neT c38 (a := 38) rfl; have n39 := lv_neT c39 (a := 39) rfl; have n40 := lv_neT c40 (a := 40) rfl; omega) (by decide) ?_
    exact hgo Sx Sm hR
