theorem becomes_e {M : St} {n : Nat} {v : Int32} (h : n < 216) : fX7_becomes M (nI n) v = some (si M 1 n v, M.1 1 n) := by
  unfold fX7_becomes
  rw [ldi_e h (by decide), sti_e h (by decide)]
theorem put_e {X : St} {c len n : Nat} {v : Int32} (h : n < len) (hl : len < 2 ^ 31) : fX6_put c len X (nI n) v = some (si X c n v, X.1 c n) := by
  unfold fX6_put
  rw [ldi_e h hl, sti_e h hl]
theorem ix6 (p w : Nat) : ((12 : Int32) + (6 : Int32) * nI p) + nI w = nI (12 + 6 * p + w) := by
  rw [show (12 : Int32) = nI 12 from rfl, show (6 : Int32) = nI 6 from rfl, pk_mul, nI_add, nI_add]
theorem ix13 (c m : Nat) : ((138 : Int32) + (13 : Int32) * nI c) + nI m = nI (138 + 13 * c + m) := by
  rw [show (138 : Int32) = nI 138 from rfl, show (13 : Int32) = nI 13 from rfl, pk_mul, nI_add, nI_add]
theorem ix12 (c m : Nat) : (nI c * (12 : Int32)) + nI m = nI (12 * c + m) := by
  rw [show (12 : Int32) = nI 12 from rfl, pk_mul, nI_add, Nat.mul_comm]
theorem nI_cases (a : Int32) {n : Nat} (hn : n < 2 ^ 31) : (∃ p, p < n ∧ a = nI p) ∨ (a < 0 ∨ nI n ≤ a) := by
  rcases pk_ix a hn with h | h | ⟨j, hj, e⟩
  · exact Or.inr (Or.inl h)
  · exact Or.inr (Or.inr h)
  · exact Or.inl ⟨j, hj, e⟩
theorem guardP {α : Type} {X M : St} {a : Int32} {n : Nat} {JX KX JM KM : Option (St × α)} (hx : X.1 1 0 = nI n) (hm : M.1 1 0 = nI n) (hn : n ≤ 20) (hf : Ag JX JM) (ht : ∀ p, p < n → a = nI p → Ag KX KM) : Ag (bv (fX4_hasPart 1 X a) fun v => if v = 0 then JX else KX) (bv (fX7_isPart M a) fun v => if v = 0 then JM else KM) := by
  unfold fX4_hasPart fX7_isPart
  rw [show (0 : Int32) = nI 0 from rfl, ldi_e (S := M) (c := 1) (n := 0) (N := 216) (by decide) (by decide), hx, hm]
  rw [show nI 0 = (0 : Int32) from rfl]
  rcases nI_cases a (n := n) (by omega) with ⟨p, hp, e⟩ | h
  · subst e
    rw [if_neg (nI_pos (by omega)), if_neg (nI_ge hp (by omega)), bv_e, bv_e, if_neg (by decide), if_neg (by decide)]
    exact ht p hp rfl
  · rcases h with h | h
    · rw [if_pos h, bv_e, bv_e, if_pos rfl, if_pos rfl]
      exact hf
    · by_cases h0 : a < 0
      · rw [if_pos h0, bv_e, bv_e, if_pos rfl, if_pos rfl]
        exact hf
      · rw [if_neg h0, if_pos h, bv_e, bv_e, if_pos rfl, if_pos rfl]
        exact hf
theorem guardC {α : Type} {X M : St} {a : Int32} {n : Nat} {JX KX JM KM : Option (St × α)} (hx : X.1 1 11 = nI n) (hm : M.1 1 2 = nI n) (hn : n ≤ 6) (hf : Ag JX JM) (ht : ∀ p, p < n → a = nI p → Ag KX KM) : Ag (bv (fX4_hasCamp 1 X a) fun v => if v = 0 then JX else KX) (bv (fX7_isCamp M (Int32.toInt64 a)) fun v => if v = 0 then JM else KM) := by
  unfold fX4_hasCamp fX7_isCamp
  rw [show (2 : Int32) = nI 2 from rfl, ldi_e (S := M) (c := 1) (n := 2) (N := 216) (by decide) (by decide), hx, hm]
  rw [show (0 : Int64) = Int32.toInt64 0 from by decide]
  simp only [cmp_lt, cmp_ge, fa_wide_lt, fa_wide_le]
  rcases nI_cases a (n := n) (by omega) with ⟨p, hp, e⟩ | h
  · subst e
    rw [if_neg (nI_pos (by omega)), if_neg (nI_ge hp (by omega)), bv_e, bv_e, if_neg (by decide), if_neg (by decide)]
    exact ht p hp rfl
  · rcases h with h | h
    · rw [if_pos h, bv_e, bv_e, if_pos rfl, if_pos rfl]
      exact hf
    · by_cases h0 : a < 0
      · rw [if_pos h0, bv_e, bv_e, if_pos rfl, if_pos rfl]
        exact hf
      · rw [if_neg h0, if_pos h, bv_e, bv_e, if_pos rfl, if_pos rfl]
        exact hf
theorem st_draw {F : Nat} : s_draw Rel F := by
  intro X M a1 hR
  show Ag _ _
  unfold fX6_draw fX7_draw
  simp only [bq_eta, pl_e]
  refine guard (by decide) (by decide) (find0 hR) (fun c => ?_)
  obtain ⟨k, -, hk, rfl⟩ := inb_nI (lo := 0) (hi := 99) c (by decide) (by decide)
  obtain ⟨⟨H, hS⟩, -⟩ := id hR
  refine ag_of rfl ((becomes_e (n := 8) (by decide)).trans ?_) (rel_now hR (fun d hd => si_o (by omega)) rfl (fun d hd => si_o hd) rfl ⟨_, up_draw hS hk⟩)
  rw [hS.2.1.2.2.2.2.2.2.1, hS.2.2.2.2.2.2.2.1]
theorem st_sky {F : Nat} : s_sky Rel F := by
  intro X M a1 a2 hR
  show Ag _ _
  unfold fX6_sky fX7_sky
  simp only [bq_eta, pl_e]
  refine guard (by decide) (by decide) (find0 hR) (fun c => ?_)
  obtain ⟨j, -, hj, rfl⟩ := inb_nI (lo := 0) (hi := 4) c (by decide) (by decide)
  rw [ldt_e (by omega) (by decide)]
  have hm : fX7_mostSky M (nI j) = some (tbS j) := by
    match j, hj with
    | 0, _ => rfl
    | 1, _ => rfl
    | 2, _ => rfl
    | 3, _ => rfl
    | 4, _ => rfl
  rw [hm, bv_e]
  refine guard rfl rfl (find0 hR) (fun c2 => ?_)
  have ht : tbS j = nI (skM j) := by
    match j, hj with
    | 0, _ => rfl
    | 1, _ => rfl
    | 2, _ => rfl
    | 3, _ => rfl
    | 4, _ => rfl
  rw [ht] at c2
  have hs : skM j < 2 ^ 31 := by
    match j, hj with
    | 0, _ => decide
    | 1, _ => decide
    | 2, _ => decide
    | 3, _ => decide
    | 4, _ => decide
  obtain ⟨k, -, hk, rfl⟩ := inb_nI (lo := 0) (hi := skM j) c2 (by decide) hs
  obtain ⟨⟨H, hS⟩, -⟩ := id hR
  rw [show (3 : Int32) = nI 3 from rfl, nI_add]
  refine ag_of (put_e (by omega) (by decide)) ((becomes_e (n := 3 + j) (by omega)).trans ?_) (rel_now hR (fun d hd => si_o (by omega)) rfl (fun d hd => si_o hd) rfl ⟨_, up_sky hS (by omega) hk⟩)
  rw [hS.2.1.2.2.2.2.2.1 j (by omega), hS.2.2.2.2.2.2.1 j (by omega)]
theorem st_herd {F : Nat} : s_herd Rel F := by
  intro X M a1 a2 hR
  show Ag _ _
  unfold fX6_herd fX7_herd
  simp only [bq_eta, pl_e]
  refine guard (by decide) (by decide) (find0 hR) (fun c => ?_)
  obtain ⟨j, -, hj, rfl⟩ := inb_nI (lo := 0) (hi := 2) c (by decide) (by decide)
  rw [ldt_e (by omega) (by decide)]
  obtain ⟨⟨H, hS⟩, -⟩ := id hR
  have key : ∀ h : Int64, (tbH j).toInt64 = h → Ag (bv (fX6_within X a2 0 (tbH j)) fun v5 => if v5 = 0 then fX6_finding X 0 else fX6_put 11 3 X (nI j) a2) (bv (fX7_isIn M (Int32.toInt64 a2) 0 h) fun v6 => if v6 = 0 then fX7_finds M (-1000000001) else fX7_becomes M (9 + nI j) a2) := by
    intro h hh
    refine guard (by decide) hh (find0 hR) (fun c2 => ?_)
    have ht : tbH j = nI (hdM j) := by
      match j, hj with
      | 0, _ => rfl
      | 1, _ => rfl
      | 2, _ => rfl
    rw [ht] at c2
    have hs : hdM j < 2 ^ 31 := by
      match j, hj with
      | 0, _ => decide
      | 1, _ => decide
      | 2, _ => decide
    obtain ⟨k, -, hk, rfl⟩ := inb_nI (lo := 0) (hi := hdM j) c2 (by decide) hs
    rw [show (9 : Int32) = nI 9 from rfl, nI_add]
    refine ag_of (put_e (by omega) (by decide)) ((becomes_e (n := 9 + j) (by omega)).trans ?_) (rel_now hR (fun d hd => si_o (by omega)) rfl (fun d hd => si_o hd) rfl ⟨_, up_herd hS (by omega) hk⟩)
    rw [hS.2.1.2.2.2.2.2.2.2.2.2.2 j (by omega), hS.2.2.2.2.2.2.2.2.2.2.2 j (by omega)]
  match j, hj with
  | 0, _ => exact key 999 (by decide)
  | 1, _ => exact key 99 (by decide)
  | 2, _ => exact key 999 (by decide)
theorem st_set {F : Nat} : s_set Rel F := by
  intro X M a1 a2 a3 hR
  show Ag _ _
  unfold fX6_set fX7_set
  simp only [bq_eta, pl_e]
  obtain ⟨⟨H, hS⟩, -⟩ := id hR
  have hn := hS.1.1
  refine guardP hS.2.1.1 hS.2.2.1 hn (find0 hR) (fun p hp e => ?_)
  subst e
  by_cases c2 : a2 = 2
  · subst c2
    rw [if_pos rfl, isIn_t (lo := 2) (hi := 4) (by decide) (by decide) (by unfold inb; decide), bv_e, if_neg (by decide), if_pos rfl, if_pos rfl]
    refine guard (by decide) (by decide) ?_ (fun c => ?_)
    · exact find0 hR
    · obtain ⟨k, hk1, hk, rfl⟩ := inb_nI (lo := 1) (hi := 999) c (by decide) (by decide)
      rw [show (2 : Int32) = nI 2 from rfl, ix6]
      refine ag_of (put_e (by omega) (by decide)) ((becomes_e (n := 12 + 6 * p + 2) (by omega)).trans ?_) (rel_now hR (fun d hd => si_o (by omega)) rfl (fun d hd => si_o hd) rfl ⟨_, up_str hS hp ⟨hk1, hk⟩⟩)
      rw [(hS.2.1.2.2.2.1 p hp).2.2.1, hS.2.2.2.2.2.1 p 2 hp (by decide)]
  by_cases c3 : a2 = 3
  · subst c3
    rw [if_neg (by decide), if_pos rfl, isIn_t (lo := 2) (hi := 4) (by decide) (by decide) (by unfold inb; decide), bv_e, if_neg (by decide), if_neg (by decide), if_neg (by decide)]
    refine guard (by decide) (by decide) ?_ (fun c => ?_)
    · exact find0 hR
    · obtain ⟨k, hk1, hk, rfl⟩ := inb_nI (lo := 0) (hi := 99) c (by decide) (by decide)
      rw [show (3 : Int32) = nI 3 from rfl, ix6]
      refine ag_of (put_e (by omega) (by decide)) ((becomes_e (n := 12 + 6 * p + 3) (by omega)).trans ?_) (rel_now hR (fun d hd => si_o (by omega)) rfl (fun d hd => si_o hd) rfl ⟨_, up_wei hS hp hk⟩)
      rw [(hS.2.1.2.2.2.1 p hp).2.2.2.1, hS.2.2.2.2.2.1 p 3 hp (by decide)]
  by_cases c4 : a2 = 4
  · subst c4
    rw [if_neg (by decide), if_neg (by decide), if_pos rfl, isIn_t (lo := 2) (hi := 4) (by decide) (by decide) (by unfold inb; decide), bv_e, if_neg (by decide), if_neg (by decide), if_neg (by decide)]
    refine guard (by decide) (by decide) (find0 hR) (fun c => ?_)
    obtain ⟨k, hk1, hk, rfl⟩ := inb_nI (lo := 0) (hi := 99) c (by decide) (by decide)
    rw [show (4 : Int32) = nI 4 from rfl, ix6]
    refine ag_of (put_e (by omega) (by decide)) ((becomes_e (n := 12 + 6 * p + 4) (by omega)).trans ?_) (rel_now hR (fun d hd => si_o (by omega)) rfl (fun d hd => si_o hd) rfl ⟨_, up_wear hS hp hk⟩)
    rw [(hS.2.1.2.2.2.1 p hp).2.2.2.2, hS.2.2.2.2.2.1 p 4 hp (by decide)]
  rw [if_neg c2, if_neg c3, if_neg c4, isIn_f (lo := 2) (hi := 4) (by decide) (by decide) (fun hb => by
    obtain ⟨k, h1, h2, rfl⟩ := inb_nI (lo := 2) (hi := 4) hb (by decide) (by decide)
    rcases (show k = 2 ∨ k = 3 ∨ k = 4 by omega) with rfl | rfl | rfl
    · exact c2 rfl
    · exact c3 rfl
    · exact c4 rfl), bv_e, if_pos rfl]
  exact find0 hR
theorem st_grass {F : Nat} : s_grass Rel F := by
  intro X M a1 a2 a3 hR
  show Ag _ _
  unfold fX6_grass fX7_grass
  simp only [bq_eta, pl_e]
  obtain ⟨⟨H, hS⟩, -⟩ := id hR
  have hn := hS.1.2.2.1
  refine guardC hS.2.1.2.2.1 hS.2.2.2.2.1 hn (find0 hR) (fun p hp e => ?_)
  subst e
  refine guard (by decide) (by decide) (find0 hR) (fun c => ?_)
  obtain ⟨m, -, hm, rfl⟩ := inb_nI (lo := 0) (hi := 11) c (by decide) (by decide)
  refine guard (by decide) (by decide) (find0 hR) (fun c => ?_)
  obtain ⟨k, -, hk, rfl⟩ := inb_nI (lo := 0) (hi := 999) c (by decide) (by decide)
  rw [ix12, ix13]
  refine ag_of (put_e (by omega) (by decide)) ((becomes_e (n := 138 + 13 * p + m) (by omega)).trans ?_) (rel_now hR (fun d hd => si_o (by omega)) rfl (fun d hd => si_o hd) rfl ⟨_, up_grass hS hp (by omega) hk⟩)
  rw [hS.2.1.2.2.2.2.2.2.2.2.2.1 p m hp (by omega), hS.2.2.2.2.2.2.2.2.2.2.1 p m hp (by omega)]
theorem st_campOf {F : Nat} : s_campOf Rel F := by
  intro X M a1 a2 hR
  show Ag _ _
  unfold fX6_campOf fX7_campOf
  simp only [bq_eta, pl_e]
  obtain ⟨⟨H, hS⟩, -⟩ := id hR
  have hn := hS.1.2.2.1
  refine guardC hS.2.1.2.2.1 hS.2.2.2.2.1 hn (find0 hR) (fun p hp e => ?_)
  subst e
  refine guard (by decide) (by decide) (find0 hR) (fun c => ?_)
  obtain ⟨m, -, hm, rfl⟩ := inb_nI (lo := 0) (hi := 12) c (by decide) (by decide)
  rw [ix13, ldi_e (S := M) (by omega) (by decide)]
  by_cases c12 : m = 12
  · subst c12
    rw [if_pos (show nI 12 = (12 : Int32) from rfl), ldi_e (by omega) (by decide)]
    refine ag_of rfl ?_ hR
    rw [hS.2.1.2.2.2.2.2.2.2.2.1 p hp, hS.2.2.2.2.2.2.2.2.2.1 p hp]
  · rw [if_neg (show ¬ nI m = (12 : Int32) from fun h => c12 ((nI_eq (by omega) (by decide)).mp h)), ix12, ldi_e (by omega) (by decide)]
    refine ag_of rfl ?_ hR
    rw [hS.2.1.2.2.2.2.2.2.2.2.2.1 p m hp (by omega), hS.2.2.2.2.2.2.2.2.2.2.1 p m hp (by omega)]
