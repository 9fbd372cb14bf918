-- what a sheet is asked for
theorem guardS {α : Type} {X M : St} {a : Int32} {fX : Int32 → Option (St × α)} {f0 f5 KX KM : Option (St × α)} (hR : Rel X M) (h0 : Ag (fX 0) f0) (h5 : Ag (fX 5) f5) (ht : ∀ t, t < 4 → a = nI t → Ag KX KM) : Ag (bv (fX6_sheetTrouble X a) fun v => if v < 0 then KX else fX v) (bv (fX7_isSheet M a) fun v => if v = 0 then f0 else ldi M 6 a 4 fun v2 => if 0 ≤ v2 then KM else f5) := by
  unfold fX6_sheetTrouble
  by_cases c1 : inb a 0 3
  · rw [within_t c1, bv_e, if_neg n10]
    obtain ⟨t, -, ht4, rfl⟩ := inb_nI (lo := 0) (hi := 3) c1 (by decide) (by decide)
    obtain ⟨b, z, g1, g2, g3, g4, g5, g6, g7, g8⟩ := hR.2.2.2.1 t (by omega)
    rw [isSheet_t (by omega), bv_e, if_neg n10, lds_e (by omega), ldi_e (by omega) (by decide), g6]
    unfold fX3_isMissing
    rw [g4]
    by_cases e : b = 0
    · subst e
      rw [if_pos (show nI 0 = (0 : Int32) from rfl), bv_e, if_neg n10, bv_e, if_neg (by decide), if_pos rfl, if_neg (by decide)]
      exact h5
    · have hb31 : b < 2 ^ 31 := by rcases g1 with h | h | h | h <;> (rw [h]; decide)
      rw [if_neg (show ¬ nI b = (0 : Int32) from nI_ne0 (by omega) hb31), bv_e, if_pos rfl, bv_e, if_pos (by decide), if_neg e, if_pos (nI_pos' hb31)]
      exact ht t (by omega) rfl
  · rw [within_f c1, bv_e, if_pos rfl, bv_e, if_neg (by decide), isSheet_f c1, bv_e, if_pos rfl]
    exact h0
theorem se_num {X M X' M' : St} (h : Rel X M) (hx : X'.1 = X.1) (hm : M'.1 = M.1) (hn : ∀ t k, t < 4 → k < 40 → X'.2 (51 + t) k = M'.2 8 (40 * t + k)) : Rel X' M' := by
  obtain ⟨⟨H, hS⟩, h2, h3, h4, h5, h6⟩ := h
  refine ⟨⟨H, by rw [hx, hm]; exact hS⟩, h2.kept (fun k hk => by rw [hx]) (by rw [hx]) (by rw [hm]) (by rw [hm]), h3.kept (by rw [hx]) (by rw [hx]) (by rw [hm]) (by rw [hm]), ?_, h5.kept (by rw [hx]) (by rw [hm]), h6.kept (by rw [hm])⟩
  intro t ht
  obtain ⟨b, z, g1, g2, g3, g4, g5, g6, g7, g8⟩ := h4 t ht
  exact ⟨b, z, g1, g2, g3, by rw [hx]; exact g4, by rw [hx]; exact g5, by rw [hm]; exact g6, by rw [hm]; exact g7, fun k hk => hn t k ht hk⟩
theorem se_old {X M : St} (h : Rel X M) {t k : Nat} (ht : t < 4) (hk : k < 40) : X.2 (51 + t) k = M.2 8 (40 * t + k) := by
  obtain ⟨b, z, g1, g2, g3, g4, g5, g6, g7, g8⟩ := h.2.2.2.1 t ht
  exact g8 k hk
theorem st_write {F : Nat} : s_write Rel F := by
  intro X M a1 a2 a3 hR
  show Ag _ _
  unfold fX6_write fX7_write
  refine guardS (fX := fun v1 => bq (fX6_finding X v1) fun S12 v13 => some (S12, Int32.toInt64 v13)) hR (ag_bqL (find0 hR)) (ag_bqL (find5 hR)) (fun t ht e => ?_)
  subst e
  obtain ⟨b, z, g1, g2, g3, g4, g5, g6, g7, g8⟩ := hR.2.2.2.1 t ht
  rw [lds_e ht, ldi_e ht (by decide), g5, g7]
  refine guard (lo := 0) (by decide) rfl (ag_bqL (find0 hR)) (fun c => ?_)
  rcases nI_cases a2 (n := z) (by omega) with ⟨i, hi, e⟩ | h
  · subst e
    rw [lds_e ht, ldj_e (by omega) (by decide), lds_e ht, lds_e ht, show (40 : Int32) = nI 40 from rfl, pk_mul, nI_add, ldj_e (by omega) (by decide), ldi_e ht (by decide), g6]
    obtain ⟨w, hw1, hw2⟩ : ∃ w, fX3_narrowed t X a3 = some w ∧ fX7_narrow M (if b = 0 then -1 else nI b) a3 = some w := by
      unfold fX3_narrowed fX7_narrow
      rw [g4]
      rcases g1 with rfl | rfl | rfl | rfl
      · exact ⟨a3, rfl, rfl⟩
      · exact ⟨_, rfl, rfl⟩
      · exact ⟨_, rfl, rfl⟩
      · exact ⟨a3, rfl, rfl⟩
    rw [hw1, hw2, bv_e, bv_e, stj_e (by omega) (by decide), stj_e (by omega) (by decide), g8 i (by omega)]
    refine ag_of rfl rfl (se_num hR rfl rfl (fun u k hu hk => ?_))
    rw [sj_a, sj_a]
    have := se_old hR hu hk
    by_cases e1 : u = t
    · subst e1
      by_cases e2 : k = i
      · subst e2; simp
      · rw [if_pos rfl, if_neg e2, if_pos rfl, if_neg (by omega)]; exact this
    · rw [if_neg (by omega), if_pos rfl, if_neg (by omega)]; exact this
  · exfalso
    obtain ⟨q1, q2⟩ := c
    rcases h with h | h
    · rw [fa_le] at q1; rw [fa_lt] at h; omega
    · rw [show (1 : Int32) = nI 1 from rfl, fa_le, pk_sub_toInt (by omega) (by omega)] at q2
      rw [fa_le, nI_toInt (by omega)] at h
      omega
theorem Ag.of_eq {α : Type} {x y x' y' : Option (St × α)} (h : Ag x y) (e1 : x' = x) (e2 : y' = y) : Ag x' y' := by rw [e1, e2]; exact h
theorem lays_L {t c : Nat} (ht : t < 4) : ∀ (G G' m : Nat) (came : Int32) (X M : St), m ≤ 40 → 40 - m < G → 40 - m < G' → Rel X M → (∃ n, X.1 1 11 = nI n ∧ c < n ∧ n ≤ 6) → Ag (fX6_lays_L47 (nI c) t G X came (nI m)) (fX7_lays_L51 (nI t) (nI c) G' M came (nI m)) := by
  intro G
  induction G with
  | zero => intro G' m came X M h1 h2; omega
  | succ G ih =>
    intro G' m came X M h1 h2 h3 hR hc
    obtain ⟨G', rfl⟩ : ∃ g, G' = g + 1 := ⟨G' - 1, by omega⟩
    obtain ⟨b, z, g1, g2, g3, g4, g5, g6, g7, g8⟩ := hR.2.2.2.1 t ht
    rw [fX6_lays_L47, fX7_lays_L51, ldi_e ht (by decide), g5, g7]
    by_cases hz : z ≤ m
    · rw [if_pos (show nI z ≤ nI m from nI_le hz (by omega)), if_pos (show nI z ≤ nI m from nI_le hz (by omega))]
      by_cases h12 : (12 : Int32) ≤ nI m
      · rw [if_pos h12]; exact ag_of rfl rfl hR
      · rw [if_neg h12]; exact ag_of rfl rfl hR
    · have hn : ¬ nI z ≤ nI m := nI_ge (by omega) (by omega)
      rw [if_neg hn, if_neg hn]
      by_cases h12 : 12 ≤ m
      · rw [if_pos (show (12 : Int32) ≤ nI m from nI_le (a := 12) h12 (by omega)), if_pos (show (12 : Int32) ≤ nI m from nI_le (a := 12) h12 (by omega))]
        exact ag_of rfl rfl hR
      · have h12' : ¬ (12 : Int32) ≤ nI m := nI_ge (b := 12) (by omega) (by decide)
        rw [if_neg h12', if_neg h12', ldj_e (by omega) (by decide), show (40 : Int32) = nI 40 from rfl, pk_mul, nI_add, ldj_e (by omega) (by decide), g8 m (by omega)]
        simp only [pl_e, nI_1]
        unfold fX7_isIn
        generalize hu : M.2 8 (40 * t + m) = u
        by_cases c1 : lg_cmp u 0 < 0
        · rw [if_pos c1, if_pos c1, bv_e, if_pos rfl]
          exact ih G' (m + 1) came X M (by omega) (by omega) (by omega) hR hc
        · rw [if_neg c1, if_neg c1]
          by_cases c2 : 0 < lg_cmp u 999
          · rw [if_pos c2, if_pos c2, bv_e, if_pos rfl]
            exact ih G' (m + 1) came X M (by omega) (by omega) (by omega) hR hc
          · rw [if_neg c2, if_neg c2, bv_e, if_neg n10]
            rw [cmp_lt] at c1
            rw [cmp_gt] at c2
            obtain ⟨k, hk, rfl⟩ := pk_lOf c1
            have hk9 : k ≤ 999 := by
              rcases Nat.lt_or_ge 999 k with q | q
              · exact absurd ((pk_lLT (a := 999) (by decide) hk).mpr q) c2
              · exact q
            obtain ⟨n, hn1, hcn, hn6⟩ := hc
            obtain ⟨⟨H, hS⟩, -⟩ := id hR
            have hH : H 0 2 = n := (nI_eq (by have := hS.1.2.2.1; omega) (by omega)).mp (hS.2.1.2.2.1.symm.trans hn1)
            rw [lN_i, ix12, sti_e (by omega) (by decide), ix13, sti_e (by omega) (by decide)]
            exact ih G' (m + 1) _ _ _ (by omega) (by omega) (by omega) (rel_now hR (fun d hd => si_o (by omega)) rfl (fun d hd => si_o hd) rfl ⟨_, up_grass hS (by omega) (by omega) hk9⟩) ⟨n, by rw [si_o (by decide)]; exact hn1, hcn, hn6⟩
theorem st_lays {F : Nat} (hF : 100 ≤ F) : s_lays Rel F := by
  intro X M a1 a2 hR
  show Ag _ _
  unfold fX6_lays fX7_lays
  simp only [bq_eta]
  refine guardS (fX := fun v1 => fX6_finding X v1) hR (find0 hR) (find5 hR) (fun t ht e => ?_)
  subst e
  obtain ⟨⟨H, hS⟩, -⟩ := id hR
  have hn := hS.1.2.2.1
  refine guardC hS.2.1.2.2.1 hS.2.2.2.2.1 hn (find0 hR) (fun p hp e => ?_)
  subst e
  rw [lds_e ht]
  exact lays_L ht F F 0 0 X M (by decide) (by omega) (by omega) hR ⟨H 0 2, hS.2.1.2.2.1, hp, hn⟩
