-- the tape
theorem byte_eq {a : Int32} {i : Nat} (hi : i < 4) : (ushr a ((8 : Int32) * nI i)) &&& 255 = (a >>> (((8 : Int32) * nI i) &&& 31)) &&& 255 := by
  have e : (8 : Int32) * nI i = nI (8 * i) := pk_mul 8 i
  rw [e]
  apply b_ext
  intro j hj
  rw [b_and, b_and, b_255]
  by_cases h : j < 8
  · have h1 : bt (ushr a (nI (8 * i))) j = bt a (8 * i + j) := b_ushr (8 * i) (by omega) a j
    rw [h1, b_sshr (8 * i) (by omega) a hj, if_pos (by omega)]
  · simp [h]
theorem byte_lt (x : Int32) : ∃ c, c < 256 ∧ x &&& 255 = nI c := pk_andE x (m := 255) 8 (by decide)
theorem tx_add {X M : St} {n : Nat} {B : Int32} (h : Rel X M) (hx : X.1 44 1 = nI n) (hn : n < 120) (hB : ∃ c, c < 256 ∧ B = nI c) : Rel (si (si X 45 n B) 44 1 (nI (n + 1))) (si (si M 5 n B) 0 6 (nI (n + 1))) := by
  obtain ⟨⟨H, hS⟩, h2, ⟨n', hn', t1, t2, t3⟩, h4, h5, h6⟩ := h
  have en : n' = n := (nI_eq (by omega) (by omega)).mp (t1.symm.trans hx)
  subst en
  have xo : ∀ d, d ≠ 44 → d ≠ 45 → (si (si X 45 n' B) 44 1 (nI (n' + 1))).1 d = X.1 d := fun d h1 h2 => by rw [si_o h1, si_o h2]
  have mo : ∀ d, d ≠ 0 → d ≠ 5 → (si (si M 5 n' B) 0 6 (nI (n' + 1))).1 d = M.1 d := fun d h1 h2 => by rw [si_o h1, si_o h2]
  refine ⟨⟨H, hS.kept (fun k hk => xo _ (by omega) (by omega)) (mo 1 (by decide) (by decide))⟩, h2.kept (fun k hk => xo _ (by omega) (by omega)) (by rw [xo 0 (by decide) (by decide)]) (by rw [si_s (by decide), si_o (by decide)]) (mo 2 (by decide) (by decide)), ⟨n' + 1, by omega, si_h, si_h, ?_⟩, h4.kept (fun t ht => xo _ (by omega) (by omega)) (fun t ht => rfl) (mo 6 (by decide) (by decide)) (mo 7 (by decide) (by decide)) rfl, h5.kept (xo 55 (by decide) (by decide)) (mo 4 (by decide) (by decide)), h6.kept (mo 14 (by decide) (by decide))⟩
  intro k hk
  rw [si_o (c := 44) (d := 45) (by decide), si_o (c := 0) (d := 5) (by decide)]
  by_cases e : k = n'
  · subst e
    rw [si_h, si_h]
    exact ⟨rfl, hB⟩
  · rw [si_s e, si_s e]
    exact t3 k (by omega)
theorem feed_L {a1 : Int32} : ∀ (r G G' : Nat) (X M : St), r ≤ 4 → r < G → r < G' → Rel X M → (∀ n, X.1 44 1 = nI n → n ≤ 120 → n + r ≤ 120) → Ag (fX6_feed_L39 a1 (fun S3 => some (S3, S3.1 44 1)) G X (nI r - 1)) (fX7_feed_L41 a1 G' M (nI r - 1)) := by
  intro r
  induction r with
  | zero =>
    intro G G' X M h1 h2 h3 hR hb
    obtain ⟨G, rfl⟩ : ∃ g, G = g + 1 := ⟨G - 1, by omega⟩
    obtain ⟨G', rfl⟩ : ∃ g, G' = g + 1 := ⟨G' - 1, by omega⟩
    rw [fX6_feed_L39, fX7_feed_L41, if_pos (by decide), if_pos (by decide)]
    obtain ⟨n, hn, t1, t2, t3⟩ := hR.2.2.1
    exact ag_of rfl (by rw [t1, t2]) hR
  | succ r ih =>
    intro G G' X M h1 h2 h3 hR hb
    obtain ⟨G, rfl⟩ : ∃ g, G = g + 1 := ⟨G - 1, by omega⟩
    obtain ⟨G', rfl⟩ : ∃ g, G' = g + 1 := ⟨G' - 1, by omega⟩
    obtain ⟨n, hn, t1, t2, t3⟩ := hR.2.2.1
    have hnr := hb n t1 hn
    have ev : nI (r + 1) - 1 = nI r := nI_pred r
    rw [ev, fX6_feed_L39, fX7_feed_L41, if_neg (nI_pos (by omega)), if_neg (nI_pos (by omega))]
    unfold fX5_add
    rw [t1, t2, if_neg (show ¬ (120 : Int32) ≤ nI n from nI_ge (b := 120) (by omega) (by decide)), byte_eq (by omega)]
    rw [sti_e (by omega) (by decide), sti_e (by omega) (by decide)]
    simp only [pl_e, bv_e]
    rw [si_o (by decide), si_o (by decide), t1, t2, nI_1]
    have ed : nI r + (-1) = nI r - 1 := by grind
    rw [ed]
    refine ih G G' _ _ (by omega) (by omega) (by omega) (tx_add hR t1 (by omega) (byte_lt _)) (fun n' e1 e2 => ?_)
    rw [si_h] at e1
    have := (nI_eq (by omega) (by omega)).mp e1
    omega
theorem st_feed {F : Nat} (hF : 100 ≤ F) : s_feed Rel F := by
  intro X M a1 a2 hR
  show Ag _ _
  unfold fX6_feed fX7_feed
  simp only [bq_eta, pl_e]
  refine guard (by decide) (by decide) (find0 hR) (fun c => ?_)
  obtain ⟨k, hk1, hk, rfl⟩ := inb_nI (lo := 1) (hi := 4) c (by decide) (by decide)
  obtain ⟨n, hn, t1, t2, t3⟩ := hR.2.2.1
  rw [t1, t2, nI_add]
  by_cases h : n + k ≤ 120
  · rw [if_pos (show nI (n + k) ≤ (120 : Int32) from nI_le (b := 120) h (by decide)), if_pos (show nI (n + k) ≤ (120 : Int32) from nI_le (b := 120) h (by decide))]
    refine feed_L k F F X M hk (by omega) (by omega) hR (fun n' e1 e2 => ?_)
    have := (nI_eq (by omega) (by omega)).mp (t1.symm.trans e1)
    omega
  · rw [if_neg (show ¬ nI (n + k) ≤ (120 : Int32) from nI_ge (a := 120) (by omega) (by omega)), if_neg (show ¬ nI (n + k) ≤ (120 : Int32) from nI_ge (a := 120) (by omega) (by omega))]
    exact find1 hR
