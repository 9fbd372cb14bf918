theorem tb_in {w : Cond} (i : Nat) (h : tables_1[i]? = some w) : w ∈ lw_tbl := List.mem_append_right _ (List.mem_of_getElem? h)
theorem ws_kind : Cond.laysStatic "FeltHouse" "KIND_ABOVE" "[I" ∈ lw_tbl := tb_in 360 (by decide +kernel)
theorem ws_sky : Cond.laysStatic "FeltHouse" "SKY_MOST" "[I" ∈ lw_tbl := tb_in 366 (by decide +kernel)
theorem ws_herd : Cond.laysStatic "FeltHouse" "HERDING_MOST" "[I" ∈ lw_tbl := tb_in 552 (by decide +kernel)
theorem ws_cs : Cond.laysStatic "java/lang/String" "COMPACT_STRINGS" "Z" ∈ lw_tbl := tb_in 669 (by decide +kernel)
theorem ws_fm : Cond.laysStatic "jdk/internal/util/Preconditions" "SIOOBE_FORMATTER" "Ljava/util/function/BiFunction;" ∈ lw_tbl := tb_in 685 (by decide +kernel)
theorem ws_ao : Cond.arrayOver (.object "FeltHouse$Sheet") ∈ lw_tbl := tb_in 224 (by decide +kernel)
theorem wi_st : Cond.initialized "java/lang/String" ∈ lw_tbl := tb_in 13 (by decide +kernel)
theorem wi_pc : Cond.initialized "jdk/internal/util/Preconditions" ∈ lw_tbl := tb_in 15 (by decide +kernel)
theorem wi_fh : Cond.initialized "FeltHouse" ∈ lw_tbl := tb_in 1 (by decide +kernel)
theorem wn_0 : Cond.methodLinkNest RX6 51 yX5_init "FeltHouse" ∈ lw_tbl := tb_in 199 (by decide +kernel)
theorem wn_1 : Cond.methodLinkNest RX6 62 yX3_init "FeltHouse" ∈ lw_tbl := tb_in 226 (by decide +kernel)
theorem wn_2 : Cond.methodLinkNest RX0 118 yX6_isOfKind "FeltHouse" ∈ lw_tbl := tb_in 429 (by decide +kernel)
theorem wn_3 : Cond.methodLinkNest RX5 114 yX6_within "FeltHouse" ∈ lw_tbl := tb_in 716 (by decide +kernel)
def flS : List Cond := flatC (Jvm.Cond.and given_1 narrow_1)
def tmS (i : Nat) : Term := .string RX5 (sIx.getD i 0)
theorem fs_sr : ∀ i, i < 13 → Cond.stringRef RX5 (sIx.getD i 0) (sTx.getD i "") ∈ lw_tbl := by
  intro i hi
  match i, hi with
  | 0, _ => exact tb_in 655 (by decide +kernel)
  | 1, _ => exact tb_in 649 (by decide +kernel)
  | 2, _ => exact tb_in 650 (by decide +kernel)
  | 3, _ => exact tb_in 651 (by decide +kernel)
  | 4, _ => exact tb_in 652 (by decide +kernel)
  | 5, _ => exact tb_in 653 (by decide +kernel)
  | 6, _ => exact tb_in 654 (by decide +kernel)
  | 7, _ => exact tb_in 724 (by decide +kernel)
  | 8, _ => exact tb_in 735 (by decide +kernel)
  | 9, _ => exact tb_in 741 (by decide +kernel)
  | 10, _ => exact tb_in 718 (by decide +kernel)
  | 11, _ => exact tb_in 723 (by decide +kernel)
  | 12, _ => exact tb_in 730 (by decide +kernel)
theorem fs_ex : ∀ i, i < 13 → Cond.exactly (tmS i) "java/lang/String" ∈ flS := by decide +kernel
theorem fs_co : ∀ i, i < 13 → Cond.eq (.field (tmS i) "java/lang/String" "coder" "B") (.int 0) ∈ flS := by decide +kernel
theorem fs_ar : ∀ i, i < 13 → Cond.arrayOf (.field (tmS i) "java/lang/String" "value" "[B") .byte ∈ flS := by decide +kernel
theorem fs_le : ∀ i, i < 13 → Cond.eq (.length (.field (tmS i) "java/lang/String" "value" "[B")) (.int (Int32.ofNat (sLen.getD i 0))) ∈ flS := by decide +kernel
theorem fs_el : ∀ i, i < 13 → ∀ j, j < sLen.getD i 0 → Cond.eq (.elem (.field (tmS i) "java/lang/String" "value" "[B") (.int (Int32.ofNat j))) (.int ((sByt.getD i []).getD j 0)) ∈ flS := by decide +kernel
theorem fs_ne : ∀ i, i < 13 → ∀ j, j < 13 → i ≠ j → Cond.not (Cond.eq (tmS i) (tmS j)) ∈ flS ∨ Cond.not (Cond.eq (tmS j) (tmS i)) ∈ flS := by decide +kernel
theorem st_ar {b : Nat} {s : State} {nm : String} {N : Nat} {f : Nat → Int32} {A : Nat → Prop} (hgv : (Jvm.Cond.and given_1 narrow_1).before #[Value.ref b] s = true) (hN : N < 2 ^ 31) (hl : (Cond.laysStatic "FeltHouse" nm "[I").before #[Value.ref b] s = true) (hi : (Cond.initialized "FeltHouse").before #[Value.ref b] s = true) (h1 : Cond.arrayOf (.static "FeltHouse" nm "[I") .int ∈ flS) (h2 : Cond.eq (.length (.static "FeltHouse" nm "[I")) (.int (Int32.ofNat N)) ∈ flS) (h3 : ∀ j, j < N → Cond.eq (.elem (.static "FeltHouse" nm "[I") (.int (Int32.ofNat j))) (.int (f j)) ∈ flS) (hA : ∀ a : Nat, a < s.heap.size → ¬ A a) :
    ∃ t : Nat, va_Z "FeltHouse" nm "[I" (.ref t) A s s.heap ∧ va_T .int t N (fun j => .int (f j)) A s s.heap := by
  have hs := flat_of_before _ hgv
  obtain ⟨t, ht, hT⟩ := va_Tof (f := fun j => .int (f j)) (A := A) hN (hs _ h1) (va_eqt (hs _ h2)) (fun j hj => va_eqt (hs _ (h3 j hj))) hA
  exact ⟨t, va_Zref hl hi ht hA, hT⟩
theorem fk_1 : Cond.arrayOf (.static "FeltHouse" "KIND_ABOVE" "[I") .int ∈ flS := by decide +kernel
theorem fk_2 : Cond.eq (.length (.static "FeltHouse" "KIND_ABOVE" "[I")) (.int (Int32.ofNat 7)) ∈ flS := by decide +kernel
theorem fk_3 : ∀ j, j < 7 → Cond.eq (.elem (.static "FeltHouse" "KIND_ABOVE" "[I") (.int (Int32.ofNat j))) (.int (tbK j)) ∈ flS := by decide +kernel
theorem fy_1 : Cond.arrayOf (.static "FeltHouse" "SKY_MOST" "[I") .int ∈ flS := by decide +kernel
theorem fy_2 : Cond.eq (.length (.static "FeltHouse" "SKY_MOST" "[I")) (.int (Int32.ofNat 5)) ∈ flS := by decide +kernel
theorem fy_3 : ∀ j, j < 5 → Cond.eq (.elem (.static "FeltHouse" "SKY_MOST" "[I") (.int (Int32.ofNat j))) (.int (tbS j)) ∈ flS := by decide +kernel
theorem fh_1 : Cond.arrayOf (.static "FeltHouse" "HERDING_MOST" "[I") .int ∈ flS := by decide +kernel
theorem fh_2 : Cond.eq (.length (.static "FeltHouse" "HERDING_MOST" "[I")) (.int (Int32.ofNat 3)) ∈ flS := by decide +kernel
theorem fh_3 : ∀ j, j < 3 → Cond.eq (.elem (.static "FeltHouse" "HERDING_MOST" "[I") (.int (Int32.ofNat j))) (.int (tbH j)) ∈ flS := by decide +kernel
theorem fc_1 : Cond.eq (.static "java/lang/String" "COMPACT_STRINGS" "Z") (.int 1) ∈ flS := by decide +kernel
theorem ff_1 : Cond.isRef (.static "jdk/internal/util/Preconditions" "SIOOBE_FORMATTER" "Ljava/util/function/BiFunction;") ∈ flS := by decide +kernel
set_option maxHeartbeats 4000000 in
theorem start_env {b : Nat} {s : State} (hts : ∀ w ∈ lw_tbl, w.before #[Value.ref b] s = true) (hgv : (Jvm.Cond.and given_1 narrow_1).before #[Value.ref b] s = true) : ∃ (D : va_G) (g : Nat → ClassId) (Z : Nat → Nat), Ev D g Z (fun a => s.heap.size ≤ a) s s.heap ∧ va_AO "FeltHouse$Sheet" s := by
  have hA : ∀ a : Nat, a < s.heap.size → ¬ (fun a : Nat => s.heap.size ≤ a) a := fun a h z => absurd z (Nat.not_le.mpr h)
  have hW : ∀ w ∈ WL, w.before #[Value.ref b] s = true := fun w h => hts w (List.mem_filter.mp h).1
  have hs := flat_of_before _ hgv
  obtain ⟨c0, i0, k0⟩ := u_known (C := RX0) (T := TX0) (N := 7) (n := 7) hW kwX0 (hW _ inX0)
  obtain ⟨c1, i1, k1⟩ := u_known (C := RX1) (T := TX1) (N := 7) (n := 7) hW kwX1 (hW _ inX1)
  obtain ⟨c2, i2, k2⟩ := u_known (C := RX2) (T := TX2) (N := 4) (n := 4) hW kwX2 (hW _ inX2)
  obtain ⟨c3, i3, k3⟩ := u_known (C := RX3) (T := TX3) (N := 3) (n := 3) hW kwX3 (hW _ inX3)
  obtain ⟨c4, i4, k4⟩ := u_known (C := RX4) (T := TX4) (N := 15) (n := 15) hW kwX4 (hW _ inX4)
  obtain ⟨c5, i5, k5⟩ := u_known (C := RX5) (T := TX5) (N := 6) (n := 6) hW kwX5 (hW _ inX5)
  obtain ⟨c6, i6, k6⟩ := u_known (C := RX6) (T := TX6) (N := 10) (n := 10) hW kwX6 (hW _ inX6)
  obtain ⟨c7, i7, k7⟩ := u_known (C := RX7) (T := TX7) (N := 22) (n := 22) hW kwX7 (hW _ inX7)
  obtain ⟨g0, kg0, cg0, f0, e0, d0⟩ := Cond.arrayClass_spec (hW _ wac_i)
  obtain ⟨g1, kg1, cg1, f1, e1, d1⟩ := Cond.arrayClass_spec (hW _ wac_j)
  obtain ⟨g2, kg2, cg2, f2, e2, d2⟩ := Cond.arrayClass_spec (hW _ wac_z)
  obtain ⟨cg3, g3, kg3, f3, -, e3, d3, n3⟩ := Cond.arrayOver_spec (hts _ ws_ao)
  obtain ⟨z0, h0, t0⟩ := st_ar (f := tbK) hgv (by decide) (hts _ ws_kind) (hts _ wi_fh) fk_1 fk_2 fk_3 hA
  obtain ⟨z1, h1, t1⟩ := st_ar (f := tbS) hgv (by decide) (hts _ ws_sky) (hts _ wi_fh) fy_1 fy_2 fy_3 hA
  obtain ⟨z2, h2, t2⟩ := st_ar (f := tbH) hgv (by decide) (hts _ ws_herd) (hts _ wi_fh) fh_1 fh_2 fh_3 hA
  obtain ⟨adK, adV, hS, hR⟩ := vk_Sof (N := 13) (tm := tmS) (len := sLen) (byt := sByt) (A := fun a => s.heap.size ≤ a) (args := #[Value.ref b]) (s := s) (fun i hi => sLen_lt hi) (fun i hi => hs _ (fs_ex i hi)) (fun i hi => hs _ (fs_co i hi)) (fun i hi => hs _ (fs_ar i hi)) (fun i hi => hs _ (fs_le i hi)) (fun i hi j hj => hs _ (fs_el i hi j hj)) (fun i j hi hj hij => (fs_ne i hi j hj hij).imp (fun h => hs _ h) (fun h => hs _ h)) hA
  refine ⟨(fun k => match k with
    | 0 => c0 | 1 => c1 | 2 => c2 | 3 => c3 | 4 => c4 | 5 => c5 | 6 => c6 | _ => c7, fun k => match k with
    | 0 => i0 | 1 => i1 | 2 => i2 | 3 => i3 | 4 => i4 | 5 => i5 | 6 => i6 | _ => i7), fun k => match k with
    | 0 => g0 | 1 => g1 | 2 => g2 | _ => g3, fun k => if k = 0 then z0 else if k = 1 then z1 else if k = 2 then z2 else if k < 30 then adK (k - 10) else adV (k - 30), ⟨⟨?_, ?_⟩, ⟨va_Nw.of rfl (hts _ wn_0), va_Nw.of rfl (hts _ wn_1), va_Nw.of rfl (hts _ wn_2), va_Nw.of rfl (hts _ wn_3)⟩, ⟨h0, t0⟩, ⟨h1, t1⟩, ⟨h2, t2⟩, ?_, ?_, va_Zof (hts _ ws_cs) (hts _ wi_st) (va_eqi (hs _ fc_1)) hA, va_Zqof (hts _ ws_fm) (hts _ wi_pc) (hs _ ff_1) hA⟩, va_AO.of (hts _ ws_ao)⟩
  · intro k q hq
    match k, hq with
    | 0, hq => cases hq; exact k0
    | 1, hq => cases hq; exact k1
    | 2, hq => cases hq; exact k2
    | 3, hq => cases hq; exact k3
    | 4, hq => cases hq; exact k4
    | 5, hq => cases hq; exact k5
    | 6, hq => cases hq; exact k6
    | 7, hq => cases hq; exact k7
    | k + 8, hq => simp [vwCl] at hq
  · intro k q hq
    match k, hq with
    | 0, hq => cases hq; exact ⟨fun n z => ⟨fun k h => (by cases h), kg0, e0, cg0, d0⟩, f0⟩
    | 1, hq => cases hq; exact ⟨fun n z => ⟨fun k h => (by cases h), kg1, e1, cg1, d1⟩, f1⟩
    | 2, hq => cases hq; exact ⟨fun n z => ⟨fun k h => (by cases h), kg2, e2, cg2, d2⟩, f2⟩
    | 3, hq => cases hq; exact ⟨fun n z => ⟨fun k h => (by cases h), kg3, e3, cg3, d3⟩, kg3, cg3, e3, d3, f3, n3⟩
    | k + 4, hq => simp [tyL] at hq
  · have eK : ∀ i, i < 13 → (if 10 + i = 0 then z0 else if 10 + i = 1 then z1 else if 10 + i = 2 then z2 else if 10 + i < 30 then adK (10 + i - 10) else adV (10 + i - 30)) = adK i := by
      intro i hi
      rw [if_neg (by omega), if_neg (by omega), if_neg (by omega), if_pos (by omega), Nat.add_sub_cancel_left]
    have eV : ∀ i, i < 13 → (if 30 + i = 0 then z0 else if 30 + i = 1 then z1 else if 30 + i = 2 then z2 else if 30 + i < 30 then adK (30 + i - 10) else adV (30 + i - 30)) = adV i := by
      intro i hi
      rw [if_neg (by omega), if_neg (by omega), if_neg (by omega), if_neg (by omega), Nat.add_sub_cancel_left]
    refine ⟨fun i hi => ?_, fun i j hi hj h => ?_⟩
    · dsimp only
      rw [eK i hi, eV i hi]
      exact hS.1 i hi
    · dsimp only at h
      rw [eK i hi, eK j hj] at h
      exact hS.2 i j hi hj h
  · intro i hi
    dsimp only
    rw [if_neg (by omega), if_neg (by omega), if_neg (by omega), if_pos (by omega), Nat.add_sub_cancel_left]
    have hz : (Cond.stringRef RX5 (sIx.getD i 0) (sTx.getD i "")).before #[Value.ref b] s = true := hts _ (fs_sr i hi)
    exact vk_R.of hz (hR i hi)
