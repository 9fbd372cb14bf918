def fX6_house (F : Nat) (S : St) : Option (St × Int32) := bv (fX4_takeOver 23 1 S) fun S1 => bq (fX5_tellTo F S1) fun S2 v3 => pl (fun (S4 : St) => pl (si S4 44 1 (0)) fun S5 => some (S5, v3)) fun J38 => if v3 < 0 then (J38 S2) else (bv (fX4_takeOver 1 23 S2) fun S6 => J38 S6)
set_option maxRecDepth 100000 in
theorem mX6_house {Y : YT} {F : Nat} {S : St} {R : St × Int32} (h : fX6_house F S  = some R) : Mc VX Y yX6_house cX6_house 2 (some .int) 9 199 [rf Y 0] S (some (.int R.2), R.1) :=
  Mc.start [(0, rf Y 0)] rfl pnX6 (Nat.le_of_ble_eq_true rfl) (fun X (C : Ok VX Y X RX6 cX6_house 2 (some .int)) => by
  unfold fX6_house at h
  refine w_aload_n C dX6_house_0 rfl 0 rfl ?_
  refine w_getr C dX6_house_1 flX6_19 gX0_2 ?_
  refine w_aload_n C dX6_house_4 rfl 0 rfl ?_
  refine w_getr C dX6_house_5 flX6_10 gX0_0 ?_
  refine w_Vv C dX6_house_8 h (fun _ e => mX4_takeOver_23_1 e) lnX6_252 mvX4_takeOver bX23 rfl ⟨Nat.le_of_ble_eq_true rfl, Nat.le_of_ble_eq_true rfl⟩ [] rfl (Nat.le_of_ble_eq_true rfl) (fun S1 h => ?_)
  refine w_aload_n C dX6_house_11 rfl 0 rfl ?_
  refine w_getr C dX6_house_12 flX6_52 gX0_7 ?_
  refine w_aload_n C dX6_house_15 rfl 0 rfl ?_
  refine w_getr C dX6_house_16 flX6_19 gX0_2 ?_
  refine w_Vi C dX6_house_19 h (fun _ e => mX5_tellTo e) lnX6_255 mvX5_tellTo bX44 rfl ⟨Nat.le_of_ble_eq_true rfl, Nat.le_of_ble_eq_true rfl⟩ [] rfl (Nat.le_of_ble_eq_true rfl) (fun S2 v3 h => ?_)
  refine w_istore_n C dX6_house_22 rfl (by decide) [(1, .int v3), (0, rf Y 0)] rfl ?_
  refine w_iload_n C dX6_house_23 rfl 0 rfl ?_
  refine w_join (fun J38 => ∀ (S4 : St), J38 S4 = some R → WS VX Y X 2 9 199 (some (.int R.2), R.1) S4 38 [(0, rf Y 0), (1, .int v3)] []) h ?_ (fun J38 hJ38 h => ?_)
  · intro S4 h
    refine w_aload_n C dX6_house_38 rfl 0 rfl ?_
    refine w_getr C dX6_house_39 flX6_52 gX0_7 ?_
    refine w_iconst (v := 0) C dX6_house_42 (by decide) ?_
    refine x_puti C dX6_house_43 fpX6_246 iX44_1 h (fun S5 h => ?_)
    refine w_iload_n C dX6_house_46 rfl 1 rfl ?_
    exact w_iret C dX6_house_47 h
  refine w_if_lt C 38 dX6_house_24 (by decide) h (fun h => ?_) (fun h => ?_)
  · exact w_sub [1, 0] rfl (hJ38 _ h)
  refine w_aload_n C dX6_house_27 rfl 1 rfl ?_
  refine w_getr C dX6_house_28 flX6_10 gX0_0 ?_
  refine w_aload_n C dX6_house_31 rfl 1 rfl ?_
  refine w_getr C dX6_house_32 flX6_19 gX0_2 ?_
  refine w_Vv C dX6_house_35 h (fun _ e => mX4_takeOver_1_23 e) lnX6_252 mvX4_takeOver bX1 rfl ⟨Nat.le_of_ble_eq_true rfl, Nat.le_of_ble_eq_true rfl⟩ [] rfl (Nat.le_of_ble_eq_true rfl) (fun S6 h => ?_)
  exact w_sub [1, 0] rfl (hJ38 _ h))
def fX6_wipe (S : St) : Option (St × Int32) := pl ((S.1 44 1)) fun v1 => pl (si S 44 1 (0)) fun S2 => some (S2, v1)
set_option maxRecDepth 100000 in
theorem mX6_wipe {Y : YT} {S : St} {R : St × Int32} (h : fX6_wipe  S  = some R) : Mc VX Y yX6_wipe cX6_wipe 2 (some .int) 0 0 [rf Y 0] S (some (.int R.2), R.1) :=
  Mc.start [(0, rf Y 0)] rfl pnX6 (Nat.le_of_ble_eq_true rfl) (fun X (C : Ok VX Y X RX6 cX6_wipe 2 (some .int)) => by
  unfold fX6_wipe at h
  refine w_aload_n C dX6_wipe_0 rfl 0 rfl ?_
  refine w_getr C dX6_wipe_1 flX6_52 gX0_7 ?_
  refine w_geti C dX6_wipe_4 flX6_246 iX44_1 ?_
  refine w_topi h (fun v1 h => ?_)
  refine w_istore_n C dX6_wipe_7 rfl (by decide) [(1, .int v1), (0, rf Y 0)] rfl ?_
  refine w_aload_n C dX6_wipe_8 rfl 1 rfl ?_
  refine w_getr C dX6_wipe_9 flX6_52 gX0_7 ?_
  refine w_iconst (v := 0) C dX6_wipe_12 (by decide) ?_
  refine x_puti C dX6_wipe_13 fpX6_246 iX44_1 h (fun S2 h => ?_)
  refine w_iload_n C dX6_wipe_16 rfl 0 rfl ?_
  exact w_iret C dX6_wipe_17 h)
def fX5_add (S : St) (a1 : Int32) : Option (St) := if (120) ≤ (S.1 44 1) then (some S) else (sti S 45 (S.1 44 1) 120 a1 fun S1 => pl (si S1 44 1 ((S1.1 44 1) + (1))) fun S2 => some S2)
set_option maxRecDepth 100000 in
theorem mX5_add {Y : YT} {S : St} {a1 : Int32} {R : St} (h : fX5_add  S a1 = some R) : Mc VX Y yX5_add cX5_add 2 none 0 0 [rf Y 44, .int a1] S (none, R) :=
  Mc.start [(0, rf Y 44), (1, .int a1)] rfl pnX5 (Nat.le_of_ble_eq_true rfl) (fun X (C : Ok VX Y X RX5 cX5_add 2 none) => by
  unfold fX5_add at h
  refine w_aload_n C dX5_add_0 rfl 0 rfl ?_
  refine w_geti C dX5_add_1 flX5_15 iX44_1 ?_
  refine w_bipush (v := 120) C dX5_add_4 (by decide) ?_
  refine w_icmp_ge C 29 dX5_add_6 (by decide) h (fun h => ?_) (fun h => ?_)
  · exact w_vret C dX5_add_29 h
  refine w_aload_n C dX5_add_9 rfl 0 rfl ?_
  refine w_getr C dX5_add_10 flX5_9 gX44_0 ?_
  refine w_aload_n C dX5_add_13 rfl 0 rfl ?_
  refine w_geti C dX5_add_14 flX5_15 iX44_1 ?_
  refine w_iload_n C dX5_add_17 rfl 1 rfl ?_
  refine x_iast C dX5_add_18 aX45 h (fun S1 h => ?_)
  refine w_aload_n C dX5_add_19 rfl 0 rfl ?_
  refine w_dup C dX5_add_20 rfl ?_
  refine w_geti C dX5_add_21 flX5_15 iX44_1 ?_
  refine w_iconst (v := 1) C dX5_add_24 (by decide) ?_
  refine w_iadd C dX5_add_25 ?_
  refine x_puti C dX5_add_26 fpX5_15 iX44_1 h (fun S2 h => ?_)
  exact w_vret C dX5_add_29 h)
def fX6_feed_L39 (a1 : Int32) (J66 : St → Option (St × Int32)) : Nat → St → Int32 → Option (St × Int32)
  | 0, _, _ => none
  | G39 + 1, S4, v5 => if v5 < 0 then (J66 S4) else (bv (fX5_add S4 ((ushr a1 ((8) * v5)) &&& (255))) fun S6 => pl (v5 + (-1)) fun v7 => fX6_feed_L39 a1 J66 G39 S6 v7)
def fX6_feed (F : Nat) (S : St) (a1 : Int32) (a2 : Int32) : Option (St × Int32) := bv (fX6_within S a2 (1) (4)) fun v1 => if v1 = 0 then (bq (fX6_finding S (0)) fun S10 v11 => some (S10, v11)) else (if ((S.1 44 1) + a2) ≤ (120) then (pl ((a2 - (1))) fun v2 => pl (fun (S3 : St) => some (S3, (S3.1 44 1))) fun J66 => fX6_feed_L39 a1 J66 F S v2) else (bq (fX6_finding S (1)) fun S8 v9 => some (S8, v9)))
set_option maxRecDepth 100000 in
theorem mX6_feed {Y : YT} {F : Nat} {S : St} {a1 : Int32} {a2 : Int32} {R : St × Int32} (h : fX6_feed F S a1 a2 = some R) : Mc VX Y yX6_feed cX6_feed 4 (some .int) 1 22 [rf Y 0, .int a1, .int a2] S (some (.int R.2), R.1) :=
  Mc.start [(0, rf Y 0), (1, .int a1), (2, .int a2)] rfl pnX6 (Nat.le_of_ble_eq_true rfl) (fun X (C : Ok VX Y X RX6 cX6_feed 4 (some .int)) => by
  unfold fX6_feed at h
  refine w_iload_n C dX6_feed_0 rfl 2 rfl ?_
  refine w_iconst (v := 1) C dX6_feed_1 (by decide) ?_
  refine w_iconst (v := 4) C dX6_feed_2 (by decide) ?_
  refine p_Si C dX6_feed_3 h (fun _ e => mX6_within e) lnX6_67 msX6_within rfl ⟨Nat.le_of_ble_eq_true rfl, Nat.le_of_ble_eq_true rfl⟩ [] rfl (Nat.le_of_ble_eq_true rfl) (fun v1 h => ?_)
  refine w_if_ne C 15 dX6_feed_6 (by decide) h (fun h => ?_) (fun h => ?_)
  · refine w_aload_n C dX6_feed_15 rfl 0 rfl ?_
    refine w_getr C dX6_feed_16 flX6_52 gX0_7 ?_
    refine w_geti C dX6_feed_19 flX6_246 iX44_1 ?_
    refine w_iload_n C dX6_feed_22 rfl 2 rfl ?_
    refine w_iadd C dX6_feed_23 ?_
    refine w_bipush (v := 120) C dX6_feed_24 (by decide) ?_
    refine w_icmp_le C 35 dX6_feed_26 (by decide) h (fun h => ?_) (fun h => ?_)
    · refine w_iload_n C dX6_feed_35 rfl 2 rfl ?_
      refine w_iconst (v := 1) C dX6_feed_36 (by decide) ?_
      refine w_isub C dX6_feed_37 ?_
      refine w_topi h (fun v2 h => ?_)
      refine w_istore_n C dX6_feed_38 rfl (by decide) [(3, .int v2), (0, rf Y 0), (1, .int a1), (2, .int a2)] rfl ?_
      refine w_join (fun J66 => ∀ (S3 : St), J66 S3 = some R → WS VX Y X 4 1 22 (some (.int R.2), R.1) S3 66 [(0, rf Y 0)] []) h ?_ (fun J66 hJ66 h => ?_)
      · intro S3 h
        refine w_aload_n C dX6_feed_66 rfl 0 rfl ?_
        refine w_getr C dX6_feed_67 flX6_52 gX0_7 ?_
        refine w_geti C dX6_feed_70 flX6_246 iX44_1 ?_
        exact w_iret C dX6_feed_73 h
      have hL39 : ∀ (G39 : Nat) (S4 : St) (v5 : Int32), fX6_feed_L39 a1 J66 G39 S4 v5 = some R → WS VX Y X 4 1 22 (some (.int R.2), R.1) S4 39 [(0, rf Y 0), (1, .int a1), (3, .int v5)] [] := by
        intro G39
        induction G39 with
        | zero => intro S4 v5 h; exact nomatch (show (none : Option (St × Int32)) = some R from h)
        | succ G39 ih =>
          intro S4 v5 h
          rw [fX6_feed_L39] at h
          refine w_iload_n C dX6_feed_39 rfl 2 rfl ?_
          refine w_if_lt C 66 dX6_feed_40 (by decide) h (fun h => ?_) (fun h => ?_)
          · exact w_sub [0] rfl (hJ66 _ h)
          refine w_aload_n C dX6_feed_43 rfl 0 rfl ?_
          refine w_getr C dX6_feed_44 flX6_52 gX0_7 ?_
          refine w_iload_n C dX6_feed_47 rfl 1 rfl ?_
          refine w_bipush (v := 8) C dX6_feed_48 (by decide) ?_
          refine w_iload_n C dX6_feed_50 rfl 2 rfl ?_
          refine w_imul C dX6_feed_51 ?_
          refine w_iushr C dX6_feed_52 ?_
          refine w_sipush (v := 255) C dX6_feed_53 (by decide) ?_
          refine w_iand C dX6_feed_56 ?_
          refine w_Vv C dX6_feed_57 h (fun _ e => mX5_add e) lnX6_249 mvX5_add bX44 rfl ⟨Nat.le_of_ble_eq_true rfl, Nat.le_of_ble_eq_true rfl⟩ [] rfl (Nat.le_of_ble_eq_true rfl) (fun S6 h => ?_)
          refine x_iinc C dX6_feed_60 2 rfl (-1) (by decide) h (by decide) (fun v7 => [(3, .int v7), (0, rf Y 0), (1, .int a1)]) (fun _ => rfl) (fun v7 h => ?_)
          refine w_goto C 39 dX6_feed_63 (by decide) ?_
          exact w_sub [1, 2, 0] rfl (ih _ _ h)
      exact w_sub [1, 2, 0] rfl (hL39 _ _ _ h)
    refine w_aload_n C dX6_feed_29 rfl 0 rfl ?_
    refine w_iconst (v := 1) C dX6_feed_30 (by decide) ?_
    refine w_Vi C dX6_feed_31 h (fun _ e => mX6_finding e) lnX6_71 mvX6_finding bX0 rfl ⟨Nat.le_of_ble_eq_true rfl, Nat.le_of_ble_eq_true rfl⟩ [] rfl (Nat.le_of_ble_eq_true rfl) (fun S8 v9 h => ?_)
    exact w_iret C dX6_feed_34 h
  refine w_aload_n C dX6_feed_9 rfl 0 rfl ?_
  refine w_iconst (v := 0) C dX6_feed_10 (by decide) ?_
  refine w_Vi C dX6_feed_11 h (fun _ e => mX6_finding e) lnX6_71 mvX6_finding bX0 rfl ⟨Nat.le_of_ble_eq_true rfl, Nat.le_of_ble_eq_true rfl⟩ [] rfl (Nat.le_of_ble_eq_true rfl) (fun S10 v11 h => ?_)
  exact w_iret C dX6_feed_14 h)
def fX2_at (S : St) (a1 : Int32) (a2 : Int32) (a3 : Int32) : Option (Int32) := some ((((a1 * (6)) + a2) * (3)) + a3)
set_option maxRecDepth 100000 in
theorem mX2_at {Y : YT} {S : St} {a1 : Int32} {a2 : Int32} {a3 : Int32} {R : Int32} (h : fX2_at  S a1 a2 a3 = some R) : Mc VX Y yX2_at cX2_at 3 (some .int) 0 0 [.int a1, .int a2, .int a3] S (some (.int R), S) :=
  Mc.start [(0, .int a1), (1, .int a2), (2, .int a3)] rfl pnX2 (Nat.le_of_ble_eq_true rfl) (fun X (C : Ok VX Y X RX2 cX2_at 3 (some .int)) => by
  unfold fX2_at at h
  refine w_iload_n C dX2_at_0 rfl 0 rfl ?_
  refine w_bipush (v := 6) C dX2_at_1 (by decide) ?_
  refine w_imul C dX2_at_3 ?_
  refine w_iload_n C dX2_at_4 rfl 1 rfl ?_
  refine w_iadd C dX2_at_5 ?_
  refine w_iconst (v := 3) C dX2_at_6 (by decide) ?_
  refine w_imul C dX2_at_7 ?_
  refine w_iload_n C dX2_at_8 rfl 2 rfl ?_
  refine w_iadd C dX2_at_9 ?_
  exact p_iret C dX2_at_10 h)
def fX2_longer (S : St) (a1 : Int32) : Option (Int32) := some (if (2) < (a1 + (1)) then (2) else (a1 + (1)))
set_option maxRecDepth 100000 in
theorem mX2_longer {Y : YT} {S : St} {a1 : Int32} {R : Int32} (h : fX2_longer  S a1 = some R) : Mc VX Y yX2_longer cX2_longer 1 (some .int) 1 21 [.int a1] S (some (.int R), S) :=
  Mc.start [(0, .int a1)] rfl pnX2 (Nat.le_of_ble_eq_true rfl) (fun X (C : Ok VX Y X RX2 cX2_longer 1 (some .int)) => by
  unfold fX2_longer at h
  refine w_iload_n C dX2_longer_0 rfl 0 rfl ?_
  refine w_iconst (v := 1) C dX2_longer_1 (by decide) ?_
  refine w_iadd C dX2_longer_2 ?_
  refine w_iconst (v := 2) C dX2_longer_3 (by decide) ?_
  refine x_mmin C dX2_longer_4 lnX2_60 (Nat.le_of_ble_eq_true rfl) (Nat.le_of_ble_eq_true rfl) ?_
  exact p_iret C dX2_longer_7 h)
def fX2_onwardCost (S : St) (a1 : Int32) (a2 : Int32) (a3 : Int32) (a4 : Int32) : Option (Int32) := if a4 = a2 then (bv (fX2_longer S a3) fun v4 => bv (fX2_at S a1 a2 v4) fun v5 => ldi S 42 v5 432 fun v6 => some v6) else (bv (fX2_at S a1 a4 (0)) fun v1 => ldi S 42 v1 432 fun v2 => bv (fX4_moveCost 1 S a2 a4) fun v3 => some (v2 + v3))
set_option maxRecDepth 100000 in
theorem mX2_onwardCost {Y : YT} {S : St} {a1 : Int32} {a2 : Int32} {a3 : Int32} {a4 : Int32} {R : Int32} (h : fX2_onwardCost  S a1 a2 a3 a4 = some R) : Mc VX Y yX2_onwardCost cX2_onwardCost 5 (some .int) 2 43 [rf Y 41, .int a1, .int a2, .int a3, .int a4] S (some (.int R), S) :=
  Mc.start [(0, rf Y 41), (1, .int a1), (2, .int a2), (3, .int a3), (4, .int a4)] rfl pnX2 (Nat.le_of_ble_eq_true rfl) (fun X (C : Ok VX Y X RX2 cX2_onwardCost 5 (some .int)) => by
  unfold fX2_onwardCost at h
  refine w_iload C dX2_onwardCost_0 4 rfl ?_
  refine w_iload_n C dX2_onwardCost_2 rfl 2 rfl ?_
  refine w_icmp_ne C 21 dX2_onwardCost_3 (by decide) h (fun h => ?_) (fun h => ?_)
  · refine w_aload_n C dX2_onwardCost_21 rfl 0 rfl ?_
    refine w_getr C dX2_onwardCost_22 flX2_9 gX41_1 ?_
    refine w_iload_n C dX2_onwardCost_25 rfl 1 rfl ?_
    refine w_iload C dX2_onwardCost_26 4 rfl ?_
    refine w_iconst (v := 0) C dX2_onwardCost_28 (by decide) ?_
    refine p_Si C dX2_onwardCost_29 h (fun _ e => mX2_at e) lnX2_32 msX2_at rfl ⟨Nat.le_of_ble_eq_true rfl, Nat.le_of_ble_eq_true rfl⟩ [rf Y 42] rfl (Nat.le_of_ble_eq_true rfl) (fun v1 h => ?_)
    refine x_iald C dX2_onwardCost_32 aX42 h (fun v2 h => ?_)
    refine w_aload_n C dX2_onwardCost_33 rfl 0 rfl ?_
    refine w_getr C dX2_onwardCost_34 flX2_18 gX41_0 ?_
    refine w_iload_n C dX2_onwardCost_37 rfl 2 rfl ?_
    refine w_iload C dX2_onwardCost_38 4 rfl ?_
    refine p_Vi C dX2_onwardCost_40 h (fun _ e => mX4_moveCost_1 e) lnX2_56 mvX4_moveCost bX1 rfl ⟨Nat.le_of_ble_eq_true rfl, Nat.le_of_ble_eq_true rfl⟩ [.int v2] rfl (Nat.le_of_ble_eq_true rfl) (fun v3 h => ?_)
    refine w_iadd C dX2_onwardCost_43 ?_
    exact p_iret C dX2_onwardCost_44 h
  refine w_aload_n C dX2_onwardCost_6 rfl 0 rfl ?_
  refine w_getr C dX2_onwardCost_7 flX2_9 gX41_1 ?_
  refine w_iload_n C dX2_onwardCost_10 rfl 1 rfl ?_
  refine w_iload_n C dX2_onwardCost_11 rfl 2 rfl ?_
  refine w_iload_n C dX2_onwardCost_12 rfl 3 rfl ?_
  refine p_Si C dX2_onwardCost_13 h (fun _ e => mX2_longer e) lnX2_49 msX2_longer rfl ⟨Nat.le_of_ble_eq_true rfl, Nat.le_of_ble_eq_true rfl⟩ [.int a2, .int a1, rf Y 42] rfl (Nat.le_of_ble_eq_true rfl) (fun v4 h => ?_)
  refine p_Si C dX2_onwardCost_16 h (fun _ e => mX2_at e) lnX2_32 msX2_at rfl ⟨Nat.le_of_ble_eq_true rfl, Nat.le_of_ble_eq_true rfl⟩ [rf Y 42] rfl (Nat.le_of_ble_eq_true rfl) (fun v5 h => ?_)
  refine x_iald C dX2_onwardCost_19 aX42 h (fun v6 h => ?_)
  exact p_iret C dX2_onwardCost_20 h)
def fX2_nextCamp_L16 (S : St) (a1 : Int32) (a2 : Int32) (a3 : Int32) : Nat → Int32 → Int32 → Int32 → Option (Int32)
  | 0, _, _, _ => none
  | G16 + 1, v2, v3, v4 => if (S.1 1 11) ≤ v4 then (some v2) else (bv (fX2_onwardCost S a1 a2 a3 v4) fun v5 => pl (fun (v6 : Int32) (v7 : Int32) => pl (v4 + 1) fun v8 => fX2_nextCamp_L16 S a1 a2 a3 G16 v6 v7 v8) fun J54 => if v3 ≤ v5 then (J54 v2 v3) else (J54 v4 v5))
def fX2_nextCamp (F : Nat) (S : St) (a1 : Int32) (a2 : Int32) (a3 : Int32) : Option (Int32) := bv (fX2_onwardCost S a1 a2 a3 (0)) fun v1 => fX2_nextCamp_L16 S a1 a2 a3 F (0) v1 (1)
set_option maxRecDepth 100000 in
theorem mX2_nextCamp {Y : YT} {F : Nat} {S : St} {a1 : Int32} {a2 : Int32} {a3 : Int32} {R : Int32} (h : fX2_nextCamp F S a1 a2 a3 = some R) : Mc VX Y yX2_nextCamp cX2_nextCamp 8 (some .int) 3 67 [rf Y 41, .int a1, .int a2, .int a3] S (some (.int R), S) :=
  Mc.start [(0, rf Y 41), (1, .int a1), (2, .int a2), (3, .int a3)] rfl pnX2 (Nat.le_of_ble_eq_true rfl) (fun X (C : Ok VX Y X RX2 cX2_nextCamp 8 (some .int)) => by
  unfold fX2_nextCamp at h
  refine w_iconst (v := 0) C dX2_nextCamp_0 (by decide) ?_
  refine w_istore C dX2_nextCamp_1 (by decide) [(4, .int (0)), (0, rf Y 41), (1, .int a1), (2, .int a2), (3, .int a3)] rfl ?_
  refine w_aload_n C dX2_nextCamp_3 rfl 1 rfl ?_
  refine w_iload_n C dX2_nextCamp_4 rfl 2 rfl ?_
  refine w_iload_n C dX2_nextCamp_5 rfl 3 rfl ?_
  refine w_iload_n C dX2_nextCamp_6 rfl 4 rfl ?_
  refine w_iconst (v := 0) C dX2_nextCamp_7 (by decide) ?_
  refine p_Vi C dX2_nextCamp_8 h (fun _ e => mX2_onwardCost e) lnX2_53 mvX2_onwardCost bX41 rfl ⟨Nat.le_of_ble_eq_true rfl, Nat.le_of_ble_eq_true rfl⟩ [] rfl (Nat.le_of_ble_eq_true rfl) (fun v1 h => ?_)
  refine w_istore C dX2_nextCamp_11 (by decide) [(5, .int v1), (4, .int (0)), (0, rf Y 41), (1, .int a1), (2, .int a2), (3, .int a3)] rfl ?_
  refine w_iconst (v := 1) C dX2_nextCamp_13 (by decide) ?_
  refine w_istore C dX2_nextCamp_14 (by decide) [(6, .int (1)), (5, .int v1), (4, .int (0)), (0, rf Y 41), (1, .int a1), (2, .int a2), (3, .int a3)] rfl ?_
  have hL16 : ∀ (G16 : Nat) (v2 : Int32) (v3 : Int32) (v4 : Int32), fX2_nextCamp_L16 S a1 a2 a3 G16 v2 v3 v4 = some R → WS VX Y X 8 3 67 (some (.int R), S) S 16 [(0, rf Y 41), (1, .int a1), (2, .int a2), (3, .int a3), (4, .int v2), (5, .int v3), (6, .int v4)] [] := by
    intro G16
    induction G16 with
    | zero => intro v2 v3 v4 h; exact nomatch (show (none : Option (Int32)) = some R from h)
    | succ G16 ih =>
      intro v2 v3 v4 h
      rw [fX2_nextCamp_L16] at h
      refine w_iload C dX2_nextCamp_16 6 rfl ?_
      refine w_aload_n C dX2_nextCamp_18 rfl 0 rfl ?_
      refine w_getr C dX2_nextCamp_19 flX2_18 gX41_0 ?_
      refine w_geti C dX2_nextCamp_22 flX2_22 iX1_11 ?_
      refine w_icmp_ge C 60 dX2_nextCamp_25 (by decide) h (fun h => ?_) (fun h => ?_)
      · refine w_iload C dX2_nextCamp_60 4 rfl ?_
        exact p_iret C dX2_nextCamp_62 h
      refine w_aload_n C dX2_nextCamp_28 rfl 0 rfl ?_
      refine w_iload_n C dX2_nextCamp_29 rfl 1 rfl ?_
      refine w_iload_n C dX2_nextCamp_30 rfl 2 rfl ?_
      refine w_iload_n C dX2_nextCamp_31 rfl 3 rfl ?_
      refine w_iload C dX2_nextCamp_32 6 rfl ?_
      refine p_Vi C dX2_nextCamp_34 h (fun _ e => mX2_onwardCost e) lnX2_53 mvX2_onwardCost bX41 rfl ⟨Nat.le_of_ble_eq_true rfl, Nat.le_of_ble_eq_true rfl⟩ [] rfl (Nat.le_of_ble_eq_true rfl) (fun v5 h => ?_)
      refine w_istore C dX2_nextCamp_37 (by decide) [(7, .int v5), (0, rf Y 41), (1, .int a1), (2, .int a2), (3, .int a3), (4, .int v2), (5, .int v3), (6, .int v4)] rfl ?_
      refine w_iload C dX2_nextCamp_39 0 rfl ?_
      refine w_iload C dX2_nextCamp_41 6 rfl ?_
      refine w_join (fun J54 => ∀ (v6 : Int32) (v7 : Int32), J54 v6 v7 = some R → WS VX Y X 8 3 67 (some (.int R), S) S 54 [(0, rf Y 41), (1, .int a1), (2, .int a2), (3, .int a3), (4, .int v6), (5, .int v7), (6, .int v4)] []) h ?_ (fun J54 hJ54 h => ?_)
      · intro v6 v7 h
        refine x_iinc C dX2_nextCamp_54 6 rfl 1 (by decide) h (by decide) (fun v8 => [(6, .int v8), (0, rf Y 41), (1, .int a1), (2, .int a2), (3, .int a3), (4, .int v6), (5, .int v7)]) (fun _ => rfl) (fun v8 h => ?_)
        refine w_goto C 16 dX2_nextCamp_57 (by decide) ?_
        exact w_sub [1, 2, 3, 4, 5, 6, 0] rfl (ih _ _ _ h)
      refine w_icmp_ge C 54 dX2_nextCamp_43 (by decide) h (fun h => ?_) (fun h => ?_)
      · exact w_sub [1, 2, 3, 4, 5, 6, 7] rfl (hJ54 _ _ h)
      refine w_iload C dX2_nextCamp_46 0 rfl ?_
      refine w_istore C dX2_nextCamp_48 (by decide) [(5, .int v5), (7, .int v5), (0, rf Y 41), (1, .int a1), (2, .int a2), (3, .int a3), (4, .int v2), (6, .int v4)] rfl ?_
      refine w_iload C dX2_nextCamp_50 7 rfl ?_
      refine w_istore C dX2_nextCamp_52 (by decide) [(4, .int v4), (5, .int v5), (7, .int v5), (0, rf Y 41), (1, .int a1), (2, .int a2), (3, .int a3), (6, .int v4)] rfl ?_
      exact w_sub [3, 4, 5, 6, 0, 1, 7] rfl (hJ54 _ _ h)
  exact w_sub [3, 4, 5, 6, 2, 1, 0] rfl (hL16 _ _ _ _ h))
def fX2_restCost (F : Nat) (S : St) (a1 : Int32) (a2 : Int32) (a3 : Int32) (a4 : Int32) : Option (Int32) := if a1 < a2 then (bv (fX2_nextCamp F S a1 a3 a4) fun v1 => bv (fX2_onwardCost S a1 a3 a4 v1) fun v2 => some v2) else (some (0))
set_option maxRecDepth 100000 in
theorem mX2_restCost {Y : YT} {F : Nat} {S : St} {a1 : Int32} {a2 : Int32} {a3 : Int32} {a4 : Int32} {R : Int32} (h : fX2_restCost F S a1 a2 a3 a4 = some R) : Mc VX Y yX2_restCost cX2_restCost 5 (some .int) 4 94 [rf Y 41, .int a1, .int a2, .int a3, .int a4] S (some (.int R), S) :=
  Mc.start [(0, rf Y 41), (1, .int a1), (2, .int a2), (3, .int a3), (4, .int a4)] rfl pnX2 (Nat.le_of_ble_eq_true rfl) (fun X (C : Ok VX Y X RX2 cX2_restCost 5 (some .int)) => by
  unfold fX2_restCost at h
  refine w_iload_n C dX2_restCost_0 rfl 1 rfl ?_
  refine w_iload_n C dX2_restCost_1 rfl 2 rfl ?_
  refine w_icmp_lt C 9 dX2_restCost_2 (by decide) h (fun h => ?_) (fun h => ?_)
  · refine w_aload_n C dX2_restCost_9 rfl 0 rfl ?_
    refine w_iload_n C dX2_restCost_10 rfl 1 rfl ?_
    refine w_iload_n C dX2_restCost_11 rfl 3 rfl ?_
    refine w_iload C dX2_restCost_12 4 rfl ?_
    refine w_aload_n C dX2_restCost_14 rfl 0 rfl ?_
    refine w_iload_n C dX2_restCost_15 rfl 1 rfl ?_
    refine w_iload_n C dX2_restCost_16 rfl 3 rfl ?_
    refine w_iload C dX2_restCost_17 4 rfl ?_
    refine p_Vi C dX2_restCost_19 h (fun _ e => mX2_nextCamp e) lnX2_46 mvX2_nextCamp bX41 rfl ⟨Nat.le_of_ble_eq_true rfl, Nat.le_of_ble_eq_true rfl⟩ [.int a4, .int a3, .int a1, rf Y 41] rfl (Nat.le_of_ble_eq_true rfl) (fun v1 h => ?_)
    refine p_Vi C dX2_restCost_22 h (fun _ e => mX2_onwardCost e) lnX2_53 mvX2_onwardCost bX41 rfl ⟨Nat.le_of_ble_eq_true rfl, Nat.le_of_ble_eq_true rfl⟩ [] rfl (Nat.le_of_ble_eq_true rfl) (fun v2 h => ?_)
    exact p_iret C dX2_restCost_25 h
  refine w_iconst (v := 0) C dX2_restCost_5 (by decide) ?_
  refine w_goto C 25 dX2_restCost_6 (by decide) ?_
  exact p_iret C dX2_restCost_25 h)
def fX2_firstCamp_L4 (S : St) : Nat → Int32 → Int32 → Option (Int32)
  | 0, _, _ => none
  | G4 + 1, v1, v2 => if (S.1 1 11) ≤ v2 then (some v1) else (bv (fX2_at S (0) v2 (0)) fun v3 => ldi S 42 v3 432 fun v4 => bv (fX2_at S (0) v1 (0)) fun v5 => ldi S 42 v5 432 fun v6 => pl (fun (v7 : Int32) => pl (v2 + 1) fun v8 => fX2_firstCamp_L4 S G4 v7 v8) fun J42 => if v6 ≤ v4 then (J42 v1) else (J42 v2))
def fX2_firstCamp (F : Nat) (S : St) : Option (Int32) := fX2_firstCamp_L4 S F (0) (1)
set_option maxRecDepth 100000 in
theorem mX2_firstCamp {Y : YT} {F : Nat} {S : St} {R : Int32} (h : fX2_firstCamp F S  = some R) : Mc VX Y yX2_firstCamp cX2_firstCamp 3 (some .int) 1 22 [rf Y 41] S (some (.int R), S) :=
  Mc.start [(0, rf Y 41)] rfl pnX2 (Nat.le_of_ble_eq_true rfl) (fun X (C : Ok VX Y X RX2 cX2_firstCamp 3 (some .int)) => by
  unfold fX2_firstCamp at h
  refine w_iconst (v := 0) C dX2_firstCamp_0 (by decide) ?_
  refine w_istore_n C dX2_firstCamp_1 rfl (by decide) [(1, .int (0)), (0, rf Y 41)] rfl ?_
  refine w_iconst (v := 1) C dX2_firstCamp_2 (by decide) ?_
  refine w_istore_n C dX2_firstCamp_3 rfl (by decide) [(2, .int (1)), (1, .int (0)), (0, rf Y 41)] rfl ?_
  have hL4 : ∀ (G4 : Nat) (v1 : Int32) (v2 : Int32), fX2_firstCamp_L4 S G4 v1 v2 = some R → WS VX Y X 3 1 22 (some (.int R), S) S 4 [(0, rf Y 41), (1, .int v1), (2, .int v2)] [] := by
    intro G4
    induction G4 with
    | zero => intro v1 v2 h; exact nomatch (show (none : Option (Int32)) = some R from h)
    | succ G4 ih =>
      intro v1 v2 h
      rw [fX2_firstCamp_L4] at h
      refine w_iload_n C dX2_firstCamp_4 rfl 2 rfl ?_
      refine w_aload_n C dX2_firstCamp_5 rfl 0 rfl ?_
      refine w_getr C dX2_firstCamp_6 flX2_18 gX41_0 ?_
      refine w_geti C dX2_firstCamp_9 flX2_22 iX1_11 ?_
      refine w_icmp_ge C 48 dX2_firstCamp_12 (by decide) h (fun h => ?_) (fun h => ?_)
      · refine w_iload_n C dX2_firstCamp_48 rfl 1 rfl ?_
        exact p_iret C dX2_firstCamp_49 h
      refine w_aload_n C dX2_firstCamp_15 rfl 0 rfl ?_
      refine w_getr C dX2_firstCamp_16 flX2_9 gX41_1 ?_
      refine w_iconst (v := 0) C dX2_firstCamp_19 (by decide) ?_
      refine w_iload_n C dX2_firstCamp_20 rfl 2 rfl ?_
      refine w_iconst (v := 0) C dX2_firstCamp_21 (by decide) ?_
      refine p_Si C dX2_firstCamp_22 h (fun _ e => mX2_at e) lnX2_32 msX2_at rfl ⟨Nat.le_of_ble_eq_true rfl, Nat.le_of_ble_eq_true rfl⟩ [rf Y 42] rfl (Nat.le_of_ble_eq_true rfl) (fun v3 h => ?_)
      refine x_iald C dX2_firstCamp_25 aX42 h (fun v4 h => ?_)
      refine w_aload_n C dX2_firstCamp_26 rfl 0 rfl ?_
      refine w_getr C dX2_firstCamp_27 flX2_9 gX41_1 ?_
      refine w_iconst (v := 0) C dX2_firstCamp_30 (by decide) ?_
      refine w_iload_n C dX2_firstCamp_31 rfl 1 rfl ?_
      refine w_iconst (v := 0) C dX2_firstCamp_32 (by decide) ?_
      refine p_Si C dX2_firstCamp_33 h (fun _ e => mX2_at e) lnX2_32 msX2_at rfl ⟨Nat.le_of_ble_eq_true rfl, Nat.le_of_ble_eq_true rfl⟩ [rf Y 42, .int v4] rfl (Nat.le_of_ble_eq_true rfl) (fun v5 h => ?_)
      refine x_iald C dX2_firstCamp_36 aX42 h (fun v6 h => ?_)
      refine w_join (fun J42 => ∀ (v7 : Int32), J42 v7 = some R → WS VX Y X 3 1 22 (some (.int R), S) S 42 [(0, rf Y 41), (1, .int v7), (2, .int v2)] []) h ?_ (fun J42 hJ42 h => ?_)
      · intro v7 h
        refine x_iinc C dX2_firstCamp_42 2 rfl 1 (by decide) h (by decide) (fun v8 => [(2, .int v8), (0, rf Y 41), (1, .int v7)]) (fun _ => rfl) (fun v8 h => ?_)
        refine w_goto C 4 dX2_firstCamp_45 (by decide) ?_
        exact w_sub [1, 2, 0] rfl (ih _ _ h)
      refine w_icmp_ge C 42 dX2_firstCamp_37 (by decide) h (fun h => ?_) (fun h => ?_)
      · exact w_sub [0, 1, 2] rfl (hJ42 _ h)
      refine w_iload_n C dX2_firstCamp_40 rfl 2 rfl ?_
      refine w_istore_n C dX2_firstCamp_41 rfl (by decide) [(1, .int v2), (0, rf Y 41), (2, .int v2)] rfl ?_
      exact w_sub [1, 0, 2] rfl (hJ42 _ h)
  exact w_sub [2, 1, 0] rfl (hL4 _ _ _ h))
def fX2_make_L131 (F : Nat) (a2 : Int32) : Nat → St → Int32 → Int32 → Int32 → Option (St)
  | 0, _, _, _, _ => none
  | G131 + 1, S8, v9, v10, v11 => if a2 ≤ v11 then (some S8) else (bv (fX2_nextCamp F S8 v11 v9 v10) fun v12 => pl (fun (v13 : Int32) => sti S8 43 v11 24 v12 fun S14 => pl (v11 + 1) fun v15 => fX2_make_L131 F a2 G131 S14 v12 v13 v15) fun J163 => if v12 = v9 then (bv (fX2_longer S8 v10) fun v16 => J163 v16) else (J163 (0)))
def fX2_make_L26 (F : Nat) (a1 : Int32) (a2 : Int32) (v18 : Int32) (v22 : Int32) (J85 : St → Option (St)) : Nat → St → Int32 → Option (St)
  | 0, _, _ => none
  | G26 + 1, S25, v26 => if (3) ≤ v26 then (J85 S25) else (bv (fX4_monthCost 1 S25 v22 ((a1 + v18) - (a1 + v18) / (12) * (12)) v26) fun v27 => bv (fX2_at S25 v18 v22 v26) fun v28 => bv (fX2_restCost F S25 (v18 + (1)) a2 v22 v26) fun v29 => sti S25 42 v28 432 (v27 + v29) fun S30 => pl (v26 + 1) fun v31 => fX2_make_L26 F a1 a2 v18 v22 J85 G26 S30 v31)
def fX2_make_L11 (F : Nat) (a1 : Int32) (a2 : Int32) (v18 : Int32) (J91 : St → Option (St)) : Nat → St → Int32 → Option (St)
  | 0, _, _ => none
  | G11 + 1, S21, v22 => if (S21.1 1 11) ≤ v22 then (J91 S21) else (pl (fun (S23 : St) => pl (v22 + 1) fun v24 => fX2_make_L11 F a1 a2 v18 J91 G11 S23 v24) fun J85 => fX2_make_L26 F a1 a2 v18 v22 J85 F S21 (0))
def fX2_make_L4 (F : Nat) (a1 : Int32) (a2 : Int32) (J97 : St → Option (St)) : Nat → St → Int32 → Option (St)
  | 0, _, _ => none
  | G4 + 1, S17, v18 => if v18 < 0 then (J97 S17) else (pl (fun (S19 : St) => pl (v18 + (-1)) fun v20 => fX2_make_L4 F a1 a2 J97 G4 S19 v20) fun J91 => fX2_make_L11 F a1 a2 v18 J91 F S17 (0))
def fX2_make (F : Nat) (S : St) (a1 : Int32) (a2 : Int32) : Option (St) := pl ((a2 - (1))) fun v1 => pl (fun (S2 : St) => bv (fX2_firstCamp F S2) fun v3 => bv (fX2_at S2 (0) v3 (0)) fun v4 => ldi S2 42 v4 432 fun v5 => pl (si S2 41 3 v5) fun S6 => sti S6 43 (0) 24 v3 fun S7 => fX2_make_L131 F a2 F S7 v3 (0) (1)) fun J97 => fX2_make_L4 F a1 a2 J97 F S v1
set_option maxRecDepth 100000 in
theorem mX2_make {Y : YT} {F : Nat} {S : St} {a1 : Int32} {a2 : Int32} {R : St} (h : fX2_make F S a1 a2 = some R) : Mc VX Y yX2_make cX2_make 7 none 5 118 [rf Y 41, .int a1, .int a2] S (none, R) :=
  Mc.start [(0, rf Y 41), (1, .int a1), (2, .int a2)] rfl pnX2 (Nat.le_of_ble_eq_true rfl) (fun X (C : Ok VX Y X RX2 cX2_make 7 none) => by
  unfold fX2_make at h
  refine w_iload_n C dX2_make_0 rfl 2 rfl ?_
  refine w_iconst (v := 1) C dX2_make_1 (by decide) ?_
  refine w_isub C dX2_make_2 ?_
  refine w_topi h (fun v1 h => ?_)
  refine w_istore_n C dX2_make_3 rfl (by decide) [(3, .int v1), (0, rf Y 41), (1, .int a1), (2, .int a2)] rfl ?_
  refine w_join (fun J97 => ∀ (S2 : St), J97 S2 = some R → WS VX Y X 7 5 118 (none, R) S2 97 [(0, rf Y 41), (2, .int a2)] []) h ?_ (fun J97 hJ97 h => ?_)
  · intro S2 h
    refine w_aload_n C dX2_make_97 rfl 0 rfl ?_
    refine p_Vi C dX2_make_98 h (fun _ e => mX2_firstCamp e) lnX2_39 mvX2_firstCamp bX41 rfl ⟨Nat.le_of_ble_eq_true rfl, Nat.le_of_ble_eq_true rfl⟩ [] rfl (Nat.le_of_ble_eq_true rfl) (fun v3 h => ?_)
    refine w_istore_n C dX2_make_101 rfl (by decide) [(3, .int v3), (0, rf Y 41), (2, .int a2)] rfl ?_
    refine w_iconst (v := 0) C dX2_make_102 (by decide) ?_
    refine w_istore C dX2_make_103 (by decide) [(4, .int (0)), (3, .int v3), (0, rf Y 41), (2, .int a2)] rfl ?_
    refine w_aload_n C dX2_make_105 rfl 2 rfl ?_
    refine w_aload_n C dX2_make_106 rfl 2 rfl ?_
    refine w_getr C dX2_make_107 flX2_9 gX41_1 ?_
    refine w_iconst (v := 0) C dX2_make_110 (by decide) ?_
    refine w_iload_n C dX2_make_111 rfl 1 rfl ?_
    refine w_iload C dX2_make_112 0 rfl ?_
    refine p_Si C dX2_make_114 h (fun _ e => mX2_at e) lnX2_32 msX2_at rfl ⟨Nat.le_of_ble_eq_true rfl, Nat.le_of_ble_eq_true rfl⟩ [rf Y 42, rf Y 41] rfl (Nat.le_of_ble_eq_true rfl) (fun v4 h => ?_)
    refine x_iald C dX2_make_117 aX42 h (fun v5 h => ?_)
    refine x_puti C dX2_make_118 fpX2_43 iX41_3 h (fun S6 h => ?_)
    refine w_aload_n C dX2_make_121 rfl 2 rfl ?_
    refine w_getr C dX2_make_122 flX2_15 gX41_2 ?_
    refine w_iconst (v := 0) C dX2_make_125 (by decide) ?_
    refine w_iload_n C dX2_make_126 rfl 1 rfl ?_
    refine x_iast C dX2_make_127 aX43 h (fun S7 h => ?_)
    refine w_iconst (v := 1) C dX2_make_128 (by decide) ?_
    refine w_istore C dX2_make_129 (by decide) [(5, .int (1)), (4, .int (0)), (3, .int v3), (0, rf Y 41), (2, .int a2)] rfl ?_
    have hL131 : ∀ (G131 : Nat) (S8 : St) (v9 : Int32) (v10 : Int32) (v11 : Int32), fX2_make_L131 F a2 G131 S8 v9 v10 v11 = some R → WS VX Y X 7 5 118 (none, R) S8 131 [(0, rf Y 41), (2, .int a2), (3, .int v9), (4, .int v10), (5, .int v11)] [] := by
      intro G131
      induction G131 with
      | zero => intro S8 v9 v10 v11 h; exact nomatch (show (none : Option (St)) = some R from h)
      | succ G131 ih =>
        intro S8 v9 v10 v11 h
        rw [fX2_make_L131] at h
        refine w_iload C dX2_make_131 4 rfl ?_
        refine w_iload_n C dX2_make_133 rfl 1 rfl ?_
        refine w_icmp_ge C 182 dX2_make_134 (by decide) h (fun h => ?_) (fun h => ?_)
        · exact w_vret C dX2_make_182 h
        refine w_aload_n C dX2_make_137 rfl 0 rfl ?_
        refine w_iload C dX2_make_138 4 rfl ?_
        refine w_iload_n C dX2_make_140 rfl 2 rfl ?_
        refine w_iload C dX2_make_141 3 rfl ?_
        refine p_Vi C dX2_make_143 h (fun _ e => mX2_nextCamp e) lnX2_46 mvX2_nextCamp bX41 rfl ⟨Nat.le_of_ble_eq_true rfl, Nat.le_of_ble_eq_true rfl⟩ [] rfl (Nat.le_of_ble_eq_true rfl) (fun v12 h => ?_)
        refine w_istore C dX2_make_146 (by decide) [(6, .int v12), (0, rf Y 41), (2, .int a2), (3, .int v9), (4, .int v10), (5, .int v11)] rfl ?_
        refine w_iload C dX2_make_148 0 rfl ?_
        refine w_iload_n C dX2_make_150 rfl 3 rfl ?_
        refine w_join (fun J163 => ∀ (v13 : Int32), J163 v13 = some R → WS VX Y X 7 5 118 (none, R) S8 163 [(0, rf Y 41), (2, .int a2), (5, .int v11), (6, .int v12)] [.int v13]) h ?_ (fun J163 hJ163 h => ?_)
        · intro v13 h
          refine w_istore C dX2_make_163 (by decide) [(4, .int v13), (0, rf Y 41), (2, .int a2), (5, .int v11), (6, .int v12)] rfl ?_
          refine w_iload C dX2_make_165 4 rfl ?_
          refine w_istore_n C dX2_make_167 rfl (by decide) [(3, .int v12), (4, .int v13), (0, rf Y 41), (2, .int a2), (5, .int v11), (6, .int v12)] rfl ?_
          refine w_aload_n C dX2_make_168 rfl 2 rfl ?_
          refine w_getr C dX2_make_169 flX2_15 gX41_2 ?_
          refine w_iload C dX2_make_172 4 rfl ?_
          refine w_iload_n C dX2_make_174 rfl 0 rfl ?_
          refine x_iast C dX2_make_175 aX43 h (fun S14 h => ?_)
          refine x_iinc C dX2_make_176 4 rfl 1 (by decide) h (by decide) (fun v15 => [(5, .int v15), (3, .int v12), (4, .int v13), (0, rf Y 41), (2, .int a2), (6, .int v12)]) (fun _ => rfl) (fun v15 h => ?_)
          refine w_goto C 131 dX2_make_179 (by decide) ?_
          exact w_sub [3, 4, 1, 2, 0] rfl (ih _ _ _ _ h)
        refine w_icmp_ne C 162 dX2_make_151 (by decide) h (fun h => ?_) (fun h => ?_)
        · refine w_iconst (v := 0) C dX2_make_162 (by decide) ?_
          exact w_sub [1, 2, 5, 0] rfl (hJ163 _ h)
        refine w_iload C dX2_make_154 4 rfl ?_
        refine p_Si C dX2_make_156 h (fun _ e => mX2_longer e) lnX2_49 msX2_longer rfl ⟨Nat.le_of_ble_eq_true rfl, Nat.le_of_ble_eq_true rfl⟩ [] rfl (Nat.le_of_ble_eq_true rfl) (fun v16 h => ?_)
        refine w_goto C 163 dX2_make_159 (by decide) ?_
        exact w_sub [1, 2, 5, 0] rfl (hJ163 _ h)
    exact w_sub [3, 4, 2, 1, 0] rfl (hL131 _ _ _ _ _ h)
  have hL4 : ∀ (G4 : Nat) (S17 : St) (v18 : Int32), fX2_make_L4 F a1 a2 J97 G4 S17 v18 = some R → WS VX Y X 7 5 118 (none, R) S17 4 [(0, rf Y 41), (1, .int a1), (2, .int a2), (3, .int v18)] [] := by
    intro G4
    induction G4 with
    | zero => intro S17 v18 h; exact nomatch (show (none : Option (St)) = some R from h)
    | succ G4 ih =>
      intro S17 v18 h
      rw [fX2_make_L4] at h
      refine w_iload_n C dX2_make_4 rfl 3 rfl ?_
      refine w_if_lt C 97 dX2_make_5 (by decide) h (fun h => ?_) (fun h => ?_)
      · exact w_sub [0, 2] rfl (hJ97 _ h)
      refine w_iconst (v := 0) C dX2_make_8 (by decide) ?_
      refine w_istore C dX2_make_9 (by decide) [(4, .int (0)), (0, rf Y 41), (1, .int a1), (2, .int a2), (3, .int v18)] rfl ?_
      refine w_join (fun J91 => ∀ (S19 : St), J91 S19 = some R → WS VX Y X 7 5 118 (none, R) S19 91 [(0, rf Y 41), (1, .int a1), (2, .int a2), (3, .int v18)] []) h ?_ (fun J91 hJ91 h => ?_)
      · intro S19 h
        refine x_iinc C dX2_make_91 3 rfl (-1) (by decide) h (by decide) (fun v20 => [(3, .int v20), (0, rf Y 41), (1, .int a1), (2, .int a2)]) (fun _ => rfl) (fun v20 h => ?_)
        refine w_goto C 4 dX2_make_94 (by decide) ?_
        exact w_sub [1, 2, 3, 0] rfl (ih _ _ h)
      have hL11 : ∀ (G11 : Nat) (S21 : St) (v22 : Int32), fX2_make_L11 F a1 a2 v18 J91 G11 S21 v22 = some R → WS VX Y X 7 5 118 (none, R) S21 11 [(0, rf Y 41), (1, .int a1), (2, .int a2), (3, .int v18), (4, .int v22)] [] := by
        intro G11
        induction G11 with
        | zero => intro S21 v22 h; exact nomatch (show (none : Option (St)) = some R from h)
        | succ G11 ih =>
          intro S21 v22 h
          rw [fX2_make_L11] at h
          refine w_iload C dX2_make_11 4 rfl ?_
          refine w_aload_n C dX2_make_13 rfl 0 rfl ?_
          refine w_getr C dX2_make_14 flX2_18 gX41_0 ?_
          refine w_geti C dX2_make_17 flX2_22 iX1_11 ?_
          refine w_icmp_ge C 91 dX2_make_20 (by decide) h (fun h => ?_) (fun h => ?_)
          · exact w_sub [0, 1, 2, 3] rfl (hJ91 _ h)
          refine w_iconst (v := 0) C dX2_make_23 (by decide) ?_
          refine w_istore C dX2_make_24 (by decide) [(5, .int (0)), (0, rf Y 41), (1, .int a1), (2, .int a2), (3, .int v18), (4, .int v22)] rfl ?_
          refine w_join (fun J85 => ∀ (S23 : St), J85 S23 = some R → WS VX Y X 7 5 118 (none, R) S23 85 [(0, rf Y 41), (1, .int a1), (2, .int a2), (3, .int v18), (4, .int v22)] []) h ?_ (fun J85 hJ85 h => ?_)
          · intro S23 h
            refine x_iinc C dX2_make_85 4 rfl 1 (by decide) h (by decide) (fun v24 => [(4, .int v24), (0, rf Y 41), (1, .int a1), (2, .int a2), (3, .int v18)]) (fun _ => rfl) (fun v24 h => ?_)
            refine w_goto C 11 dX2_make_88 (by decide) ?_
            exact w_sub [1, 2, 3, 4, 0] rfl (ih _ _ h)
          have hL26 : ∀ (G26 : Nat) (S25 : St) (v26 : Int32), fX2_make_L26 F a1 a2 v18 v22 J85 G26 S25 v26 = some R → WS VX Y X 7 5 118 (none, R) S25 26 [(0, rf Y 41), (1, .int a1), (2, .int a2), (3, .int v18), (4, .int v22), (5, .int v26)] [] := by
            intro G26
            induction G26 with
            | zero => intro S25 v26 h; exact nomatch (show (none : Option (St)) = some R from h)
            | succ G26 ih =>
              intro S25 v26 h
              rw [fX2_make_L26] at h
              refine w_iload C dX2_make_26 5 rfl ?_
              refine w_iconst (v := 3) C dX2_make_28 (by decide) ?_
              refine w_icmp_ge C 85 dX2_make_29 (by decide) h (fun h => ?_) (fun h => ?_)
              · exact w_sub [0, 1, 2, 3, 4] rfl (hJ85 _ h)
              refine w_aload_n C dX2_make_32 rfl 0 rfl ?_
              refine w_getr C dX2_make_33 flX2_18 gX41_0 ?_
              refine w_iload C dX2_make_36 4 rfl ?_
              refine w_iload_n C dX2_make_38 rfl 1 rfl ?_
              refine w_iload_n C dX2_make_39 rfl 3 rfl ?_
              refine w_iadd C dX2_make_40 ?_
              refine w_bipush (v := 12) C dX2_make_41 (by decide) ?_
              refine w_irem C dX2_make_43 (by decide) ?_
              refine w_iload C dX2_make_44 5 rfl ?_
              refine p_Vi C dX2_make_46 h (fun _ e => mX4_monthCost_1 e) lnX2_28 mvX4_monthCost bX1 rfl ⟨Nat.le_of_ble_eq_true rfl, Nat.le_of_ble_eq_true rfl⟩ [] rfl (Nat.le_of_ble_eq_true rfl) (fun v27 h => ?_)
              refine w_istore C dX2_make_49 (by decide) [(6, .int v27), (0, rf Y 41), (1, .int a1), (2, .int a2), (3, .int v18), (4, .int v22), (5, .int v26)] rfl ?_
              refine w_aload_n C dX2_make_51 rfl 1 rfl ?_
              refine w_getr C dX2_make_52 flX2_9 gX41_1 ?_
              refine w_iload_n C dX2_make_55 rfl 4 rfl ?_
              refine w_iload C dX2_make_56 5 rfl ?_
              refine w_iload C dX2_make_58 6 rfl ?_
              refine p_Si C dX2_make_60 h (fun _ e => mX2_at e) lnX2_32 msX2_at rfl ⟨Nat.le_of_ble_eq_true rfl, Nat.le_of_ble_eq_true rfl⟩ [rf Y 42] rfl (Nat.le_of_ble_eq_true rfl) (fun v28 h => ?_)
              refine w_iload C dX2_make_63 0 rfl ?_
              refine w_aload_n C dX2_make_65 rfl 1 rfl ?_
              refine w_iload_n C dX2_make_66 rfl 4 rfl ?_
              refine w_iconst (v := 1) C dX2_make_67 (by decide) ?_
              refine w_iadd C dX2_make_68 ?_
              refine w_iload_n C dX2_make_69 rfl 3 rfl ?_
              refine w_iload C dX2_make_70 5 rfl ?_
              refine w_iload C dX2_make_72 6 rfl ?_
              refine p_Vi C dX2_make_74 h (fun _ e => mX2_restCost e) lnX2_35 mvX2_restCost bX41 rfl ⟨Nat.le_of_ble_eq_true rfl, Nat.le_of_ble_eq_true rfl⟩ [.int v27, .int v28, rf Y 42] rfl (Nat.le_of_ble_eq_true rfl) (fun v29 h => ?_)
              refine w_iadd C dX2_make_77 ?_
              refine x_iast C dX2_make_78 aX42 h (fun S30 h => ?_)
              refine x_iinc C dX2_make_79 6 rfl 1 (by decide) h (by decide) (fun v31 => [(5, .int v31), (6, .int v27), (0, rf Y 41), (1, .int a1), (2, .int a2), (3, .int v18), (4, .int v22)]) (fun _ => rfl) (fun v31 h => ?_)
              refine w_goto C 26 dX2_make_82 (by decide) ?_
              exact w_sub [2, 3, 4, 5, 6, 0] rfl (ih _ _ h)
          exact w_sub [1, 2, 3, 4, 5, 0] rfl (hL26 _ _ _ h)
      exact w_sub [1, 2, 3, 4, 0] rfl (hL11 _ _ _ h)
  exact w_sub [1, 2, 3, 0] rfl (hL4 _ _ _ h))
def fX2_movesIn_L4 (S : St) (a1 : Int32) : Nat → Int32 → Int32 → Option (Int32)
  | 0, _, _ => none
  | G4 + 1, v1, v2 => if a1 ≤ v2 then (some v1) else (ldi S 43 v2 24 fun v3 => ldi S 43 (v2 - (1)) 24 fun v4 => pl (fun (v5 : Int32) => pl ((v1 + v5)) fun v6 => pl (v2 + 1) fun v7 => fX2_movesIn_L4 S a1 G4 v6 v7) fun J32 => if v3 = v4 then (J32 (0)) else (J32 (1)))
def fX2_movesIn (F : Nat) (S : St) (a1 : Int32) : Option (Int32) := fX2_movesIn_L4 S a1 F (0) (1)
set_option maxRecDepth 100000 in
theorem mX2_movesIn {Y : YT} {F : Nat} {S : St} {a1 : Int32} {R : Int32} (h : fX2_movesIn F S a1 = some R) : Mc VX Y yX2_movesIn cX2_movesIn 4 (some .int) 0 0 [rf Y 41, .int a1] S (some (.int R), S) :=
  Mc.start [(0, rf Y 41), (1, .int a1)] rfl pnX2 (Nat.le_of_ble_eq_true rfl) (fun X (C : Ok VX Y X RX2 cX2_movesIn 4 (some .int)) => by
  unfold fX2_movesIn at h
  refine w_iconst (v := 0) C dX2_movesIn_0 (by decide) ?_
  refine w_istore_n C dX2_movesIn_1 rfl (by decide) [(2, .int (0)), (0, rf Y 41), (1, .int a1)] rfl ?_
  refine w_iconst (v := 1) C dX2_movesIn_2 (by decide) ?_
  refine w_istore_n C dX2_movesIn_3 rfl (by decide) [(3, .int (1)), (2, .int (0)), (0, rf Y 41), (1, .int a1)] rfl ?_
  have hL4 : ∀ (G4 : Nat) (v1 : Int32) (v2 : Int32), fX2_movesIn_L4 S a1 G4 v1 v2 = some R → WS VX Y X 4 0 0 (some (.int R), S) S 4 [(0, rf Y 41), (1, .int a1), (2, .int v1), (3, .int v2)] [] := by
    intro G4
    induction G4 with
    | zero => intro v1 v2 h; exact nomatch (show (none : Option (Int32)) = some R from h)
    | succ G4 ih =>
      intro v1 v2 h
      rw [fX2_movesIn_L4] at h
      refine w_iload_n C dX2_movesIn_4 rfl 3 rfl ?_
      refine w_iload_n C dX2_movesIn_5 rfl 1 rfl ?_
      refine w_icmp_ge C 40 dX2_movesIn_6 (by decide) h (fun h => ?_) (fun h => ?_)
      · refine w_iload_n C dX2_movesIn_40 rfl 2 rfl ?_
        exact p_iret C dX2_movesIn_41 h
      refine w_iload_n C dX2_movesIn_9 rfl 2 rfl ?_
      refine w_aload_n C dX2_movesIn_10 rfl 0 rfl ?_
      refine w_getr C dX2_movesIn_11 flX2_15 gX41_2 ?_
      refine w_iload_n C dX2_movesIn_14 rfl 3 rfl ?_
      refine x_iald C dX2_movesIn_15 aX43 h (fun v3 h => ?_)
      refine w_aload_n C dX2_movesIn_16 rfl 0 rfl ?_
      refine w_getr C dX2_movesIn_17 flX2_15 gX41_2 ?_
      refine w_iload_n C dX2_movesIn_20 rfl 3 rfl ?_
      refine w_iconst (v := 1) C dX2_movesIn_21 (by decide) ?_
      refine w_isub C dX2_movesIn_22 ?_
      refine x_iald C dX2_movesIn_23 aX43 h (fun v4 h => ?_)
      refine w_join (fun J32 => ∀ (v5 : Int32), J32 v5 = some R → WS VX Y X 4 0 0 (some (.int R), S) S 32 [(0, rf Y 41), (1, .int a1), (3, .int v2)] [.int v5, .int v1]) h ?_ (fun J32 hJ32 h => ?_)
      · intro v5 h
        refine w_iadd C dX2_movesIn_32 ?_
        refine w_topi h (fun v6 h => ?_)
        refine w_istore_n C dX2_movesIn_33 rfl (by decide) [(2, .int v6), (0, rf Y 41), (1, .int a1), (3, .int v2)] rfl ?_
        refine x_iinc C dX2_movesIn_34 3 rfl 1 (by decide) h (by decide) (fun v7 => [(3, .int v7), (2, .int v6), (0, rf Y 41), (1, .int a1)]) (fun _ => rfl) (fun v7 h => ?_)
        refine w_goto C 4 dX2_movesIn_37 (by decide) ?_
        exact w_sub [2, 3, 1, 0] rfl (ih _ _ h)
      refine w_icmp_ne C 31 dX2_movesIn_24 (by decide) h (fun h => ?_) (fun h => ?_)
      · refine w_iconst (v := 1) C dX2_movesIn_31 (by decide) ?_
        exact w_sub [0, 1, 3] rfl (hJ32 _ h)
      refine w_iconst (v := 0) C dX2_movesIn_27 (by decide) ?_
      refine w_goto C 32 dX2_movesIn_28 (by decide) ?_
      exact w_sub [0, 1, 3] rfl (hJ32 _ h)
  exact w_sub [2, 3, 1, 0] rfl (hL4 _ _ _ h))
def fX6_moves (F : Nat) (S : St) (a1 : Int32) (a2 : Int32) : Option (St × Int32) := bv (fX6_within S a1 (0) (11)) fun v1 => pl (bq (fX6_finding S (0)) fun S2 v3 => some (S2, v3)) fun J20 => if v1 = 0 then (J20) else (bv (fX6_within S a2 (1) (24)) fun v4 => if v4 = 0 then (J20) else (if (S.1 1 11) = 0 then (bq (fX6_finding S (3)) fun S7 v8 => some (S7, v8)) else (bv (fX2_make F S a1 a2) fun S5 => bv (fX2_movesIn F S5 a2) fun v6 => some (S5, v6))))
set_option maxRecDepth 100000 in
theorem mX6_moves {Y : YT} {F : Nat} {S : St} {a1 : Int32} {a2 : Int32} {R : St × Int32} (h : fX6_moves F S a1 a2 = some R) : Mc VX Y yX6_moves cX6_moves 3 (some .int) 6 144 [rf Y 0, .int a1, .int a2] S (some (.int R.2), R.1) :=
  Mc.start [(0, rf Y 0), (1, .int a1), (2, .int a2)] rfl pnX6 (Nat.le_of_ble_eq_true rfl) (fun X (C : Ok VX Y X RX6 cX6_moves 3 (some .int)) => by
  unfold fX6_moves at h
  refine w_iload_n C dX6_moves_0 rfl 1 rfl ?_
  refine w_iconst (v := 0) C dX6_moves_1 (by decide) ?_
  refine w_bipush (v := 11) C dX6_moves_2 (by decide) ?_
  refine p_Si C dX6_moves_4 h (fun _ e => mX6_within e) lnX6_67 msX6_within rfl ⟨Nat.le_of_ble_eq_true rfl, Nat.le_of_ble_eq_true rfl⟩ [] rfl (Nat.le_of_ble_eq_true rfl) (fun v1 h => ?_)
  refine w_join (fun J20 => J20  = some R → WS VX Y X 3 6 144 (some (.int R.2), R.1) S 20 [(0, rf Y 0)] []) h ?_ (fun J20 hJ20 h => ?_)
  · intro  h
    refine w_aload_n C dX6_moves_20 rfl 0 rfl ?_
    refine w_iconst (v := 0) C dX6_moves_21 (by decide) ?_
    refine w_Vi C dX6_moves_22 h (fun _ e => mX6_finding e) lnX6_71 mvX6_finding bX0 rfl ⟨Nat.le_of_ble_eq_true rfl, Nat.le_of_ble_eq_true rfl⟩ [] rfl (Nat.le_of_ble_eq_true rfl) (fun S2 v3 h => ?_)
    exact w_iret C dX6_moves_25 h
  refine w_if_eq C 20 dX6_moves_7 (by decide) h (fun h => ?_) (fun h => ?_)
  · exact w_sub [0] rfl (hJ20  h)
  refine w_iload_n C dX6_moves_10 rfl 2 rfl ?_
  refine w_iconst (v := 1) C dX6_moves_11 (by decide) ?_
  refine w_bipush (v := 24) C dX6_moves_12 (by decide) ?_
  refine p_Si C dX6_moves_14 h (fun _ e => mX6_within e) lnX6_67 msX6_within rfl ⟨Nat.le_of_ble_eq_true rfl, Nat.le_of_ble_eq_true rfl⟩ [] rfl (Nat.le_of_ble_eq_true rfl) (fun v4 h => ?_)
  refine w_if_ne C 26 dX6_moves_17 (by decide) h (fun h => ?_) (fun h => ?_)
  · refine w_aload_n C dX6_moves_26 rfl 0 rfl ?_
    refine w_getr C dX6_moves_27 flX6_10 gX0_0 ?_
    refine w_geti C dX6_moves_30 flX6_212 iX1_11 ?_
    refine w_if_ne C 42 dX6_moves_33 (by decide) h (fun h => ?_) (fun h => ?_)
    · refine w_aload_n C dX6_moves_42 rfl 0 rfl ?_
      refine w_getr C dX6_moves_43 flX6_45 gX0_6 ?_
      refine w_iload_n C dX6_moves_46 rfl 1 rfl ?_
      refine w_iload_n C dX6_moves_47 rfl 2 rfl ?_
      refine w_Vv C dX6_moves_48 h (fun _ e => mX2_make e) lnX6_233 mvX2_make bX41 rfl ⟨Nat.le_of_ble_eq_true rfl, Nat.le_of_ble_eq_true rfl⟩ [] rfl (Nat.le_of_ble_eq_true rfl) (fun S5 h => ?_)
      refine w_aload_n C dX6_moves_51 rfl 0 rfl ?_
      refine w_getr C dX6_moves_52 flX6_45 gX0_6 ?_
      refine w_iload_n C dX6_moves_55 rfl 2 rfl ?_
      refine p_Vi C dX6_moves_56 h (fun _ e => mX2_movesIn e) lnX6_243 mvX2_movesIn bX41 rfl ⟨Nat.le_of_ble_eq_true rfl, Nat.le_of_ble_eq_true rfl⟩ [] rfl (Nat.le_of_ble_eq_true rfl) (fun v6 h => ?_)
      exact w_iret C dX6_moves_59 h
    refine w_aload_n C dX6_moves_36 rfl 0 rfl ?_
    refine w_iconst (v := 3) C dX6_moves_37 (by decide) ?_
    refine w_Vi C dX6_moves_38 h (fun _ e => mX6_finding e) lnX6_71 mvX6_finding bX0 rfl ⟨Nat.le_of_ble_eq_true rfl, Nat.le_of_ble_eq_true rfl⟩ [] rfl (Nat.le_of_ble_eq_true rfl) (fun S7 v8 h => ?_)
    exact w_iret C dX6_moves_41 h
  exact w_sub [0] rfl (hJ20  h))
def fX6_year (F : Nat) (S : St) (a1 : Int32) (a2 : Int32) (a3 : Int32) : Option (St × Int32) := bv (fX6_within S a1 (0) (11)) fun v1 => pl (bq (fX6_finding S (0)) fun S2 v3 => some (S2, v3)) fun J31 => if v1 = 0 then (J31) else (bv (fX6_within S a2 (1) (24)) fun v4 => if v4 = 0 then (J31) else (bv (fX6_within S a3 (-1) (a2 - (1))) fun v5 => if v5 = 0 then (J31) else (if (S.1 1 11) = 0 then (bq (fX6_finding S (3)) fun S8 v9 => some (S8, v9)) else (bv (fX2_make F S a1 a2) fun S6 => if 0 ≤ a3 then (ldi S6 43 a3 24 fun v7 => some (S6, v7)) else (some (S6, (S6.1 41 3)))))))
set_option maxRecDepth 100000 in
theorem mX6_year {Y : YT} {F : Nat} {S : St} {a1 : Int32} {a2 : Int32} {a3 : Int32} {R : St × Int32} (h : fX6_year F S a1 a2 a3 = some R) : Mc VX Y yX6_year cX6_year 4 (some .int) 6 144 [rf Y 0, .int a1, .int a2, .int a3] S (some (.int R.2), R.1) :=
  Mc.start [(0, rf Y 0), (1, .int a1), (2, .int a2), (3, .int a3)] rfl pnX6 (Nat.le_of_ble_eq_true rfl) (fun X (C : Ok VX Y X RX6 cX6_year 4 (some .int)) => by
  unfold fX6_year at h
  refine w_iload_n C dX6_year_0 rfl 1 rfl ?_
  refine w_iconst (v := 0) C dX6_year_1 (by decide) ?_
  refine w_bipush (v := 11) C dX6_year_2 (by decide) ?_
  refine p_Si C dX6_year_4 h (fun _ e => mX6_within e) lnX6_67 msX6_within rfl ⟨Nat.le_of_ble_eq_true rfl, Nat.le_of_ble_eq_true rfl⟩ [] rfl (Nat.le_of_ble_eq_true rfl) (fun v1 h => ?_)
  refine w_join (fun J31 => J31  = some R → WS VX Y X 4 6 144 (some (.int R.2), R.1) S 31 [(0, rf Y 0)] []) h ?_ (fun J31 hJ31 h => ?_)
  · intro  h
    refine w_aload_n C dX6_year_31 rfl 0 rfl ?_
    refine w_iconst (v := 0) C dX6_year_32 (by decide) ?_
    refine w_Vi C dX6_year_33 h (fun _ e => mX6_finding e) lnX6_71 mvX6_finding bX0 rfl ⟨Nat.le_of_ble_eq_true rfl, Nat.le_of_ble_eq_true rfl⟩ [] rfl (Nat.le_of_ble_eq_true rfl) (fun S2 v3 h => ?_)
    exact w_iret C dX6_year_36 h
  refine w_if_eq C 31 dX6_year_7 (by decide) h (fun h => ?_) (fun h => ?_)
  · exact w_sub [0] rfl (hJ31  h)
  refine w_iload_n C dX6_year_10 rfl 2 rfl ?_
  refine w_iconst (v := 1) C dX6_year_11 (by decide) ?_
  refine w_bipush (v := 24) C dX6_year_12 (by decide) ?_
  refine p_Si C dX6_year_14 h (fun _ e => mX6_within e) lnX6_67 msX6_within rfl ⟨Nat.le_of_ble_eq_true rfl, Nat.le_of_ble_eq_true rfl⟩ [] rfl (Nat.le_of_ble_eq_true rfl) (fun v4 h => ?_)
  refine w_if_eq C 31 dX6_year_17 (by decide) h (fun h => ?_) (fun h => ?_)
  · exact w_sub [0] rfl (hJ31  h)
  refine w_iload_n C dX6_year_20 rfl 3 rfl ?_
  refine w_iconst (v := -1) C dX6_year_21 (by decide) ?_
  refine w_iload_n C dX6_year_22 rfl 2 rfl ?_
  refine w_iconst (v := 1) C dX6_year_23 (by decide) ?_
  refine w_isub C dX6_year_24 ?_
  refine p_Si C dX6_year_25 h (fun _ e => mX6_within e) lnX6_67 msX6_within rfl ⟨Nat.le_of_ble_eq_true rfl, Nat.le_of_ble_eq_true rfl⟩ [] rfl (Nat.le_of_ble_eq_true rfl) (fun v5 h => ?_)
  refine w_if_ne C 37 dX6_year_28 (by decide) h (fun h => ?_) (fun h => ?_)
  · refine w_aload_n C dX6_year_37 rfl 0 rfl ?_
    refine w_getr C dX6_year_38 flX6_10 gX0_0 ?_
    refine w_geti C dX6_year_41 flX6_212 iX1_11 ?_
    refine w_if_ne C 53 dX6_year_44 (by decide) h (fun h => ?_) (fun h => ?_)
    · refine w_aload_n C dX6_year_53 rfl 0 rfl ?_
      refine w_getr C dX6_year_54 flX6_45 gX0_6 ?_
      refine w_iload_n C dX6_year_57 rfl 1 rfl ?_
      refine w_iload_n C dX6_year_58 rfl 2 rfl ?_
      refine w_Vv C dX6_year_59 h (fun _ e => mX2_make e) lnX6_233 mvX2_make bX41 rfl ⟨Nat.le_of_ble_eq_true rfl, Nat.le_of_ble_eq_true rfl⟩ [] rfl (Nat.le_of_ble_eq_true rfl) (fun S6 h => ?_)
      refine w_iload_n C dX6_year_62 rfl 3 rfl ?_
      refine w_if_ge C 76 dX6_year_63 (by decide) h (fun h => ?_) (fun h => ?_)
      · refine w_aload_n C dX6_year_76 rfl 0 rfl ?_
        refine w_getr C dX6_year_77 flX6_45 gX0_6 ?_
        refine w_getr C dX6_year_80 flX6_240 gX41_2 ?_
        refine w_iload_n C dX6_year_83 rfl 3 rfl ?_
        refine x_iald C dX6_year_84 aX43 h (fun v7 h => ?_)
        exact w_iret C dX6_year_85 h
      refine w_aload_n C dX6_year_66 rfl 0 rfl ?_
      refine w_getr C dX6_year_67 flX6_45 gX0_6 ?_
      refine w_geti C dX6_year_70 flX6_237 iX41_3 ?_
      refine w_goto C 85 dX6_year_73 (by decide) ?_
      exact w_iret C dX6_year_85 h
    refine w_aload_n C dX6_year_47 rfl 0 rfl ?_
    refine w_iconst (v := 3) C dX6_year_48 (by decide) ?_
    refine w_Vi C dX6_year_49 h (fun _ e => mX6_finding e) lnX6_71 mvX6_finding bX0 rfl ⟨Nat.le_of_ble_eq_true rfl, Nat.le_of_ble_eq_true rfl⟩ [] rfl (Nat.le_of_ble_eq_true rfl) (fun S8 v9 h => ?_)
    exact w_iret C dX6_year_52 h
  exact w_sub [0] rfl (hJ31  h))
def fX6_put (c : Nat) (len : Nat) (S : St) (a2 : Int32) (a3 : Int32) : Option (St × Int32) := ldi S c a2 len fun v1 => sti S c a2 len a3 fun S2 => some (S2, v1)
set_option maxRecDepth 100000 in
theorem mX6_put_4 {Y : YT} {S : St} {a2 : Int32} {a3 : Int32} {R : St × Int32} (h : fX6_put 4 20 S a2 a3 = some R) : Mc VX Y yX6_put cX6_put 4 (some .int) 0 0 [rf Y 4, .int a2, .int a3] S (some (.int R.2), R.1) :=
  Mc.start [(0, rf Y 4), (1, .int a2), (2, .int a3)] rfl pnX6 (Nat.le_of_ble_eq_true rfl) (fun X (C : Ok VX Y X RX6 cX6_put 4 (some .int)) => by
  unfold fX6_put at h
  refine w_aload_n C dX6_put_0 rfl 0 rfl ?_
  refine w_iload_n C dX6_put_1 rfl 1 rfl ?_
  refine x_iald C dX6_put_2 aX4 h (fun v1 h => ?_)
  refine w_istore_n C dX6_put_3 rfl (by decide) [(3, .int v1), (0, rf Y 4), (1, .int a2), (2, .int a3)] rfl ?_
  refine w_aload_n C dX6_put_4 rfl 1 rfl ?_
  refine w_iload_n C dX6_put_5 rfl 2 rfl ?_
  refine w_iload_n C dX6_put_6 rfl 3 rfl ?_
  refine x_iast C dX6_put_7 aX4 h (fun S2 h => ?_)
  refine w_iload_n C dX6_put_8 rfl 0 rfl ?_
  exact w_iret C dX6_put_9 h)
set_option maxRecDepth 100000 in
theorem mX6_put_5 {Y : YT} {S : St} {a2 : Int32} {a3 : Int32} {R : St × Int32} (h : fX6_put 5 20 S a2 a3 = some R) : Mc VX Y yX6_put cX6_put 4 (some .int) 0 0 [rf Y 5, .int a2, .int a3] S (some (.int R.2), R.1) :=
  Mc.start [(0, rf Y 5), (1, .int a2), (2, .int a3)] rfl pnX6 (Nat.le_of_ble_eq_true rfl) (fun X (C : Ok VX Y X RX6 cX6_put 4 (some .int)) => by
  unfold fX6_put at h
  refine w_aload_n C dX6_put_0 rfl 0 rfl ?_
  refine w_iload_n C dX6_put_1 rfl 1 rfl ?_
  refine x_iald C dX6_put_2 aX5 h (fun v1 h => ?_)
  refine w_istore_n C dX6_put_3 rfl (by decide) [(3, .int v1), (0, rf Y 5), (1, .int a2), (2, .int a3)] rfl ?_
  refine w_aload_n C dX6_put_4 rfl 1 rfl ?_
  refine w_iload_n C dX6_put_5 rfl 2 rfl ?_
  refine w_iload_n C dX6_put_6 rfl 3 rfl ?_
  refine x_iast C dX6_put_7 aX5 h (fun S2 h => ?_)
  refine w_iload_n C dX6_put_8 rfl 0 rfl ?_
  exact w_iret C dX6_put_9 h)
set_option maxRecDepth 100000 in
theorem mX6_put_6 {Y : YT} {S : St} {a2 : Int32} {a3 : Int32} {R : St × Int32} (h : fX6_put 6 20 S a2 a3 = some R) : Mc VX Y yX6_put cX6_put 4 (some .int) 0 0 [rf Y 6, .int a2, .int a3] S (some (.int R.2), R.1) :=
  Mc.start [(0, rf Y 6), (1, .int a2), (2, .int a3)] rfl pnX6 (Nat.le_of_ble_eq_true rfl) (fun X (C : Ok VX Y X RX6 cX6_put 4 (some .int)) => by
  unfold fX6_put at h
  refine w_aload_n C dX6_put_0 rfl 0 rfl ?_
  refine w_iload_n C dX6_put_1 rfl 1 rfl ?_
  refine x_iald C dX6_put_2 aX6 h (fun v1 h => ?_)
  refine w_istore_n C dX6_put_3 rfl (by decide) [(3, .int v1), (0, rf Y 6), (1, .int a2), (2, .int a3)] rfl ?_
  refine w_aload_n C dX6_put_4 rfl 1 rfl ?_
  refine w_iload_n C dX6_put_5 rfl 2 rfl ?_
  refine w_iload_n C dX6_put_6 rfl 3 rfl ?_
  refine x_iast C dX6_put_7 aX6 h (fun S2 h => ?_)
  refine w_iload_n C dX6_put_8 rfl 0 rfl ?_
  exact w_iret C dX6_put_9 h)
set_option maxRecDepth 100000 in
theorem mX6_put_7 {Y : YT} {S : St} {a2 : Int32} {a3 : Int32} {R : St × Int32} (h : fX6_put 7 5 S a2 a3 = some R) : Mc VX Y yX6_put cX6_put 4 (some .int) 0 0 [rf Y 7, .int a2, .int a3] S (some (.int R.2), R.1) :=
  Mc.start [(0, rf Y 7), (1, .int a2), (2, .int a3)] rfl pnX6 (Nat.le_of_ble_eq_true rfl) (fun X (C : Ok VX Y X RX6 cX6_put 4 (some .int)) => by
  unfold fX6_put at h
  refine w_aload_n C dX6_put_0 rfl 0 rfl ?_
  refine w_iload_n C dX6_put_1 rfl 1 rfl ?_
  refine x_iald C dX6_put_2 aX7 h (fun v1 h => ?_)
  refine w_istore_n C dX6_put_3 rfl (by decide) [(3, .int v1), (0, rf Y 7), (1, .int a2), (2, .int a3)] rfl ?_
  refine w_aload_n C dX6_put_4 rfl 1 rfl ?_
  refine w_iload_n C dX6_put_5 rfl 2 rfl ?_
  refine w_iload_n C dX6_put_6 rfl 3 rfl ?_
  refine x_iast C dX6_put_7 aX7 h (fun S2 h => ?_)
  refine w_iload_n C dX6_put_8 rfl 0 rfl ?_
  exact w_iret C dX6_put_9 h)
set_option maxRecDepth 100000 in
theorem mX6_put_10 {Y : YT} {S : St} {a2 : Int32} {a3 : Int32} {R : St × Int32} (h : fX6_put 10 72 S a2 a3 = some R) : Mc VX Y yX6_put cX6_put 4 (some .int) 0 0 [rf Y 10, .int a2, .int a3] S (some (.int R.2), R.1) :=
  Mc.start [(0, rf Y 10), (1, .int a2), (2, .int a3)] rfl pnX6 (Nat.le_of_ble_eq_true rfl) (fun X (C : Ok VX Y X RX6 cX6_put 4 (some .int)) => by
  unfold fX6_put at h
  refine w_aload_n C dX6_put_0 rfl 0 rfl ?_
  refine w_iload_n C dX6_put_1 rfl 1 rfl ?_
  refine x_iald C dX6_put_2 aX10 h (fun v1 h => ?_)
  refine w_istore_n C dX6_put_3 rfl (by decide) [(3, .int v1), (0, rf Y 10), (1, .int a2), (2, .int a3)] rfl ?_
  refine w_aload_n C dX6_put_4 rfl 1 rfl ?_
  refine w_iload_n C dX6_put_5 rfl 2 rfl ?_
  refine w_iload_n C dX6_put_6 rfl 3 rfl ?_
  refine x_iast C dX6_put_7 aX10 h (fun S2 h => ?_)
  refine w_iload_n C dX6_put_8 rfl 0 rfl ?_
  exact w_iret C dX6_put_9 h)
set_option maxRecDepth 100000 in
theorem mX6_put_11 {Y : YT} {S : St} {a2 : Int32} {a3 : Int32} {R : St × Int32} (h : fX6_put 11 3 S a2 a3 = some R) : Mc VX Y yX6_put cX6_put 4 (some .int) 0 0 [rf Y 11, .int a2, .int a3] S (some (.int R.2), R.1) :=
  Mc.start [(0, rf Y 11), (1, .int a2), (2, .int a3)] rfl pnX6 (Nat.le_of_ble_eq_true rfl) (fun X (C : Ok VX Y X RX6 cX6_put 4 (some .int)) => by
  unfold fX6_put at h
  refine w_aload_n C dX6_put_0 rfl 0 rfl ?_
  refine w_iload_n C dX6_put_1 rfl 1 rfl ?_
  refine x_iald C dX6_put_2 aX11 h (fun v1 h => ?_)
  refine w_istore_n C dX6_put_3 rfl (by decide) [(3, .int v1), (0, rf Y 11), (1, .int a2), (2, .int a3)] rfl ?_
  refine w_aload_n C dX6_put_4 rfl 1 rfl ?_
  refine w_iload_n C dX6_put_5 rfl 2 rfl ?_
  refine w_iload_n C dX6_put_6 rfl 3 rfl ?_
  refine x_iast C dX6_put_7 aX11 h (fun S2 h => ?_)
  refine w_iload_n C dX6_put_8 rfl 0 rfl ?_
  exact w_iret C dX6_put_9 h)
def fX6_herd (S : St) (a1 : Int32) (a2 : Int32) : Option (St × Int32) := bv (fX6_within S a1 (0) (2)) fun v1 => pl (bq (fX6_finding S (0)) fun S2 v3 => some (S2, v3)) fun J22 => if v1 = 0 then (J22) else (ldt tbH a1 3 fun v4 => bv (fX6_within S a2 (0) v4) fun v5 => if v5 = 0 then (J22) else (bq (fX6_put 11 3 S a1 a2) fun S6 v7 => some (S6, v7)))
set_option maxRecDepth 100000 in
theorem mX6_herd {Y : YT} {S : St} {a1 : Int32} {a2 : Int32} {R : St × Int32} (h : fX6_herd  S a1 a2 = some R) : Mc VX Y yX6_herd cX6_herd 3 (some .int) 1 23 [rf Y 0, .int a1, .int a2] S (some (.int R.2), R.1) :=
  Mc.start [(0, rf Y 0), (1, .int a1), (2, .int a2)] rfl pnX6 (Nat.le_of_ble_eq_true rfl) (fun X (C : Ok VX Y X RX6 cX6_herd 3 (some .int)) => by
  unfold fX6_herd at h
  refine w_iload_n C dX6_herd_0 rfl 1 rfl ?_
  refine w_iconst (v := 0) C dX6_herd_1 (by decide) ?_
  refine w_iconst (v := 2) C dX6_herd_2 (by decide) ?_
  refine p_Si C dX6_herd_3 h (fun _ e => mX6_within e) lnX6_67 msX6_within rfl ⟨Nat.le_of_ble_eq_true rfl, Nat.le_of_ble_eq_true rfl⟩ [] rfl (Nat.le_of_ble_eq_true rfl) (fun v1 h => ?_)
  refine w_join (fun J22 => J22  = some R → WS VX Y X 3 1 23 (some (.int R.2), R.1) S 22 [(0, rf Y 0)] []) h ?_ (fun J22 hJ22 h => ?_)
  · intro  h
    refine w_aload_n C dX6_herd_22 rfl 0 rfl ?_
    refine w_iconst (v := 0) C dX6_herd_23 (by decide) ?_
    refine w_Vi C dX6_herd_24 h (fun _ e => mX6_finding e) lnX6_71 mvX6_finding bX0 rfl ⟨Nat.le_of_ble_eq_true rfl, Nat.le_of_ble_eq_true rfl⟩ [] rfl (Nat.le_of_ble_eq_true rfl) (fun S2 v3 h => ?_)
    exact w_iret C dX6_herd_27 h
  refine w_if_eq C 22 dX6_herd_6 (by decide) h (fun h => ?_) (fun h => ?_)
  · exact w_sub [0] rfl (hJ22  h)
  refine w_iload_n C dX6_herd_9 rfl 2 rfl ?_
  refine w_iconst (v := 0) C dX6_herd_10 (by decide) ?_
  refine x_stat2 C dX6_herd_11 fsX6_227 ?_
  refine w_iload_n C dX6_herd_14 rfl 1 rfl ?_
  refine x_tald2 C dX6_herd_15 h (fun v4 h => ?_)
  refine p_Si C dX6_herd_16 h (fun _ e => mX6_within e) lnX6_67 msX6_within rfl ⟨Nat.le_of_ble_eq_true rfl, Nat.le_of_ble_eq_true rfl⟩ [] rfl (Nat.le_of_ble_eq_true rfl) (fun v5 h => ?_)
  refine w_if_ne C 28 dX6_herd_19 (by decide) h (fun h => ?_) (fun h => ?_)
  · refine w_aload_n C dX6_herd_28 rfl 0 rfl ?_
    refine w_getr C dX6_herd_29 flX6_10 gX0_0 ?_
    refine w_getr C dX6_herd_32 flX6_230 gX1_14 ?_
    refine w_iload_n C dX6_herd_35 rfl 1 rfl ?_
    refine w_iload_n C dX6_herd_36 rfl 2 rfl ?_
    refine w_Si C dX6_herd_37 h (fun _ e => mX6_put_11 e) lnX6_120 msX6_put rfl ⟨Nat.le_of_ble_eq_true rfl, Nat.le_of_ble_eq_true rfl⟩ [] rfl (Nat.le_of_ble_eq_true rfl) (fun S6 v7 h => ?_)
    exact w_iret C dX6_herd_40 h
  exact w_sub [0] rfl (hJ22  h))
def fX6_campOf (S : St) (a1 : Int32) (a2 : Int32) : Option (St × Int32) := bv (fX4_hasCamp 1 S a1) fun v1 => pl (bq (fX6_finding S (0)) fun S2 v3 => some (S2, v3)) fun J21 => if v1 = 0 then (J21) else (bv (fX6_within S a2 (0) (12)) fun v4 => if v4 = 0 then (J21) else (if a2 = (12) then (ldi S 9 a1 6 fun v6 => some (S, v6)) else (ldi S 10 ((a1 * (12)) + a2) 72 fun v5 => some (S, v5))))
set_option maxRecDepth 100000 in
theorem mX6_campOf {Y : YT} {S : St} {a1 : Int32} {a2 : Int32} {R : St × Int32} (h : fX6_campOf  S a1 a2 = some R) : Mc VX Y yX6_campOf cX6_campOf 3 (some .int) 1 22 [rf Y 0, .int a1, .int a2] S (some (.int R.2), R.1) :=
  Mc.start [(0, rf Y 0), (1, .int a1), (2, .int a2)] rfl pnX6 (Nat.le_of_ble_eq_true rfl) (fun X (C : Ok VX Y X RX6 cX6_campOf 3 (some .int)) => by
  unfold fX6_campOf at h
  refine w_aload_n C dX6_campOf_0 rfl 0 rfl ?_
  refine w_getr C dX6_campOf_1 flX6_10 gX0_0 ?_
  refine w_iload_n C dX6_campOf_4 rfl 1 rfl ?_
  refine p_Vi C dX6_campOf_5 h (fun _ e => mX4_hasCamp_1 e) lnX6_218 mvX4_hasCamp bX1 rfl ⟨Nat.le_of_ble_eq_true rfl, Nat.le_of_ble_eq_true rfl⟩ [] rfl (Nat.le_of_ble_eq_true rfl) (fun v1 h => ?_)
  refine w_join (fun J21 => J21  = some R → WS VX Y X 3 1 22 (some (.int R.2), R.1) S 21 [(0, rf Y 0)] []) h ?_ (fun J21 hJ21 h => ?_)
  · intro  h
    refine w_aload_n C dX6_campOf_21 rfl 0 rfl ?_
    refine w_iconst (v := 0) C dX6_campOf_22 (by decide) ?_
    refine w_Vi C dX6_campOf_23 h (fun _ e => mX6_finding e) lnX6_71 mvX6_finding bX0 rfl ⟨Nat.le_of_ble_eq_true rfl, Nat.le_of_ble_eq_true rfl⟩ [] rfl (Nat.le_of_ble_eq_true rfl) (fun S2 v3 h => ?_)
    exact w_iret C dX6_campOf_26 h
  refine w_if_eq C 21 dX6_campOf_8 (by decide) h (fun h => ?_) (fun h => ?_)
  · exact w_sub [0] rfl (hJ21  h)
  refine w_iload_n C dX6_campOf_11 rfl 2 rfl ?_
  refine w_iconst (v := 0) C dX6_campOf_12 (by decide) ?_
  refine w_bipush (v := 12) C dX6_campOf_13 (by decide) ?_
  refine p_Si C dX6_campOf_15 h (fun _ e => mX6_within e) lnX6_67 msX6_within rfl ⟨Nat.le_of_ble_eq_true rfl, Nat.le_of_ble_eq_true rfl⟩ [] rfl (Nat.le_of_ble_eq_true rfl) (fun v4 h => ?_)
  refine w_if_ne C 27 dX6_campOf_18 (by decide) h (fun h => ?_) (fun h => ?_)
  · refine w_iload_n C dX6_campOf_27 rfl 2 rfl ?_
    refine w_bipush (v := 12) C dX6_campOf_28 (by decide) ?_
    refine w_icmp_ne C 45 dX6_campOf_30 (by decide) h (fun h => ?_) (fun h => ?_)
    · refine w_aload_n C dX6_campOf_45 rfl 0 rfl ?_
      refine w_getr C dX6_campOf_46 flX6_10 gX0_0 ?_
      refine w_getr C dX6_campOf_49 flX6_221 gX1_13 ?_
      refine w_iload_n C dX6_campOf_52 rfl 1 rfl ?_
      refine w_bipush (v := 12) C dX6_campOf_53 (by decide) ?_
      refine w_imul C dX6_campOf_55 ?_
      refine w_iload_n C dX6_campOf_56 rfl 2 rfl ?_
      refine w_iadd C dX6_campOf_57 ?_
      refine x_iald C dX6_campOf_58 aX10 h (fun v5 h => ?_)
      exact w_iret C dX6_campOf_59 h
    refine w_aload_n C dX6_campOf_33 rfl 0 rfl ?_
    refine w_getr C dX6_campOf_34 flX6_10 gX0_0 ?_
    refine w_getr C dX6_campOf_37 flX6_224 gX1_12 ?_
    refine w_iload_n C dX6_campOf_40 rfl 1 rfl ?_
    refine x_iald C dX6_campOf_41 aX9 h (fun v6 h => ?_)
    refine w_goto C 59 dX6_campOf_42 (by decide) ?_
    exact w_iret C dX6_campOf_59 h
  exact w_sub [0] rfl (hJ21  h))
def fX6_grass (S : St) (a1 : Int32) (a2 : Int32) (a3 : Int32) : Option (St × Int32) := bv (fX4_hasCamp 1 S a1) fun v1 => pl (bq (fX6_finding S (0)) fun S2 v3 => some (S2, v3)) fun J32 => if v1 = 0 then (J32) else (bv (fX6_within S a2 (0) (11)) fun v4 => if v4 = 0 then (J32) else (bv (fX6_within S a3 (0) (999)) fun v5 => if v5 = 0 then (J32) else (bq (fX6_put 10 72 S ((a1 * (12)) + a2) a3) fun S6 v7 => some (S6, v7))))
set_option maxRecDepth 100000 in
theorem mX6_grass {Y : YT} {S : St} {a1 : Int32} {a2 : Int32} {a3 : Int32} {R : St × Int32} (h : fX6_grass  S a1 a2 a3 = some R) : Mc VX Y yX6_grass cX6_grass 4 (some .int) 1 23 [rf Y 0, .int a1, .int a2, .int a3] S (some (.int R.2), R.1) :=
  Mc.start [(0, rf Y 0), (1, .int a1), (2, .int a2), (3, .int a3)] rfl pnX6 (Nat.le_of_ble_eq_true rfl) (fun X (C : Ok VX Y X RX6 cX6_grass 4 (some .int)) => by
  unfold fX6_grass at h
  refine w_aload_n C dX6_grass_0 rfl 0 rfl ?_
  refine w_getr C dX6_grass_1 flX6_10 gX0_0 ?_
  refine w_iload_n C dX6_grass_4 rfl 1 rfl ?_
  refine p_Vi C dX6_grass_5 h (fun _ e => mX4_hasCamp_1 e) lnX6_218 mvX4_hasCamp bX1 rfl ⟨Nat.le_of_ble_eq_true rfl, Nat.le_of_ble_eq_true rfl⟩ [] rfl (Nat.le_of_ble_eq_true rfl) (fun v1 h => ?_)
  refine w_join (fun J32 => J32  = some R → WS VX Y X 4 1 23 (some (.int R.2), R.1) S 32 [(0, rf Y 0)] []) h ?_ (fun J32 hJ32 h => ?_)
  · intro  h
    refine w_aload_n C dX6_grass_32 rfl 0 rfl ?_
    refine w_iconst (v := 0) C dX6_grass_33 (by decide) ?_
    refine w_Vi C dX6_grass_34 h (fun _ e => mX6_finding e) lnX6_71 mvX6_finding bX0 rfl ⟨Nat.le_of_ble_eq_true rfl, Nat.le_of_ble_eq_true rfl⟩ [] rfl (Nat.le_of_ble_eq_true rfl) (fun S2 v3 h => ?_)
    exact w_iret C dX6_grass_37 h
  refine w_if_eq C 32 dX6_grass_8 (by decide) h (fun h => ?_) (fun h => ?_)
  · exact w_sub [0] rfl (hJ32  h)
  refine w_iload_n C dX6_grass_11 rfl 2 rfl ?_
  refine w_iconst (v := 0) C dX6_grass_12 (by decide) ?_
  refine w_bipush (v := 11) C dX6_grass_13 (by decide) ?_
  refine p_Si C dX6_grass_15 h (fun _ e => mX6_within e) lnX6_67 msX6_within rfl ⟨Nat.le_of_ble_eq_true rfl, Nat.le_of_ble_eq_true rfl⟩ [] rfl (Nat.le_of_ble_eq_true rfl) (fun v4 h => ?_)
  refine w_if_eq C 32 dX6_grass_18 (by decide) h (fun h => ?_) (fun h => ?_)
  · exact w_sub [0] rfl (hJ32  h)
  refine w_iload_n C dX6_grass_21 rfl 3 rfl ?_
  refine w_iconst (v := 0) C dX6_grass_22 (by decide) ?_
  refine w_sipush (v := 999) C dX6_grass_23 (by decide) ?_
  refine p_Si C dX6_grass_26 h (fun _ e => mX6_within e) lnX6_67 msX6_within rfl ⟨Nat.le_of_ble_eq_true rfl, Nat.le_of_ble_eq_true rfl⟩ [] rfl (Nat.le_of_ble_eq_true rfl) (fun v5 h => ?_)
  refine w_if_ne C 38 dX6_grass_29 (by decide) h (fun h => ?_) (fun h => ?_)
  · refine w_aload_n C dX6_grass_38 rfl 0 rfl ?_
    refine w_getr C dX6_grass_39 flX6_10 gX0_0 ?_
    refine w_getr C dX6_grass_42 flX6_221 gX1_13 ?_
    refine w_iload_n C dX6_grass_45 rfl 1 rfl ?_
    refine w_bipush (v := 12) C dX6_grass_46 (by decide) ?_
    refine w_imul C dX6_grass_48 ?_
    refine w_iload_n C dX6_grass_49 rfl 2 rfl ?_
    refine w_iadd C dX6_grass_50 ?_
    refine w_iload_n C dX6_grass_51 rfl 3 rfl ?_
    refine w_Si C dX6_grass_52 h (fun _ e => mX6_put_10 e) lnX6_120 msX6_put rfl ⟨Nat.le_of_ble_eq_true rfl, Nat.le_of_ble_eq_true rfl⟩ [] rfl (Nat.le_of_ble_eq_true rfl) (fun S6 v7 h => ?_)
    exact w_iret C dX6_grass_55 h
  exact w_sub [0] rfl (hJ32  h))
def fX6_camp (F : Nat) (S : St) (a1 : Int32) : Option (St × Int32) := bv (fX6_within S a1 (0) (99)) fun v1 => if v1 = 0 then (bq (fX6_finding S (0)) fun S6 v7 => some (S6, v7)) else (if (S.1 1 11) < (6) then (bq (fX4_addCamp F 1 S a1) fun S2 v3 => some (S2, v3)) else (bq (fX6_finding S (1)) fun S4 v5 => some (S4, v5)))
set_option maxRecDepth 100000 in
theorem mX6_camp {Y : YT} {F : Nat} {S : St} {a1 : Int32} {R : St × Int32} (h : fX6_camp F S a1 = some R) : Mc VX Y yX6_camp cX6_camp 2 (some .int) 1 23 [rf Y 0, .int a1] S (some (.int R.2), R.1) :=
  Mc.start [(0, rf Y 0), (1, .int a1)] rfl pnX6 (Nat.le_of_ble_eq_true rfl) (fun X (C : Ok VX Y X RX6 cX6_camp 2 (some .int)) => by
  unfold fX6_camp at h
  refine w_iload_n C dX6_camp_0 rfl 1 rfl ?_
  refine w_iconst (v := 0) C dX6_camp_1 (by decide) ?_
  refine w_bipush (v := 99) C dX6_camp_2 (by decide) ?_
  refine p_Si C dX6_camp_4 h (fun _ e => mX6_within e) lnX6_67 msX6_within rfl ⟨Nat.le_of_ble_eq_true rfl, Nat.le_of_ble_eq_true rfl⟩ [] rfl (Nat.le_of_ble_eq_true rfl) (fun v1 h => ?_)
  refine w_if_ne C 16 dX6_camp_7 (by decide) h (fun h => ?_) (fun h => ?_)
  · refine w_aload_n C dX6_camp_16 rfl 0 rfl ?_
    refine w_getr C dX6_camp_17 flX6_10 gX0_0 ?_
    refine w_geti C dX6_camp_20 flX6_212 iX1_11 ?_
    refine w_bipush (v := 6) C dX6_camp_23 (by decide) ?_
    refine w_icmp_lt C 34 dX6_camp_25 (by decide) h (fun h => ?_) (fun h => ?_)
    · refine w_aload_n C dX6_camp_34 rfl 0 rfl ?_
      refine w_getr C dX6_camp_35 flX6_10 gX0_0 ?_
      refine w_iload_n C dX6_camp_38 rfl 1 rfl ?_
      refine w_Vi C dX6_camp_39 h (fun _ e => mX4_addCamp_1 e) lnX6_215 mvX4_addCamp bX1 rfl ⟨Nat.le_of_ble_eq_true rfl, Nat.le_of_ble_eq_true rfl⟩ [] rfl (Nat.le_of_ble_eq_true rfl) (fun S2 v3 h => ?_)
      exact w_iret C dX6_camp_42 h
    refine w_aload_n C dX6_camp_28 rfl 0 rfl ?_
    refine w_iconst (v := 1) C dX6_camp_29 (by decide) ?_
    refine w_Vi C dX6_camp_30 h (fun _ e => mX6_finding e) lnX6_71 mvX6_finding bX0 rfl ⟨Nat.le_of_ble_eq_true rfl, Nat.le_of_ble_eq_true rfl⟩ [] rfl (Nat.le_of_ble_eq_true rfl) (fun S4 v5 h => ?_)
    exact w_iret C dX6_camp_33 h
  refine w_aload_n C dX6_camp_10 rfl 0 rfl ?_
  refine w_iconst (v := 0) C dX6_camp_11 (by decide) ?_
  refine w_Vi C dX6_camp_12 h (fun _ e => mX6_finding e) lnX6_71 mvX6_finding bX0 rfl ⟨Nat.le_of_ble_eq_true rfl, Nat.le_of_ble_eq_true rfl⟩ [] rfl (Nat.le_of_ble_eq_true rfl) (fun S6 v7 h => ?_)
  exact w_iret C dX6_camp_15 h)
def fX4_areAllThere (b : Nat) (S : St) (a1 : Int32) : Option (Int32) := if (a1 &&& ((S.1 b 6) ^^^ (-1))) = 0 then (some (1)) else (some (0))
set_option maxRecDepth 100000 in
theorem mX4_areAllThere_1 {Y : YT} {S : St} {a1 : Int32} {R : Int32} (h : fX4_areAllThere 1 S a1 = some R) : Mc VX Y yX4_areAllThere cX4_areAllThere 2 (some .boolean) 0 0 [rf Y 1, .int a1] S (some (.int R), S) :=
  Mc.start [(0, rf Y 1), (1, .int a1)] rfl pnX4 (Nat.le_of_ble_eq_true rfl) (fun X (C : Ok VX Y X RX4 cX4_areAllThere 2 (some .boolean)) => by
  unfold fX4_areAllThere at h
  refine w_iload_n C dX4_areAllThere_0 rfl 1 rfl ?_
  refine w_aload_n C dX4_areAllThere_1 rfl 0 rfl ?_
  refine w_geti C dX4_areAllThere_2 flX4_55 iX1_6 ?_
  refine w_iconst (v := -1) C dX4_areAllThere_5 (by decide) ?_
  refine w_ixor C dX4_areAllThere_6 ?_
  refine w_iand C dX4_areAllThere_7 ?_
  refine w_if_ne C 15 dX4_areAllThere_8 (by decide) h (fun h => ?_) (fun h => ?_)
  · refine w_iconst (v := 0) C dX4_areAllThere_15 (by decide) ?_
    exact p_zret0 C dX4_areAllThere_16 rfl h
  refine w_iconst (v := 1) C dX4_areAllThere_11 (by decide) ?_
  refine w_goto C 16 dX4_areAllThere_12 (by decide) ?_
  exact p_zret0 C dX4_areAllThere_16 rfl h)
def fX1_lay_L7 (a1 : Int32) : Nat → St → Int32 → Option (St)
  | 0, _, _ => none
  | G7 + 1, S2, v3 => if (S2.1 1 0) ≤ v3 then (some S2) else (pl (fun (S4 : St) => pl (v3 + 1) fun v5 => fX1_lay_L7 a1 G7 S4 v5) fun J74 => if ((a1 >>> (v3 &&& 31)) &&& (1)) = (1) then (if (10) ≤ (S2.1 37 3) then (J74 S2) else (sti S2 38 (S2.1 37 3) 10 v3 fun S6 => ldi S6 5 v3 20 fun v7 => sti S6 39 (S6.1 37 3) 10 v7 fun S8 => pl (si S8 37 3 ((S8.1 37 3) + (1))) fun S9 => J74 S9)) else (J74 S2))
def fX1_lay (F : Nat) (S : St) (a1 : Int32) : Option (St) := pl (si S 37 3 (0)) fun S1 => fX1_lay_L7 a1 F S1 (0)
set_option maxRecDepth 100000 in
theorem mX1_lay {Y : YT} {F : Nat} {S : St} {a1 : Int32} {R : St} (h : fX1_lay F S a1 = some R) : Mc VX Y yX1_lay cX1_lay 3 none 0 0 [rf Y 37, .int a1] S (none, R) :=
  Mc.start [(0, rf Y 37), (1, .int a1)] rfl pnX1 (Nat.le_of_ble_eq_true rfl) (fun X (C : Ok VX Y X RX1 cX1_lay 3 none) => by
  unfold fX1_lay at h
  refine w_aload_n C dX1_lay_0 rfl 0 rfl ?_
  refine w_iconst (v := 0) C dX1_lay_1 (by decide) ?_
  refine x_puti C dX1_lay_2 fpX1_25 iX37_3 h (fun S1 h => ?_)
  refine w_iconst (v := 0) C dX1_lay_5 (by decide) ?_
  refine w_istore_n C dX1_lay_6 rfl (by decide) [(2, .int (0)), (0, rf Y 37), (1, .int a1)] rfl ?_
  have hL7 : ∀ (G7 : Nat) (S2 : St) (v3 : Int32), fX1_lay_L7 a1 G7 S2 v3 = some R → WS VX Y X 3 0 0 (none, R) S2 7 [(0, rf Y 37), (1, .int a1), (2, .int v3)] [] := by
    intro G7
    induction G7 with
    | zero => intro S2 v3 h; exact nomatch (show (none : Option (St)) = some R from h)
    | succ G7 ih =>
      intro S2 v3 h
      rw [fX1_lay_L7] at h
      refine w_iload_n C dX1_lay_7 rfl 2 rfl ?_
      refine w_aload_n C dX1_lay_8 rfl 0 rfl ?_
      refine w_getr C dX1_lay_9 flX1_21 gX37_0 ?_
      refine w_geti C dX1_lay_12 flX1_29 iX1_0 ?_
      refine w_icmp_ge C 80 dX1_lay_15 (by decide) h (fun h => ?_) (fun h => ?_)
      · exact w_vret C dX1_lay_80 h
      refine w_iload_n C dX1_lay_18 rfl 1 rfl ?_
      refine w_iload_n C dX1_lay_19 rfl 2 rfl ?_
      refine w_ishr C dX1_lay_20 ?_
      refine w_iconst (v := 1) C dX1_lay_21 (by decide) ?_
      refine w_iand C dX1_lay_22 ?_
      refine w_iconst (v := 1) C dX1_lay_23 (by decide) ?_
      refine w_join (fun J74 => ∀ (S4 : St), J74 S4 = some R → WS VX Y X 3 0 0 (none, R) S4 74 [(0, rf Y 37), (1, .int a1), (2, .int v3)] []) h ?_ (fun J74 hJ74 h => ?_)
      · intro S4 h
        refine x_iinc C dX1_lay_74 2 rfl 1 (by decide) h (by decide) (fun v5 => [(2, .int v5), (0, rf Y 37), (1, .int a1)]) (fun _ => rfl) (fun v5 h => ?_)
        refine w_goto C 7 dX1_lay_77 (by decide) ?_
        exact w_sub [1, 2, 0] rfl (ih _ _ h)
      refine w_icmp_ne C 74 dX1_lay_24 (by decide) h (fun h => ?_) (fun h => ?_)
      · exact w_sub [0, 1, 2] rfl (hJ74 _ h)
      refine w_aload_n C dX1_lay_27 rfl 0 rfl ?_
      refine w_geti C dX1_lay_28 flX1_25 iX37_3 ?_
      refine w_bipush (v := 10) C dX1_lay_31 (by decide) ?_
      refine w_icmp_ge C 74 dX1_lay_33 (by decide) h (fun h => ?_) (fun h => ?_)
      · exact w_sub [0, 1, 2] rfl (hJ74 _ h)
      refine w_aload_n C dX1_lay_36 rfl 0 rfl ?_
      refine w_getr C dX1_lay_37 flX1_11 gX37_1 ?_
      refine w_aload_n C dX1_lay_40 rfl 0 rfl ?_
      refine w_geti C dX1_lay_41 flX1_25 iX37_3 ?_
      refine w_iload_n C dX1_lay_44 rfl 2 rfl ?_
      refine x_iast C dX1_lay_45 aX38 h (fun S6 h => ?_)
      refine w_aload_n C dX1_lay_46 rfl 0 rfl ?_
      refine w_getr C dX1_lay_47 flX1_15 gX37_2 ?_
      refine w_aload_n C dX1_lay_50 rfl 0 rfl ?_
      refine w_geti C dX1_lay_51 flX1_25 iX37_3 ?_
      refine w_aload_n C dX1_lay_54 rfl 0 rfl ?_
      refine w_getr C dX1_lay_55 flX1_21 gX37_0 ?_
      refine w_getr C dX1_lay_58 flX1_34 gX1_4 ?_
      refine w_iload_n C dX1_lay_61 rfl 2 rfl ?_
      refine x_iald C dX1_lay_62 aX5 h (fun v7 h => ?_)
      refine x_iast C dX1_lay_63 aX39 h (fun S8 h => ?_)
      refine w_aload_n C dX1_lay_64 rfl 0 rfl ?_
      refine w_dup C dX1_lay_65 rfl ?_
      refine w_geti C dX1_lay_66 flX1_25 iX37_3 ?_
      refine w_iconst (v := 1) C dX1_lay_69 (by decide) ?_
      refine w_iadd C dX1_lay_70 ?_
      refine x_puti C dX1_lay_71 fpX1_25 iX37_3 h (fun S9 h => ?_)
      exact w_sub [0, 1, 2] rfl (hJ74 _ h)
  exact w_sub [1, 2, 0] rfl (hL7 _ _ _ h))
def fJ6_numberOfTrailingZeros_0f7a4 (S : St) (a1 : Int32) : Option (Int32) := pl (((a1 ^^^ (-1)) &&& (a1 - (1)))) fun v1 => if 0 < v1 then (pl (fun (v2 : Int32) (v3 : Int32) => pl (fun (v4 : Int32) (v5 : Int32) => pl (fun (v6 : Int32) (v7 : Int32) => pl (fun (v8 : Int32) (v9 : Int32) => some (v9 + (ushr v8 (1)))) fun J74 => if v6 ≤ (4) then (J74 v6 v7) else (pl (v7 + 2) fun v10 => pl ((ushr v6 (2))) fun v11 => J74 v11 v10)) fun J62 => if v4 ≤ (16) then (J62 v4 v5) else (pl (v5 + 4) fun v12 => pl ((ushr v4 (4))) fun v13 => J62 v13 v12)) fun J49 => if v2 ≤ (256) then (J49 v2 v3) else (pl (v3 + 8) fun v14 => pl ((ushr v2 (8))) fun v15 => J49 v15 v14)) fun J34 => if v1 ≤ (65536) then (J34 v1 (1)) else (pl (1 + 16) fun v16 => pl ((ushr v1 (16))) fun v17 => J34 v17 v16)) else (some (v1 &&& (32)))
set_option maxRecDepth 100000 in
theorem mJ6_numberOfTrailingZeros_0f7a4 {Y : YT} {S : St} {a1 : Int32} {R : Int32} (h : fJ6_numberOfTrailingZeros_0f7a4  S a1 = some R) : Mc VX Y yJ6_numberOfTrailingZeros_0f7a4 cJ6_numberOfTrailingZeros_0f7a4 2 (some .int) 0 0 [.int a1] S (some (.int R), S) :=
  Mc.start [(0, .int a1)] rfl pnJ6 (Nat.le_of_ble_eq_true rfl) (fun X (C : Ok VX Y X RJ6 cJ6_numberOfTrailingZeros_0f7a4 2 (some .int)) => by
  unfold fJ6_numberOfTrailingZeros_0f7a4 at h
  refine w_iload_n C dJ6_numberOfTrailingZeros_0f7a4_0 rfl 0 rfl ?_
  refine w_iconst (v := -1) C dJ6_numberOfTrailingZeros_0f7a4_1 (by decide) ?_
  refine w_ixor C dJ6_numberOfTrailingZeros_0f7a4_2 ?_
  refine w_iload_n C dJ6_numberOfTrailingZeros_0f7a4_3 rfl 0 rfl ?_
  refine w_iconst (v := 1) C dJ6_numberOfTrailingZeros_0f7a4_4 (by decide) ?_
  refine w_isub C dJ6_numberOfTrailingZeros_0f7a4_5 ?_
  refine w_iand C dJ6_numberOfTrailingZeros_0f7a4_6 ?_
  refine w_topi h (fun v1 h => ?_)
  refine w_istore_n C dJ6_numberOfTrailingZeros_0f7a4_7 rfl (by decide) [(0, .int v1)] rfl ?_
  refine w_iload_n C dJ6_numberOfTrailingZeros_0f7a4_8 rfl 0 rfl ?_
  refine w_if_gt C 17 dJ6_numberOfTrailingZeros_0f7a4_9 (by decide) h (fun h => ?_) (fun h => ?_)
  · refine w_iconst (v := 1) C dJ6_numberOfTrailingZeros_0f7a4_17 (by decide) ?_
    refine w_istore_n C dJ6_numberOfTrailingZeros_0f7a4_18 rfl (by decide) [(1, .int (1)), (0, .int v1)] rfl ?_
    refine w_iload_n C dJ6_numberOfTrailingZeros_0f7a4_19 rfl 1 rfl ?_
    refine w_ldcw C dJ6_numberOfTrailingZeros_0f7a4_20 kcJ6_264 ?_
    refine w_join (fun J34 => ∀ (v2 : Int32) (v3 : Int32), J34 v2 v3 = some R → WS VX Y X 2 0 0 (some (.int R), S) S 34 [(0, .int v2), (1, .int v3)] []) h ?_ (fun J34 hJ34 h => ?_)
    · intro v2 v3 h
      refine w_iload_n C dJ6_numberOfTrailingZeros_0f7a4_34 rfl 0 rfl ?_
      refine w_sipush (v := 256) C dJ6_numberOfTrailingZeros_0f7a4_35 (by decide) ?_
      refine w_join (fun J49 => ∀ (v4 : Int32) (v5 : Int32), J49 v4 v5 = some R → WS VX Y X 2 0 0 (some (.int R), S) S 49 [(0, .int v4), (1, .int v5)] []) h ?_ (fun J49 hJ49 h => ?_)
      · intro v4 v5 h
        refine w_iload_n C dJ6_numberOfTrailingZeros_0f7a4_49 rfl 0 rfl ?_
        refine w_bipush (v := 16) C dJ6_numberOfTrailingZeros_0f7a4_50 (by decide) ?_
        refine w_join (fun J62 => ∀ (v6 : Int32) (v7 : Int32), J62 v6 v7 = some R → WS VX Y X 2 0 0 (some (.int R), S) S 62 [(0, .int v6), (1, .int v7)] []) h ?_ (fun J62 hJ62 h => ?_)
        · intro v6 v7 h
          refine w_iload_n C dJ6_numberOfTrailingZeros_0f7a4_62 rfl 0 rfl ?_
          refine w_iconst (v := 4) C dJ6_numberOfTrailingZeros_0f7a4_63 (by decide) ?_
          refine w_join (fun J74 => ∀ (v8 : Int32) (v9 : Int32), J74 v8 v9 = some R → WS VX Y X 2 0 0 (some (.int R), S) S 74 [(0, .int v8), (1, .int v9)] []) h ?_ (fun J74 hJ74 h => ?_)
          · intro v8 v9 h
            refine w_iload_n C dJ6_numberOfTrailingZeros_0f7a4_74 rfl 1 rfl ?_
            refine w_iload_n C dJ6_numberOfTrailingZeros_0f7a4_75 rfl 0 rfl ?_
            refine w_iconst (v := 1) C dJ6_numberOfTrailingZeros_0f7a4_76 (by decide) ?_
            refine w_iushr C dJ6_numberOfTrailingZeros_0f7a4_77 ?_
            refine w_iadd C dJ6_numberOfTrailingZeros_0f7a4_78 ?_
            exact p_iret C dJ6_numberOfTrailingZeros_0f7a4_79 h
          refine w_icmp_le C 74 dJ6_numberOfTrailingZeros_0f7a4_64 (by decide) h (fun h => ?_) (fun h => ?_)
          · exact w_sub [0, 1] rfl (hJ74 _ _ h)
          refine x_iinc C dJ6_numberOfTrailingZeros_0f7a4_67 1 rfl 2 (by decide) h (by decide) (fun v10 => [(1, .int v10), (0, .int v6)]) (fun _ => rfl) (fun v10 h => ?_)
          refine w_iload_n C dJ6_numberOfTrailingZeros_0f7a4_70 rfl 1 rfl ?_
          refine w_iconst (v := 2) C dJ6_numberOfTrailingZeros_0f7a4_71 (by decide) ?_
          refine w_iushr C dJ6_numberOfTrailingZeros_0f7a4_72 ?_
          refine w_topi h (fun v11 h => ?_)
          refine w_istore_n C dJ6_numberOfTrailingZeros_0f7a4_73 rfl (by decide) [(0, .int v11), (1, .int v10)] rfl ?_
          exact w_sub [0, 1] rfl (hJ74 _ _ h)
        refine w_icmp_le C 62 dJ6_numberOfTrailingZeros_0f7a4_52 (by decide) h (fun h => ?_) (fun h => ?_)
        · exact w_sub [0, 1] rfl (hJ62 _ _ h)
        refine x_iinc C dJ6_numberOfTrailingZeros_0f7a4_55 1 rfl 4 (by decide) h (by decide) (fun v12 => [(1, .int v12), (0, .int v4)]) (fun _ => rfl) (fun v12 h => ?_)
        refine w_iload_n C dJ6_numberOfTrailingZeros_0f7a4_58 rfl 1 rfl ?_
        refine w_iconst (v := 4) C dJ6_numberOfTrailingZeros_0f7a4_59 (by decide) ?_
        refine w_iushr C dJ6_numberOfTrailingZeros_0f7a4_60 ?_
        refine w_topi h (fun v13 h => ?_)
        refine w_istore_n C dJ6_numberOfTrailingZeros_0f7a4_61 rfl (by decide) [(0, .int v13), (1, .int v12)] rfl ?_
        exact w_sub [0, 1] rfl (hJ62 _ _ h)
      refine w_icmp_le C 49 dJ6_numberOfTrailingZeros_0f7a4_38 (by decide) h (fun h => ?_) (fun h => ?_)
      · exact w_sub [0, 1] rfl (hJ49 _ _ h)
      refine x_iinc C dJ6_numberOfTrailingZeros_0f7a4_41 1 rfl 8 (by decide) h (by decide) (fun v14 => [(1, .int v14), (0, .int v2)]) (fun _ => rfl) (fun v14 h => ?_)
      refine w_iload_n C dJ6_numberOfTrailingZeros_0f7a4_44 rfl 1 rfl ?_
      refine w_bipush (v := 8) C dJ6_numberOfTrailingZeros_0f7a4_45 (by decide) ?_
      refine w_iushr C dJ6_numberOfTrailingZeros_0f7a4_47 ?_
      refine w_topi h (fun v15 h => ?_)
      refine w_istore_n C dJ6_numberOfTrailingZeros_0f7a4_48 rfl (by decide) [(0, .int v15), (1, .int v14)] rfl ?_
      exact w_sub [0, 1] rfl (hJ49 _ _ h)
    refine w_icmp_le C 34 dJ6_numberOfTrailingZeros_0f7a4_23 (by decide) h (fun h => ?_) (fun h => ?_)
    · exact w_sub [1, 0] rfl (hJ34 _ _ h)
    refine x_iinc C dJ6_numberOfTrailingZeros_0f7a4_26 0 rfl 16 (by decide) h (by decide) (fun v16 => [(1, .int v16), (0, .int v1)]) (fun _ => rfl) (fun v16 h => ?_)
    refine w_iload_n C dJ6_numberOfTrailingZeros_0f7a4_29 rfl 1 rfl ?_
    refine w_bipush (v := 16) C dJ6_numberOfTrailingZeros_0f7a4_30 (by decide) ?_
    refine w_iushr C dJ6_numberOfTrailingZeros_0f7a4_32 ?_
    refine w_topi h (fun v17 h => ?_)
    refine w_istore_n C dJ6_numberOfTrailingZeros_0f7a4_33 rfl (by decide) [(0, .int v17), (1, .int v16)] rfl ?_
    exact w_sub [0, 1] rfl (hJ34 _ _ h)
  refine w_iload_n C dJ6_numberOfTrailingZeros_0f7a4_12 rfl 0 rfl ?_
  refine w_bipush (v := 32) C dJ6_numberOfTrailingZeros_0f7a4_13 (by decide) ?_
  refine w_iand C dJ6_numberOfTrailingZeros_0f7a4_15 ?_
  exact p_iret C dJ6_numberOfTrailingZeros_0f7a4_16 h)
def fX1_partsOf_L4 (S : St) (a1 : Int32) : Nat → Int32 → Int32 → Option (Int32)
  | 0, _, _ => none
  | G4 + 1, v1, v2 => if (S.1 37 3) ≤ v2 then (some v1) else (pl (fun (v3 : Int32) => pl (v2 + 1) fun v4 => fX1_partsOf_L4 S a1 G4 v3 v4) fun J32 => if ((a1 >>> (v2 &&& 31)) &&& (1)) = (1) then (ldi S 38 v2 10 fun v5 => pl ((v1 ||| ((1) <<< (v5 &&& 31)))) fun v6 => J32 v6) else (J32 v1))
def fX1_partsOf (F : Nat) (S : St) (a1 : Int32) : Option (Int32) := fX1_partsOf_L4 S a1 F (0) (0)
set_option maxRecDepth 100000 in
theorem mX1_partsOf {Y : YT} {F : Nat} {S : St} {a1 : Int32} {R : Int32} (h : fX1_partsOf F S a1 = some R) : Mc VX Y yX1_partsOf cX1_partsOf 4 (some .int) 0 0 [rf Y 37, .int a1] S (some (.int R), S) :=
  Mc.start [(0, rf Y 37), (1, .int a1)] rfl pnX1 (Nat.le_of_ble_eq_true rfl) (fun X (C : Ok VX Y X RX1 cX1_partsOf 4 (some .int)) => by
  unfold fX1_partsOf at h
  refine w_iconst (v := 0) C dX1_partsOf_0 (by decide) ?_
  refine w_istore_n C dX1_partsOf_1 rfl (by decide) [(2, .int (0)), (0, rf Y 37), (1, .int a1)] rfl ?_
  refine w_iconst (v := 0) C dX1_partsOf_2 (by decide) ?_
  refine w_istore_n C dX1_partsOf_3 rfl (by decide) [(3, .int (0)), (2, .int (0)), (0, rf Y 37), (1, .int a1)] rfl ?_
  have hL4 : ∀ (G4 : Nat) (v1 : Int32) (v2 : Int32), fX1_partsOf_L4 S a1 G4 v1 v2 = some R → WS VX Y X 4 0 0 (some (.int R), S) S 4 [(0, rf Y 37), (1, .int a1), (2, .int v1), (3, .int v2)] [] := by
    intro G4
    induction G4 with
    | zero => intro v1 v2 h; exact nomatch (show (none : Option (Int32)) = some R from h)
    | succ G4 ih =>
      intro v1 v2 h
      rw [fX1_partsOf_L4] at h
      refine w_iload_n C dX1_partsOf_4 rfl 3 rfl ?_
      refine w_aload_n C dX1_partsOf_5 rfl 0 rfl ?_
      refine w_geti C dX1_partsOf_6 flX1_25 iX37_3 ?_
      refine w_icmp_ge C 38 dX1_partsOf_9 (by decide) h (fun h => ?_) (fun h => ?_)
      · refine w_iload_n C dX1_partsOf_38 rfl 2 rfl ?_
        exact p_iret C dX1_partsOf_39 h
      refine w_iload_n C dX1_partsOf_12 rfl 1 rfl ?_
      refine w_iload_n C dX1_partsOf_13 rfl 3 rfl ?_
      refine w_ishr C dX1_partsOf_14 ?_
      refine w_iconst (v := 1) C dX1_partsOf_15 (by decide) ?_
      refine w_iand C dX1_partsOf_16 ?_
      refine w_iconst (v := 1) C dX1_partsOf_17 (by decide) ?_
      refine w_join (fun J32 => ∀ (v3 : Int32), J32 v3 = some R → WS VX Y X 4 0 0 (some (.int R), S) S 32 [(0, rf Y 37), (1, .int a1), (2, .int v3), (3, .int v2)] []) h ?_ (fun J32 hJ32 h => ?_)
      · intro v3 h
        refine x_iinc C dX1_partsOf_32 3 rfl 1 (by decide) h (by decide) (fun v4 => [(3, .int v4), (0, rf Y 37), (1, .int a1), (2, .int v3)]) (fun _ => rfl) (fun v4 h => ?_)
        refine w_goto C 4 dX1_partsOf_35 (by decide) ?_
        exact w_sub [1, 2, 3, 0] rfl (ih _ _ h)
      refine w_icmp_ne C 32 dX1_partsOf_18 (by decide) h (fun h => ?_) (fun h => ?_)
      · exact w_sub [0, 1, 2, 3] rfl (hJ32 _ h)
      refine w_iload_n C dX1_partsOf_21 rfl 2 rfl ?_
      refine w_iconst (v := 1) C dX1_partsOf_22 (by decide) ?_
      refine w_aload_n C dX1_partsOf_23 rfl 0 rfl ?_
      refine w_getr C dX1_partsOf_24 flX1_11 gX37_1 ?_
      refine w_iload_n C dX1_partsOf_27 rfl 3 rfl ?_
      refine x_iald C dX1_partsOf_28 aX38 h (fun v5 h => ?_)
      refine w_ishl C dX1_partsOf_29 ?_
      refine w_ior C dX1_partsOf_30 ?_
      refine w_topi h (fun v6 h => ?_)
      refine w_istore_n C dX1_partsOf_31 rfl (by decide) [(2, .int v6), (0, rf Y 37), (1, .int a1), (3, .int v2)] rfl ?_
      exact w_sub [1, 2, 0, 3] rfl (hJ32 _ h)
  exact w_sub [2, 3, 1, 0] rfl (hL4 _ _ _ h))
def fX1_balance_L53 (v1 : Int32) (v2 : Int32) (J135 : St → Int32 → Option (St)) : Nat → St → Int32 → Int32 → Option (St)
  | 0, _, _, _ => none
  | G53 + 1, S9, v10, v11 => if v1 < v11 then (J135 S9 v10) else (bv (fJ6_numberOfTrailingZeros_0f7a4 S9 v11) fun v12 => ldi S9 40 (v11 &&& (v11 - (1))) 1024 fun v13 => ldi S9 39 v12 10 fun v14 => sti S9 40 v11 1024 (v13 + v14) fun S15 => ldi S15 40 v11 1024 fun v16 => pl ((v2 - ((2) * v16))) fun v17 => pl (fun (S18 : St) (v19 : Int32) => pl (v11 + 1) fun v20 => fX1_balance_L53 v1 v2 J135 G53 S18 v19 v20) fun J129 => if v17 < 0 then (J129 S15 v10) else (if (S15.1 37 5) ≤ v17 then (J129 S15 v10) else (pl (si S15 37 5 v17) fun S21 => J129 S21 v11)))
def fX1_balance_L13 (S : St) (J36 : Int32 → Option (St)) : Nat → Int32 → Int32 → Option (St)
  | 0, _, _ => none
  | G13 + 1, v22, v23 => if (S.1 37 3) ≤ v23 then (J36 v22) else (ldi S 39 v23 10 fun v24 => pl ((v22 + v24)) fun v25 => pl (v23 + 1) fun v26 => fX1_balance_L13 S J36 G13 v25 v26)
def fX1_balance (F : Nat) (S : St) : Option (St) := pl ((((1) <<< ((S.1 37 3) &&& 31)) - (1))) fun v1 => pl (fun (v2 : Int32) => pl (si S 37 5 v2) fun S3 => sti S3 40 (0) 1024 (0) fun S4 => pl (fun (S5 : St) (v6 : Int32) => bv (fX1_partsOf F S5 v6) fun v7 => pl (si S5 37 6 v7) fun S8 => some S8) fun J135 => fX1_balance_L53 v1 v2 J135 F S4 (0) (1)) fun J36 => fX1_balance_L13 S J36 F (0) (0)
set_option maxRecDepth 100000 in
theorem mX1_balance {Y : YT} {F : Nat} {S : St} {R : St} (h : fX1_balance F S  = some R) : Mc VX Y yX1_balance cX1_balance 7 none 1 23 [rf Y 37] S (none, R) :=
  Mc.start [(0, rf Y 37)] rfl pnX1 (Nat.le_of_ble_eq_true rfl) (fun X (C : Ok VX Y X RX1 cX1_balance 7 none) => by
  unfold fX1_balance at h
  refine w_iconst (v := 1) C dX1_balance_0 (by decide) ?_
  refine w_aload_n C dX1_balance_1 rfl 0 rfl ?_
  refine w_geti C dX1_balance_2 flX1_25 iX37_3 ?_
  refine w_ishl C dX1_balance_5 ?_
  refine w_iconst (v := 1) C dX1_balance_6 (by decide) ?_
  refine w_isub C dX1_balance_7 ?_
  refine w_topi h (fun v1 h => ?_)
  refine w_istore_n C dX1_balance_8 rfl (by decide) [(1, .int v1), (0, rf Y 37)] rfl ?_
  refine w_iconst (v := 0) C dX1_balance_9 (by decide) ?_
  refine w_istore_n C dX1_balance_10 rfl (by decide) [(2, .int (0)), (1, .int v1), (0, rf Y 37)] rfl ?_
  refine w_iconst (v := 0) C dX1_balance_11 (by decide) ?_
  refine w_istore_n C dX1_balance_12 rfl (by decide) [(3, .int (0)), (2, .int (0)), (1, .int v1), (0, rf Y 37)] rfl ?_
  refine w_join (fun J36 => ∀ (v2 : Int32), J36 v2 = some R → WS VX Y X 7 1 23 (none, R) S 36 [(0, rf Y 37), (1, .int v1), (2, .int v2)] []) h ?_ (fun J36 hJ36 h => ?_)
  · intro v2 h
    refine w_aload_n C dX1_balance_36 rfl 0 rfl ?_
    refine w_iload_n C dX1_balance_37 rfl 2 rfl ?_
    refine x_puti C dX1_balance_38 fpX1_56 iX37_5 h (fun S3 h => ?_)
    refine w_iconst (v := 0) C dX1_balance_41 (by decide) ?_
    refine w_istore_n C dX1_balance_42 rfl (by decide) [(3, .int (0)), (0, rf Y 37), (1, .int v1), (2, .int v2)] rfl ?_
    refine w_aload_n C dX1_balance_43 rfl 1 rfl ?_
    refine w_getr C dX1_balance_44 flX1_18 gX37_4 ?_
    refine w_iconst (v := 0) C dX1_balance_47 (by decide) ?_
    refine w_iconst (v := 0) C dX1_balance_48 (by decide) ?_
    refine x_iast C dX1_balance_49 aX40 h (fun S4 h => ?_)
    refine w_iconst (v := 1) C dX1_balance_50 (by decide) ?_
    refine w_istore C dX1_balance_51 (by decide) [(4, .int (1)), (3, .int (0)), (0, rf Y 37), (1, .int v1), (2, .int v2)] rfl ?_
    refine w_join (fun J135 => ∀ (S5 : St) (v6 : Int32), J135 S5 v6 = some R → WS VX Y X 7 1 23 (none, R) S5 135 [(0, rf Y 37), (3, .int v6)] []) h ?_ (fun J135 hJ135 h => ?_)
    · intro S5 v6 h
      refine w_aload_n C dX1_balance_135 rfl 0 rfl ?_
      refine w_aload_n C dX1_balance_136 rfl 0 rfl ?_
      refine w_iload_n C dX1_balance_137 rfl 1 rfl ?_
      refine p_Vi C dX1_balance_138 h (fun _ e => mX1_partsOf e) lnX1_65 mvX1_partsOf bX37 rfl ⟨Nat.le_of_ble_eq_true rfl, Nat.le_of_ble_eq_true rfl⟩ [rf Y 37] rfl (Nat.le_of_ble_eq_true rfl) (fun v7 h => ?_)
      refine x_puti C dX1_balance_141 fpX1_68 iX37_6 h (fun S8 h => ?_)
      exact w_vret C dX1_balance_144 h
    have hL53 : ∀ (G53 : Nat) (S9 : St) (v10 : Int32) (v11 : Int32), fX1_balance_L53 v1 v2 J135 G53 S9 v10 v11 = some R → WS VX Y X 7 1 23 (none, R) S9 53 [(0, rf Y 37), (1, .int v1), (2, .int v2), (3, .int v10), (4, .int v11)] [] := by
      intro G53
      induction G53 with
      | zero => intro S9 v10 v11 h; exact nomatch (show (none : Option (St)) = some R from h)
      | succ G53 ih =>
        intro S9 v10 v11 h
        rw [fX1_balance_L53] at h
        refine w_iload C dX1_balance_53 4 rfl ?_
        refine w_iload_n C dX1_balance_55 rfl 1 rfl ?_
        refine w_icmp_gt C 135 dX1_balance_56 (by decide) h (fun h => ?_) (fun h => ?_)
        · exact w_sub [0, 3] rfl (hJ135 _ _ h)
        refine w_iload C dX1_balance_59 4 rfl ?_
        refine p_Si C dX1_balance_61 h (fun _ e => mJ6_numberOfTrailingZeros_0f7a4 e) lnX1_59 msJ6_numberOfTrailingZeros_0f7a4 rfl ⟨Nat.le_of_ble_eq_true rfl, Nat.le_of_ble_eq_true rfl⟩ [] rfl (Nat.le_of_ble_eq_true rfl) (fun v12 h => ?_)
        refine w_istore C dX1_balance_64 (by decide) [(5, .int v12), (0, rf Y 37), (1, .int v1), (2, .int v2), (3, .int v10), (4, .int v11)] rfl ?_
        refine w_aload_n C dX1_balance_66 rfl 1 rfl ?_
        refine w_getr C dX1_balance_67 flX1_18 gX37_4 ?_
        refine w_iload C dX1_balance_70 5 rfl ?_
        refine w_aload_n C dX1_balance_72 rfl 1 rfl ?_
        refine w_getr C dX1_balance_73 flX1_18 gX37_4 ?_
        refine w_iload C dX1_balance_76 5 rfl ?_
        refine w_iload C dX1_balance_78 5 rfl ?_
        refine w_iconst (v := 1) C dX1_balance_80 (by decide) ?_
        refine w_isub C dX1_balance_81 ?_
        refine w_iand C dX1_balance_82 ?_
        refine x_iald C dX1_balance_83 aX40 h (fun v13 h => ?_)
        refine w_aload_n C dX1_balance_84 rfl 1 rfl ?_
        refine w_getr C dX1_balance_85 flX1_15 gX37_2 ?_
        refine w_iload C dX1_balance_88 0 rfl ?_
        refine x_iald C dX1_balance_90 aX39 h (fun v14 h => ?_)
        refine w_iadd C dX1_balance_91 ?_
        refine x_iast C dX1_balance_92 aX40 h (fun S15 h => ?_)
        refine w_iload_n C dX1_balance_93 rfl 3 rfl ?_
        refine w_iconst (v := 2) C dX1_balance_94 (by decide) ?_
        refine w_aload_n C dX1_balance_95 rfl 1 rfl ?_
        refine w_getr C dX1_balance_96 flX1_18 gX37_4 ?_
        refine w_iload C dX1_balance_99 5 rfl ?_
        refine x_iald C dX1_balance_101 aX40 h (fun v16 h => ?_)
        refine w_imul C dX1_balance_102 ?_
        refine w_isub C dX1_balance_103 ?_
        refine w_topi h (fun v17 h => ?_)
        refine w_istore C dX1_balance_104 (by decide) [(6, .int v17), (5, .int v12), (0, rf Y 37), (1, .int v1), (2, .int v2), (3, .int v10), (4, .int v11)] rfl ?_
        refine w_iload C dX1_balance_106 0 rfl ?_
        refine w_join (fun J129 => ∀ (S18 : St) (v19 : Int32), J129 S18 v19 = some R → WS VX Y X 7 1 23 (none, R) S18 129 [(0, rf Y 37), (1, .int v1), (2, .int v2), (3, .int v19), (4, .int v11)] []) h ?_ (fun J129 hJ129 h => ?_)
        · intro S18 v19 h
          refine x_iinc C dX1_balance_129 4 rfl 1 (by decide) h (by decide) (fun v20 => [(4, .int v20), (0, rf Y 37), (1, .int v1), (2, .int v2), (3, .int v19)]) (fun _ => rfl) (fun v20 h => ?_)
          refine w_goto C 53 dX1_balance_132 (by decide) ?_
          exact w_sub [1, 2, 3, 4, 0] rfl (ih _ _ _ h)
        refine w_if_lt C 129 dX1_balance_108 (by decide) h (fun h => ?_) (fun h => ?_)
        · exact w_sub [2, 3, 4, 5, 6] rfl (hJ129 _ _ h)
        refine w_iload C dX1_balance_111 0 rfl ?_
        refine w_aload_n C dX1_balance_113 rfl 2 rfl ?_
        refine w_geti C dX1_balance_114 flX1_56 iX37_5 ?_
        refine w_icmp_ge C 129 dX1_balance_117 (by decide) h (fun h => ?_) (fun h => ?_)
        · exact w_sub [2, 3, 4, 5, 6] rfl (hJ129 _ _ h)
        refine w_aload_n C dX1_balance_120 rfl 2 rfl ?_
        refine w_iload C dX1_balance_121 0 rfl ?_
        refine x_puti C dX1_balance_123 fpX1_56 iX37_5 h (fun S21 h => ?_)
        refine w_iload C dX1_balance_126 6 rfl ?_
        refine w_istore_n C dX1_balance_128 rfl (by decide) [(3, .int v11), (6, .int v17), (5, .int v12), (0, rf Y 37), (1, .int v1), (2, .int v2), (4, .int v11)] rfl ?_
        exact w_sub [3, 4, 5, 0, 6] rfl (hJ129 _ _ h)
    exact w_sub [2, 3, 4, 1, 0] rfl (hL53 _ _ _ _ h)
  have hL13 : ∀ (G13 : Nat) (v22 : Int32) (v23 : Int32), fX1_balance_L13 S J36 G13 v22 v23 = some R → WS VX Y X 7 1 23 (none, R) S 13 [(0, rf Y 37), (1, .int v1), (2, .int v22), (3, .int v23)] [] := by
    intro G13
    induction G13 with
    | zero => intro v22 v23 h; exact nomatch (show (none : Option (St)) = some R from h)
    | succ G13 ih =>
      intro v22 v23 h
      rw [fX1_balance_L13] at h
      refine w_iload_n C dX1_balance_13 rfl 3 rfl ?_
      refine w_aload_n C dX1_balance_14 rfl 0 rfl ?_
      refine w_geti C dX1_balance_15 flX1_25 iX37_3 ?_
      refine w_icmp_ge C 36 dX1_balance_18 (by decide) h (fun h => ?_) (fun h => ?_)
      · exact w_sub [0, 1, 2] rfl (hJ36 _ h)
      refine w_iload_n C dX1_balance_21 rfl 2 rfl ?_
      refine w_aload_n C dX1_balance_22 rfl 0 rfl ?_
      refine w_getr C dX1_balance_23 flX1_15 gX37_2 ?_
      refine w_iload_n C dX1_balance_26 rfl 3 rfl ?_
      refine x_iald C dX1_balance_27 aX39 h (fun v24 h => ?_)
      refine w_iadd C dX1_balance_28 ?_
      refine w_topi h (fun v25 h => ?_)
      refine w_istore_n C dX1_balance_29 rfl (by decide) [(2, .int v25), (0, rf Y 37), (1, .int v1), (3, .int v23)] rfl ?_
      refine x_iinc C dX1_balance_30 3 rfl 1 (by decide) h (by decide) (fun v26 => [(3, .int v26), (2, .int v25), (0, rf Y 37), (1, .int v1)]) (fun _ => rfl) (fun v26 h => ?_)
      refine w_goto C 13 dX1_balance_33 (by decide) ?_
      exact w_sub [2, 3, 1, 0] rfl (ih _ _ h)
  exact w_sub [3, 2, 1, 0] rfl (hL13 _ _ _ h))
def fX6_even (F : Nat) (S : St) (a1 : Int32) (a2 : Int32) : Option (St × Int32) := bv (fX4_areAllThere 1 S a1) fun v1 => pl (bq (fX6_finding S (0)) fun S2 v3 => some (S2, v3)) fun J20 => if v1 = 0 then (J20) else (bv (fX6_within S a2 (0) (1)) fun v4 => if v4 = 0 then (J20) else (bv (fJ6_bitCount_0f7a4 S a1) fun v5 => if v5 ≤ (10) then (bv (fX1_lay F S a1) fun S6 => bv (fX1_balance F S6) fun S7 => if a2 = 0 then (some (S7, (S7.1 37 5))) else (some (S7, (S7.1 37 6)))) else (bq (fX6_finding S (6)) fun S8 v9 => some (S8, v9))))
set_option maxRecDepth 100000 in
theorem mX6_even {Y : YT} {F : Nat} {S : St} {a1 : Int32} {a2 : Int32} {R : St × Int32} (h : fX6_even F S a1 a2 = some R) : Mc VX Y yX6_even cX6_even 3 (some .int) 2 49 [rf Y 0, .int a1, .int a2] S (some (.int R.2), R.1) :=
  Mc.start [(0, rf Y 0), (1, .int a1), (2, .int a2)] rfl pnX6 (Nat.le_of_ble_eq_true rfl) (fun X (C : Ok VX Y X RX6 cX6_even 3 (some .int)) => by
  unfold fX6_even at h
  refine w_aload_n C dX6_even_0 rfl 0 rfl ?_
  refine w_getr C dX6_even_1 flX6_10 gX0_0 ?_
  refine w_iload_n C dX6_even_4 rfl 1 rfl ?_
  refine p_Vi C dX6_even_5 h (fun _ e => mX4_areAllThere_1 e) lnX6_188 mvX4_areAllThere bX1 rfl ⟨Nat.le_of_ble_eq_true rfl, Nat.le_of_ble_eq_true rfl⟩ [] rfl (Nat.le_of_ble_eq_true rfl) (fun v1 h => ?_)
  refine w_join (fun J20 => J20  = some R → WS VX Y X 3 2 49 (some (.int R.2), R.1) S 20 [(0, rf Y 0)] []) h ?_ (fun J20 hJ20 h => ?_)
  · intro  h
    refine w_aload_n C dX6_even_20 rfl 0 rfl ?_
    refine w_iconst (v := 0) C dX6_even_21 (by decide) ?_
    refine w_Vi C dX6_even_22 h (fun _ e => mX6_finding e) lnX6_71 mvX6_finding bX0 rfl ⟨Nat.le_of_ble_eq_true rfl, Nat.le_of_ble_eq_true rfl⟩ [] rfl (Nat.le_of_ble_eq_true rfl) (fun S2 v3 h => ?_)
    exact w_iret C dX6_even_25 h
  refine w_if_eq C 20 dX6_even_8 (by decide) h (fun h => ?_) (fun h => ?_)
  · exact w_sub [0] rfl (hJ20  h)
  refine w_iload_n C dX6_even_11 rfl 2 rfl ?_
  refine w_iconst (v := 0) C dX6_even_12 (by decide) ?_
  refine w_iconst (v := 1) C dX6_even_13 (by decide) ?_
  refine p_Si C dX6_even_14 h (fun _ e => mX6_within e) lnX6_67 msX6_within rfl ⟨Nat.le_of_ble_eq_true rfl, Nat.le_of_ble_eq_true rfl⟩ [] rfl (Nat.le_of_ble_eq_true rfl) (fun v4 h => ?_)
  refine w_if_ne C 26 dX6_even_17 (by decide) h (fun h => ?_) (fun h => ?_)
  · refine w_iload_n C dX6_even_26 rfl 1 rfl ?_
    refine p_Si C dX6_even_27 h (fun _ e => mJ6_bitCount_0f7a4 e) lnX6_191 msJ6_bitCount_0f7a4 rfl ⟨Nat.le_of_ble_eq_true rfl, Nat.le_of_ble_eq_true rfl⟩ [] rfl (Nat.le_of_ble_eq_true rfl) (fun v5 h => ?_)
    refine w_bipush (v := 10) C dX6_even_30 (by decide) ?_
    refine w_icmp_le C 42 dX6_even_32 (by decide) h (fun h => ?_) (fun h => ?_)
    · refine w_aload_n C dX6_even_42 rfl 0 rfl ?_
      refine w_getr C dX6_even_43 flX6_38 gX0_5 ?_
      refine w_iload_n C dX6_even_46 rfl 1 rfl ?_
      refine w_Vv C dX6_even_47 h (fun _ e => mX1_lay e) lnX6_196 mvX1_lay bX37 rfl ⟨Nat.le_of_ble_eq_true rfl, Nat.le_of_ble_eq_true rfl⟩ [] rfl (Nat.le_of_ble_eq_true rfl) (fun S6 h => ?_)
      refine w_aload_n C dX6_even_50 rfl 0 rfl ?_
      refine w_getr C dX6_even_51 flX6_38 gX0_5 ?_
      refine w_Vv C dX6_even_54 h (fun _ e => mX1_balance e) lnX6_203 mvX1_balance bX37 rfl ⟨Nat.le_of_ble_eq_true rfl, Nat.le_of_ble_eq_true rfl⟩ [] rfl (Nat.le_of_ble_eq_true rfl) (fun S7 h => ?_)
      refine w_iload_n C dX6_even_57 rfl 2 rfl ?_
      refine w_if_ne C 71 dX6_even_58 (by decide) h (fun h => ?_) (fun h => ?_)
      · refine w_aload_n C dX6_even_71 rfl 0 rfl ?_
        refine w_getr C dX6_even_72 flX6_38 gX0_5 ?_
        refine w_geti C dX6_even_75 flX6_209 iX37_6 ?_
        exact w_iret C dX6_even_78 h
      refine w_aload_n C dX6_even_61 rfl 0 rfl ?_
      refine w_getr C dX6_even_62 flX6_38 gX0_5 ?_
      refine w_geti C dX6_even_65 flX6_206 iX37_5 ?_
      refine w_goto C 78 dX6_even_68 (by decide) ?_
      exact w_iret C dX6_even_78 h
    refine w_aload_n C dX6_even_35 rfl 0 rfl ?_
    refine w_bipush (v := 6) C dX6_even_36 (by decide) ?_
    refine w_Vi C dX6_even_38 h (fun _ e => mX6_finding e) lnX6_71 mvX6_finding bX0 rfl ⟨Nat.le_of_ble_eq_true rfl, Nat.le_of_ble_eq_true rfl⟩ [] rfl (Nat.le_of_ble_eq_true rfl) (fun S8 v9 h => ?_)
    exact w_iret C dX6_even_41 h
  exact w_sub [0] rfl (hJ20  h))
def fX1_afterLaying_L44 (S : St) (a2 : Int32) (J70 : Int32 → Option (Int32)) (J84 : Option (Int32)) : Nat → Int32 → Option (Int32)
  | 0, _ => none
  | G44 + 1, v4 => if (S.1 1 9) ≤ v4 then (J84) else (ldi S 8 v4 6 fun v5 => if v5 < a2 then (pl (v4 + 1) fun v6 => fX1_afterLaying_L44 S a2 J70 J84 G44 v6) else (J70 v4))
def fX1_afterLaying (F : Nat) (S : St) (a1 : Int32) (a2 : Int32) : Option (Int32) := pl ((a1 >>> ((10) &&& 31))) fun v1 => pl (pl ((v1 + (1))) fun v2 => pl (fun (v3 : Int32) => some ((v3 <<< ((10) &&& 31)) + a2)) fun J70 => pl (some ((S.1 1 9) <<< ((10) &&& 31))) fun J84 => fX1_afterLaying_L44 S a2 J70 J84 F v2) fun J39 => if (S.1 1 9) ≤ v1 then (J39) else (ldi S 8 v1 6 fun v7 => if v7 < ((a1 &&& (1023)) + a2) then (J39) else (some (a1 + a2)))
set_option maxRecDepth 100000 in
theorem mX1_afterLaying {Y : YT} {F : Nat} {S : St} {a1 : Int32} {a2 : Int32} {R : Int32} (h : fX1_afterLaying F S a1 a2 = some R) : Mc VX Y yX1_afterLaying cX1_afterLaying 5 (some .int) 0 0 [rf Y 37, .int a1, .int a2] S (some (.int R), S) :=
  Mc.start [(0, rf Y 37), (1, .int a1), (2, .int a2)] rfl pnX1 (Nat.le_of_ble_eq_true rfl) (fun X (C : Ok VX Y X RX1 cX1_afterLaying 5 (some .int)) => by
  unfold fX1_afterLaying at h
  refine w_iload_n C dX1_afterLaying_0 rfl 1 rfl ?_
  refine w_bipush (v := 10) C dX1_afterLaying_1 (by decide) ?_
  refine w_ishr C dX1_afterLaying_3 ?_
  refine w_topi h (fun v1 h => ?_)
  refine w_istore_n C dX1_afterLaying_4 rfl (by decide) [(3, .int v1), (0, rf Y 37), (1, .int a1), (2, .int a2)] rfl ?_
  refine w_iload_n C dX1_afterLaying_5 rfl 0 rfl ?_
  refine w_aload_n C dX1_afterLaying_6 rfl 1 rfl ?_
  refine w_getr C dX1_afterLaying_7 flX1_21 gX37_0 ?_
  refine w_geti C dX1_afterLaying_10 flX1_35 iX1_9 ?_
  refine w_join (fun J39 => J39  = some R → WS VX Y X 5 0 0 (some (.int R), S) S 39 [(0, rf Y 37), (2, .int a2), (3, .int v1)] []) h ?_ (fun J39 hJ39 h => ?_)
  · intro  h
    refine w_iload_n C dX1_afterLaying_39 rfl 2 rfl ?_
    refine w_iconst (v := 1) C dX1_afterLaying_40 (by decide) ?_
    refine w_iadd C dX1_afterLaying_41 ?_
    refine w_topi h (fun v2 h => ?_)
    refine w_istore C dX1_afterLaying_42 (by decide) [(4, .int v2), (0, rf Y 37), (2, .int a2), (3, .int v1)] rfl ?_
    refine w_join (fun J70 => ∀ (v3 : Int32), J70 v3 = some R → WS VX Y X 5 0 0 (some (.int R), S) S 70 [(2, .int a2), (4, .int v3)] []) h ?_ (fun J70 hJ70 h => ?_)
    · intro v3 h
      refine w_iload C dX1_afterLaying_70 1 rfl ?_
      refine w_bipush (v := 10) C dX1_afterLaying_72 (by decide) ?_
      refine w_ishl C dX1_afterLaying_74 ?_
      refine w_iload_n C dX1_afterLaying_75 rfl 0 rfl ?_
      refine w_iadd C dX1_afterLaying_76 ?_
      exact p_iret C dX1_afterLaying_77 h
    refine w_join (fun J84 => J84  = some R → WS VX Y X 5 0 0 (some (.int R), S) S 84 [(0, rf Y 37)] []) h ?_ (fun J84 hJ84 h => ?_)
    · intro  h
      refine w_aload_n C dX1_afterLaying_84 rfl 0 rfl ?_
      refine w_getr C dX1_afterLaying_85 flX1_21 gX37_0 ?_
      refine w_geti C dX1_afterLaying_88 flX1_35 iX1_9 ?_
      refine w_bipush (v := 10) C dX1_afterLaying_91 (by decide) ?_
      refine w_ishl C dX1_afterLaying_93 ?_
      exact p_iret C dX1_afterLaying_94 h
    have hL44 : ∀ (G44 : Nat) (v4 : Int32), fX1_afterLaying_L44 S a2 J70 J84 G44 v4 = some R → WS VX Y X 5 0 0 (some (.int R), S) S 44 [(0, rf Y 37), (2, .int a2), (4, .int v4)] [] := by
      intro G44
      induction G44 with
      | zero => intro v4 h; exact nomatch (show (none : Option (Int32)) = some R from h)
      | succ G44 ih =>
        intro v4 h
        rw [fX1_afterLaying_L44] at h
        refine w_iload C dX1_afterLaying_44 2 rfl ?_
        refine w_aload_n C dX1_afterLaying_46 rfl 0 rfl ?_
        refine w_getr C dX1_afterLaying_47 flX1_21 gX37_0 ?_
        refine w_geti C dX1_afterLaying_50 flX1_35 iX1_9 ?_
        refine w_icmp_ge C 84 dX1_afterLaying_53 (by decide) h (fun h => ?_) (fun h => ?_)
        · exact w_sub [0] rfl (hJ84  h)
        refine w_iload_n C dX1_afterLaying_56 rfl 1 rfl ?_
        refine w_aload_n C dX1_afterLaying_57 rfl 0 rfl ?_
        refine w_getr C dX1_afterLaying_58 flX1_21 gX37_0 ?_
        refine w_getr C dX1_afterLaying_61 flX1_53 gX1_10 ?_
        refine w_iload C dX1_afterLaying_64 2 rfl ?_
        refine x_iald C dX1_afterLaying_66 aX8 h (fun v5 h => ?_)
        refine w_icmp_gt C 78 dX1_afterLaying_67 (by decide) h (fun h => ?_) (fun h => ?_)
        · refine x_iinc C dX1_afterLaying_78 2 rfl 1 (by decide) h (by decide) (fun v6 => [(4, .int v6), (0, rf Y 37), (2, .int a2)]) (fun _ => rfl) (fun v6 h => ?_)
          refine w_goto C 44 dX1_afterLaying_81 (by decide) ?_
          exact w_sub [1, 2, 0] rfl (ih _ h)
        exact w_sub [1, 2] rfl (hJ70 _ h)
    exact w_sub [1, 2, 0] rfl (hL44 _ _ h)
  refine w_icmp_ge C 39 dX1_afterLaying_13 (by decide) h (fun h => ?_) (fun h => ?_)
  · exact w_sub [1, 3, 0] rfl (hJ39  h)
  refine w_iload_n C dX1_afterLaying_16 rfl 2 rfl ?_
  refine w_sipush (v := 1023) C dX1_afterLaying_17 (by decide) ?_
  refine w_iand C dX1_afterLaying_20 ?_
  refine w_iload_n C dX1_afterLaying_21 rfl 3 rfl ?_
  refine w_iadd C dX1_afterLaying_22 ?_
  refine w_aload_n C dX1_afterLaying_23 rfl 1 rfl ?_
  refine w_getr C dX1_afterLaying_24 flX1_21 gX37_0 ?_
  refine w_getr C dX1_afterLaying_27 flX1_53 gX1_10 ?_
  refine w_iload_n C dX1_afterLaying_30 rfl 0 rfl ?_
  refine x_iald C dX1_afterLaying_31 aX8 h (fun v7 h => ?_)
  refine w_icmp_gt C 39 dX1_afterLaying_32 (by decide) h (fun h => ?_) (fun h => ?_)
  · exact w_sub [1, 3, 0] rfl (hJ39  h)
  refine w_iload_n C dX1_afterLaying_35 rfl 2 rfl ?_
  refine w_iload_n C dX1_afterLaying_36 rfl 3 rfl ?_
  refine w_iadd C dX1_afterLaying_37 ?_
  exact p_iret C dX1_afterLaying_38 h)
def fX1_leastBeasts_L54 (F : Nat) (v8 : Int32) (J117 : St → Option (St × Int32)) : Nat → St → Int32 → Option (St × Int32)
  | 0, _, _ => none
  | G54 + 1, S11, v12 => if (S11.1 37 3) ≤ v12 then (J117 S11) else (pl ((v8 ||| ((1) <<< (v12 &&& 31)))) fun v13 => pl (fun (S14 : St) => pl (v12 + 1) fun v15 => fX1_leastBeasts_L54 F v8 J117 G54 S14 v15) fun J111 => if v13 = v8 then (J111 S11) else (ldi S11 40 v13 1024 fun v16 => ldi S11 40 v8 1024 fun v17 => ldi S11 39 v12 10 fun v18 => bv (fX1_afterLaying F S11 v17 v18) fun v19 => sti S11 40 v13 1024 (if v19 < v16 then v19 else v16) fun S20 => J111 S20))
def fX1_leastBeasts_L46 (F : Nat) (v1 : Int32) (J123 : St → Option (St × Int32)) : Nat → St → Int32 → Option (St × Int32)
  | 0, _, _ => none
  | G46 + 1, S7, v8 => if v1 ≤ v8 then (J123 S7) else (pl (fun (S9 : St) => pl (v8 + 1) fun v10 => fX1_leastBeasts_L46 F v1 J123 G46 S9 v10) fun J117 => fX1_leastBeasts_L54 F v8 J117 F S7 (0))
def fX1_leastBeasts (F : Nat) (S : St) : Option (St × Int32) := if (S.1 37 3) = 0 then (some (S, 0)) else (pl ((((1) <<< ((S.1 37 3) &&& 31)) - (1))) fun v1 => pl (((S.1 1 9) <<< ((10) &&& 31))) fun v2 => bv (fJ7_fill_53178 F 40 1024 S v2) fun S3 => sti S3 40 (0) 1024 (0) fun S4 => pl (fun (S5 : St) => ldi S5 40 v1 1024 fun v6 => some (S5, ((v6 >>> ((10) &&& 31)) + (1)))) fun J123 => fX1_leastBeasts_L46 F v1 J123 F S4 (0))
set_option maxRecDepth 100000 in
theorem mX1_leastBeasts {Y : YT} {F : Nat} {S : St} {R : St × Int32} (h : fX1_leastBeasts F S  = some R) : Mc VX Y yX1_leastBeasts cX1_leastBeasts 6 (some .int) 1 24 [rf Y 37] S (some (.int R.2), R.1) :=
  Mc.start [(0, rf Y 37)] rfl pnX1 (Nat.le_of_ble_eq_true rfl) (fun X (C : Ok VX Y X RX1 cX1_leastBeasts 6 (some .int)) => by
  unfold fX1_leastBeasts at h
  refine w_aload_n C dX1_leastBeasts_0 rfl 0 rfl ?_
  refine w_geti C dX1_leastBeasts_1 flX1_25 iX37_3 ?_
  refine w_if_ne C 9 dX1_leastBeasts_4 (by decide) h (fun h => ?_) (fun h => ?_)
  · refine w_iconst (v := 1) C dX1_leastBeasts_9 (by decide) ?_
    refine w_aload_n C dX1_leastBeasts_10 rfl 0 rfl ?_
    refine w_geti C dX1_leastBeasts_11 flX1_25 iX37_3 ?_
    refine w_ishl C dX1_leastBeasts_14 ?_
    refine w_iconst (v := 1) C dX1_leastBeasts_15 (by decide) ?_
    refine w_isub C dX1_leastBeasts_16 ?_
    refine w_topi h (fun v1 h => ?_)
    refine w_istore_n C dX1_leastBeasts_17 rfl (by decide) [(1, .int v1), (0, rf Y 37)] rfl ?_
    refine w_aload_n C dX1_leastBeasts_18 rfl 1 rfl ?_
    refine w_getr C dX1_leastBeasts_19 flX1_21 gX37_0 ?_
    refine w_geti C dX1_leastBeasts_22 flX1_35 iX1_9 ?_
    refine w_bipush (v := 10) C dX1_leastBeasts_25 (by decide) ?_
    refine w_ishl C dX1_leastBeasts_27 ?_
    refine w_topi h (fun v2 h => ?_)
    refine w_istore_n C dX1_leastBeasts_28 rfl (by decide) [(2, .int v2), (1, .int v1), (0, rf Y 37)] rfl ?_
    refine w_aload_n C dX1_leastBeasts_29 rfl 2 rfl ?_
    refine w_getr C dX1_leastBeasts_30 flX1_18 gX37_4 ?_
    refine w_iload_n C dX1_leastBeasts_33 rfl 0 rfl ?_
    refine w_Sv C dX1_leastBeasts_34 h (fun _ e => mJ7_fill_53178_40 e) lnX1_38 msJ7_fill_53178 rfl ⟨Nat.le_of_ble_eq_true rfl, Nat.le_of_ble_eq_true rfl⟩ [] rfl (Nat.le_of_ble_eq_true rfl) (fun S3 h => ?_)
    refine w_aload_n C dX1_leastBeasts_37 rfl 2 rfl ?_
    refine w_getr C dX1_leastBeasts_38 flX1_18 gX37_4 ?_
    refine w_iconst (v := 0) C dX1_leastBeasts_41 (by decide) ?_
    refine w_iconst (v := 0) C dX1_leastBeasts_42 (by decide) ?_
    refine x_iast C dX1_leastBeasts_43 aX40 h (fun S4 h => ?_)
    refine w_iconst (v := 0) C dX1_leastBeasts_44 (by decide) ?_
    refine w_istore_n C dX1_leastBeasts_45 rfl (by decide) [(3, .int (0)), (2, .int v2), (1, .int v1), (0, rf Y 37)] rfl ?_
    refine w_join (fun J123 => ∀ (S5 : St), J123 S5 = some R → WS VX Y X 6 1 24 (some (.int R.2), R.1) S5 123 [(0, rf Y 37), (1, .int v1)] []) h ?_ (fun J123 hJ123 h => ?_)
    · intro S5 h
      refine w_aload_n C dX1_leastBeasts_123 rfl 0 rfl ?_
      refine w_getr C dX1_leastBeasts_124 flX1_18 gX37_4 ?_
      refine w_iload_n C dX1_leastBeasts_127 rfl 1 rfl ?_
      refine x_iald C dX1_leastBeasts_128 aX40 h (fun v6 h => ?_)
      refine w_bipush (v := 10) C dX1_leastBeasts_129 (by decide) ?_
      refine w_ishr C dX1_leastBeasts_131 ?_
      refine w_iconst (v := 1) C dX1_leastBeasts_132 (by decide) ?_
      refine w_iadd C dX1_leastBeasts_133 ?_
      exact w_iret C dX1_leastBeasts_134 h
    have hL46 : ∀ (G46 : Nat) (S7 : St) (v8 : Int32), fX1_leastBeasts_L46 F v1 J123 G46 S7 v8 = some R → WS VX Y X 6 1 24 (some (.int R.2), R.1) S7 46 [(0, rf Y 37), (1, .int v1), (3, .int v8)] [] := by
      intro G46
      induction G46 with
      | zero => intro S7 v8 h; exact nomatch (show (none : Option (St × Int32)) = some R from h)
      | succ G46 ih =>
        intro S7 v8 h
        rw [fX1_leastBeasts_L46] at h
        refine w_iload_n C dX1_leastBeasts_46 rfl 2 rfl ?_
        refine w_iload_n C dX1_leastBeasts_47 rfl 1 rfl ?_
        refine w_icmp_ge C 123 dX1_leastBeasts_48 (by decide) h (fun h => ?_) (fun h => ?_)
        · exact w_sub [0, 1] rfl (hJ123 _ h)
        refine w_iconst (v := 0) C dX1_leastBeasts_51 (by decide) ?_
        refine w_istore C dX1_leastBeasts_52 (by decide) [(4, .int (0)), (0, rf Y 37), (1, .int v1), (3, .int v8)] rfl ?_
        refine w_join (fun J117 => ∀ (S9 : St), J117 S9 = some R → WS VX Y X 6 1 24 (some (.int R.2), R.1) S9 117 [(0, rf Y 37), (1, .int v1), (3, .int v8)] []) h ?_ (fun J117 hJ117 h => ?_)
        · intro S9 h
          refine x_iinc C dX1_leastBeasts_117 2 rfl 1 (by decide) h (by decide) (fun v10 => [(3, .int v10), (0, rf Y 37), (1, .int v1)]) (fun _ => rfl) (fun v10 h => ?_)
          refine w_goto C 46 dX1_leastBeasts_120 (by decide) ?_
          exact w_sub [1, 2, 0] rfl (ih _ _ h)
        have hL54 : ∀ (G54 : Nat) (S11 : St) (v12 : Int32), fX1_leastBeasts_L54 F v8 J117 G54 S11 v12 = some R → WS VX Y X 6 1 24 (some (.int R.2), R.1) S11 54 [(0, rf Y 37), (1, .int v1), (3, .int v8), (4, .int v12)] [] := by
          intro G54
          induction G54 with
          | zero => intro S11 v12 h; exact nomatch (show (none : Option (St × Int32)) = some R from h)
          | succ G54 ih =>
            intro S11 v12 h
            rw [fX1_leastBeasts_L54] at h
            refine w_iload C dX1_leastBeasts_54 3 rfl ?_
            refine w_aload_n C dX1_leastBeasts_56 rfl 0 rfl ?_
            refine w_geti C dX1_leastBeasts_57 flX1_25 iX37_3 ?_
            refine w_icmp_ge C 117 dX1_leastBeasts_60 (by decide) h (fun h => ?_) (fun h => ?_)
            · exact w_sub [0, 1, 2] rfl (hJ117 _ h)
            refine w_iload_n C dX1_leastBeasts_63 rfl 2 rfl ?_
            refine w_iconst (v := 1) C dX1_leastBeasts_64 (by decide) ?_
            refine w_iload C dX1_leastBeasts_65 3 rfl ?_
            refine w_ishl C dX1_leastBeasts_67 ?_
            refine w_ior C dX1_leastBeasts_68 ?_
            refine w_topi h (fun v13 h => ?_)
            refine w_istore C dX1_leastBeasts_69 (by decide) [(5, .int v13), (0, rf Y 37), (1, .int v1), (3, .int v8), (4, .int v12)] rfl ?_
            refine w_iload C dX1_leastBeasts_71 0 rfl ?_
            refine w_iload_n C dX1_leastBeasts_73 rfl 3 rfl ?_
            refine w_join (fun J111 => ∀ (S14 : St), J111 S14 = some R → WS VX Y X 6 1 24 (some (.int R.2), R.1) S14 111 [(0, rf Y 37), (1, .int v1), (3, .int v8), (4, .int v12)] []) h ?_ (fun J111 hJ111 h => ?_)
            · intro S14 h
              refine x_iinc C dX1_leastBeasts_111 3 rfl 1 (by decide) h (by decide) (fun v15 => [(4, .int v15), (0, rf Y 37), (1, .int v1), (3, .int v8)]) (fun _ => rfl) (fun v15 h => ?_)
              refine w_goto C 54 dX1_leastBeasts_114 (by decide) ?_
              exact w_sub [1, 2, 3, 0] rfl (ih _ _ h)
            refine w_icmp_eq C 111 dX1_leastBeasts_74 (by decide) h (fun h => ?_) (fun h => ?_)
            · exact w_sub [1, 2, 3, 4] rfl (hJ111 _ h)
            refine w_aload_n C dX1_leastBeasts_77 rfl 1 rfl ?_
            refine w_getr C dX1_leastBeasts_78 flX1_18 gX37_4 ?_
            refine w_iload C dX1_leastBeasts_81 0 rfl ?_
            refine w_aload_n C dX1_leastBeasts_83 rfl 1 rfl ?_
            refine w_getr C dX1_leastBeasts_84 flX1_18 gX37_4 ?_
            refine w_iload C dX1_leastBeasts_87 0 rfl ?_
            refine x_iald C dX1_leastBeasts_89 aX40 h (fun v16 h => ?_)
            refine w_aload_n C dX1_leastBeasts_90 rfl 1 rfl ?_
            refine w_aload_n C dX1_leastBeasts_91 rfl 1 rfl ?_
            refine w_getr C dX1_leastBeasts_92 flX1_18 gX37_4 ?_
            refine w_iload_n C dX1_leastBeasts_95 rfl 3 rfl ?_
            refine x_iald C dX1_leastBeasts_96 aX40 h (fun v17 h => ?_)
            refine w_aload_n C dX1_leastBeasts_97 rfl 1 rfl ?_
            refine w_getr C dX1_leastBeasts_98 flX1_15 gX37_2 ?_
            refine w_iload C dX1_leastBeasts_101 4 rfl ?_
            refine x_iald C dX1_leastBeasts_103 aX39 h (fun v18 h => ?_)
            refine p_Vi C dX1_leastBeasts_104 h (fun _ e => mX1_afterLaying e) lnX1_44 mvX1_afterLaying bX37 rfl ⟨Nat.le_of_ble_eq_true rfl, Nat.le_of_ble_eq_true rfl⟩ [.int v16, .int v13, rf Y 40] rfl (Nat.le_of_ble_eq_true rfl) (fun v19 h => ?_)
            refine x_mmin C dX1_leastBeasts_107 lnX1_48 (Nat.le_of_ble_eq_true rfl) (Nat.le_of_ble_eq_true rfl) ?_
            refine x_iast C dX1_leastBeasts_110 aX40 h (fun S20 h => ?_)
            exact w_sub [1, 2, 3, 4] rfl (hJ111 _ h)
        exact w_sub [1, 2, 3, 0] rfl (hL54 _ _ _ h)
    exact w_sub [3, 2, 0] rfl (hL46 _ _ _ h)
  refine w_iconst (v := 0) C dX1_leastBeasts_7 (by decide) ?_
  exact w_iret C dX1_leastBeasts_8 h)
