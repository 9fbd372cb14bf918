def fX6_beasts (F : Nat) (S : St) (a1 : Int32) : Option (St × Int32) := bv (fX4_areAllThere 1 S a1) fun v1 => if v1 = 0 then (bq (fX6_finding S (0)) fun S10 v11 => some (S10, v11)) else (bv (fJ6_bitCount_0f7a4 S a1) fun v2 => if v2 ≤ (10) then (bv (fX1_lay F S a1) fun S3 => bq (fX1_leastBeasts F S3) fun S4 v5 => if v5 ≤ (S4.1 1 9) then (some (S4, v5)) else (bq (fX6_finding S4 (3)) fun S6 v7 => some (S6, v7))) else (bq (fX6_finding S (6)) fun S8 v9 => some (S8, v9)))
set_option maxRecDepth 100000 in
theorem mX6_beasts {Y : YT} {F : Nat} {S : St} {a1 : Int32} {R : St × Int32} (h : fX6_beasts F S a1 = some R) : Mc VX Y yX6_beasts cX6_beasts 3 (some .int) 2 49 [rf Y 0, .int a1] S (some (.int R.2), R.1) :=
  Mc.start [(0, rf Y 0), (1, .int a1)] rfl pnX6 (Nat.le_of_ble_eq_true rfl) (fun X (C : Ok VX Y X RX6 cX6_beasts 3 (some .int)) => by
  unfold fX6_beasts at h
  refine w_aload_n C dX6_beasts_0 rfl 0 rfl ?_
  refine w_getr C dX6_beasts_1 flX6_10 gX0_0 ?_
  refine w_iload_n C dX6_beasts_4 rfl 1 rfl ?_
  refine p_Vi C dX6_beasts_5 h (fun _ e => mX4_areAllThere_1 e) lnX6_188 mvX4_areAllThere bX1 rfl ⟨Nat.le_of_ble_eq_true rfl, Nat.le_of_ble_eq_true rfl⟩ [] rfl (Nat.le_of_ble_eq_true rfl) (fun v1 h => ?_)
  refine w_if_ne C 17 dX6_beasts_8 (by decide) h (fun h => ?_) (fun h => ?_)
  · refine w_iload_n C dX6_beasts_17 rfl 1 rfl ?_
    refine p_Si C dX6_beasts_18 h (fun _ e => mJ6_bitCount_0f7a4 e) lnX6_191 msJ6_bitCount_0f7a4 rfl ⟨Nat.le_of_ble_eq_true rfl, Nat.le_of_ble_eq_true rfl⟩ [] rfl (Nat.le_of_ble_eq_true rfl) (fun v2 h => ?_)
    refine w_bipush (v := 10) C dX6_beasts_21 (by decide) ?_
    refine w_icmp_le C 33 dX6_beasts_23 (by decide) h (fun h => ?_) (fun h => ?_)
    · refine w_aload_n C dX6_beasts_33 rfl 0 rfl ?_
      refine w_getr C dX6_beasts_34 flX6_38 gX0_5 ?_
      refine w_iload_n C dX6_beasts_37 rfl 1 rfl ?_
      refine w_Vv C dX6_beasts_38 h (fun _ e => mX1_lay e) lnX6_196 mvX1_lay bX37 rfl ⟨Nat.le_of_ble_eq_true rfl, Nat.le_of_ble_eq_true rfl⟩ [] rfl (Nat.le_of_ble_eq_true rfl) (fun S3 h => ?_)
      refine w_aload_n C dX6_beasts_41 rfl 0 rfl ?_
      refine w_getr C dX6_beasts_42 flX6_38 gX0_5 ?_
      refine w_Vi C dX6_beasts_45 h (fun _ e => mX1_leastBeasts e) lnX6_200 mvX1_leastBeasts bX37 rfl ⟨Nat.le_of_ble_eq_true rfl, Nat.le_of_ble_eq_true rfl⟩ [] rfl (Nat.le_of_ble_eq_true rfl) (fun S4 v5 h => ?_)
      refine w_istore_n C dX6_beasts_48 rfl (by decide) [(2, .int v5), (0, rf Y 0), (1, .int a1)] rfl ?_
      refine w_iload_n C dX6_beasts_49 rfl 0 rfl ?_
      refine w_aload_n C dX6_beasts_50 rfl 1 rfl ?_
      refine w_getr C dX6_beasts_51 flX6_10 gX0_0 ?_
      refine w_geti C dX6_beasts_54 flX6_179 iX1_9 ?_
      refine w_icmp_le C 68 dX6_beasts_57 (by decide) h (fun h => ?_) (fun h => ?_)
      · refine w_iload_n C dX6_beasts_68 rfl 0 rfl ?_
        exact w_iret C dX6_beasts_69 h
      refine w_aload_n C dX6_beasts_60 rfl 1 rfl ?_
      refine w_iconst (v := 3) C dX6_beasts_61 (by decide) ?_
      refine w_Vi C dX6_beasts_62 h (fun _ e => mX6_finding e) lnX6_71 mvX6_finding bX0 rfl ⟨Nat.le_of_ble_eq_true rfl, Nat.le_of_ble_eq_true rfl⟩ [] rfl (Nat.le_of_ble_eq_true rfl) (fun S6 v7 h => ?_)
      refine w_goto C 69 dX6_beasts_65 (by decide) ?_
      exact w_iret C dX6_beasts_69 h
    refine w_aload_n C dX6_beasts_26 rfl 0 rfl ?_
    refine w_bipush (v := 6) C dX6_beasts_27 (by decide) ?_
    refine w_Vi C dX6_beasts_29 h (fun _ e => mX6_finding e) lnX6_71 mvX6_finding bX0 rfl ⟨Nat.le_of_ble_eq_true rfl, Nat.le_of_ble_eq_true rfl⟩ [] rfl (Nat.le_of_ble_eq_true rfl) (fun S8 v9 h => ?_)
    exact w_iret C dX6_beasts_32 h
  refine w_aload_n C dX6_beasts_11 rfl 0 rfl ?_
  refine w_iconst (v := 0) C dX6_beasts_12 (by decide) ?_
  refine w_Vi C dX6_beasts_13 h (fun _ e => mX6_finding e) lnX6_71 mvX6_finding bX0 rfl ⟨Nat.le_of_ble_eq_true rfl, Nat.le_of_ble_eq_true rfl⟩ [] rfl (Nat.le_of_ble_eq_true rfl) (fun S10 v11 h => ?_)
  exact w_iret C dX6_beasts_16 h)
def fX6_cap (S : St) (a1 : Int32) : Option (St × Int32) := bv (fX6_within S a1 (0) ((S.1 1 9) - (1))) fun v1 => if v1 = 0 then (bq (fX6_finding S (0)) fun S3 v4 => some (S3, v4)) else (ldi S 8 a1 6 fun v2 => some (S, v2))
set_option maxRecDepth 100000 in
theorem mX6_cap {Y : YT} {S : St} {a1 : Int32} {R : St × Int32} (h : fX6_cap  S a1 = some R) : Mc VX Y yX6_cap cX6_cap 2 (some .int) 1 22 [rf Y 0, .int a1] S (some (.int R.2), R.1) :=
  Mc.start [(0, rf Y 0), (1, .int a1)] rfl pnX6 (Nat.le_of_ble_eq_true rfl) (fun X (C : Ok VX Y X RX6 cX6_cap 2 (some .int)) => by
  unfold fX6_cap at h
  refine w_iload_n C dX6_cap_0 rfl 1 rfl ?_
  refine w_iconst (v := 0) C dX6_cap_1 (by decide) ?_
  refine w_aload_n C dX6_cap_2 rfl 0 rfl ?_
  refine w_getr C dX6_cap_3 flX6_10 gX0_0 ?_
  refine w_geti C dX6_cap_6 flX6_179 iX1_9 ?_
  refine w_iconst (v := 1) C dX6_cap_9 (by decide) ?_
  refine w_isub C dX6_cap_10 ?_
  refine p_Si C dX6_cap_11 h (fun _ e => mX6_within e) lnX6_67 msX6_within rfl ⟨Nat.le_of_ble_eq_true rfl, Nat.le_of_ble_eq_true rfl⟩ [] rfl (Nat.le_of_ble_eq_true rfl) (fun v1 h => ?_)
  refine w_if_ne C 23 dX6_cap_14 (by decide) h (fun h => ?_) (fun h => ?_)
  · refine w_aload_n C dX6_cap_23 rfl 0 rfl ?_
    refine w_getr C dX6_cap_24 flX6_10 gX0_0 ?_
    refine w_getr C dX6_cap_27 flX6_185 gX1_10 ?_
    refine w_iload_n C dX6_cap_30 rfl 1 rfl ?_
    refine x_iald C dX6_cap_31 aX8 h (fun v2 h => ?_)
    exact w_iret C dX6_cap_32 h
  refine w_aload_n C dX6_cap_17 rfl 0 rfl ?_
  refine w_iconst (v := 0) C dX6_cap_18 (by decide) ?_
  refine w_Vi C dX6_cap_19 h (fun _ e => mX6_finding e) lnX6_71 mvX6_finding bX0 rfl ⟨Nat.le_of_ble_eq_true rfl, Nat.le_of_ble_eq_true rfl⟩ [] rfl (Nat.le_of_ble_eq_true rfl) (fun S3 v4 h => ?_)
  exact w_iret C dX6_cap_22 h)
def fX6_beast (S : St) (a1 : Int32) : Option (St × Int32) := bv (fX6_within S a1 (1) (999)) fun v1 => if v1 = 0 then (bq (fX6_finding S (0)) fun S6 v7 => some (S6, v7)) else (if (S.1 1 9) < (6) then (bq (fX4_addBeast 1 S a1) fun S2 v3 => some (S2, v3)) else (bq (fX6_finding S (1)) fun S4 v5 => some (S4, v5)))
set_option maxRecDepth 100000 in
theorem mX6_beast {Y : YT} {S : St} {a1 : Int32} {R : St × Int32} (h : fX6_beast  S a1 = some R) : Mc VX Y yX6_beast cX6_beast 2 (some .int) 1 22 [rf Y 0, .int a1] S (some (.int R.2), R.1) :=
  Mc.start [(0, rf Y 0), (1, .int a1)] rfl pnX6 (Nat.le_of_ble_eq_true rfl) (fun X (C : Ok VX Y X RX6 cX6_beast 2 (some .int)) => by
  unfold fX6_beast at h
  refine w_iload_n C dX6_beast_0 rfl 1 rfl ?_
  refine w_iconst (v := 1) C dX6_beast_1 (by decide) ?_
  refine w_sipush (v := 999) C dX6_beast_2 (by decide) ?_
  refine p_Si C dX6_beast_5 h (fun _ e => mX6_within e) lnX6_67 msX6_within rfl ⟨Nat.le_of_ble_eq_true rfl, Nat.le_of_ble_eq_true rfl⟩ [] rfl (Nat.le_of_ble_eq_true rfl) (fun v1 h => ?_)
  refine w_if_ne C 17 dX6_beast_8 (by decide) h (fun h => ?_) (fun h => ?_)
  · refine w_aload_n C dX6_beast_17 rfl 0 rfl ?_
    refine w_getr C dX6_beast_18 flX6_10 gX0_0 ?_
    refine w_geti C dX6_beast_21 flX6_179 iX1_9 ?_
    refine w_bipush (v := 6) C dX6_beast_24 (by decide) ?_
    refine w_icmp_lt C 35 dX6_beast_26 (by decide) h (fun h => ?_) (fun h => ?_)
    · refine w_aload_n C dX6_beast_35 rfl 0 rfl ?_
      refine w_getr C dX6_beast_36 flX6_10 gX0_0 ?_
      refine w_iload_n C dX6_beast_39 rfl 1 rfl ?_
      refine w_Vi C dX6_beast_40 h (fun _ e => mX4_addBeast_1 e) lnX6_182 mvX4_addBeast bX1 rfl ⟨Nat.le_of_ble_eq_true rfl, Nat.le_of_ble_eq_true rfl⟩ [] rfl (Nat.le_of_ble_eq_true rfl) (fun S2 v3 h => ?_)
      exact w_iret C dX6_beast_43 h
    refine w_aload_n C dX6_beast_29 rfl 0 rfl ?_
    refine w_iconst (v := 1) C dX6_beast_30 (by decide) ?_
    refine w_Vi C dX6_beast_31 h (fun _ e => mX6_finding e) lnX6_71 mvX6_finding bX0 rfl ⟨Nat.le_of_ble_eq_true rfl, Nat.le_of_ble_eq_true rfl⟩ [] rfl (Nat.le_of_ble_eq_true rfl) (fun S4 v5 h => ?_)
    exact w_iret C dX6_beast_34 h
  refine w_aload_n C dX6_beast_11 rfl 0 rfl ?_
  refine w_iconst (v := 0) C dX6_beast_12 (by decide) ?_
  refine w_Vi C dX6_beast_13 h (fun _ e => mX6_finding e) lnX6_71 mvX6_finding bX0 rfl ⟨Nat.le_of_ble_eq_true rfl, Nat.le_of_ble_eq_true rfl⟩ [] rfl (Nat.le_of_ble_eq_true rfl) (fun S6 v7 h => ?_)
  exact w_iret C dX6_beast_16 h)
def fX0_feltWarms (S : St) (a1 : Int32) : Option (Int32) := bv (fX0_good S a1) fun v1 => pl ((v1 / (5))) fun v2 => ldi S 7 (2) 5 fun v3 => if v3 < (5) then (some v2) else (some (v2 / (2)))
set_option maxRecDepth 100000 in
theorem mX0_feltWarms {Y : YT} {S : St} {a1 : Int32} {R : Int32} (h : fX0_feltWarms  S a1 = some R) : Mc VX Y yX0_feltWarms cX0_feltWarms 3 (some .int) 2 42 [rf Y 34, .int a1] S (some (.int R), S) :=
  Mc.start [(0, rf Y 34), (1, .int a1)] rfl pnX0 (Nat.le_of_ble_eq_true rfl) (fun X (C : Ok VX Y X RX0 cX0_feltWarms 3 (some .int)) => by
  unfold fX0_feltWarms at h
  refine w_aload_n C dX0_feltWarms_0 rfl 0 rfl ?_
  refine w_iload_n C dX0_feltWarms_1 rfl 1 rfl ?_
  refine p_Vi C dX0_feltWarms_2 h (fun _ e => mX0_good e) lnX0_57 mvX0_good bX34 rfl ⟨Nat.le_of_ble_eq_true rfl, Nat.le_of_ble_eq_true rfl⟩ [] rfl (Nat.le_of_ble_eq_true rfl) (fun v1 h => ?_)
  refine w_iconst (v := 5) C dX0_feltWarms_5 (by decide) ?_
  refine w_idiv C dX0_feltWarms_6 (by decide) ?_
  refine w_topi h (fun v2 h => ?_)
  refine w_istore_n C dX0_feltWarms_7 rfl (by decide) [(2, .int v2), (0, rf Y 34), (1, .int a1)] rfl ?_
  refine w_aload_n C dX0_feltWarms_8 rfl 1 rfl ?_
  refine w_getr C dX0_feltWarms_9 flX0_18 gX34_0 ?_
  refine w_getr C dX0_feltWarms_12 flX0_22 gX1_7 ?_
  refine w_iconst (v := 2) C dX0_feltWarms_15 (by decide) ?_
  refine x_iald C dX0_feltWarms_16 aX7 h (fun v3 h => ?_)
  refine w_iconst (v := 5) C dX0_feltWarms_17 (by decide) ?_
  refine w_icmp_lt C 27 dX0_feltWarms_18 (by decide) h (fun h => ?_) (fun h => ?_)
  · refine w_iload_n C dX0_feltWarms_27 rfl 0 rfl ?_
    exact p_iret C dX0_feltWarms_28 h
  refine w_iload_n C dX0_feltWarms_21 rfl 0 rfl ?_
  refine w_iconst (v := 2) C dX0_feltWarms_22 (by decide) ?_
  refine w_idiv C dX0_feltWarms_23 (by decide) ?_
  refine w_goto C 28 dX0_feltWarms_24 (by decide) ?_
  exact p_iret C dX0_feltWarms_28 h)
def fX0_warms (S : St) (a1 : Int32) : Option (Int32) := ldi S 2 a1 20 fun v1 => if v1 = 4 then (bv (fX0_feltWarms S a1) fun v2 => some v2) else if v1 = 5 then (bv (fX0_feltWarms S a1) fun v3 => some (if (0) < (v3 - ((S.1 34 1) / (10))) then (v3 - ((S.1 34 1) / (10))) else (0))) else (some (0))
set_option maxRecDepth 100000 in
theorem mX0_warms {Y : YT} {S : St} {a1 : Int32} {R : Int32} (h : fX0_warms  S a1 = some R) : Mc VX Y yX0_warms cX0_warms 2 (some .int) 3 64 [rf Y 34, .int a1] S (some (.int R), S) :=
  Mc.start [(0, rf Y 34), (1, .int a1)] rfl pnX0 (Nat.le_of_ble_eq_true rfl) (fun X (C : Ok VX Y X RX0 cX0_warms 2 (some .int)) => by
  unfold fX0_warms at h
  refine w_aload_n C dX0_warms_0 rfl 0 rfl ?_
  refine w_getr C dX0_warms_1 flX0_18 gX34_0 ?_
  refine w_getr C dX0_warms_4 flX0_54 gX1_1 ?_
  refine w_iload_n C dX0_warms_7 rfl 1 rfl ?_
  refine x_iald C dX0_warms_8 aX2 h (fun v1 h => ?_)
  by_cases c4 : v1 = 4
  · have h := ite_t c4 h
    refine w_look (off := 27) C 36 dX0_warms_9 (by decide) (by first | (rw [c4]; done) | (rw [c4]; rfl)) (by decide) ?_
    refine w_aload_n C dX0_warms_36 rfl 0 rfl ?_
    refine w_iload_n C dX0_warms_37 rfl 1 rfl ?_
    refine p_Vi C dX0_warms_38 h (fun _ e => mX0_feltWarms e) lnX0_70 mvX0_feltWarms bX34 rfl ⟨Nat.le_of_ble_eq_true rfl, Nat.le_of_ble_eq_true rfl⟩ [] rfl (Nat.le_of_ble_eq_true rfl) (fun v2 h => ?_)
    exact p_iret C dX0_warms_41 h
  have h := ite_f c4 h
  by_cases c5 : v1 = 5
  · have h := ite_t c5 h
    refine w_look (off := 33) C 42 dX0_warms_9 (by decide) (by first | (rw [c5]; done) | (rw [c5]; rfl)) (by decide) ?_
    refine w_iconst (v := 0) C dX0_warms_42 (by decide) ?_
    refine w_aload_n C dX0_warms_43 rfl 0 rfl ?_
    refine w_iload_n C dX0_warms_44 rfl 1 rfl ?_
    refine p_Vi C dX0_warms_45 h (fun _ e => mX0_feltWarms e) lnX0_70 mvX0_feltWarms bX34 rfl ⟨Nat.le_of_ble_eq_true rfl, Nat.le_of_ble_eq_true rfl⟩ [.int (0)] rfl (Nat.le_of_ble_eq_true rfl) (fun v3 h => ?_)
    refine w_aload_n C dX0_warms_48 rfl 0 rfl ?_
    refine w_geti C dX0_warms_49 flX0_27 iX34_1 ?_
    refine w_bipush (v := 10) C dX0_warms_52 (by decide) ?_
    refine w_idiv C dX0_warms_54 (by decide) ?_
    refine w_isub C dX0_warms_55 ?_
    refine x_mmax C dX0_warms_56 lnX0_73 (Nat.le_of_ble_eq_true rfl) (Nat.le_of_ble_eq_true rfl) ?_
    exact p_iret C dX0_warms_59 h
  have h := ite_f c5 h
  refine w_look (off := 51) C 60 dX0_warms_9 (by decide) (by show Op.lookupswitch.offset [(4, 27), (5, 33)] 51 _ = _; rw [lv_osw c4 (a := 4) rfl, lv_osw c5 (a := 5) rfl]; rfl) (by decide) ?_
  refine w_iconst (v := 0) C dX0_warms_60 (by decide) ?_
  exact p_iret C dX0_warms_61 h)
def fX0_warmthOfAll_L4 (S : St) (J29 : Int32 → Option (Int32)) : Nat → Int32 → Int32 → Option (Int32)
  | 0, _, _ => none
  | G4 + 1, v3, v4 => if (S.1 1 0) ≤ v4 then (J29 v3) else (bv (fX0_warms S v4) fun v5 => pl ((v3 + v5)) fun v6 => pl (v4 + 1) fun v7 => fX0_warmthOfAll_L4 S J29 G4 v6 v7)
def fX0_warmthOfAll (F : Nat) (S : St) : Option (Int32) := pl (fun (v1 : Int32) => ldi S 7 (3) 5 fun v2 => some ((v1 - ((S.1 34 1) / (5))) - (v2 / (3)))) fun J29 => fX0_warmthOfAll_L4 S J29 F (0) (0)
set_option maxRecDepth 100000 in
theorem mX0_warmthOfAll {Y : YT} {F : Nat} {S : St} {R : Int32} (h : fX0_warmthOfAll F S  = some R) : Mc VX Y yX0_warmthOfAll cX0_warmthOfAll 3 (some .int) 4 85 [rf Y 34] S (some (.int R), S) :=
  Mc.start [(0, rf Y 34)] rfl pnX0 (Nat.le_of_ble_eq_true rfl) (fun X (C : Ok VX Y X RX0 cX0_warmthOfAll 3 (some .int)) => by
  unfold fX0_warmthOfAll at h
  refine w_iconst (v := 0) C dX0_warmthOfAll_0 (by decide) ?_
  refine w_istore_n C dX0_warmthOfAll_1 rfl (by decide) [(1, .int (0)), (0, rf Y 34)] rfl ?_
  refine w_iconst (v := 0) C dX0_warmthOfAll_2 (by decide) ?_
  refine w_istore_n C dX0_warmthOfAll_3 rfl (by decide) [(2, .int (0)), (1, .int (0)), (0, rf Y 34)] rfl ?_
  refine w_join (fun J29 => ∀ (v1 : Int32), J29 v1 = some R → WS VX Y X 3 4 85 (some (.int R), S) S 29 [(0, rf Y 34), (1, .int v1)] []) h ?_ (fun J29 hJ29 h => ?_)
  · intro v1 h
    refine w_iload_n C dX0_warmthOfAll_29 rfl 1 rfl ?_
    refine w_aload_n C dX0_warmthOfAll_30 rfl 0 rfl ?_
    refine w_geti C dX0_warmthOfAll_31 flX0_27 iX34_1 ?_
    refine w_iconst (v := 5) C dX0_warmthOfAll_34 (by decide) ?_
    refine w_idiv C dX0_warmthOfAll_35 (by decide) ?_
    refine w_isub C dX0_warmthOfAll_36 ?_
    refine w_aload_n C dX0_warmthOfAll_37 rfl 0 rfl ?_
    refine w_getr C dX0_warmthOfAll_38 flX0_18 gX34_0 ?_
    refine w_getr C dX0_warmthOfAll_41 flX0_22 gX1_7 ?_
    refine w_iconst (v := 3) C dX0_warmthOfAll_44 (by decide) ?_
    refine x_iald C dX0_warmthOfAll_45 aX7 h (fun v2 h => ?_)
    refine w_iconst (v := 3) C dX0_warmthOfAll_46 (by decide) ?_
    refine w_idiv C dX0_warmthOfAll_47 (by decide) ?_
    refine w_isub C dX0_warmthOfAll_48 ?_
    exact p_iret C dX0_warmthOfAll_49 h
  have hL4 : ∀ (G4 : Nat) (v3 : Int32) (v4 : Int32), fX0_warmthOfAll_L4 S J29 G4 v3 v4 = some R → WS VX Y X 3 4 85 (some (.int R), S) S 4 [(0, rf Y 34), (1, .int v3), (2, .int v4)] [] := by
    intro G4
    induction G4 with
    | zero => intro v3 v4 h; exact nomatch (show (none : Option (Int32)) = some R from h)
    | succ G4 ih =>
      intro v3 v4 h
      rw [fX0_warmthOfAll_L4] at h
      refine w_iload_n C dX0_warmthOfAll_4 rfl 2 rfl ?_
      refine w_aload_n C dX0_warmthOfAll_5 rfl 0 rfl ?_
      refine w_getr C dX0_warmthOfAll_6 flX0_18 gX34_0 ?_
      refine w_geti C dX0_warmthOfAll_9 flX0_85 iX1_0 ?_
      refine w_icmp_ge C 29 dX0_warmthOfAll_12 (by decide) h (fun h => ?_) (fun h => ?_)
      · exact w_sub [0, 1] rfl (hJ29 _ h)
      refine w_iload_n C dX0_warmthOfAll_15 rfl 1 rfl ?_
      refine w_aload_n C dX0_warmthOfAll_16 rfl 0 rfl ?_
      refine w_iload_n C dX0_warmthOfAll_17 rfl 2 rfl ?_
      refine p_Vi C dX0_warmthOfAll_18 h (fun _ e => mX0_warms e) lnX0_122 mvX0_warms bX34 rfl ⟨Nat.le_of_ble_eq_true rfl, Nat.le_of_ble_eq_true rfl⟩ [.int v3] rfl (Nat.le_of_ble_eq_true rfl) (fun v5 h => ?_)
      refine w_iadd C dX0_warmthOfAll_21 ?_
      refine w_topi h (fun v6 h => ?_)
      refine w_istore_n C dX0_warmthOfAll_22 rfl (by decide) [(1, .int v6), (0, rf Y 34), (2, .int v4)] rfl ?_
      refine x_iinc C dX0_warmthOfAll_23 2 rfl 1 (by decide) h (by decide) (fun v7 => [(2, .int v7), (1, .int v6), (0, rf Y 34)]) (fun _ => rfl) (fun v7 h => ?_)
      refine w_goto C 4 dX0_warmthOfAll_26 (by decide) ?_
      exact w_sub [2, 1, 0] rfl (ih _ _ h)
  exact w_sub [2, 1, 0] rfl (hL4 _ _ _ h))
def fX0_fuel (F : Nat) (S : St) : Option (Int32) := ldi S 7 (4) 5 fun v1 => bv (fX0_warmthOfAll F S) fun v2 => pl (((v1 * (10)) - v2)) fun v3 => if v3 ≤ 0 then (some (0)) else (some ((v3 / (20)) + (1)))
set_option maxRecDepth 100000 in
theorem mX0_fuel {Y : YT} {F : Nat} {S : St} {R : Int32} (h : fX0_fuel F S  = some R) : Mc VX Y yX0_fuel cX0_fuel 2 (some .int) 5 107 [rf Y 34] S (some (.int R), S) :=
  Mc.start [(0, rf Y 34)] rfl pnX0 (Nat.le_of_ble_eq_true rfl) (fun X (C : Ok VX Y X RX0 cX0_fuel 2 (some .int)) => by
  unfold fX0_fuel at h
  refine w_aload_n C dX0_fuel_0 rfl 0 rfl ?_
  refine w_getr C dX0_fuel_1 flX0_18 gX34_0 ?_
  refine w_getr C dX0_fuel_4 flX0_22 gX1_7 ?_
  refine w_iconst (v := 4) C dX0_fuel_7 (by decide) ?_
  refine x_iald C dX0_fuel_8 aX7 h (fun v1 h => ?_)
  refine w_bipush (v := 10) C dX0_fuel_9 (by decide) ?_
  refine w_imul C dX0_fuel_11 ?_
  refine w_aload_n C dX0_fuel_12 rfl 0 rfl ?_
  refine p_Vi C dX0_fuel_13 h (fun _ e => mX0_warmthOfAll e) lnX0_125 mvX0_warmthOfAll bX34 rfl ⟨Nat.le_of_ble_eq_true rfl, Nat.le_of_ble_eq_true rfl⟩ [.int (v1 * (10))] rfl (Nat.le_of_ble_eq_true rfl) (fun v2 h => ?_)
  refine w_isub C dX0_fuel_16 ?_
  refine w_topi h (fun v3 h => ?_)
  refine w_istore_n C dX0_fuel_17 rfl (by decide) [(1, .int v3), (0, rf Y 34)] rfl ?_
  refine w_iload_n C dX0_fuel_18 rfl 0 rfl ?_
  refine w_if_le C 31 dX0_fuel_19 (by decide) h (fun h => ?_) (fun h => ?_)
  · refine w_iconst (v := 0) C dX0_fuel_31 (by decide) ?_
    exact p_iret C dX0_fuel_32 h
  refine w_iload_n C dX0_fuel_22 rfl 0 rfl ?_
  refine w_bipush (v := 20) C dX0_fuel_23 (by decide) ?_
  refine w_idiv C dX0_fuel_25 (by decide) ?_
  refine w_iconst (v := 1) C dX0_fuel_26 (by decide) ?_
  refine w_iadd C dX0_fuel_27 ?_
  refine w_goto C 32 dX0_fuel_28 (by decide) ?_
  exact p_iret C dX0_fuel_32 h)
def fX6_idle_L19 (F : Nat) (v2 : Int32) : Nat → St → Int32 → Int32 → Option (St × Int32)
  | 0, _, _, _ => none
  | G19 + 1, S3, v4, v5 => if (S3.1 1 0) ≤ v5 then (some (S3, v4)) else (pl (si S3 34 4 ((S3.1 1 6) &&& (((1) <<< (v5 &&& 31)) ^^^ (-1)))) fun S6 => bv (fX4_isThere 1 S6 v5) fun v7 => pl (fun (v8 : Int32) => pl (v5 + 1) fun v9 => fX6_idle_L19 F v2 G19 S6 v8 v9) fun J78 => if v7 = 0 then (J78 v4) else (bv (fX0_fuel F S6) fun v10 => if v10 = v2 then (pl ((v4 ||| ((1) <<< (v5 &&& 31)))) fun v11 => J78 v11) else (J78 v4)))
def fX6_idle (F : Nat) (S : St) : Option (St × Int32) := bv (fX0_asItIs S) fun S1 => bv (fX0_fuel F S1) fun v2 => fX6_idle_L19 F v2 F S1 (0) (0)
set_option maxRecDepth 100000 in
theorem mX6_idle {Y : YT} {F : Nat} {S : St} {R : St × Int32} (h : fX6_idle F S  = some R) : Mc VX Y yX6_idle cX6_idle 4 (some .int) 6 128 [rf Y 0] S (some (.int R.2), R.1) :=
  Mc.start [(0, rf Y 0)] rfl pnX6 (Nat.le_of_ble_eq_true rfl) (fun X (C : Ok VX Y X RX6 cX6_idle 4 (some .int)) => by
  unfold fX6_idle at h
  refine w_aload_n C dX6_idle_0 rfl 0 rfl ?_
  refine w_getr C dX6_idle_1 flX6_31 gX0_4 ?_
  refine w_Vv C dX6_idle_4 h (fun _ e => mX0_asItIs e) lnX6_87 mvX0_asItIs bX34 rfl ⟨Nat.le_of_ble_eq_true rfl, Nat.le_of_ble_eq_true rfl⟩ [] rfl (Nat.le_of_ble_eq_true rfl) (fun S1 h => ?_)
  refine w_aload_n C dX6_idle_7 rfl 0 rfl ?_
  refine w_getr C dX6_idle_8 flX6_31 gX0_4 ?_
  refine p_Vi C dX6_idle_11 h (fun _ e => mX0_fuel e) lnX6_176 mvX0_fuel bX34 rfl ⟨Nat.le_of_ble_eq_true rfl, Nat.le_of_ble_eq_true rfl⟩ [] rfl (Nat.le_of_ble_eq_true rfl) (fun v2 h => ?_)
  refine w_istore_n C dX6_idle_14 rfl (by decide) [(1, .int v2), (0, rf Y 0)] rfl ?_
  refine w_iconst (v := 0) C dX6_idle_15 (by decide) ?_
  refine w_istore_n C dX6_idle_16 rfl (by decide) [(2, .int (0)), (1, .int v2), (0, rf Y 0)] rfl ?_
  refine w_iconst (v := 0) C dX6_idle_17 (by decide) ?_
  refine w_istore_n C dX6_idle_18 rfl (by decide) [(3, .int (0)), (2, .int (0)), (1, .int v2), (0, rf Y 0)] rfl ?_
  have hL19 : ∀ (G19 : Nat) (S3 : St) (v4 : Int32) (v5 : Int32), fX6_idle_L19 F v2 G19 S3 v4 v5 = some R → WS VX Y X 4 6 128 (some (.int R.2), R.1) S3 19 [(0, rf Y 0), (1, .int v2), (2, .int v4), (3, .int v5)] [] := by
    intro G19
    induction G19 with
    | zero => intro S3 v4 v5 h; exact nomatch (show (none : Option (St × Int32)) = some R from h)
    | succ G19 ih =>
      intro S3 v4 v5 h
      rw [fX6_idle_L19] at h
      refine w_iload_n C dX6_idle_19 rfl 3 rfl ?_
      refine w_aload_n C dX6_idle_20 rfl 0 rfl ?_
      refine w_getr C dX6_idle_21 flX6_10 gX0_0 ?_
      refine w_geti C dX6_idle_24 flX6_75 iX1_0 ?_
      refine w_icmp_ge C 84 dX6_idle_27 (by decide) h (fun h => ?_) (fun h => ?_)
      · refine w_iload_n C dX6_idle_84 rfl 2 rfl ?_
        exact w_iret C dX6_idle_85 h
      refine w_aload_n C dX6_idle_30 rfl 0 rfl ?_
      refine w_getr C dX6_idle_31 flX6_31 gX0_4 ?_
      refine w_aload_n C dX6_idle_34 rfl 0 rfl ?_
      refine w_getr C dX6_idle_35 flX6_10 gX0_0 ?_
      refine w_geti C dX6_idle_38 flX6_124 iX1_6 ?_
      refine w_iconst (v := 1) C dX6_idle_41 (by decide) ?_
      refine w_iload_n C dX6_idle_42 rfl 3 rfl ?_
      refine w_ishl C dX6_idle_43 ?_
      refine w_iconst (v := -1) C dX6_idle_44 (by decide) ?_
      refine w_ixor C dX6_idle_45 ?_
      refine w_iand C dX6_idle_46 ?_
      refine x_puti C dX6_idle_47 fpX6_166 iX34_4 h (fun S6 h => ?_)
      refine w_aload_n C dX6_idle_50 rfl 0 rfl ?_
      refine w_getr C dX6_idle_51 flX6_10 gX0_0 ?_
      refine w_iload_n C dX6_idle_54 rfl 3 rfl ?_
      refine p_Vi C dX6_idle_55 h (fun _ e => mX4_isThere_1 e) lnX6_105 mvX4_isThere bX1 rfl ⟨Nat.le_of_ble_eq_true rfl, Nat.le_of_ble_eq_true rfl⟩ [] rfl (Nat.le_of_ble_eq_true rfl) (fun v7 h => ?_)
      refine w_join (fun J78 => ∀ (v8 : Int32), J78 v8 = some R → WS VX Y X 4 6 128 (some (.int R.2), R.1) S6 78 [(0, rf Y 0), (1, .int v2), (2, .int v8), (3, .int v5)] []) h ?_ (fun J78 hJ78 h => ?_)
      · intro v8 h
        refine x_iinc C dX6_idle_78 3 rfl 1 (by decide) h (by decide) (fun v9 => [(3, .int v9), (0, rf Y 0), (1, .int v2), (2, .int v8)]) (fun _ => rfl) (fun v9 h => ?_)
        refine w_goto C 19 dX6_idle_81 (by decide) ?_
        exact w_sub [1, 2, 3, 0] rfl (ih _ _ _ h)
      refine w_if_eq C 78 dX6_idle_58 (by decide) h (fun h => ?_) (fun h => ?_)
      · exact w_sub [0, 1, 2, 3] rfl (hJ78 _ h)
      refine w_aload_n C dX6_idle_61 rfl 0 rfl ?_
      refine w_getr C dX6_idle_62 flX6_31 gX0_4 ?_
      refine p_Vi C dX6_idle_65 h (fun _ e => mX0_fuel e) lnX6_176 mvX0_fuel bX34 rfl ⟨Nat.le_of_ble_eq_true rfl, Nat.le_of_ble_eq_true rfl⟩ [] rfl (Nat.le_of_ble_eq_true rfl) (fun v10 h => ?_)
      refine w_iload_n C dX6_idle_68 rfl 1 rfl ?_
      refine w_icmp_ne C 78 dX6_idle_69 (by decide) h (fun h => ?_) (fun h => ?_)
      · exact w_sub [0, 1, 2, 3] rfl (hJ78 _ h)
      refine w_iload_n C dX6_idle_72 rfl 2 rfl ?_
      refine w_iconst (v := 1) C dX6_idle_73 (by decide) ?_
      refine w_iload_n C dX6_idle_74 rfl 3 rfl ?_
      refine w_ishl C dX6_idle_75 ?_
      refine w_ior C dX6_idle_76 ?_
      refine w_topi h (fun v11 h => ?_)
      refine w_istore_n C dX6_idle_77 rfl (by decide) [(2, .int v11), (0, rf Y 0), (1, .int v2), (3, .int v5)] rfl ?_
      exact w_sub [1, 2, 0, 3] rfl (hJ78 _ h)
  exact w_sub [3, 2, 1, 0] rfl (hL19 _ _ _ _ h))
def fX6_warmth (F : Nat) (S : St) (a1 : Int32) : Option (St × Int32) := bv (fX6_within S a1 (0) (1)) fun v1 => if v1 = 0 then (bq (fX6_finding S (0)) fun S5 v6 => some (S5, v6)) else (bv (fX0_asItIs S) fun S2 => if a1 = 0 then (bv (fX0_warmthOfAll F S2) fun v4 => some (S2, v4)) else (bv (fX0_fuel F S2) fun v3 => some (S2, v3)))
set_option maxRecDepth 100000 in
theorem mX6_warmth {Y : YT} {F : Nat} {S : St} {a1 : Int32} {R : St × Int32} (h : fX6_warmth F S a1 = some R) : Mc VX Y yX6_warmth cX6_warmth 2 (some .int) 6 128 [rf Y 0, .int a1] S (some (.int R.2), R.1) :=
  Mc.start [(0, rf Y 0), (1, .int a1)] rfl pnX6 (Nat.le_of_ble_eq_true rfl) (fun X (C : Ok VX Y X RX6 cX6_warmth 2 (some .int)) => by
  unfold fX6_warmth at h
  refine w_iload_n C dX6_warmth_0 rfl 1 rfl ?_
  refine w_iconst (v := 0) C dX6_warmth_1 (by decide) ?_
  refine w_iconst (v := 1) C dX6_warmth_2 (by decide) ?_
  refine p_Si C dX6_warmth_3 h (fun _ e => mX6_within e) lnX6_67 msX6_within rfl ⟨Nat.le_of_ble_eq_true rfl, Nat.le_of_ble_eq_true rfl⟩ [] rfl (Nat.le_of_ble_eq_true rfl) (fun v1 h => ?_)
  refine w_if_ne C 15 dX6_warmth_6 (by decide) h (fun h => ?_) (fun h => ?_)
  · refine w_aload_n C dX6_warmth_15 rfl 0 rfl ?_
    refine w_getr C dX6_warmth_16 flX6_31 gX0_4 ?_
    refine w_Vv C dX6_warmth_19 h (fun _ e => mX0_asItIs e) lnX6_87 mvX0_asItIs bX34 rfl ⟨Nat.le_of_ble_eq_true rfl, Nat.le_of_ble_eq_true rfl⟩ [] rfl (Nat.le_of_ble_eq_true rfl) (fun S2 h => ?_)
    refine w_iload_n C dX6_warmth_22 rfl 1 rfl ?_
    refine w_if_ne C 36 dX6_warmth_23 (by decide) h (fun h => ?_) (fun h => ?_)
    · refine w_aload_n C dX6_warmth_36 rfl 0 rfl ?_
      refine w_getr C dX6_warmth_37 flX6_31 gX0_4 ?_
      refine p_Vi C dX6_warmth_40 h (fun _ e => mX0_fuel e) lnX6_176 mvX0_fuel bX34 rfl ⟨Nat.le_of_ble_eq_true rfl, Nat.le_of_ble_eq_true rfl⟩ [] rfl (Nat.le_of_ble_eq_true rfl) (fun v3 h => ?_)
      exact w_iret C dX6_warmth_43 h
    refine w_aload_n C dX6_warmth_26 rfl 0 rfl ?_
    refine w_getr C dX6_warmth_27 flX6_31 gX0_4 ?_
    refine p_Vi C dX6_warmth_30 h (fun _ e => mX0_warmthOfAll e) lnX6_173 mvX0_warmthOfAll bX34 rfl ⟨Nat.le_of_ble_eq_true rfl, Nat.le_of_ble_eq_true rfl⟩ [] rfl (Nat.le_of_ble_eq_true rfl) (fun v4 h => ?_)
    refine w_goto C 43 dX6_warmth_33 (by decide) ?_
    exact w_iret C dX6_warmth_43 h
  refine w_aload_n C dX6_warmth_9 rfl 0 rfl ?_
  refine w_iconst (v := 0) C dX6_warmth_10 (by decide) ?_
  refine w_Vi C dX6_warmth_11 h (fun _ e => mX6_finding e) lnX6_71 mvX6_finding bX0 rfl ⟨Nat.le_of_ble_eq_true rfl, Nat.le_of_ble_eq_true rfl⟩ [] rfl (Nat.le_of_ble_eq_true rfl) (fun S5 v6 h => ?_)
  exact w_iret C dX6_warmth_14 h)
def fX0_weakestSide_L4 (S : St) : Nat → Int32 → Int32 → Option (Int32)
  | 0, _, _ => none
  | G4 + 1, v1, v2 => if (8) ≤ v2 then (some v1) else (bv (fX0_spare S v2) fun v3 => bv (fX0_spare S v1) fun v4 => pl (fun (v5 : Int32) => pl (v2 + 1) fun v6 => fX0_weakestSide_L4 S G4 v5 v6) fun J25 => if v4 ≤ v3 then (J25 v1) else (J25 v2))
def fX0_weakestSide (F : Nat) (S : St) : Option (Int32) := fX0_weakestSide_L4 S F (0) (1)
set_option maxRecDepth 100000 in
theorem mX0_weakestSide {Y : YT} {F : Nat} {S : St} {R : Int32} (h : fX0_weakestSide F S  = some R) : Mc VX Y yX0_weakestSide cX0_weakestSide 3 (some .int) 2 43 [rf Y 34] S (some (.int R), S) :=
  Mc.start [(0, rf Y 34)] rfl pnX0 (Nat.le_of_ble_eq_true rfl) (fun X (C : Ok VX Y X RX0 cX0_weakestSide 3 (some .int)) => by
  unfold fX0_weakestSide at h
  refine w_iconst (v := 0) C dX0_weakestSide_0 (by decide) ?_
  refine w_istore_n C dX0_weakestSide_1 rfl (by decide) [(1, .int (0)), (0, rf Y 34)] rfl ?_
  refine w_iconst (v := 1) C dX0_weakestSide_2 (by decide) ?_
  refine w_istore_n C dX0_weakestSide_3 rfl (by decide) [(2, .int (1)), (1, .int (0)), (0, rf Y 34)] rfl ?_
  have hL4 : ∀ (G4 : Nat) (v1 : Int32) (v2 : Int32), fX0_weakestSide_L4 S G4 v1 v2 = some R → WS VX Y X 3 2 43 (some (.int R), S) S 4 [(0, rf Y 34), (1, .int v1), (2, .int v2)] [] := by
    intro G4
    induction G4 with
    | zero => intro v1 v2 h; exact nomatch (show (none : Option (Int32)) = some R from h)
    | succ G4 ih =>
      intro v1 v2 h
      rw [fX0_weakestSide_L4] at h
      refine w_iload_n C dX0_weakestSide_4 rfl 2 rfl ?_
      refine w_bipush (v := 8) C dX0_weakestSide_5 (by decide) ?_
      refine w_icmp_ge C 31 dX0_weakestSide_7 (by decide) h (fun h => ?_) (fun h => ?_)
      · refine w_iload_n C dX0_weakestSide_31 rfl 1 rfl ?_
        exact p_iret C dX0_weakestSide_32 h
      refine w_aload_n C dX0_weakestSide_10 rfl 0 rfl ?_
      refine w_iload_n C dX0_weakestSide_11 rfl 2 rfl ?_
      refine p_Vi C dX0_weakestSide_12 h (fun _ e => mX0_spare e) lnX0_100 mvX0_spare bX34 rfl ⟨Nat.le_of_ble_eq_true rfl, Nat.le_of_ble_eq_true rfl⟩ [] rfl (Nat.le_of_ble_eq_true rfl) (fun v3 h => ?_)
      refine w_aload_n C dX0_weakestSide_15 rfl 0 rfl ?_
      refine w_iload_n C dX0_weakestSide_16 rfl 1 rfl ?_
      refine p_Vi C dX0_weakestSide_17 h (fun _ e => mX0_spare e) lnX0_100 mvX0_spare bX34 rfl ⟨Nat.le_of_ble_eq_true rfl, Nat.le_of_ble_eq_true rfl⟩ [.int v3] rfl (Nat.le_of_ble_eq_true rfl) (fun v4 h => ?_)
      refine w_join (fun J25 => ∀ (v5 : Int32), J25 v5 = some R → WS VX Y X 3 2 43 (some (.int R), S) S 25 [(0, rf Y 34), (1, .int v5), (2, .int v2)] []) h ?_ (fun J25 hJ25 h => ?_)
      · intro v5 h
        refine x_iinc C dX0_weakestSide_25 2 rfl 1 (by decide) h (by decide) (fun v6 => [(2, .int v6), (0, rf Y 34), (1, .int v5)]) (fun _ => rfl) (fun v6 h => ?_)
        refine w_goto C 4 dX0_weakestSide_28 (by decide) ?_
        exact w_sub [1, 2, 0] rfl (ih _ _ h)
      refine w_icmp_ge C 25 dX0_weakestSide_20 (by decide) h (fun h => ?_) (fun h => ?_)
      · exact w_sub [0, 1, 2] rfl (hJ25 _ h)
      refine w_iload_n C dX0_weakestSide_23 rfl 2 rfl ?_
      refine w_istore_n C dX0_weakestSide_24 rfl (by decide) [(1, .int v2), (0, rf Y 34), (2, .int v2)] rfl ?_
      exact w_sub [1, 0, 2] rfl (hJ25 _ h)
  exact w_sub [2, 1, 0] rfl (hL4 _ _ _ h))
def fX6_worst_L13 (F : Nat) : Nat → St → Int32 → Int32 → Int32 → Option (St × Int32)
  | 0, _, _, _, _ => none
  | G13 + 1, S2, v3, v4, v5 => if (8) ≤ v5 then (some (S2, v3)) else (pl (si S2 34 2 v5) fun S6 => bv (fX0_gather F S6) fun S7 => bv (fX0_weakestSide F S7) fun v8 => bv (fX0_spare S7 v8) fun v9 => pl (fun (v10 : Int32) (v11 : Int32) => pl (v5 + 1) fun v12 => fX6_worst_L13 F G13 S7 v10 v11 v12) fun J65 => pl (J65 v5 v9) fun J60 => if v5 = 0 then (J60) else (if v4 ≤ v9 then (J65 v3 v4) else (J60)))
def fX6_worst (F : Nat) (S : St) : Option (St × Int32) := bv (fX0_asItIs S) fun S1 => fX6_worst_L13 F F S1 (0) (0) (0)
set_option maxRecDepth 100000 in
theorem mX6_worst {Y : YT} {F : Nat} {S : St} {R : St × Int32} (h : fX6_worst F S  = some R) : Mc VX Y yX6_worst cX6_worst 5 (some .int) 5 105 [rf Y 0] S (some (.int R.2), R.1) :=
  Mc.start [(0, rf Y 0)] rfl pnX6 (Nat.le_of_ble_eq_true rfl) (fun X (C : Ok VX Y X RX6 cX6_worst 5 (some .int)) => by
  unfold fX6_worst at h
  refine w_aload_n C dX6_worst_0 rfl 0 rfl ?_
  refine w_getr C dX6_worst_1 flX6_31 gX0_4 ?_
  refine w_Vv C dX6_worst_4 h (fun _ e => mX0_asItIs e) lnX6_87 mvX0_asItIs bX34 rfl ⟨Nat.le_of_ble_eq_true rfl, Nat.le_of_ble_eq_true rfl⟩ [] rfl (Nat.le_of_ble_eq_true rfl) (fun S1 h => ?_)
  refine w_iconst (v := 0) C dX6_worst_7 (by decide) ?_
  refine w_istore_n C dX6_worst_8 rfl (by decide) [(1, .int (0)), (0, rf Y 0)] rfl ?_
  refine w_iconst (v := 0) C dX6_worst_9 (by decide) ?_
  refine w_istore_n C dX6_worst_10 rfl (by decide) [(2, .int (0)), (1, .int (0)), (0, rf Y 0)] rfl ?_
  refine w_iconst (v := 0) C dX6_worst_11 (by decide) ?_
  refine w_istore_n C dX6_worst_12 rfl (by decide) [(3, .int (0)), (2, .int (0)), (1, .int (0)), (0, rf Y 0)] rfl ?_
  have hL13 : ∀ (G13 : Nat) (S2 : St) (v3 : Int32) (v4 : Int32) (v5 : Int32), fX6_worst_L13 F G13 S2 v3 v4 v5 = some R → WS VX Y X 5 5 105 (some (.int R.2), R.1) S2 13 [(0, rf Y 0), (1, .int v3), (2, .int v4), (3, .int v5)] [] := by
    intro G13
    induction G13 with
    | zero => intro S2 v3 v4 v5 h; exact nomatch (show (none : Option (St × Int32)) = some R from h)
    | succ G13 ih =>
      intro S2 v3 v4 v5 h
      rw [fX6_worst_L13] at h
      refine w_iload_n C dX6_worst_13 rfl 3 rfl ?_
      refine w_bipush (v := 8) C dX6_worst_14 (by decide) ?_
      refine w_icmp_ge C 71 dX6_worst_16 (by decide) h (fun h => ?_) (fun h => ?_)
      · refine w_iload_n C dX6_worst_71 rfl 1 rfl ?_
        exact w_iret C dX6_worst_72 h
      refine w_aload_n C dX6_worst_19 rfl 0 rfl ?_
      refine w_getr C dX6_worst_20 flX6_31 gX0_4 ?_
      refine w_iload_n C dX6_worst_23 rfl 3 rfl ?_
      refine x_puti C dX6_worst_24 fpX6_170 iX34_2 h (fun S6 h => ?_)
      refine w_aload_n C dX6_worst_27 rfl 0 rfl ?_
      refine w_getr C dX6_worst_28 flX6_31 gX0_4 ?_
      refine w_Vv C dX6_worst_31 h (fun _ e => mX0_gather e) lnX6_144 mvX0_gather bX34 rfl ⟨Nat.le_of_ble_eq_true rfl, Nat.le_of_ble_eq_true rfl⟩ [] rfl (Nat.le_of_ble_eq_true rfl) (fun S7 h => ?_)
      refine w_aload_n C dX6_worst_34 rfl 0 rfl ?_
      refine w_getr C dX6_worst_35 flX6_31 gX0_4 ?_
      refine w_aload_n C dX6_worst_38 rfl 0 rfl ?_
      refine w_getr C dX6_worst_39 flX6_31 gX0_4 ?_
      refine p_Vi C dX6_worst_42 h (fun _ e => mX0_weakestSide e) lnX6_160 mvX0_weakestSide bX34 rfl ⟨Nat.le_of_ble_eq_true rfl, Nat.le_of_ble_eq_true rfl⟩ [rf Y 34] rfl (Nat.le_of_ble_eq_true rfl) (fun v8 h => ?_)
      refine p_Vi C dX6_worst_45 h (fun _ e => mX0_spare e) lnX6_153 mvX0_spare bX34 rfl ⟨Nat.le_of_ble_eq_true rfl, Nat.le_of_ble_eq_true rfl⟩ [] rfl (Nat.le_of_ble_eq_true rfl) (fun v9 h => ?_)
      refine w_istore C dX6_worst_48 (by decide) [(4, .int v9), (0, rf Y 0), (1, .int v3), (2, .int v4), (3, .int v5)] rfl ?_
      refine w_iload_n C dX6_worst_50 rfl 4 rfl ?_
      refine w_join (fun J65 => ∀ (v10 : Int32) (v11 : Int32), J65 v10 v11 = some R → WS VX Y X 5 5 105 (some (.int R.2), R.1) S7 65 [(0, rf Y 0), (1, .int v10), (2, .int v11), (3, .int v5)] []) h ?_ (fun J65 hJ65 h => ?_)
      · intro v10 v11 h
        refine x_iinc C dX6_worst_65 3 rfl 1 (by decide) h (by decide) (fun v12 => [(3, .int v12), (0, rf Y 0), (1, .int v10), (2, .int v11)]) (fun _ => rfl) (fun v12 h => ?_)
        refine w_goto C 13 dX6_worst_68 (by decide) ?_
        exact w_sub [1, 2, 3, 0] rfl (ih _ _ _ _ h)
      refine w_join (fun J60 => J60  = some R → WS VX Y X 5 5 105 (some (.int R.2), R.1) S7 60 [(0, rf Y 0), (3, .int v5), (4, .int v9)] []) h ?_ (fun J60 hJ60 h => ?_)
      · intro  h
        refine w_iload C dX6_worst_60 2 rfl ?_
        refine w_istore_n C dX6_worst_62 rfl (by decide) [(2, .int v9), (0, rf Y 0), (3, .int v5), (4, .int v9)] rfl ?_
        refine w_iload_n C dX6_worst_63 rfl 2 rfl ?_
        refine w_istore_n C dX6_worst_64 rfl (by decide) [(1, .int v5), (2, .int v9), (0, rf Y 0), (3, .int v5), (4, .int v9)] rfl ?_
        exact w_sub [2, 0, 1, 3] rfl (hJ65 _ _ h)
      refine w_if_eq C 60 dX6_worst_51 (by decide) h (fun h => ?_) (fun h => ?_)
      · exact w_sub [1, 4, 0] rfl (hJ60  h)
      refine w_iload C dX6_worst_54 0 rfl ?_
      refine w_iload_n C dX6_worst_56 rfl 3 rfl ?_
      refine w_icmp_ge C 65 dX6_worst_57 (by decide) h (fun h => ?_) (fun h => ?_)
      · exact w_sub [1, 2, 3, 4] rfl (hJ65 _ _ h)
      exact w_sub [1, 4, 0] rfl (hJ60  h)
  exact w_sub [3, 2, 1, 0] rfl (hL13 _ _ _ _ _ h))
def fX0_hasPoles_L4 (S : St) (J56 : Int32 → Option (Int32)) : Nat → Int32 → Int32 → Option (Int32)
  | 0, _, _ => none
  | G4 + 1, v3, v4 => if (S.1 1 0) ≤ v4 then (J56 v3) else (ldi S 2 v4 20 fun v5 => pl (fun (v6 : Int32) => pl (v4 + 1) fun v7 => fX0_hasPoles_L4 S J56 G4 v6 v7) fun J50 => if v5 = (1) then (bv (fX0_good S v4) fun v8 => if v8 ≤ 0 then (J50 v3) else (ldi S 3 v4 20 fun v9 => pl ((v3 ||| ((1) <<< (v9 &&& 31)))) fun v10 => J50 v10)) else (J50 v3))
def fX0_hasPoles (F : Nat) (S : St) : Option (Int32) := pl (fun (v1 : Int32) => bv (fJ6_bitCount_0f7a4 S v1) fun v2 => if v2 < (3) then (some (0)) else (some (1))) fun J56 => fX0_hasPoles_L4 S J56 F (0) (0)
set_option maxRecDepth 100000 in
theorem mX0_hasPoles {Y : YT} {F : Nat} {S : St} {R : Int32} (h : fX0_hasPoles F S  = some R) : Mc VX Y yX0_hasPoles cX0_hasPoles 3 (some .boolean) 2 42 [rf Y 34] S (some (.int R), S) :=
  Mc.start [(0, rf Y 34)] rfl pnX0 (Nat.le_of_ble_eq_true rfl) (fun X (C : Ok VX Y X RX0 cX0_hasPoles 3 (some .boolean)) => by
  unfold fX0_hasPoles at h
  refine w_iconst (v := 0) C dX0_hasPoles_0 (by decide) ?_
  refine w_istore_n C dX0_hasPoles_1 rfl (by decide) [(1, .int (0)), (0, rf Y 34)] rfl ?_
  refine w_iconst (v := 0) C dX0_hasPoles_2 (by decide) ?_
  refine w_istore_n C dX0_hasPoles_3 rfl (by decide) [(2, .int (0)), (1, .int (0)), (0, rf Y 34)] rfl ?_
  refine w_join (fun J56 => ∀ (v1 : Int32), J56 v1 = some R → WS VX Y X 3 2 42 (some (.int R), S) S 56 [(1, .int v1)] []) h ?_ (fun J56 hJ56 h => ?_)
  · intro v1 h
    refine w_iload_n C dX0_hasPoles_56 rfl 0 rfl ?_
    refine p_Si C dX0_hasPoles_57 h (fun _ e => mJ6_bitCount_0f7a4 e) lnX0_113 msJ6_bitCount_0f7a4 rfl ⟨Nat.le_of_ble_eq_true rfl, Nat.le_of_ble_eq_true rfl⟩ [] rfl (Nat.le_of_ble_eq_true rfl) (fun v2 h => ?_)
    refine w_iconst (v := 3) C dX0_hasPoles_60 (by decide) ?_
    refine w_icmp_lt C 68 dX0_hasPoles_61 (by decide) h (fun h => ?_) (fun h => ?_)
    · refine w_iconst (v := 0) C dX0_hasPoles_68 (by decide) ?_
      exact p_zret0 C dX0_hasPoles_69 rfl h
    refine w_iconst (v := 1) C dX0_hasPoles_64 (by decide) ?_
    refine w_goto C 69 dX0_hasPoles_65 (by decide) ?_
    exact p_zret0 C dX0_hasPoles_69 rfl h
  have hL4 : ∀ (G4 : Nat) (v3 : Int32) (v4 : Int32), fX0_hasPoles_L4 S J56 G4 v3 v4 = some R → WS VX Y X 3 2 42 (some (.int R), S) S 4 [(0, rf Y 34), (1, .int v3), (2, .int v4)] [] := by
    intro G4
    induction G4 with
    | zero => intro v3 v4 h; exact nomatch (show (none : Option (Int32)) = some R from h)
    | succ G4 ih =>
      intro v3 v4 h
      rw [fX0_hasPoles_L4] at h
      refine w_iload_n C dX0_hasPoles_4 rfl 2 rfl ?_
      refine w_aload_n C dX0_hasPoles_5 rfl 0 rfl ?_
      refine w_getr C dX0_hasPoles_6 flX0_18 gX34_0 ?_
      refine w_geti C dX0_hasPoles_9 flX0_85 iX1_0 ?_
      refine w_icmp_ge C 56 dX0_hasPoles_12 (by decide) h (fun h => ?_) (fun h => ?_)
      · exact w_sub [1] rfl (hJ56 _ h)
      refine w_aload_n C dX0_hasPoles_15 rfl 0 rfl ?_
      refine w_getr C dX0_hasPoles_16 flX0_18 gX34_0 ?_
      refine w_getr C dX0_hasPoles_19 flX0_54 gX1_1 ?_
      refine w_iload_n C dX0_hasPoles_22 rfl 2 rfl ?_
      refine x_iald C dX0_hasPoles_23 aX2 h (fun v5 h => ?_)
      refine w_iconst (v := 1) C dX0_hasPoles_24 (by decide) ?_
      refine w_join (fun J50 => ∀ (v6 : Int32), J50 v6 = some R → WS VX Y X 3 2 42 (some (.int R), S) S 50 [(0, rf Y 34), (1, .int v6), (2, .int v4)] []) h ?_ (fun J50 hJ50 h => ?_)
      · intro v6 h
        refine x_iinc C dX0_hasPoles_50 2 rfl 1 (by decide) h (by decide) (fun v7 => [(2, .int v7), (0, rf Y 34), (1, .int v6)]) (fun _ => rfl) (fun v7 h => ?_)
        refine w_goto C 4 dX0_hasPoles_53 (by decide) ?_
        exact w_sub [1, 2, 0] rfl (ih _ _ h)
      refine w_icmp_ne C 50 dX0_hasPoles_25 (by decide) h (fun h => ?_) (fun h => ?_)
      · exact w_sub [0, 1, 2] rfl (hJ50 _ h)
      refine w_aload_n C dX0_hasPoles_28 rfl 0 rfl ?_
      refine w_iload_n C dX0_hasPoles_29 rfl 2 rfl ?_
      refine p_Vi C dX0_hasPoles_30 h (fun _ e => mX0_good e) lnX0_57 mvX0_good bX34 rfl ⟨Nat.le_of_ble_eq_true rfl, Nat.le_of_ble_eq_true rfl⟩ [] rfl (Nat.le_of_ble_eq_true rfl) (fun v8 h => ?_)
      refine w_if_le C 50 dX0_hasPoles_33 (by decide) h (fun h => ?_) (fun h => ?_)
      · exact w_sub [0, 1, 2] rfl (hJ50 _ h)
      refine w_iload_n C dX0_hasPoles_36 rfl 1 rfl ?_
      refine w_iconst (v := 1) C dX0_hasPoles_37 (by decide) ?_
      refine w_aload_n C dX0_hasPoles_38 rfl 0 rfl ?_
      refine w_getr C dX0_hasPoles_39 flX0_18 gX34_0 ?_
      refine w_getr C dX0_hasPoles_42 flX0_61 gX1_2 ?_
      refine w_iload_n C dX0_hasPoles_45 rfl 2 rfl ?_
      refine x_iald C dX0_hasPoles_46 aX3 h (fun v9 h => ?_)
      refine w_ishl C dX0_hasPoles_47 ?_
      refine w_ior C dX0_hasPoles_48 ?_
      refine w_topi h (fun v10 h => ?_)
      refine w_istore_n C dX0_hasPoles_49 rfl (by decide) [(1, .int v10), (0, rf Y 34), (2, .int v4)] rfl ?_
      exact w_sub [1, 0, 2] rfl (hJ50 _ h)
  exact w_sub [2, 1, 0] rfl (hL4 _ _ _ h))
def fX0_isOverdrawn_L2 (F : Nat) (S : St) : Nat → Int32 → Option (Int32)
  | 0, _ => none
  | G2 + 1, v1 => if (S.1 1 0) ≤ v1 then (some (0)) else (bv (fX0_isHere S v1) fun v2 => pl (pl (v1 + 1) fun v3 => fX0_isOverdrawn_L2 F S G2 v3) fun J56 => if v2 = 0 then (J56) else (ldi S 2 v1 20 fun v4 => bv (fX6_isOfKind F S v4 (2)) fun v5 => if v5 = 0 then (J56) else (bv (fX0_good S v1) fun v6 => if (S.1 34 3) ≤ ((v6 / (2)) + (20)) then (J56) else (some (1)))))
def fX0_isOverdrawn (F : Nat) (S : St) : Option (Int32) := fX0_isOverdrawn_L2 F S F (0)
set_option maxRecDepth 100000 in
theorem mX0_isOverdrawn {Y : YT} {F : Nat} {S : St} {R : Int32} (h : fX0_isOverdrawn F S  = some R) : Mc VX Y yX0_isOverdrawn cX0_isOverdrawn 2 (some .boolean) 2 42 [rf Y 34] S (some (.int R), S) :=
  Mc.start [(0, rf Y 34)] rfl pnX0 (Nat.le_of_ble_eq_true rfl) (fun X (C : Ok VX Y X RX0 cX0_isOverdrawn 2 (some .boolean)) => by
  unfold fX0_isOverdrawn at h
  refine w_iconst (v := 0) C dX0_isOverdrawn_0 (by decide) ?_
  refine w_istore_n C dX0_isOverdrawn_1 rfl (by decide) [(1, .int (0)), (0, rf Y 34)] rfl ?_
  have hL2 : ∀ (G2 : Nat) (v1 : Int32), fX0_isOverdrawn_L2 F S G2 v1 = some R → WS VX Y X 2 2 42 (some (.int R), S) S 2 [(0, rf Y 34), (1, .int v1)] [] := by
    intro G2
    induction G2 with
    | zero => intro v1 h; exact nomatch (show (none : Option (Int32)) = some R from h)
    | succ G2 ih =>
      intro v1 h
      rw [fX0_isOverdrawn_L2] at h
      refine w_iload_n C dX0_isOverdrawn_2 rfl 1 rfl ?_
      refine w_aload_n C dX0_isOverdrawn_3 rfl 0 rfl ?_
      refine w_getr C dX0_isOverdrawn_4 flX0_18 gX34_0 ?_
      refine w_geti C dX0_isOverdrawn_7 flX0_85 iX1_0 ?_
      refine w_icmp_ge C 62 dX0_isOverdrawn_10 (by decide) h (fun h => ?_) (fun h => ?_)
      · refine w_iconst (v := 0) C dX0_isOverdrawn_62 (by decide) ?_
        exact p_zret0 C dX0_isOverdrawn_63 rfl h
      refine w_aload_n C dX0_isOverdrawn_13 rfl 0 rfl ?_
      refine w_iload_n C dX0_isOverdrawn_14 rfl 1 rfl ?_
      refine p_Vi C dX0_isOverdrawn_15 h (fun _ e => mX0_isHere e) lnX0_44 mvX0_isHere bX34 rfl ⟨Nat.le_of_ble_eq_true rfl, Nat.le_of_ble_eq_true rfl⟩ [] rfl (Nat.le_of_ble_eq_true rfl) (fun v2 h => ?_)
      refine w_join (fun J56 => J56  = some R → WS VX Y X 2 2 42 (some (.int R), S) S 56 [(0, rf Y 34), (1, .int v1)] []) h ?_ (fun J56 hJ56 h => ?_)
      · intro  h
        refine x_iinc C dX0_isOverdrawn_56 1 rfl 1 (by decide) h (by decide) (fun v3 => [(1, .int v3), (0, rf Y 34)]) (fun _ => rfl) (fun v3 h => ?_)
        refine w_goto C 2 dX0_isOverdrawn_59 (by decide) ?_
        exact w_sub [1, 0] rfl (ih _ h)
      refine w_if_eq C 56 dX0_isOverdrawn_18 (by decide) h (fun h => ?_) (fun h => ?_)
      · exact w_sub [0, 1] rfl (hJ56  h)
      refine w_aload_n C dX0_isOverdrawn_21 rfl 0 rfl ?_
      refine w_getr C dX0_isOverdrawn_22 flX0_18 gX34_0 ?_
      refine w_getr C dX0_isOverdrawn_25 flX0_54 gX1_1 ?_
      refine w_iload_n C dX0_isOverdrawn_28 rfl 1 rfl ?_
      refine x_iald C dX0_isOverdrawn_29 aX2 h (fun v4 h => ?_)
      refine w_iconst (v := 2) C dX0_isOverdrawn_30 (by decide) ?_
      refine p_SNi C "FeltHouse" dX0_isOverdrawn_31 h (fun _ e => mX6_isOfKind e) C.2.2.2.2.2.2.2.1.2.1.2.2.1 msX6_isOfKind rfl ⟨Nat.le_of_ble_eq_true rfl, Nat.le_of_ble_eq_true rfl⟩ [] rfl (Nat.le_of_ble_eq_true rfl) (fun v5 h => ?_)
      refine w_if_eq C 56 dX0_isOverdrawn_34 (by decide) h (fun h => ?_) (fun h => ?_)
      · exact w_sub [0, 1] rfl (hJ56  h)
      refine w_aload_n C dX0_isOverdrawn_37 rfl 0 rfl ?_
      refine w_geti C dX0_isOverdrawn_38 flX0_37 iX34_3 ?_
      refine w_aload_n C dX0_isOverdrawn_41 rfl 0 rfl ?_
      refine w_iload_n C dX0_isOverdrawn_42 rfl 1 rfl ?_
      refine p_Vi C dX0_isOverdrawn_43 h (fun _ e => mX0_good e) lnX0_57 mvX0_good bX34 rfl ⟨Nat.le_of_ble_eq_true rfl, Nat.le_of_ble_eq_true rfl⟩ [.int (S.1 34 3)] rfl (Nat.le_of_ble_eq_true rfl) (fun v6 h => ?_)
      refine w_iconst (v := 2) C dX0_isOverdrawn_46 (by decide) ?_
      refine w_idiv C dX0_isOverdrawn_47 (by decide) ?_
      refine w_bipush (v := 20) C dX0_isOverdrawn_48 (by decide) ?_
      refine w_iadd C dX0_isOverdrawn_50 ?_
      refine w_icmp_le C 56 dX0_isOverdrawn_51 (by decide) h (fun h => ?_) (fun h => ?_)
      · exact w_sub [0, 1] rfl (hJ56  h)
      refine w_iconst (v := 1) C dX0_isOverdrawn_54 (by decide) ?_
      exact p_zret0 C dX0_isOverdrawn_55 rfl h
  exact w_sub [1, 0] rfl (hL2 _ _ h))
def fX0_isStanding_L22 (S3 : St) : Nat → Int32 → Option (St × Int32)
  | 0, _ => none
  | G22 + 1, v4 => if (8) ≤ v4 then (some (S3, 1)) else (bv (fX0_spare S3 v4) fun v5 => if 0 ≤ v5 then (pl (v4 + 1) fun v6 => fX0_isStanding_L22 S3 G22 v6) else (some (S3, 0)))
def fX0_isStanding (F : Nat) (S : St) : Option (St × Int32) := bv (fX0_hasPoles F S) fun v1 => if v1 = 0 then (some (S, 0)) else (bv (fX0_isOverdrawn F S) fun v2 => if v2 = 0 then (bv (fX0_gather F S) fun S3 => fX0_isStanding_L22 S3 F (0)) else (some (S, 0)))
set_option maxRecDepth 100000 in
theorem mX0_isStanding {Y : YT} {F : Nat} {S : St} {R : St × Int32} (h : fX0_isStanding F S  = some R) : Mc VX Y yX0_isStanding cX0_isStanding 2 (some .boolean) 5 105 [rf Y 34] S (some (.int R.2), R.1) :=
  Mc.start [(0, rf Y 34)] rfl pnX0 (Nat.le_of_ble_eq_true rfl) (fun X (C : Ok VX Y X RX0 cX0_isStanding 2 (some .boolean)) => by
  unfold fX0_isStanding at h
  refine w_aload_n C dX0_isStanding_0 rfl 0 rfl ?_
  refine p_Vi C dX0_isStanding_1 h (fun _ e => mX0_hasPoles e) lnX0_103 mvX0_hasPoles bX34 rfl ⟨Nat.le_of_ble_eq_true rfl, Nat.le_of_ble_eq_true rfl⟩ [] rfl (Nat.le_of_ble_eq_true rfl) (fun v1 h => ?_)
  refine w_if_eq C 14 dX0_isStanding_4 (by decide) h (fun h => ?_) (fun h => ?_)
  · refine w_iconst (v := 0) C dX0_isStanding_14 (by decide) ?_
    exact w_zret0 C dX0_isStanding_15 rfl h
  refine w_aload_n C dX0_isStanding_7 rfl 0 rfl ?_
  refine p_Vi C dX0_isStanding_8 h (fun _ e => mX0_isOverdrawn e) lnX0_107 mvX0_isOverdrawn bX34 rfl ⟨Nat.le_of_ble_eq_true rfl, Nat.le_of_ble_eq_true rfl⟩ [] rfl (Nat.le_of_ble_eq_true rfl) (fun v2 h => ?_)
  refine w_if_eq C 16 dX0_isStanding_11 (by decide) h (fun h => ?_) (fun h => ?_)
  · refine w_aload_n C dX0_isStanding_16 rfl 0 rfl ?_
    refine w_Vv C dX0_isStanding_17 h (fun _ e => mX0_gather e) lnX0_110 mvX0_gather bX34 rfl ⟨Nat.le_of_ble_eq_true rfl, Nat.le_of_ble_eq_true rfl⟩ [] rfl (Nat.le_of_ble_eq_true rfl) (fun S3 h => ?_)
    refine w_iconst (v := 0) C dX0_isStanding_20 (by decide) ?_
    refine w_istore_n C dX0_isStanding_21 rfl (by decide) [(1, .int (0)), (0, rf Y 34)] rfl ?_
    have hL22 : ∀ (G22 : Nat) (v4 : Int32), fX0_isStanding_L22 S3 G22 v4 = some R → WS VX Y X 2 5 105 (some (.int R.2), R.1) S3 22 [(0, rf Y 34), (1, .int v4)] [] := by
      intro G22
      induction G22 with
      | zero => intro v4 h; exact nomatch (show (none : Option (St × Int32)) = some R from h)
      | succ G22 ih =>
        intro v4 h
        rw [fX0_isStanding_L22] at h
        refine w_iload_n C dX0_isStanding_22 rfl 1 rfl ?_
        refine w_bipush (v := 8) C dX0_isStanding_23 (by decide) ?_
        refine w_icmp_ge C 44 dX0_isStanding_25 (by decide) h (fun h => ?_) (fun h => ?_)
        · refine w_iconst (v := 1) C dX0_isStanding_44 (by decide) ?_
          exact w_zret0 C dX0_isStanding_45 rfl h
        refine w_aload_n C dX0_isStanding_28 rfl 0 rfl ?_
        refine w_iload_n C dX0_isStanding_29 rfl 1 rfl ?_
        refine p_Vi C dX0_isStanding_30 h (fun _ e => mX0_spare e) lnX0_100 mvX0_spare bX34 rfl ⟨Nat.le_of_ble_eq_true rfl, Nat.le_of_ble_eq_true rfl⟩ [] rfl (Nat.le_of_ble_eq_true rfl) (fun v5 h => ?_)
        refine w_if_ge C 38 dX0_isStanding_33 (by decide) h (fun h => ?_) (fun h => ?_)
        · refine x_iinc C dX0_isStanding_38 1 rfl 1 (by decide) h (by decide) (fun v6 => [(1, .int v6), (0, rf Y 34)]) (fun _ => rfl) (fun v6 h => ?_)
          refine w_goto C 22 dX0_isStanding_41 (by decide) ?_
          exact w_sub [1, 0] rfl (ih _ h)
        refine w_iconst (v := 0) C dX0_isStanding_36 (by decide) ?_
        exact w_zret0 C dX0_isStanding_37 rfl h
    exact w_sub [1, 0] rfl (hL22 _ _ h)
  refine w_iconst (v := 0) C dX0_isStanding_14 (by decide) ?_
  exact w_zret0 C dX0_isStanding_15 rfl h)
def fX6_span_L24 (F : Nat) (a1 : Int32) (J59 : St → Option (St × Int32)) (J73 : St → Option (St × Int32)) : Nat → St → Int32 → Option (St × Int32)
  | 0, _, _ => none
  | G24 + 1, S7, v8 => if (99) < v8 then (J73 S7) else (pl (fun (v9 : Int32) => pl (si S7 34 3 v9) fun S10 => bq (fX0_isStanding F S10) fun S11 v12 => if v12 = 0 then (pl (v8 + 1) fun v13 => fX6_span_L24 F a1 J59 J73 G24 S11 v13) else (J59 S11)) fun J46 => if a1 = 0 then (J46 v8) else (J46 ((99) - v8)))
def fX6_span (F : Nat) (S : St) (a1 : Int32) : Option (St × Int32) := bv (fX6_within S a1 (0) (1)) fun v1 => if v1 = 0 then (bq (fX6_finding S (0)) fun S14 v15 => some (S14, v15)) else (bv (fX0_asItIs S) fun S2 => pl (fun (S3 : St) => some (S3, (S3.1 34 3))) fun J59 => pl (fun (S4 : St) => bq (fX6_finding S4 (3)) fun S5 v6 => some (S5, v6)) fun J73 => fX6_span_L24 F a1 J59 J73 F S2 (0))
set_option maxRecDepth 100000 in
theorem mX6_span {Y : YT} {F : Nat} {S : St} {a1 : Int32} {R : St × Int32} (h : fX6_span F S a1 = some R) : Mc VX Y yX6_span cX6_span 3 (some .int) 6 126 [rf Y 0, .int a1] S (some (.int R.2), R.1) :=
  Mc.start [(0, rf Y 0), (1, .int a1)] rfl pnX6 (Nat.le_of_ble_eq_true rfl) (fun X (C : Ok VX Y X RX6 cX6_span 3 (some .int)) => by
  unfold fX6_span at h
  refine w_iload_n C dX6_span_0 rfl 1 rfl ?_
  refine w_iconst (v := 0) C dX6_span_1 (by decide) ?_
  refine w_iconst (v := 1) C dX6_span_2 (by decide) ?_
  refine p_Si C dX6_span_3 h (fun _ e => mX6_within e) lnX6_67 msX6_within rfl ⟨Nat.le_of_ble_eq_true rfl, Nat.le_of_ble_eq_true rfl⟩ [] rfl (Nat.le_of_ble_eq_true rfl) (fun v1 h => ?_)
  refine w_if_ne C 15 dX6_span_6 (by decide) h (fun h => ?_) (fun h => ?_)
  · refine w_aload_n C dX6_span_15 rfl 0 rfl ?_
    refine w_getr C dX6_span_16 flX6_31 gX0_4 ?_
    refine w_Vv C dX6_span_19 h (fun _ e => mX0_asItIs e) lnX6_87 mvX0_asItIs bX34 rfl ⟨Nat.le_of_ble_eq_true rfl, Nat.le_of_ble_eq_true rfl⟩ [] rfl (Nat.le_of_ble_eq_true rfl) (fun S2 h => ?_)
    refine w_iconst (v := 0) C dX6_span_22 (by decide) ?_
    refine w_istore_n C dX6_span_23 rfl (by decide) [(2, .int (0)), (0, rf Y 0), (1, .int a1)] rfl ?_
    refine w_join (fun J59 => ∀ (S3 : St), J59 S3 = some R → WS VX Y X 3 6 126 (some (.int R.2), R.1) S3 59 [(0, rf Y 0)] []) h ?_ (fun J59 hJ59 h => ?_)
    · intro S3 h
      refine w_aload_n C dX6_span_59 rfl 0 rfl ?_
      refine w_getr C dX6_span_60 flX6_31 gX0_4 ?_
      refine w_geti C dX6_span_63 flX6_169 iX34_3 ?_
      exact w_iret C dX6_span_66 h
    refine w_join (fun J73 => ∀ (S4 : St), J73 S4 = some R → WS VX Y X 3 6 126 (some (.int R.2), R.1) S4 73 [(0, rf Y 0)] []) h ?_ (fun J73 hJ73 h => ?_)
    · intro S4 h
      refine w_aload_n C dX6_span_73 rfl 0 rfl ?_
      refine w_iconst (v := 3) C dX6_span_74 (by decide) ?_
      refine w_Vi C dX6_span_75 h (fun _ e => mX6_finding e) lnX6_71 mvX6_finding bX0 rfl ⟨Nat.le_of_ble_eq_true rfl, Nat.le_of_ble_eq_true rfl⟩ [] rfl (Nat.le_of_ble_eq_true rfl) (fun S5 v6 h => ?_)
      exact w_iret C dX6_span_78 h
    have hL24 : ∀ (G24 : Nat) (S7 : St) (v8 : Int32), fX6_span_L24 F a1 J59 J73 G24 S7 v8 = some R → WS VX Y X 3 6 126 (some (.int R.2), R.1) S7 24 [(0, rf Y 0), (1, .int a1), (2, .int v8)] [] := by
      intro G24
      induction G24 with
      | zero => intro S7 v8 h; exact nomatch (show (none : Option (St × Int32)) = some R from h)
      | succ G24 ih =>
        intro S7 v8 h
        rw [fX6_span_L24] at h
        refine w_iload_n C dX6_span_24 rfl 2 rfl ?_
        refine w_bipush (v := 99) C dX6_span_25 (by decide) ?_
        refine w_icmp_gt C 73 dX6_span_27 (by decide) h (fun h => ?_) (fun h => ?_)
        · exact w_sub [0] rfl (hJ73 _ h)
        refine w_aload_n C dX6_span_30 rfl 0 rfl ?_
        refine w_getr C dX6_span_31 flX6_31 gX0_4 ?_
        refine w_iload_n C dX6_span_34 rfl 1 rfl ?_
        refine w_join (fun J46 => ∀ (v9 : Int32), J46 v9 = some R → WS VX Y X 3 6 126 (some (.int R.2), R.1) S7 46 [(0, rf Y 0), (1, .int a1), (2, .int v8)] [.int v9, rf Y 34]) h ?_ (fun J46 hJ46 h => ?_)
        · intro v9 h
          refine x_puti C dX6_span_46 fpX6_169 iX34_3 h (fun S10 h => ?_)
          refine w_aload_n C dX6_span_49 rfl 0 rfl ?_
          refine w_getr C dX6_span_50 flX6_31 gX0_4 ?_
          refine w_Vi C dX6_span_53 h (fun _ e => mX0_isStanding e) lnX6_156 mvX0_isStanding bX34 rfl ⟨Nat.le_of_ble_eq_true rfl, Nat.le_of_ble_eq_true rfl⟩ [] rfl (Nat.le_of_ble_eq_true rfl) (fun S11 v12 h => ?_)
          refine w_if_eq C 67 dX6_span_56 (by decide) h (fun h => ?_) (fun h => ?_)
          · refine x_iinc C dX6_span_67 2 rfl 1 (by decide) h (by decide) (fun v13 => [(2, .int v13), (0, rf Y 0), (1, .int a1)]) (fun _ => rfl) (fun v13 h => ?_)
            refine w_goto C 24 dX6_span_70 (by decide) ?_
            exact w_sub [1, 2, 0] rfl (ih _ _ h)
          exact w_sub [0] rfl (hJ59 _ h)
        refine w_if_ne C 42 dX6_span_35 (by decide) h (fun h => ?_) (fun h => ?_)
        · refine w_bipush (v := 99) C dX6_span_42 (by decide) ?_
          refine w_iload_n C dX6_span_44 rfl 2 rfl ?_
          refine w_isub C dX6_span_45 ?_
          exact w_sub [0, 1, 2] rfl (hJ46 _ h)
        refine w_iload_n C dX6_span_38 rfl 2 rfl ?_
        refine w_goto C 46 dX6_span_39 (by decide) ?_
        exact w_sub [0, 1, 2] rfl (hJ46 _ h)
    exact w_sub [1, 2, 0] rfl (hL24 _ _ _ h)
  refine w_aload_n C dX6_span_9 rfl 0 rfl ?_
  refine w_iconst (v := 0) C dX6_span_10 (by decide) ?_
  refine w_Vi C dX6_span_11 h (fun _ e => mX6_finding e) lnX6_71 mvX6_finding bX0 rfl ⟨Nat.le_of_ble_eq_true rfl, Nat.le_of_ble_eq_true rfl⟩ [] rfl (Nat.le_of_ble_eq_true rfl) (fun S14 v15 h => ?_)
  exact w_iret C dX6_span_14 h)
def fX6_canWant_L11 (F : Nat) : Nat → St → Int32 → Int32 → Option (St × Int32)
  | 0, _, _, _ => none
  | G11 + 1, S2, v3, v4 => if (S2.1 1 0) ≤ v4 then (some (S2, v3)) else (pl (si S2 34 4 ((S2.1 1 6) &&& (((1) <<< (v4 &&& 31)) ^^^ (-1)))) fun S5 => bv (fX4_isThere 1 S5 v4) fun v6 => pl (fun (S7 : St) (v8 : Int32) => pl (v4 + 1) fun v9 => fX6_canWant_L11 F G11 S7 v8 v9) fun J69 => if v6 = 0 then (J69 S5 v3) else (bq (fX0_isStanding F S5) fun S10 v11 => if v11 = 0 then (J69 S10 v3) else (pl ((v3 ||| ((1) <<< (v4 &&& 31)))) fun v12 => J69 S10 v12)))
def fX6_canWant (F : Nat) (S : St) : Option (St × Int32) := bv (fX0_asItIs S) fun S1 => fX6_canWant_L11 F F S1 (0) (0)
set_option maxRecDepth 100000 in
theorem mX6_canWant {Y : YT} {F : Nat} {S : St} {R : St × Int32} (h : fX6_canWant F S  = some R) : Mc VX Y yX6_canWant cX6_canWant 3 (some .int) 6 126 [rf Y 0] S (some (.int R.2), R.1) :=
  Mc.start [(0, rf Y 0)] rfl pnX6 (Nat.le_of_ble_eq_true rfl) (fun X (C : Ok VX Y X RX6 cX6_canWant 3 (some .int)) => by
  unfold fX6_canWant at h
  refine w_aload_n C dX6_canWant_0 rfl 0 rfl ?_
  refine w_getr C dX6_canWant_1 flX6_31 gX0_4 ?_
  refine w_Vv C dX6_canWant_4 h (fun _ e => mX0_asItIs e) lnX6_87 mvX0_asItIs bX34 rfl ⟨Nat.le_of_ble_eq_true rfl, Nat.le_of_ble_eq_true rfl⟩ [] rfl (Nat.le_of_ble_eq_true rfl) (fun S1 h => ?_)
  refine w_iconst (v := 0) C dX6_canWant_7 (by decide) ?_
  refine w_istore_n C dX6_canWant_8 rfl (by decide) [(1, .int (0)), (0, rf Y 0)] rfl ?_
  refine w_iconst (v := 0) C dX6_canWant_9 (by decide) ?_
  refine w_istore_n C dX6_canWant_10 rfl (by decide) [(2, .int (0)), (1, .int (0)), (0, rf Y 0)] rfl ?_
  have hL11 : ∀ (G11 : Nat) (S2 : St) (v3 : Int32) (v4 : Int32), fX6_canWant_L11 F G11 S2 v3 v4 = some R → WS VX Y X 3 6 126 (some (.int R.2), R.1) S2 11 [(0, rf Y 0), (1, .int v3), (2, .int v4)] [] := by
    intro G11
    induction G11 with
    | zero => intro S2 v3 v4 h; exact nomatch (show (none : Option (St × Int32)) = some R from h)
    | succ G11 ih =>
      intro S2 v3 v4 h
      rw [fX6_canWant_L11] at h
      refine w_iload_n C dX6_canWant_11 rfl 2 rfl ?_
      refine w_aload_n C dX6_canWant_12 rfl 0 rfl ?_
      refine w_getr C dX6_canWant_13 flX6_10 gX0_0 ?_
      refine w_geti C dX6_canWant_16 flX6_75 iX1_0 ?_
      refine w_icmp_ge C 75 dX6_canWant_19 (by decide) h (fun h => ?_) (fun h => ?_)
      · refine w_iload_n C dX6_canWant_75 rfl 1 rfl ?_
        exact w_iret C dX6_canWant_76 h
      refine w_aload_n C dX6_canWant_22 rfl 0 rfl ?_
      refine w_getr C dX6_canWant_23 flX6_31 gX0_4 ?_
      refine w_aload_n C dX6_canWant_26 rfl 0 rfl ?_
      refine w_getr C dX6_canWant_27 flX6_10 gX0_0 ?_
      refine w_geti C dX6_canWant_30 flX6_124 iX1_6 ?_
      refine w_iconst (v := 1) C dX6_canWant_33 (by decide) ?_
      refine w_iload_n C dX6_canWant_34 rfl 2 rfl ?_
      refine w_ishl C dX6_canWant_35 ?_
      refine w_iconst (v := -1) C dX6_canWant_36 (by decide) ?_
      refine w_ixor C dX6_canWant_37 ?_
      refine w_iand C dX6_canWant_38 ?_
      refine x_puti C dX6_canWant_39 fpX6_166 iX34_4 h (fun S5 h => ?_)
      refine w_aload_n C dX6_canWant_42 rfl 0 rfl ?_
      refine w_getr C dX6_canWant_43 flX6_10 gX0_0 ?_
      refine w_iload_n C dX6_canWant_46 rfl 2 rfl ?_
      refine p_Vi C dX6_canWant_47 h (fun _ e => mX4_isThere_1 e) lnX6_105 mvX4_isThere bX1 rfl ⟨Nat.le_of_ble_eq_true rfl, Nat.le_of_ble_eq_true rfl⟩ [] rfl (Nat.le_of_ble_eq_true rfl) (fun v6 h => ?_)
      refine w_join (fun J69 => ∀ (S7 : St) (v8 : Int32), J69 S7 v8 = some R → WS VX Y X 3 6 126 (some (.int R.2), R.1) S7 69 [(0, rf Y 0), (1, .int v8), (2, .int v4)] []) h ?_ (fun J69 hJ69 h => ?_)
      · intro S7 v8 h
        refine x_iinc C dX6_canWant_69 2 rfl 1 (by decide) h (by decide) (fun v9 => [(2, .int v9), (0, rf Y 0), (1, .int v8)]) (fun _ => rfl) (fun v9 h => ?_)
        refine w_goto C 11 dX6_canWant_72 (by decide) ?_
        exact w_sub [1, 2, 0] rfl (ih _ _ _ h)
      refine w_if_eq C 69 dX6_canWant_50 (by decide) h (fun h => ?_) (fun h => ?_)
      · exact w_sub [0, 1, 2] rfl (hJ69 _ _ h)
      refine w_aload_n C dX6_canWant_53 rfl 0 rfl ?_
      refine w_getr C dX6_canWant_54 flX6_31 gX0_4 ?_
      refine w_Vi C dX6_canWant_57 h (fun _ e => mX0_isStanding e) lnX6_156 mvX0_isStanding bX34 rfl ⟨Nat.le_of_ble_eq_true rfl, Nat.le_of_ble_eq_true rfl⟩ [] rfl (Nat.le_of_ble_eq_true rfl) (fun S10 v11 h => ?_)
      refine w_if_eq C 69 dX6_canWant_60 (by decide) h (fun h => ?_) (fun h => ?_)
      · exact w_sub [0, 1, 2] rfl (hJ69 _ _ h)
      refine w_iload_n C dX6_canWant_63 rfl 1 rfl ?_
      refine w_iconst (v := 1) C dX6_canWant_64 (by decide) ?_
      refine w_iload_n C dX6_canWant_65 rfl 2 rfl ?_
      refine w_ishl C dX6_canWant_66 ?_
      refine w_ior C dX6_canWant_67 ?_
      refine w_topi h (fun v12 h => ?_)
      refine w_istore_n C dX6_canWant_68 rfl (by decide) [(1, .int v12), (0, rf Y 0), (2, .int v4)] rfl ?_
      exact w_sub [1, 0, 2] rfl (hJ69 _ _ h)
  exact w_sub [2, 1, 0] rfl (hL11 _ _ _ _ h))
def fX6_gust_L9 (F : Nat) (J41 : St → Option (St × Int32)) : Nat → St → Int32 → Option (St × Int32)
  | 0, _, _ => none
  | G9 + 1, S5, v6 => if (99) < v6 then (J41 S5) else (pl (si S5 34 1 v6) fun S7 => bq (fX0_isStanding F S7) fun S8 v9 => if v9 = 0 then (some (S8, v6)) else (pl (v6 + 1) fun v10 => fX6_gust_L9 F J41 G9 S8 v10))
def fX6_gust (F : Nat) (S : St) : Option (St × Int32) := bv (fX0_asItIs S) fun S1 => pl (fun (S2 : St) => bq (fX6_finding S2 (3)) fun S3 v4 => some (S3, v4)) fun J41 => fX6_gust_L9 F J41 F S1 (0)
set_option maxRecDepth 100000 in
theorem mX6_gust {Y : YT} {F : Nat} {S : St} {R : St × Int32} (h : fX6_gust F S  = some R) : Mc VX Y yX6_gust cX6_gust 2 (some .int) 6 126 [rf Y 0] S (some (.int R.2), R.1) :=
  Mc.start [(0, rf Y 0)] rfl pnX6 (Nat.le_of_ble_eq_true rfl) (fun X (C : Ok VX Y X RX6 cX6_gust 2 (some .int)) => by
  unfold fX6_gust at h
  refine w_aload_n C dX6_gust_0 rfl 0 rfl ?_
  refine w_getr C dX6_gust_1 flX6_31 gX0_4 ?_
  refine w_Vv C dX6_gust_4 h (fun _ e => mX0_asItIs e) lnX6_87 mvX0_asItIs bX34 rfl ⟨Nat.le_of_ble_eq_true rfl, Nat.le_of_ble_eq_true rfl⟩ [] rfl (Nat.le_of_ble_eq_true rfl) (fun S1 h => ?_)
  refine w_iconst (v := 0) C dX6_gust_7 (by decide) ?_
  refine w_istore_n C dX6_gust_8 rfl (by decide) [(1, .int (0)), (0, rf Y 0)] rfl ?_
  refine w_join (fun J41 => ∀ (S2 : St), J41 S2 = some R → WS VX Y X 2 6 126 (some (.int R.2), R.1) S2 41 [(0, rf Y 0)] []) h ?_ (fun J41 hJ41 h => ?_)
  · intro S2 h
    refine w_aload_n C dX6_gust_41 rfl 0 rfl ?_
    refine w_iconst (v := 3) C dX6_gust_42 (by decide) ?_
    refine w_Vi C dX6_gust_43 h (fun _ e => mX6_finding e) lnX6_71 mvX6_finding bX0 rfl ⟨Nat.le_of_ble_eq_true rfl, Nat.le_of_ble_eq_true rfl⟩ [] rfl (Nat.le_of_ble_eq_true rfl) (fun S3 v4 h => ?_)
    exact w_iret C dX6_gust_46 h
  have hL9 : ∀ (G9 : Nat) (S5 : St) (v6 : Int32), fX6_gust_L9 F J41 G9 S5 v6 = some R → WS VX Y X 2 6 126 (some (.int R.2), R.1) S5 9 [(0, rf Y 0), (1, .int v6)] [] := by
    intro G9
    induction G9 with
    | zero => intro S5 v6 h; exact nomatch (show (none : Option (St × Int32)) = some R from h)
    | succ G9 ih =>
      intro S5 v6 h
      rw [fX6_gust_L9] at h
      refine w_iload_n C dX6_gust_9 rfl 1 rfl ?_
      refine w_bipush (v := 99) C dX6_gust_10 (by decide) ?_
      refine w_icmp_gt C 41 dX6_gust_12 (by decide) h (fun h => ?_) (fun h => ?_)
      · exact w_sub [0] rfl (hJ41 _ h)
      refine w_aload_n C dX6_gust_15 rfl 0 rfl ?_
      refine w_getr C dX6_gust_16 flX6_31 gX0_4 ?_
      refine w_iload_n C dX6_gust_19 rfl 1 rfl ?_
      refine x_puti C dX6_gust_20 fpX6_163 iX34_1 h (fun S7 h => ?_)
      refine w_aload_n C dX6_gust_23 rfl 0 rfl ?_
      refine w_getr C dX6_gust_24 flX6_31 gX0_4 ?_
      refine w_Vi C dX6_gust_27 h (fun _ e => mX0_isStanding e) lnX6_156 mvX0_isStanding bX34 rfl ⟨Nat.le_of_ble_eq_true rfl, Nat.le_of_ble_eq_true rfl⟩ [] rfl (Nat.le_of_ble_eq_true rfl) (fun S8 v9 h => ?_)
      refine w_if_ne C 35 dX6_gust_30 (by decide) h (fun h => ?_) (fun h => ?_)
      · refine x_iinc C dX6_gust_35 1 rfl 1 (by decide) h (by decide) (fun v10 => [(1, .int v10), (0, rf Y 0)]) (fun _ => rfl) (fun v10 h => ?_)
        refine w_goto C 9 dX6_gust_38 (by decide) ?_
        exact w_sub [1, 0] rfl (ih _ _ h)
      refine w_iload_n C dX6_gust_33 rfl 1 rfl ?_
      exact w_iret C dX6_gust_34 h
  exact w_sub [1, 0] rfl (hL9 _ _ _ h))
def fX6_first (F : Nat) (S : St) : Option (St × Int32) := bv (fX0_asItIs S) fun S1 => bv (fX0_gather F S1) fun S2 => bv (fX0_weakestSide F S2) fun v3 => some (S2, v3)
set_option maxRecDepth 100000 in
theorem mX6_first {Y : YT} {F : Nat} {S : St} {R : St × Int32} (h : fX6_first F S  = some R) : Mc VX Y yX6_first cX6_first 1 (some .int) 5 105 [rf Y 0] S (some (.int R.2), R.1) :=
  Mc.start [(0, rf Y 0)] rfl pnX6 (Nat.le_of_ble_eq_true rfl) (fun X (C : Ok VX Y X RX6 cX6_first 1 (some .int)) => by
  unfold fX6_first at h
  refine w_aload_n C dX6_first_0 rfl 0 rfl ?_
  refine w_getr C dX6_first_1 flX6_31 gX0_4 ?_
  refine w_Vv C dX6_first_4 h (fun _ e => mX0_asItIs e) lnX6_87 mvX0_asItIs bX34 rfl ⟨Nat.le_of_ble_eq_true rfl, Nat.le_of_ble_eq_true rfl⟩ [] rfl (Nat.le_of_ble_eq_true rfl) (fun S1 h => ?_)
  refine w_aload_n C dX6_first_7 rfl 0 rfl ?_
  refine w_getr C dX6_first_8 flX6_31 gX0_4 ?_
  refine w_Vv C dX6_first_11 h (fun _ e => mX0_gather e) lnX6_144 mvX0_gather bX34 rfl ⟨Nat.le_of_ble_eq_true rfl, Nat.le_of_ble_eq_true rfl⟩ [] rfl (Nat.le_of_ble_eq_true rfl) (fun S2 h => ?_)
  refine w_aload_n C dX6_first_14 rfl 0 rfl ?_
  refine w_getr C dX6_first_15 flX6_31 gX0_4 ?_
  refine p_Vi C dX6_first_18 h (fun _ e => mX0_weakestSide e) lnX6_160 mvX0_weakestSide bX34 rfl ⟨Nat.le_of_ble_eq_true rfl, Nat.le_of_ble_eq_true rfl⟩ [] rfl (Nat.le_of_ble_eq_true rfl) (fun v3 h => ?_)
  exact w_iret C dX6_first_21 h)
def fX6_stands (F : Nat) (S : St) : Option (St × Int32) := bv (fX0_asItIs S) fun S1 => bq (fX0_isStanding F S1) fun S2 v3 => if v3 = 0 then (some (S2, 0)) else (some (S2, 1))
set_option maxRecDepth 100000 in
theorem mX6_stands {Y : YT} {F : Nat} {S : St} {R : St × Int32} (h : fX6_stands F S  = some R) : Mc VX Y yX6_stands cX6_stands 1 (some .int) 6 126 [rf Y 0] S (some (.int R.2), R.1) :=
  Mc.start [(0, rf Y 0)] rfl pnX6 (Nat.le_of_ble_eq_true rfl) (fun X (C : Ok VX Y X RX6 cX6_stands 1 (some .int)) => by
  unfold fX6_stands at h
  refine w_aload_n C dX6_stands_0 rfl 0 rfl ?_
  refine w_getr C dX6_stands_1 flX6_31 gX0_4 ?_
  refine w_Vv C dX6_stands_4 h (fun _ e => mX0_asItIs e) lnX6_87 mvX0_asItIs bX34 rfl ⟨Nat.le_of_ble_eq_true rfl, Nat.le_of_ble_eq_true rfl⟩ [] rfl (Nat.le_of_ble_eq_true rfl) (fun S1 h => ?_)
  refine w_aload_n C dX6_stands_7 rfl 0 rfl ?_
  refine w_getr C dX6_stands_8 flX6_31 gX0_4 ?_
  refine w_Vi C dX6_stands_11 h (fun _ e => mX0_isStanding e) lnX6_156 mvX0_isStanding bX34 rfl ⟨Nat.le_of_ble_eq_true rfl, Nat.le_of_ble_eq_true rfl⟩ [] rfl (Nat.le_of_ble_eq_true rfl) (fun S2 v3 h => ?_)
  refine w_if_eq C 21 dX6_stands_14 (by decide) h (fun h => ?_) (fun h => ?_)
  · refine w_iconst (v := 0) C dX6_stands_21 (by decide) ?_
    exact w_iret C dX6_stands_22 h
  refine w_iconst (v := 1) C dX6_stands_17 (by decide) ?_
  refine w_goto C 22 dX6_stands_18 (by decide) ?_
  exact w_iret C dX6_stands_22 h)
def fX6_side (F : Nat) (S : St) (a1 : Int32) (a2 : Int32) : Option (St × Int32) := bv (fX6_within S a1 (0) (7)) fun v1 => pl (bq (fX6_finding S (0)) fun S2 v3 => some (S2, v3)) fun J19 => if v1 = 0 then (J19) else (bv (fX6_within S a2 (0) (2)) fun v4 => if v4 = 0 then (J19) else (bv (fX0_asItIs S) fun S5 => bv (fX0_gather F S5) fun S6 => if a2 = 0 then (bv (fX0_strain S6 a1) fun v7 => some (S6, v7)) else if a2 = 1 then (bv (fX0_hold S6 a1) fun v8 => some (S6, v8)) else (bv (fX0_spare S6 a1) fun v9 => some (S6, v9))))
set_option maxRecDepth 100000 in
theorem mX6_side {Y : YT} {F : Nat} {S : St} {a1 : Int32} {a2 : Int32} {R : St × Int32} (h : fX6_side F S a1 a2 = some R) : Mc VX Y yX6_side cX6_side 3 (some .int) 5 105 [rf Y 0, .int a1, .int a2] S (some (.int R.2), R.1) :=
  Mc.start [(0, rf Y 0), (1, .int a1), (2, .int a2)] rfl pnX6 (Nat.le_of_ble_eq_true rfl) (fun X (C : Ok VX Y X RX6 cX6_side 3 (some .int)) => by
  unfold fX6_side at h
  refine w_iload_n C dX6_side_0 rfl 1 rfl ?_
  refine w_iconst (v := 0) C dX6_side_1 (by decide) ?_
  refine w_bipush (v := 7) C dX6_side_2 (by decide) ?_
  refine p_Si C dX6_side_4 h (fun _ e => mX6_within e) lnX6_67 msX6_within rfl ⟨Nat.le_of_ble_eq_true rfl, Nat.le_of_ble_eq_true rfl⟩ [] rfl (Nat.le_of_ble_eq_true rfl) (fun v1 h => ?_)
  refine w_join (fun J19 => J19  = some R → WS VX Y X 3 5 105 (some (.int R.2), R.1) S 19 [(0, rf Y 0)] []) h ?_ (fun J19 hJ19 h => ?_)
  · intro  h
    refine w_aload_n C dX6_side_19 rfl 0 rfl ?_
    refine w_iconst (v := 0) C dX6_side_20 (by decide) ?_
    refine w_Vi C dX6_side_21 h (fun _ e => mX6_finding e) lnX6_71 mvX6_finding bX0 rfl ⟨Nat.le_of_ble_eq_true rfl, Nat.le_of_ble_eq_true rfl⟩ [] rfl (Nat.le_of_ble_eq_true rfl) (fun S2 v3 h => ?_)
    exact w_iret C dX6_side_24 h
  refine w_if_eq C 19 dX6_side_7 (by decide) h (fun h => ?_) (fun h => ?_)
  · exact w_sub [0] rfl (hJ19  h)
  refine w_iload_n C dX6_side_10 rfl 2 rfl ?_
  refine w_iconst (v := 0) C dX6_side_11 (by decide) ?_
  refine w_iconst (v := 2) C dX6_side_12 (by decide) ?_
  refine p_Si C dX6_side_13 h (fun _ e => mX6_within e) lnX6_67 msX6_within rfl ⟨Nat.le_of_ble_eq_true rfl, Nat.le_of_ble_eq_true rfl⟩ [] rfl (Nat.le_of_ble_eq_true rfl) (fun v4 h => ?_)
  refine w_if_ne C 25 dX6_side_16 (by decide) h (fun h => ?_) (fun h => ?_)
  · refine w_aload_n C dX6_side_25 rfl 0 rfl ?_
    refine w_getr C dX6_side_26 flX6_31 gX0_4 ?_
    refine w_Vv C dX6_side_29 h (fun _ e => mX0_asItIs e) lnX6_87 mvX0_asItIs bX34 rfl ⟨Nat.le_of_ble_eq_true rfl, Nat.le_of_ble_eq_true rfl⟩ [] rfl (Nat.le_of_ble_eq_true rfl) (fun S5 h => ?_)
    refine w_aload_n C dX6_side_32 rfl 0 rfl ?_
    refine w_getr C dX6_side_33 flX6_31 gX0_4 ?_
    refine w_Vv C dX6_side_36 h (fun _ e => mX0_gather e) lnX6_144 mvX0_gather bX34 rfl ⟨Nat.le_of_ble_eq_true rfl, Nat.le_of_ble_eq_true rfl⟩ [] rfl (Nat.le_of_ble_eq_true rfl) (fun S6 h => ?_)
    refine w_iload_n C dX6_side_39 rfl 2 rfl ?_
    by_cases c0 : a2 = 0
    · have h := ite_t c0 h
      refine w_look (off := 28) C 68 dX6_side_40 (by decide) (by first | (rw [c0]; done) | (rw [c0]; rfl)) (by decide) ?_
      refine w_aload_n C dX6_side_68 rfl 0 rfl ?_
      refine w_getr C dX6_side_69 flX6_31 gX0_4 ?_
      refine w_iload_n C dX6_side_72 rfl 1 rfl ?_
      refine p_Vi C dX6_side_73 h (fun _ e => mX0_strain e) lnX6_147 mvX0_strain bX34 rfl ⟨Nat.le_of_ble_eq_true rfl, Nat.le_of_ble_eq_true rfl⟩ [] rfl (Nat.le_of_ble_eq_true rfl) (fun v7 h => ?_)
      exact w_iret C dX6_side_76 h
    have h := ite_f c0 h
    by_cases c1 : a2 = 1
    · have h := ite_t c1 h
      refine w_look (off := 37) C 77 dX6_side_40 (by decide) (by first | (rw [c1]; done) | (rw [c1]; rfl)) (by decide) ?_
      refine w_aload_n C dX6_side_77 rfl 0 rfl ?_
      refine w_getr C dX6_side_78 flX6_31 gX0_4 ?_
      refine w_iload_n C dX6_side_81 rfl 1 rfl ?_
      refine p_Vi C dX6_side_82 h (fun _ e => mX0_hold e) lnX6_150 mvX0_hold bX34 rfl ⟨Nat.le_of_ble_eq_true rfl, Nat.le_of_ble_eq_true rfl⟩ [] rfl (Nat.le_of_ble_eq_true rfl) (fun v8 h => ?_)
      exact w_iret C dX6_side_85 h
    have h := ite_f c1 h
    refine w_look (off := 46) C 86 dX6_side_40 (by decide) (by show Op.lookupswitch.offset [(0, 28), (1, 37)] 46 _ = _; rw [lv_osw c0 (a := 0) rfl, lv_osw c1 (a := 1) rfl]; rfl) (by decide) ?_
    refine w_aload_n C dX6_side_86 rfl 0 rfl ?_
    refine w_getr C dX6_side_87 flX6_31 gX0_4 ?_
    refine w_iload_n C dX6_side_90 rfl 1 rfl ?_
    refine p_Vi C dX6_side_91 h (fun _ e => mX0_spare e) lnX6_153 mvX0_spare bX34 rfl ⟨Nat.le_of_ble_eq_true rfl, Nat.le_of_ble_eq_true rfl⟩ [] rfl (Nat.le_of_ble_eq_true rfl) (fun v9 h => ?_)
    exact w_iret C dX6_side_94 h
  exact w_sub [0] rfl (hJ19  h))
def fX4_growOlder_L20 (b : Nat) (v2 : Int32) : Nat → St → Int32 → Int32 → Option (St × Int32)
  | 0, _, _, _ => none
  | G20 + 1, S3, v4, v5 => if (S3.1 b 0) ≤ v5 then (some (S3, v4)) else (bv (fX4_isThere b S3 v5) fun v6 => pl (fun (S7 : St) (v8 : Int32) => pl (v5 + 1) fun v9 => fX4_growOlder_L20 b v2 G20 S7 v8 v9) fun J84 => if v6 = 0 then (J84 S3 v4) else (ldi S3 (5 + b) v5 20 fun v10 => sti S3 (5 + b) v5 20 (v10 + v2) fun S11 => ldi S11 (5 + b) v5 20 fun v12 => if v12 ≤ (99) then (J84 S11 v4) else (sti S11 (5 + b) v5 20 (0) fun S13 => pl (si S13 b 6 ((S13.1 b 6) &&& (((1) <<< (v5 &&& 31)) ^^^ (-1)))) fun S14 => pl (v4 + 1) fun v15 => J84 S14 v15)))
def fX4_growOlder (F : Nat) (b : Nat) (S : St) : Option (St × Int32) := ldi S (6 + b) (2) 5 fun v1 => pl (fun (v2 : Int32) => fX4_growOlder_L20 b v2 F S (0) (0)) fun J15 => if v1 ≤ (4) then (J15 (1)) else (J15 (2))
set_option maxRecDepth 100000 in
theorem mX4_growOlder_1 {Y : YT} {F : Nat} {S : St} {R : St × Int32} (h : fX4_growOlder F 1 S  = some R) : Mc VX Y yX4_growOlder cX4_growOlder 4 (some .int) 1 21 [rf Y 1] S (some (.int R.2), R.1) :=
  Mc.start [(0, rf Y 1)] rfl pnX4 (Nat.le_of_ble_eq_true rfl) (fun X (C : Ok VX Y X RX4 cX4_growOlder 4 (some .int)) => by
  unfold fX4_growOlder at h
  refine w_aload_n C dX4_growOlder_0 rfl 0 rfl ?_
  refine w_getr C dX4_growOlder_1 flX4_27 gX1_7 ?_
  refine w_iconst (v := 2) C dX4_growOlder_4 (by decide) ?_
  refine x_iald C dX4_growOlder_5 aX7 h (fun v1 h => ?_)
  refine w_iconst (v := 4) C dX4_growOlder_6 (by decide) ?_
  refine w_join (fun J15 => ∀ (v2 : Int32), J15 v2 = some R → WS VX Y X 4 1 21 (some (.int R.2), R.1) S 15 [(0, rf Y 1)] [.int v2]) h ?_ (fun J15 hJ15 h => ?_)
  · intro v2 h
    refine w_istore_n C dX4_growOlder_15 rfl (by decide) [(1, .int v2), (0, rf Y 1)] rfl ?_
    refine w_iconst (v := 0) C dX4_growOlder_16 (by decide) ?_
    refine w_istore_n C dX4_growOlder_17 rfl (by decide) [(2, .int (0)), (1, .int v2), (0, rf Y 1)] rfl ?_
    refine w_iconst (v := 0) C dX4_growOlder_18 (by decide) ?_
    refine w_istore_n C dX4_growOlder_19 rfl (by decide) [(3, .int (0)), (2, .int (0)), (1, .int v2), (0, rf Y 1)] rfl ?_
    have hL20 : ∀ (G20 : Nat) (S3 : St) (v4 : Int32) (v5 : Int32), fX4_growOlder_L20 1 v2 G20 S3 v4 v5 = some R → WS VX Y X 4 1 21 (some (.int R.2), R.1) S3 20 [(0, rf Y 1), (1, .int v2), (2, .int v4), (3, .int v5)] [] := by
      intro G20
      induction G20 with
      | zero => intro S3 v4 v5 h; exact nomatch (show (none : Option (St × Int32)) = some R from h)
      | succ G20 ih =>
        intro S3 v4 v5 h
        rw [fX4_growOlder_L20] at h
        refine w_iload_n C dX4_growOlder_20 rfl 3 rfl ?_
        refine w_aload_n C dX4_growOlder_21 rfl 0 rfl ?_
        refine w_geti C dX4_growOlder_22 flX4_46 iX1_0 ?_
        refine w_icmp_ge C 90 dX4_growOlder_25 (by decide) h (fun h => ?_) (fun h => ?_)
        · refine w_iload_n C dX4_growOlder_90 rfl 2 rfl ?_
          exact w_iret C dX4_growOlder_91 h
        refine w_aload_n C dX4_growOlder_28 rfl 0 rfl ?_
        refine w_iload_n C dX4_growOlder_29 rfl 3 rfl ?_
        refine p_Vi C dX4_growOlder_30 h (fun _ e => mX4_isThere_1 e) lnX4_64 mvX4_isThere bX1 rfl ⟨Nat.le_of_ble_eq_true rfl, Nat.le_of_ble_eq_true rfl⟩ [] rfl (Nat.le_of_ble_eq_true rfl) (fun v6 h => ?_)
        refine w_join (fun J84 => ∀ (S7 : St) (v8 : Int32), J84 S7 v8 = some R → WS VX Y X 4 1 21 (some (.int R.2), R.1) S7 84 [(0, rf Y 1), (1, .int v2), (2, .int v8), (3, .int v5)] []) h ?_ (fun J84 hJ84 h => ?_)
        · intro S7 v8 h
          refine x_iinc C dX4_growOlder_84 3 rfl 1 (by decide) h (by decide) (fun v9 => [(3, .int v9), (0, rf Y 1), (1, .int v2), (2, .int v8)]) (fun _ => rfl) (fun v9 h => ?_)
          refine w_goto C 20 dX4_growOlder_87 (by decide) ?_
          exact w_sub [1, 2, 3, 0] rfl (ih _ _ _ h)
        refine w_if_ne C 39 dX4_growOlder_33 (by decide) h (fun h => ?_) (fun h => ?_)
        · refine w_aload_n C dX4_growOlder_39 rfl 0 rfl ?_
          refine w_getr C dX4_growOlder_40 flX4_24 gX1_5 ?_
          refine w_iload_n C dX4_growOlder_43 rfl 3 rfl ?_
          refine w_dup2 C dX4_growOlder_44 rfl rfl ?_
          refine x_iald C dX4_growOlder_45 aX6 h (fun v10 h => ?_)
          refine w_iload_n C dX4_growOlder_46 rfl 1 rfl ?_
          refine w_iadd C dX4_growOlder_47 ?_
          refine x_iast C dX4_growOlder_48 aX6 h (fun S11 h => ?_)
          refine w_aload_n C dX4_growOlder_49 rfl 0 rfl ?_
          refine w_getr C dX4_growOlder_50 flX4_24 gX1_5 ?_
          refine w_iload_n C dX4_growOlder_53 rfl 3 rfl ?_
          refine x_iald C dX4_growOlder_54 aX6 h (fun v12 h => ?_)
          refine w_bipush (v := 99) C dX4_growOlder_55 (by decide) ?_
          refine w_icmp_le C 84 dX4_growOlder_57 (by decide) h (fun h => ?_) (fun h => ?_)
          · exact w_sub [0, 1, 2, 3] rfl (hJ84 _ _ h)
          refine w_aload_n C dX4_growOlder_60 rfl 0 rfl ?_
          refine w_getr C dX4_growOlder_61 flX4_24 gX1_5 ?_
          refine w_iload_n C dX4_growOlder_64 rfl 3 rfl ?_
          refine w_iconst (v := 0) C dX4_growOlder_65 (by decide) ?_
          refine x_iast C dX4_growOlder_66 aX6 h (fun S13 h => ?_)
          refine w_aload_n C dX4_growOlder_67 rfl 0 rfl ?_
          refine w_dup C dX4_growOlder_68 rfl ?_
          refine w_geti C dX4_growOlder_69 flX4_55 iX1_6 ?_
          refine w_iconst (v := 1) C dX4_growOlder_72 (by decide) ?_
          refine w_iload_n C dX4_growOlder_73 rfl 3 rfl ?_
          refine w_ishl C dX4_growOlder_74 ?_
          refine w_iconst (v := -1) C dX4_growOlder_75 (by decide) ?_
          refine w_ixor C dX4_growOlder_76 ?_
          refine w_iand C dX4_growOlder_77 ?_
          refine x_puti C dX4_growOlder_78 fpX4_55 iX1_6 h (fun S14 h => ?_)
          refine x_iinc C dX4_growOlder_81 2 rfl 1 (by decide) h (by decide) (fun v15 => [(2, .int v15), (0, rf Y 1), (1, .int v2), (3, .int v5)]) (fun _ => rfl) (fun v15 h => ?_)
          exact w_sub [1, 2, 0, 3] rfl (hJ84 _ _ h)
        refine w_goto C 84 dX4_growOlder_36 (by decide) ?_
        exact w_sub [0, 1, 2, 3] rfl (hJ84 _ _ h)
    exact w_sub [3, 2, 1, 0] rfl (hL20 _ _ _ _ h)
  refine w_icmp_le C 14 dX4_growOlder_7 (by decide) h (fun h => ?_) (fun h => ?_)
  · refine w_iconst (v := 1) C dX4_growOlder_14 (by decide) ?_
    exact w_sub [0] rfl (hJ15 _ h)
  refine w_iconst (v := 2) C dX4_growOlder_10 (by decide) ?_
  refine w_goto C 15 dX4_growOlder_11 (by decide) ?_
  exact w_sub [0] rfl (hJ15 _ h))
def fX6_age_L20 (F : Nat) (a1 : Int32) : Nat → St → Int32 → Int32 → Option (St × Int32)
  | 0, _, _, _ => none
  | G20 + 1, S2, v3, v4 => if a1 ≤ v4 then (some (S2, v3)) else (bq (fX4_growOlder F 1 S2) fun S5 v6 => pl ((v3 + v6)) fun v7 => pl (v4 + 1) fun v8 => fX6_age_L20 F a1 G20 S5 v7 v8)
def fX6_age (F : Nat) (S : St) (a1 : Int32) : Option (St × Int32) := bv (fX6_within S a1 (1) (50)) fun v1 => if v1 = 0 then (bq (fX6_finding S (0)) fun S9 v10 => some (S9, v10)) else (fX6_age_L20 F a1 F S (0) (0))
set_option maxRecDepth 100000 in
theorem mX6_age {Y : YT} {F : Nat} {S : St} {a1 : Int32} {R : St × Int32} (h : fX6_age F S a1 = some R) : Mc VX Y yX6_age cX6_age 4 (some .int) 2 44 [rf Y 0, .int a1] S (some (.int R.2), R.1) :=
  Mc.start [(0, rf Y 0), (1, .int a1)] rfl pnX6 (Nat.le_of_ble_eq_true rfl) (fun X (C : Ok VX Y X RX6 cX6_age 4 (some .int)) => by
  unfold fX6_age at h
  refine w_iload_n C dX6_age_0 rfl 1 rfl ?_
  refine w_iconst (v := 1) C dX6_age_1 (by decide) ?_
  refine w_bipush (v := 50) C dX6_age_2 (by decide) ?_
  refine p_Si C dX6_age_4 h (fun _ e => mX6_within e) lnX6_67 msX6_within rfl ⟨Nat.le_of_ble_eq_true rfl, Nat.le_of_ble_eq_true rfl⟩ [] rfl (Nat.le_of_ble_eq_true rfl) (fun v1 h => ?_)
  refine w_if_ne C 16 dX6_age_7 (by decide) h (fun h => ?_) (fun h => ?_)
  · refine w_iconst (v := 0) C dX6_age_16 (by decide) ?_
    refine w_istore_n C dX6_age_17 rfl (by decide) [(2, .int (0)), (0, rf Y 0), (1, .int a1)] rfl ?_
    refine w_iconst (v := 0) C dX6_age_18 (by decide) ?_
    refine w_istore_n C dX6_age_19 rfl (by decide) [(3, .int (0)), (2, .int (0)), (0, rf Y 0), (1, .int a1)] rfl ?_
    have hL20 : ∀ (G20 : Nat) (S2 : St) (v3 : Int32) (v4 : Int32), fX6_age_L20 F a1 G20 S2 v3 v4 = some R → WS VX Y X 4 2 44 (some (.int R.2), R.1) S2 20 [(0, rf Y 0), (1, .int a1), (2, .int v3), (3, .int v4)] [] := by
      intro G20
      induction G20 with
      | zero => intro S2 v3 v4 h; exact nomatch (show (none : Option (St × Int32)) = some R from h)
      | succ G20 ih =>
        intro S2 v3 v4 h
        rw [fX6_age_L20] at h
        refine w_iload_n C dX6_age_20 rfl 3 rfl ?_
        refine w_iload_n C dX6_age_21 rfl 1 rfl ?_
        refine w_icmp_ge C 41 dX6_age_22 (by decide) h (fun h => ?_) (fun h => ?_)
        · refine w_iload_n C dX6_age_41 rfl 2 rfl ?_
          exact w_iret C dX6_age_42 h
        refine w_iload_n C dX6_age_25 rfl 2 rfl ?_
        refine w_aload_n C dX6_age_26 rfl 0 rfl ?_
        refine w_getr C dX6_age_27 flX6_10 gX0_0 ?_
        refine w_Vi C dX6_age_30 h (fun _ e => mX4_growOlder_1 e) lnX6_140 mvX4_growOlder bX1 rfl ⟨Nat.le_of_ble_eq_true rfl, Nat.le_of_ble_eq_true rfl⟩ [.int v3] rfl (Nat.le_of_ble_eq_true rfl) (fun S5 v6 h => ?_)
        refine w_iadd C dX6_age_33 ?_
        refine w_topi h (fun v7 h => ?_)
        refine w_istore_n C dX6_age_34 rfl (by decide) [(2, .int v7), (0, rf Y 0), (1, .int a1), (3, .int v4)] rfl ?_
        refine x_iinc C dX6_age_35 3 rfl 1 (by decide) h (by decide) (fun v8 => [(3, .int v8), (2, .int v7), (0, rf Y 0), (1, .int a1)]) (fun _ => rfl) (fun v8 h => ?_)
        refine w_goto C 20 dX6_age_38 (by decide) ?_
        exact w_sub [2, 3, 1, 0] rfl (ih _ _ _ h)
    exact w_sub [2, 3, 1, 0] rfl (hL20 _ _ _ _ h)
  refine w_aload_n C dX6_age_10 rfl 0 rfl ?_
  refine w_iconst (v := 0) C dX6_age_11 (by decide) ?_
  refine w_Vi C dX6_age_12 h (fun _ e => mX6_finding e) lnX6_71 mvX6_finding bX0 rfl ⟨Nat.le_of_ble_eq_true rfl, Nat.le_of_ble_eq_true rfl⟩ [] rfl (Nat.le_of_ble_eq_true rfl) (fun S9 v10 h => ?_)
  exact w_iret C dX6_age_15 h)
def fX6_draw (S : St) (a1 : Int32) : Option (St × Int32) := bv (fX6_within S a1 (0) (99)) fun v1 => if v1 = 0 then (bq (fX6_finding S (0)) fun S4 v5 => some (S4, v5)) else (pl ((S.1 1 8)) fun v2 => pl (si S 1 8 a1) fun S3 => some (S3, v2))
set_option maxRecDepth 100000 in
theorem mX6_draw {Y : YT} {S : St} {a1 : Int32} {R : St × Int32} (h : fX6_draw  S a1 = some R) : Mc VX Y yX6_draw cX6_draw 3 (some .int) 1 22 [rf Y 0, .int a1] S (some (.int R.2), R.1) :=
  Mc.start [(0, rf Y 0), (1, .int a1)] rfl pnX6 (Nat.le_of_ble_eq_true rfl) (fun X (C : Ok VX Y X RX6 cX6_draw 3 (some .int)) => by
  unfold fX6_draw at h
  refine w_iload_n C dX6_draw_0 rfl 1 rfl ?_
  refine w_iconst (v := 0) C dX6_draw_1 (by decide) ?_
  refine w_bipush (v := 99) C dX6_draw_2 (by decide) ?_
  refine p_Si C dX6_draw_4 h (fun _ e => mX6_within e) lnX6_67 msX6_within rfl ⟨Nat.le_of_ble_eq_true rfl, Nat.le_of_ble_eq_true rfl⟩ [] rfl (Nat.le_of_ble_eq_true rfl) (fun v1 h => ?_)
  refine w_if_ne C 16 dX6_draw_7 (by decide) h (fun h => ?_) (fun h => ?_)
  · refine w_aload_n C dX6_draw_16 rfl 0 rfl ?_
    refine w_getr C dX6_draw_17 flX6_10 gX0_0 ?_
    refine w_geti C dX6_draw_20 flX6_137 iX1_8 ?_
    refine w_topi h (fun v2 h => ?_)
    refine w_istore_n C dX6_draw_23 rfl (by decide) [(2, .int v2), (0, rf Y 0), (1, .int a1)] rfl ?_
    refine w_aload_n C dX6_draw_24 rfl 1 rfl ?_
    refine w_getr C dX6_draw_25 flX6_10 gX0_0 ?_
    refine w_iload_n C dX6_draw_28 rfl 2 rfl ?_
    refine x_puti C dX6_draw_29 fpX6_137 iX1_8 h (fun S3 h => ?_)
    refine w_iload_n C dX6_draw_32 rfl 0 rfl ?_
    exact w_iret C dX6_draw_33 h
  refine w_aload_n C dX6_draw_10 rfl 0 rfl ?_
  refine w_iconst (v := 0) C dX6_draw_11 (by decide) ?_
  refine w_Vi C dX6_draw_12 h (fun _ e => mX6_finding e) lnX6_71 mvX6_finding bX0 rfl ⟨Nat.le_of_ble_eq_true rfl, Nat.le_of_ble_eq_true rfl⟩ [] rfl (Nat.le_of_ble_eq_true rfl) (fun S4 v5 h => ?_)
  exact w_iret C dX6_draw_15 h)
def fX6_sky (S : St) (a1 : Int32) (a2 : Int32) : Option (St × Int32) := bv (fX6_within S a1 (0) (4)) fun v1 => pl (bq (fX6_finding S (0)) fun S2 v3 => some (S2, v3)) fun J22 => if v1 = 0 then (J22) else (ldt tbS a1 5 fun v4 => bv (fX6_within S a2 (0) v4) fun v5 => if v5 = 0 then (J22) else (bq (fX6_put 7 5 S a1 a2) fun S6 v7 => some (S6, v7)))
set_option maxRecDepth 100000 in
theorem mX6_sky {Y : YT} {S : St} {a1 : Int32} {a2 : Int32} {R : St × Int32} (h : fX6_sky  S a1 a2 = some R) : Mc VX Y yX6_sky cX6_sky 3 (some .int) 1 23 [rf Y 0, .int a1, .int a2] S (some (.int R.2), R.1) :=
  Mc.start [(0, rf Y 0), (1, .int a1), (2, .int a2)] rfl pnX6 (Nat.le_of_ble_eq_true rfl) (fun X (C : Ok VX Y X RX6 cX6_sky 3 (some .int)) => by
  unfold fX6_sky at h
  refine w_iload_n C dX6_sky_0 rfl 1 rfl ?_
  refine w_iconst (v := 0) C dX6_sky_1 (by decide) ?_
  refine w_iconst (v := 4) C dX6_sky_2 (by decide) ?_
  refine p_Si C dX6_sky_3 h (fun _ e => mX6_within e) lnX6_67 msX6_within rfl ⟨Nat.le_of_ble_eq_true rfl, Nat.le_of_ble_eq_true rfl⟩ [] rfl (Nat.le_of_ble_eq_true rfl) (fun v1 h => ?_)
  refine w_join (fun J22 => J22  = some R → WS VX Y X 3 1 23 (some (.int R.2), R.1) S 22 [(0, rf Y 0)] []) h ?_ (fun J22 hJ22 h => ?_)
  · intro  h
    refine w_aload_n C dX6_sky_22 rfl 0 rfl ?_
    refine w_iconst (v := 0) C dX6_sky_23 (by decide) ?_
    refine w_Vi C dX6_sky_24 h (fun _ e => mX6_finding e) lnX6_71 mvX6_finding bX0 rfl ⟨Nat.le_of_ble_eq_true rfl, Nat.le_of_ble_eq_true rfl⟩ [] rfl (Nat.le_of_ble_eq_true rfl) (fun S2 v3 h => ?_)
    exact w_iret C dX6_sky_27 h
  refine w_if_eq C 22 dX6_sky_6 (by decide) h (fun h => ?_) (fun h => ?_)
  · exact w_sub [0] rfl (hJ22  h)
  refine w_iload_n C dX6_sky_9 rfl 2 rfl ?_
  refine w_iconst (v := 0) C dX6_sky_10 (by decide) ?_
  refine x_stat1 C dX6_sky_11 fsX6_131 ?_
  refine w_iload_n C dX6_sky_14 rfl 1 rfl ?_
  refine x_tald1 C dX6_sky_15 h (fun v4 h => ?_)
  refine p_Si C dX6_sky_16 h (fun _ e => mX6_within e) lnX6_67 msX6_within rfl ⟨Nat.le_of_ble_eq_true rfl, Nat.le_of_ble_eq_true rfl⟩ [] rfl (Nat.le_of_ble_eq_true rfl) (fun v5 h => ?_)
  refine w_if_ne C 28 dX6_sky_19 (by decide) h (fun h => ?_) (fun h => ?_)
  · refine w_aload_n C dX6_sky_28 rfl 0 rfl ?_
    refine w_getr C dX6_sky_29 flX6_10 gX0_0 ?_
    refine w_getr C dX6_sky_32 flX6_134 gX1_7 ?_
    refine w_iload_n C dX6_sky_35 rfl 1 rfl ?_
    refine w_iload_n C dX6_sky_36 rfl 2 rfl ?_
    refine w_Si C dX6_sky_37 h (fun _ e => mX6_put_7 e) lnX6_120 msX6_put rfl ⟨Nat.le_of_ble_eq_true rfl, Nat.le_of_ble_eq_true rfl⟩ [] rfl (Nat.le_of_ble_eq_true rfl) (fun S6 v7 h => ?_)
    exact w_iret C dX6_sky_40 h
  exact w_sub [0] rfl (hJ22  h))
def fX4_hasPart (b : Nat) (S : St) (a1 : Int32) : Option (Int32) := if a1 < 0 then (some (0)) else (if (S.1 b 0) ≤ a1 then (some (0)) else (some (1)))
set_option maxRecDepth 100000 in
theorem mX4_hasPart_1 {Y : YT} {S : St} {a1 : Int32} {R : Int32} (h : fX4_hasPart 1 S a1 = some R) : Mc VX Y yX4_hasPart cX4_hasPart 2 (some .boolean) 0 0 [rf Y 1, .int a1] S (some (.int R), S) :=
  Mc.start [(0, rf Y 1), (1, .int a1)] rfl pnX4 (Nat.le_of_ble_eq_true rfl) (fun X (C : Ok VX Y X RX4 cX4_hasPart 2 (some .boolean)) => by
  unfold fX4_hasPart at h
  refine w_iload_n C dX4_hasPart_0 rfl 1 rfl ?_
  refine w_if_lt C 16 dX4_hasPart_1 (by decide) h (fun h => ?_) (fun h => ?_)
  · refine w_iconst (v := 0) C dX4_hasPart_16 (by decide) ?_
    exact p_zret0 C dX4_hasPart_17 rfl h
  refine w_iload_n C dX4_hasPart_4 rfl 1 rfl ?_
  refine w_aload_n C dX4_hasPart_5 rfl 0 rfl ?_
  refine w_geti C dX4_hasPart_6 flX4_46 iX1_0 ?_
  refine w_icmp_ge C 16 dX4_hasPart_9 (by decide) h (fun h => ?_) (fun h => ?_)
  · refine w_iconst (v := 0) C dX4_hasPart_16 (by decide) ?_
    exact p_zret0 C dX4_hasPart_17 rfl h
  refine w_iconst (v := 1) C dX4_hasPart_12 (by decide) ?_
  refine w_goto C 17 dX4_hasPart_13 (by decide) ?_
  exact p_zret0 C dX4_hasPart_17 rfl h)
def fX6_as (F : Nat) (S : St) (a1 : Int32) (a2 : Int32) : Option (St × Int32) := bv (fX4_hasPart 1 S a1) fun v1 => pl (bq (fX6_finding S (0)) fun S2 v3 => some (S2, v3)) fun J21 => if v1 = 0 then (J21) else (bv (fX6_within S a2 (0) (6)) fun v4 => if v4 = 0 then (J21) else (ldi S 2 a1 20 fun v5 => bv (fX6_isOfKind F S v5 a2) fun v6 => if v6 = 0 then (bq (fX6_finding S (2)) fun S9 v10 => some (S9, v10)) else (bv (fX0_asItIs S) fun S7 => bv (fX0_good S7 a1) fun v8 => some (S7, v8))))
set_option maxRecDepth 100000 in
theorem mX6_as {Y : YT} {F : Nat} {S : St} {a1 : Int32} {a2 : Int32} {R : St × Int32} (h : fX6_as F S a1 a2 = some R) : Mc VX Y yX6_as cX6_as 3 (some .int) 2 42 [rf Y 0, .int a1, .int a2] S (some (.int R.2), R.1) :=
  Mc.start [(0, rf Y 0), (1, .int a1), (2, .int a2)] rfl pnX6 (Nat.le_of_ble_eq_true rfl) (fun X (C : Ok VX Y X RX6 cX6_as 3 (some .int)) => by
  unfold fX6_as at h
  refine w_aload_n C dX6_as_0 rfl 0 rfl ?_
  refine w_getr C dX6_as_1 flX6_10 gX0_0 ?_
  refine w_iload_n C dX6_as_4 rfl 1 rfl ?_
  refine p_Vi C dX6_as_5 h (fun _ e => mX4_hasPart_1 e) lnX6_83 mvX4_hasPart bX1 rfl ⟨Nat.le_of_ble_eq_true rfl, Nat.le_of_ble_eq_true rfl⟩ [] rfl (Nat.le_of_ble_eq_true rfl) (fun v1 h => ?_)
  refine w_join (fun J21 => J21  = some R → WS VX Y X 3 2 42 (some (.int R.2), R.1) S 21 [(0, rf Y 0)] []) h ?_ (fun J21 hJ21 h => ?_)
  · intro  h
    refine w_aload_n C dX6_as_21 rfl 0 rfl ?_
    refine w_iconst (v := 0) C dX6_as_22 (by decide) ?_
    refine w_Vi C dX6_as_23 h (fun _ e => mX6_finding e) lnX6_71 mvX6_finding bX0 rfl ⟨Nat.le_of_ble_eq_true rfl, Nat.le_of_ble_eq_true rfl⟩ [] rfl (Nat.le_of_ble_eq_true rfl) (fun S2 v3 h => ?_)
    exact w_iret C dX6_as_26 h
  refine w_if_eq C 21 dX6_as_8 (by decide) h (fun h => ?_) (fun h => ?_)
  · exact w_sub [0] rfl (hJ21  h)
  refine w_iload_n C dX6_as_11 rfl 2 rfl ?_
  refine w_iconst (v := 0) C dX6_as_12 (by decide) ?_
  refine w_bipush (v := 6) C dX6_as_13 (by decide) ?_
  refine p_Si C dX6_as_15 h (fun _ e => mX6_within e) lnX6_67 msX6_within rfl ⟨Nat.le_of_ble_eq_true rfl, Nat.le_of_ble_eq_true rfl⟩ [] rfl (Nat.le_of_ble_eq_true rfl) (fun v4 h => ?_)
  refine w_if_ne C 27 dX6_as_18 (by decide) h (fun h => ?_) (fun h => ?_)
  · refine w_aload_n C dX6_as_27 rfl 0 rfl ?_
    refine w_getr C dX6_as_28 flX6_10 gX0_0 ?_
    refine w_getr C dX6_as_31 flX6_90 gX1_1 ?_
    refine w_iload_n C dX6_as_34 rfl 1 rfl ?_
    refine x_iald C dX6_as_35 aX2 h (fun v5 h => ?_)
    refine w_iload_n C dX6_as_36 rfl 2 rfl ?_
    refine p_Si C dX6_as_37 h (fun _ e => mX6_isOfKind e) lnX6_127 msX6_isOfKind rfl ⟨Nat.le_of_ble_eq_true rfl, Nat.le_of_ble_eq_true rfl⟩ [] rfl (Nat.le_of_ble_eq_true rfl) (fun v6 h => ?_)
    refine w_if_ne C 49 dX6_as_40 (by decide) h (fun h => ?_) (fun h => ?_)
    · refine w_aload_n C dX6_as_49 rfl 0 rfl ?_
      refine w_getr C dX6_as_50 flX6_31 gX0_4 ?_
      refine w_Vv C dX6_as_53 h (fun _ e => mX0_asItIs e) lnX6_87 mvX0_asItIs bX34 rfl ⟨Nat.le_of_ble_eq_true rfl, Nat.le_of_ble_eq_true rfl⟩ [] rfl (Nat.le_of_ble_eq_true rfl) (fun S7 h => ?_)
      refine w_aload_n C dX6_as_56 rfl 0 rfl ?_
      refine w_getr C dX6_as_57 flX6_31 gX0_4 ?_
      refine w_iload_n C dX6_as_60 rfl 1 rfl ?_
      refine p_Vi C dX6_as_61 h (fun _ e => mX0_good e) lnX6_108 mvX0_good bX34 rfl ⟨Nat.le_of_ble_eq_true rfl, Nat.le_of_ble_eq_true rfl⟩ [] rfl (Nat.le_of_ble_eq_true rfl) (fun v8 h => ?_)
      exact w_iret C dX6_as_64 h
    refine w_aload_n C dX6_as_43 rfl 0 rfl ?_
    refine w_iconst (v := 2) C dX6_as_44 (by decide) ?_
    refine w_Vi C dX6_as_45 h (fun _ e => mX6_finding e) lnX6_71 mvX6_finding bX0 rfl ⟨Nat.le_of_ble_eq_true rfl, Nat.le_of_ble_eq_true rfl⟩ [] rfl (Nat.le_of_ble_eq_true rfl) (fun S9 v10 h => ?_)
    exact w_iret C dX6_as_48 h
  exact w_sub [0] rfl (hJ21  h))
def fX6_want (S : St) (a1 : Int32) (a2 : Int32) : Option (St × Int32) := bv (fX4_hasPart 1 S a1) fun v1 => if v1 = 0 then (bq (fX6_finding S (0)) fun S4 v5 => some (S4, v5)) else (bv (fX4_isThere 1 S a1) fun v2 => if v2 = a2 then (some (S, 0)) else (pl (si S 1 6 ((S.1 1 6) ^^^ ((1) <<< (a1 &&& 31)))) fun S3 => some (S3, 1)))
set_option maxRecDepth 100000 in
theorem mX6_want {Y : YT} {S : St} {a1 : Int32} {a2 : Int32} {R : St × Int32} (h : fX6_want  S a1 a2 = some R) : Mc VX Y yX6_want cX6_want 3 (some .int) 1 21 [rf Y 0, .int a1, .int a2] S (some (.int R.2), R.1) :=
  Mc.start [(0, rf Y 0), (1, .int a1), (2, .int a2)] rfl pnX6 (Nat.le_of_ble_eq_true rfl) (fun X (C : Ok VX Y X RX6 cX6_want 3 (some .int)) => by
  unfold fX6_want at h
  refine w_aload_n C dX6_want_0 rfl 0 rfl ?_
  refine w_getr C dX6_want_1 flX6_10 gX0_0 ?_
  refine w_iload_n C dX6_want_4 rfl 1 rfl ?_
  refine p_Vi C dX6_want_5 h (fun _ e => mX4_hasPart_1 e) lnX6_83 mvX4_hasPart bX1 rfl ⟨Nat.le_of_ble_eq_true rfl, Nat.le_of_ble_eq_true rfl⟩ [] rfl (Nat.le_of_ble_eq_true rfl) (fun v1 h => ?_)
  refine w_if_ne C 17 dX6_want_8 (by decide) h (fun h => ?_) (fun h => ?_)
  · refine w_aload_n C dX6_want_17 rfl 0 rfl ?_
    refine w_getr C dX6_want_18 flX6_10 gX0_0 ?_
    refine w_iload_n C dX6_want_21 rfl 1 rfl ?_
    refine p_Vi C dX6_want_22 h (fun _ e => mX4_isThere_1 e) lnX6_105 mvX4_isThere bX1 rfl ⟨Nat.le_of_ble_eq_true rfl, Nat.le_of_ble_eq_true rfl⟩ [] rfl (Nat.le_of_ble_eq_true rfl) (fun v2 h => ?_)
    refine w_iload_n C dX6_want_25 rfl 2 rfl ?_
    refine w_icmp_ne C 31 dX6_want_26 (by decide) h (fun h => ?_) (fun h => ?_)
    · refine w_aload_n C dX6_want_31 rfl 0 rfl ?_
      refine w_getr C dX6_want_32 flX6_10 gX0_0 ?_
      refine w_dup C dX6_want_35 rfl ?_
      refine w_geti C dX6_want_36 flX6_124 iX1_6 ?_
      refine w_iconst (v := 1) C dX6_want_39 (by decide) ?_
      refine w_iload_n C dX6_want_40 rfl 1 rfl ?_
      refine w_ishl C dX6_want_41 ?_
      refine w_ixor C dX6_want_42 ?_
      refine x_puti C dX6_want_43 fpX6_124 iX1_6 h (fun S3 h => ?_)
      refine w_iconst (v := 1) C dX6_want_46 (by decide) ?_
      exact w_iret C dX6_want_47 h
    refine w_iconst (v := 0) C dX6_want_29 (by decide) ?_
    exact w_iret C dX6_want_30 h
  refine w_aload_n C dX6_want_11 rfl 0 rfl ?_
  refine w_iconst (v := 0) C dX6_want_12 (by decide) ?_
  refine w_Vi C dX6_want_13 h (fun _ e => mX6_finding e) lnX6_71 mvX6_finding bX0 rfl ⟨Nat.le_of_ble_eq_true rfl, Nat.le_of_ble_eq_true rfl⟩ [] rfl (Nat.le_of_ble_eq_true rfl) (fun S4 v5 h => ?_)
  exact w_iret C dX6_want_16 h)
def fX6_set (S : St) (a1 : Int32) (a2 : Int32) (a3 : Int32) : Option (St × Int32) := bv (fX4_hasPart 1 S a1) fun v1 => if v1 = 0 then (bq (fX6_finding S (0)) fun S13 v14 => some (S13, v14)) else (pl (pl (pl (bq (fX6_finding S (0)) fun S2 v3 => some (S2, v3)) fun J102 => if a2 = (4) then (bv (fX6_within S a3 (0) (99)) fun v4 => if v4 = 0 then (J102) else (bq (fX6_put 6 20 S a1 a3) fun S5 v6 => some (S5, v6))) else (J102)) fun J74 => if a2 = (3) then (bv (fX6_within S a3 (0) (99)) fun v7 => if v7 = 0 then (J74) else (bq (fX6_put 5 20 S a1 a3) fun S8 v9 => some (S8, v9))) else (J74)) fun J46 => if a2 = (2) then (bv (fX6_within S a3 (1) (999)) fun v10 => if v10 = 0 then (J46) else (bq (fX6_put 4 20 S a1 a3) fun S11 v12 => some (S11, v12))) else (J46))
set_option maxRecDepth 100000 in
theorem mX6_set {Y : YT} {S : St} {a1 : Int32} {a2 : Int32} {a3 : Int32} {R : St × Int32} (h : fX6_set  S a1 a2 a3 = some R) : Mc VX Y yX6_set cX6_set 4 (some .int) 1 23 [rf Y 0, .int a1, .int a2, .int a3] S (some (.int R.2), R.1) :=
  Mc.start [(0, rf Y 0), (1, .int a1), (2, .int a2), (3, .int a3)] rfl pnX6 (Nat.le_of_ble_eq_true rfl) (fun X (C : Ok VX Y X RX6 cX6_set 4 (some .int)) => by
  unfold fX6_set at h
  refine w_aload_n C dX6_set_0 rfl 0 rfl ?_
  refine w_getr C dX6_set_1 flX6_10 gX0_0 ?_
  refine w_iload_n C dX6_set_4 rfl 1 rfl ?_
  refine p_Vi C dX6_set_5 h (fun _ e => mX4_hasPart_1 e) lnX6_83 mvX4_hasPart bX1 rfl ⟨Nat.le_of_ble_eq_true rfl, Nat.le_of_ble_eq_true rfl⟩ [] rfl (Nat.le_of_ble_eq_true rfl) (fun v1 h => ?_)
  refine w_if_ne C 17 dX6_set_8 (by decide) h (fun h => ?_) (fun h => ?_)
  · refine w_iload_n C dX6_set_17 rfl 2 rfl ?_
    refine w_iconst (v := 2) C dX6_set_18 (by decide) ?_
    refine w_join (fun J46 => J46  = some R → WS VX Y X 4 1 23 (some (.int R.2), R.1) S 46 [(0, rf Y 0), (1, .int a1), (2, .int a2), (3, .int a3)] []) h ?_ (fun J46 hJ46 h => ?_)
    · intro  h
      refine w_iload_n C dX6_set_46 rfl 2 rfl ?_
      refine w_iconst (v := 3) C dX6_set_47 (by decide) ?_
      refine w_join (fun J74 => J74  = some R → WS VX Y X 4 1 23 (some (.int R.2), R.1) S 74 [(0, rf Y 0), (1, .int a1), (2, .int a2), (3, .int a3)] []) h ?_ (fun J74 hJ74 h => ?_)
      · intro  h
        refine w_iload_n C dX6_set_74 rfl 2 rfl ?_
        refine w_iconst (v := 4) C dX6_set_75 (by decide) ?_
        refine w_join (fun J102 => J102  = some R → WS VX Y X 4 1 23 (some (.int R.2), R.1) S 102 [(0, rf Y 0)] []) h ?_ (fun J102 hJ102 h => ?_)
        · intro  h
          refine w_aload_n C dX6_set_102 rfl 0 rfl ?_
          refine w_iconst (v := 0) C dX6_set_103 (by decide) ?_
          refine w_Vi C dX6_set_104 h (fun _ e => mX6_finding e) lnX6_71 mvX6_finding bX0 rfl ⟨Nat.le_of_ble_eq_true rfl, Nat.le_of_ble_eq_true rfl⟩ [] rfl (Nat.le_of_ble_eq_true rfl) (fun S2 v3 h => ?_)
          exact w_iret C dX6_set_107 h
        refine w_icmp_ne C 102 dX6_set_76 (by decide) h (fun h => ?_) (fun h => ?_)
        · exact w_sub [0] rfl (hJ102  h)
        refine w_iload_n C dX6_set_79 rfl 3 rfl ?_
        refine w_iconst (v := 0) C dX6_set_80 (by decide) ?_
        refine w_bipush (v := 99) C dX6_set_81 (by decide) ?_
        refine p_Si C dX6_set_83 h (fun _ e => mX6_within e) lnX6_67 msX6_within rfl ⟨Nat.le_of_ble_eq_true rfl, Nat.le_of_ble_eq_true rfl⟩ [] rfl (Nat.le_of_ble_eq_true rfl) (fun v4 h => ?_)
        refine w_if_eq C 102 dX6_set_86 (by decide) h (fun h => ?_) (fun h => ?_)
        · exact w_sub [0] rfl (hJ102  h)
        refine w_aload_n C dX6_set_89 rfl 0 rfl ?_
        refine w_getr C dX6_set_90 flX6_10 gX0_0 ?_
        refine w_getr C dX6_set_93 flX6_102 gX1_5 ?_
        refine w_iload_n C dX6_set_96 rfl 1 rfl ?_
        refine w_iload_n C dX6_set_97 rfl 3 rfl ?_
        refine w_Si C dX6_set_98 h (fun _ e => mX6_put_6 e) lnX6_120 msX6_put rfl ⟨Nat.le_of_ble_eq_true rfl, Nat.le_of_ble_eq_true rfl⟩ [] rfl (Nat.le_of_ble_eq_true rfl) (fun S5 v6 h => ?_)
        exact w_iret C dX6_set_101 h
      refine w_icmp_ne C 74 dX6_set_48 (by decide) h (fun h => ?_) (fun h => ?_)
      · exact w_sub [0, 1, 2, 3] rfl (hJ74  h)
      refine w_iload_n C dX6_set_51 rfl 3 rfl ?_
      refine w_iconst (v := 0) C dX6_set_52 (by decide) ?_
      refine w_bipush (v := 99) C dX6_set_53 (by decide) ?_
      refine p_Si C dX6_set_55 h (fun _ e => mX6_within e) lnX6_67 msX6_within rfl ⟨Nat.le_of_ble_eq_true rfl, Nat.le_of_ble_eq_true rfl⟩ [] rfl (Nat.le_of_ble_eq_true rfl) (fun v7 h => ?_)
      refine w_if_eq C 74 dX6_set_58 (by decide) h (fun h => ?_) (fun h => ?_)
      · exact w_sub [0, 1, 2, 3] rfl (hJ74  h)
      refine w_aload_n C dX6_set_61 rfl 0 rfl ?_
      refine w_getr C dX6_set_62 flX6_10 gX0_0 ?_
      refine w_getr C dX6_set_65 flX6_99 gX1_4 ?_
      refine w_iload_n C dX6_set_68 rfl 1 rfl ?_
      refine w_iload_n C dX6_set_69 rfl 3 rfl ?_
      refine w_Si C dX6_set_70 h (fun _ e => mX6_put_5 e) lnX6_120 msX6_put rfl ⟨Nat.le_of_ble_eq_true rfl, Nat.le_of_ble_eq_true rfl⟩ [] rfl (Nat.le_of_ble_eq_true rfl) (fun S8 v9 h => ?_)
      exact w_iret C dX6_set_73 h
    refine w_icmp_ne C 46 dX6_set_19 (by decide) h (fun h => ?_) (fun h => ?_)
    · exact w_sub [0, 1, 2, 3] rfl (hJ46  h)
    refine w_iload_n C dX6_set_22 rfl 3 rfl ?_
    refine w_iconst (v := 1) C dX6_set_23 (by decide) ?_
    refine w_sipush (v := 999) C dX6_set_24 (by decide) ?_
    refine p_Si C dX6_set_27 h (fun _ e => mX6_within e) lnX6_67 msX6_within rfl ⟨Nat.le_of_ble_eq_true rfl, Nat.le_of_ble_eq_true rfl⟩ [] rfl (Nat.le_of_ble_eq_true rfl) (fun v10 h => ?_)
    refine w_if_eq C 46 dX6_set_30 (by decide) h (fun h => ?_) (fun h => ?_)
    · exact w_sub [0, 1, 2, 3] rfl (hJ46  h)
    refine w_aload_n C dX6_set_33 rfl 0 rfl ?_
    refine w_getr C dX6_set_34 flX6_10 gX0_0 ?_
    refine w_getr C dX6_set_37 flX6_96 gX1_3 ?_
    refine w_iload_n C dX6_set_40 rfl 1 rfl ?_
    refine w_iload_n C dX6_set_41 rfl 3 rfl ?_
    refine w_Si C dX6_set_42 h (fun _ e => mX6_put_4 e) lnX6_120 msX6_put rfl ⟨Nat.le_of_ble_eq_true rfl, Nat.le_of_ble_eq_true rfl⟩ [] rfl (Nat.le_of_ble_eq_true rfl) (fun S11 v12 h => ?_)
    exact w_iret C dX6_set_45 h
  refine w_aload_n C dX6_set_11 rfl 0 rfl ?_
  refine w_iconst (v := 0) C dX6_set_12 (by decide) ?_
  refine w_Vi C dX6_set_13 h (fun _ e => mX6_finding e) lnX6_71 mvX6_finding bX0 rfl ⟨Nat.le_of_ble_eq_true rfl, Nat.le_of_ble_eq_true rfl⟩ [] rfl (Nat.le_of_ble_eq_true rfl) (fun S13 v14 h => ?_)
  exact w_iret C dX6_set_16 h)
def fX6_of (S : St) (a1 : Int32) (a2 : Int32) : Option (St × Int32) := bv (fX4_hasPart 1 S a1) fun v1 => pl (bq (fX6_finding S (0)) fun S2 v3 => some (S2, v3)) fun J21 => if v1 = 0 then (J21) else (bv (fX6_within S a2 (0) (9)) fun v4 => if v4 = 0 then (J21) else (bv (fX0_asItIs S) fun S5 => if a2 = 0 then (ldi S5 2 a1 20 fun v6 => some (S5, v6)) else if a2 = 1 then (ldi S5 3 a1 20 fun v7 => some (S5, v7)) else if a2 = 2 then (ldi S5 4 a1 20 fun v8 => some (S5, v8)) else if a2 = 3 then (ldi S5 5 a1 20 fun v9 => some (S5, v9)) else if a2 = 4 then (ldi S5 6 a1 20 fun v10 => some (S5, v10)) else if a2 = 5 then (bv (fX4_isThere 1 S5 a1) fun v11 => if v11 = 0 then (some (S5, 0)) else (some (S5, 1))) else if a2 = 6 then (bv (fX0_good S5 a1) fun v12 => some (S5, v12)) else if a2 = 7 then (bv (fX0_pushes S5 a1) fun v13 => some (S5, v13)) else if a2 = 8 then (bv (fX0_holds S5 a1) fun v14 => some (S5, v14)) else (bv (fX0_warms S5 a1) fun v15 => some (S5, v15))))
set_option maxRecDepth 100000 in
theorem mX6_of {Y : YT} {S : St} {a1 : Int32} {a2 : Int32} {R : St × Int32} (h : fX6_of  S a1 a2 = some R) : Mc VX Y yX6_of cX6_of 3 (some .int) 4 85 [rf Y 0, .int a1, .int a2] S (some (.int R.2), R.1) :=
  Mc.start [(0, rf Y 0), (1, .int a1), (2, .int a2)] rfl pnX6 (Nat.le_of_ble_eq_true rfl) (fun X (C : Ok VX Y X RX6 cX6_of 3 (some .int)) => by
  unfold fX6_of at h
  refine w_aload_n C dX6_of_0 rfl 0 rfl ?_
  refine w_getr C dX6_of_1 flX6_10 gX0_0 ?_
  refine w_iload_n C dX6_of_4 rfl 1 rfl ?_
  refine p_Vi C dX6_of_5 h (fun _ e => mX4_hasPart_1 e) lnX6_83 mvX4_hasPart bX1 rfl ⟨Nat.le_of_ble_eq_true rfl, Nat.le_of_ble_eq_true rfl⟩ [] rfl (Nat.le_of_ble_eq_true rfl) (fun v1 h => ?_)
  refine w_join (fun J21 => J21  = some R → WS VX Y X 3 4 85 (some (.int R.2), R.1) S 21 [(0, rf Y 0)] []) h ?_ (fun J21 hJ21 h => ?_)
  · intro  h
    refine w_aload_n C dX6_of_21 rfl 0 rfl ?_
    refine w_iconst (v := 0) C dX6_of_22 (by decide) ?_
    refine w_Vi C dX6_of_23 h (fun _ e => mX6_finding e) lnX6_71 mvX6_finding bX0 rfl ⟨Nat.le_of_ble_eq_true rfl, Nat.le_of_ble_eq_true rfl⟩ [] rfl (Nat.le_of_ble_eq_true rfl) (fun S2 v3 h => ?_)
    exact w_iret C dX6_of_26 h
  refine w_if_eq C 21 dX6_of_8 (by decide) h (fun h => ?_) (fun h => ?_)
  · exact w_sub [0] rfl (hJ21  h)
  refine w_iload_n C dX6_of_11 rfl 2 rfl ?_
  refine w_iconst (v := 0) C dX6_of_12 (by decide) ?_
  refine w_bipush (v := 9) C dX6_of_13 (by decide) ?_
  refine p_Si C dX6_of_15 h (fun _ e => mX6_within e) lnX6_67 msX6_within rfl ⟨Nat.le_of_ble_eq_true rfl, Nat.le_of_ble_eq_true rfl⟩ [] rfl (Nat.le_of_ble_eq_true rfl) (fun v4 h => ?_)
  refine w_if_ne C 27 dX6_of_18 (by decide) h (fun h => ?_) (fun h => ?_)
  · refine w_aload_n C dX6_of_27 rfl 0 rfl ?_
    refine w_getr C dX6_of_28 flX6_31 gX0_4 ?_
    refine w_Vv C dX6_of_31 h (fun _ e => mX0_asItIs e) lnX6_87 mvX0_asItIs bX34 rfl ⟨Nat.le_of_ble_eq_true rfl, Nat.le_of_ble_eq_true rfl⟩ [] rfl (Nat.le_of_ble_eq_true rfl) (fun S5 h => ?_)
    refine w_iload_n C dX6_of_34 rfl 2 rfl ?_
    by_cases c0 : a2 = 0
    · have h := ite_t c0 h
      refine w_tabIn C 84 dX6_of_35 c0 rfl (by decide) (by decide) rfl (by decide) ?_
      refine w_aload_n C dX6_of_84 rfl 0 rfl ?_
      refine w_getr C dX6_of_85 flX6_10 gX0_0 ?_
      refine w_getr C dX6_of_88 flX6_90 gX1_1 ?_
      refine w_iload_n C dX6_of_91 rfl 1 rfl ?_
      refine x_iald C dX6_of_92 aX2 h (fun v6 h => ?_)
      exact w_iret C dX6_of_93 h
    have h := ite_f c0 h
    by_cases c1 : a2 = 1
    · have h := ite_t c1 h
      refine w_tabIn C 94 dX6_of_35 c1 rfl (by decide) (by decide) rfl (by decide) ?_
      refine w_aload_n C dX6_of_94 rfl 0 rfl ?_
      refine w_getr C dX6_of_95 flX6_10 gX0_0 ?_
      refine w_getr C dX6_of_98 flX6_93 gX1_2 ?_
      refine w_iload_n C dX6_of_101 rfl 1 rfl ?_
      refine x_iald C dX6_of_102 aX3 h (fun v7 h => ?_)
      exact w_iret C dX6_of_103 h
    have h := ite_f c1 h
    by_cases c2 : a2 = 2
    · have h := ite_t c2 h
      refine w_tabIn C 104 dX6_of_35 c2 rfl (by decide) (by decide) rfl (by decide) ?_
      refine w_aload_n C dX6_of_104 rfl 0 rfl ?_
      refine w_getr C dX6_of_105 flX6_10 gX0_0 ?_
      refine w_getr C dX6_of_108 flX6_96 gX1_3 ?_
      refine w_iload_n C dX6_of_111 rfl 1 rfl ?_
      refine x_iald C dX6_of_112 aX4 h (fun v8 h => ?_)
      exact w_iret C dX6_of_113 h
    have h := ite_f c2 h
    by_cases c3 : a2 = 3
    · have h := ite_t c3 h
      refine w_tabIn C 114 dX6_of_35 c3 rfl (by decide) (by decide) rfl (by decide) ?_
      refine w_aload_n C dX6_of_114 rfl 0 rfl ?_
      refine w_getr C dX6_of_115 flX6_10 gX0_0 ?_
      refine w_getr C dX6_of_118 flX6_99 gX1_4 ?_
      refine w_iload_n C dX6_of_121 rfl 1 rfl ?_
      refine x_iald C dX6_of_122 aX5 h (fun v9 h => ?_)
      exact w_iret C dX6_of_123 h
    have h := ite_f c3 h
    by_cases c4 : a2 = 4
    · have h := ite_t c4 h
      refine w_tabIn C 124 dX6_of_35 c4 rfl (by decide) (by decide) rfl (by decide) ?_
      refine w_aload_n C dX6_of_124 rfl 0 rfl ?_
      refine w_getr C dX6_of_125 flX6_10 gX0_0 ?_
      refine w_getr C dX6_of_128 flX6_102 gX1_5 ?_
      refine w_iload_n C dX6_of_131 rfl 1 rfl ?_
      refine x_iald C dX6_of_132 aX6 h (fun v10 h => ?_)
      exact w_iret C dX6_of_133 h
    have h := ite_f c4 h
    by_cases c5 : a2 = 5
    · have h := ite_t c5 h
      refine w_tabIn C 134 dX6_of_35 c5 rfl (by decide) (by decide) rfl (by decide) ?_
      refine w_aload_n C dX6_of_134 rfl 0 rfl ?_
      refine w_getr C dX6_of_135 flX6_10 gX0_0 ?_
      refine w_iload_n C dX6_of_138 rfl 1 rfl ?_
      refine p_Vi C dX6_of_139 h (fun _ e => mX4_isThere_1 e) lnX6_105 mvX4_isThere bX1 rfl ⟨Nat.le_of_ble_eq_true rfl, Nat.le_of_ble_eq_true rfl⟩ [] rfl (Nat.le_of_ble_eq_true rfl) (fun v11 h => ?_)
      refine w_if_eq C 149 dX6_of_142 (by decide) h (fun h => ?_) (fun h => ?_)
      · refine w_iconst (v := 0) C dX6_of_149 (by decide) ?_
        exact w_iret C dX6_of_150 h
      refine w_iconst (v := 1) C dX6_of_145 (by decide) ?_
      refine w_goto C 150 dX6_of_146 (by decide) ?_
      exact w_iret C dX6_of_150 h
    have h := ite_f c5 h
    by_cases c6 : a2 = 6
    · have h := ite_t c6 h
      refine w_tabIn C 151 dX6_of_35 c6 rfl (by decide) (by decide) rfl (by decide) ?_
      refine w_aload_n C dX6_of_151 rfl 0 rfl ?_
      refine w_getr C dX6_of_152 flX6_31 gX0_4 ?_
      refine w_iload_n C dX6_of_155 rfl 1 rfl ?_
      refine p_Vi C dX6_of_156 h (fun _ e => mX0_good e) lnX6_108 mvX0_good bX34 rfl ⟨Nat.le_of_ble_eq_true rfl, Nat.le_of_ble_eq_true rfl⟩ [] rfl (Nat.le_of_ble_eq_true rfl) (fun v12 h => ?_)
      exact w_iret C dX6_of_159 h
    have h := ite_f c6 h
    by_cases c7 : a2 = 7
    · have h := ite_t c7 h
      refine w_tabIn C 160 dX6_of_35 c7 rfl (by decide) (by decide) rfl (by decide) ?_
      refine w_aload_n C dX6_of_160 rfl 0 rfl ?_
      refine w_getr C dX6_of_161 flX6_31 gX0_4 ?_
      refine w_iload_n C dX6_of_164 rfl 1 rfl ?_
      refine p_Vi C dX6_of_165 h (fun _ e => mX0_pushes e) lnX6_111 mvX0_pushes bX34 rfl ⟨Nat.le_of_ble_eq_true rfl, Nat.le_of_ble_eq_true rfl⟩ [] rfl (Nat.le_of_ble_eq_true rfl) (fun v13 h => ?_)
      exact w_iret C dX6_of_168 h
    have h := ite_f c7 h
    by_cases c8 : a2 = 8
    · have h := ite_t c8 h
      refine w_tabIn C 169 dX6_of_35 c8 rfl (by decide) (by decide) rfl (by decide) ?_
      refine w_aload_n C dX6_of_169 rfl 0 rfl ?_
      refine w_getr C dX6_of_170 flX6_31 gX0_4 ?_
      refine w_iload_n C dX6_of_173 rfl 1 rfl ?_
      refine p_Vi C dX6_of_174 h (fun _ e => mX0_holds e) lnX6_114 mvX0_holds bX34 rfl ⟨Nat.le_of_ble_eq_true rfl, Nat.le_of_ble_eq_true rfl⟩ [] rfl (Nat.le_of_ble_eq_true rfl) (fun v14 h => ?_)
      exact w_iret C dX6_of_177 h
    have h := ite_f c8 h
    refine w_tabOut C 178 dX6_of_35 (by have n0 := lv_neT c0 (a := 0) rfl; have n1 := lv_neT c1 (a := 1) rfl; have n2 := lv_neT c2 (a := 2) rfl; have n3 := lv_neT c3 (a := 3) rfl; have n4 := lv_neT c4 (a := 4) rfl; have n5 := lv_neT c5 (a := 5) rfl; have n6 := lv_neT c6 (a := 6) rfl; have n7 := lv_neT c7 (a := 7) rfl; have n8 := lv_neT c8 (a := 8) rfl; omega) (by decide) ?_
    refine w_aload_n C dX6_of_178 rfl 0 rfl ?_
    refine w_getr C dX6_of_179 flX6_31 gX0_4 ?_
    refine w_iload_n C dX6_of_182 rfl 1 rfl ?_
    refine p_Vi C dX6_of_183 h (fun _ e => mX0_warms e) lnX6_117 mvX0_warms bX34 rfl ⟨Nat.le_of_ble_eq_true rfl, Nat.le_of_ble_eq_true rfl⟩ [] rfl (Nat.le_of_ble_eq_true rfl) (fun v15 h => ?_)
    exact w_iret C dX6_of_186 h
  exact w_sub [0] rfl (hJ21  h))
def fX6_part (S : St) (a1 : Int32) (a2 : Int32) (a3 : Int32) (a4 : Int32) : Option (St × Int32) := bv (fX6_within S a1 (0) (6)) fun v1 => pl (bq (fX6_finding S (0)) fun S2 v3 => some (S2, v3)) fun J42 => if v1 = 0 then (J42) else (bv (fX6_within S a2 (0) (7)) fun v4 => if v4 = 0 then (J42) else (bv (fX6_within S a3 (1) (999)) fun v5 => if v5 = 0 then (J42) else (bv (fX6_within S a4 (0) (99)) fun v6 => if v6 = 0 then (J42) else (if (S.1 1 0) < (20) then (bq (fX4_addPart 1 S a1 a2 a3 a4) fun S7 v8 => some (S7, v8)) else (bq (fX6_finding S (1)) fun S9 v10 => some (S9, v10))))))
set_option maxRecDepth 100000 in
theorem mX6_part {Y : YT} {S : St} {a1 : Int32} {a2 : Int32} {a3 : Int32} {a4 : Int32} {R : St × Int32} (h : fX6_part  S a1 a2 a3 a4 = some R) : Mc VX Y yX6_part cX6_part 5 (some .int) 1 25 [rf Y 0, .int a1, .int a2, .int a3, .int a4] S (some (.int R.2), R.1) :=
  Mc.start [(0, rf Y 0), (1, .int a1), (2, .int a2), (3, .int a3), (4, .int a4)] rfl pnX6 (Nat.le_of_ble_eq_true rfl) (fun X (C : Ok VX Y X RX6 cX6_part 5 (some .int)) => by
  unfold fX6_part at h
  refine w_iload_n C dX6_part_0 rfl 1 rfl ?_
  refine w_iconst (v := 0) C dX6_part_1 (by decide) ?_
  refine w_bipush (v := 6) C dX6_part_2 (by decide) ?_
  refine p_Si C dX6_part_4 h (fun _ e => mX6_within e) lnX6_67 msX6_within rfl ⟨Nat.le_of_ble_eq_true rfl, Nat.le_of_ble_eq_true rfl⟩ [] rfl (Nat.le_of_ble_eq_true rfl) (fun v1 h => ?_)
  refine w_join (fun J42 => J42  = some R → WS VX Y X 5 1 25 (some (.int R.2), R.1) S 42 [(0, rf Y 0)] []) h ?_ (fun J42 hJ42 h => ?_)
  · intro  h
    refine w_aload_n C dX6_part_42 rfl 0 rfl ?_
    refine w_iconst (v := 0) C dX6_part_43 (by decide) ?_
    refine w_Vi C dX6_part_44 h (fun _ e => mX6_finding e) lnX6_71 mvX6_finding bX0 rfl ⟨Nat.le_of_ble_eq_true rfl, Nat.le_of_ble_eq_true rfl⟩ [] rfl (Nat.le_of_ble_eq_true rfl) (fun S2 v3 h => ?_)
    exact w_iret C dX6_part_47 h
  refine w_if_eq C 42 dX6_part_7 (by decide) h (fun h => ?_) (fun h => ?_)
  · exact w_sub [0] rfl (hJ42  h)
  refine w_iload_n C dX6_part_10 rfl 2 rfl ?_
  refine w_iconst (v := 0) C dX6_part_11 (by decide) ?_
  refine w_bipush (v := 7) C dX6_part_12 (by decide) ?_
  refine p_Si C dX6_part_14 h (fun _ e => mX6_within e) lnX6_67 msX6_within rfl ⟨Nat.le_of_ble_eq_true rfl, Nat.le_of_ble_eq_true rfl⟩ [] rfl (Nat.le_of_ble_eq_true rfl) (fun v4 h => ?_)
  refine w_if_eq C 42 dX6_part_17 (by decide) h (fun h => ?_) (fun h => ?_)
  · exact w_sub [0] rfl (hJ42  h)
  refine w_iload_n C dX6_part_20 rfl 3 rfl ?_
  refine w_iconst (v := 1) C dX6_part_21 (by decide) ?_
  refine w_sipush (v := 999) C dX6_part_22 (by decide) ?_
  refine p_Si C dX6_part_25 h (fun _ e => mX6_within e) lnX6_67 msX6_within rfl ⟨Nat.le_of_ble_eq_true rfl, Nat.le_of_ble_eq_true rfl⟩ [] rfl (Nat.le_of_ble_eq_true rfl) (fun v5 h => ?_)
  refine w_if_eq C 42 dX6_part_28 (by decide) h (fun h => ?_) (fun h => ?_)
  · exact w_sub [0] rfl (hJ42  h)
  refine w_iload C dX6_part_31 4 rfl ?_
  refine w_iconst (v := 0) C dX6_part_33 (by decide) ?_
  refine w_bipush (v := 99) C dX6_part_34 (by decide) ?_
  refine p_Si C dX6_part_36 h (fun _ e => mX6_within e) lnX6_67 msX6_within rfl ⟨Nat.le_of_ble_eq_true rfl, Nat.le_of_ble_eq_true rfl⟩ [] rfl (Nat.le_of_ble_eq_true rfl) (fun v6 h => ?_)
  refine w_if_ne C 48 dX6_part_39 (by decide) h (fun h => ?_) (fun h => ?_)
  · refine w_aload_n C dX6_part_48 rfl 0 rfl ?_
    refine w_getr C dX6_part_49 flX6_10 gX0_0 ?_
    refine w_geti C dX6_part_52 flX6_75 iX1_0 ?_
    refine w_bipush (v := 20) C dX6_part_55 (by decide) ?_
    refine w_icmp_lt C 66 dX6_part_57 (by decide) h (fun h => ?_) (fun h => ?_)
    · refine w_aload_n C dX6_part_66 rfl 0 rfl ?_
      refine w_getr C dX6_part_67 flX6_10 gX0_0 ?_
      refine w_iload_n C dX6_part_70 rfl 1 rfl ?_
      refine w_iload_n C dX6_part_71 rfl 2 rfl ?_
      refine w_iload_n C dX6_part_72 rfl 3 rfl ?_
      refine w_iload C dX6_part_73 4 rfl ?_
      refine w_Vi C dX6_part_75 h (fun _ e => mX4_addPart_1 e) lnX6_79 mvX4_addPart bX1 rfl ⟨Nat.le_of_ble_eq_true rfl, Nat.le_of_ble_eq_true rfl⟩ [] rfl (Nat.le_of_ble_eq_true rfl) (fun S7 v8 h => ?_)
      exact w_iret C dX6_part_78 h
    refine w_aload_n C dX6_part_60 rfl 0 rfl ?_
    refine w_iconst (v := 1) C dX6_part_61 (by decide) ?_
    refine w_Vi C dX6_part_62 h (fun _ e => mX6_finding e) lnX6_71 mvX6_finding bX0 rfl ⟨Nat.le_of_ble_eq_true rfl, Nat.le_of_ble_eq_true rfl⟩ [] rfl (Nat.le_of_ble_eq_true rfl) (fun S9 v10 h => ?_)
    exact w_iret C dX6_part_65 h
  exact w_sub [0] rfl (hJ42  h))
