def fX4_hasCamp (b : Nat) (S : St) (a1 : Int32) : Option (Int32) := if a1 < 0 then (some (0)) else (if (S.1 b 11) ≤ a1 then (some (0)) else (some (1)))
set_option maxRecDepth 100000 in
theorem mX4_hasCamp_1 {Y : YT} {S : St} {a1 : Int32} {R : Int32} (h : fX4_hasCamp 1 S a1 = some R) : Mc VX Y yX4_hasCamp cX4_hasCamp 2 (some .boolean) 0 0 [rf Y 1, .int a1] S (some (.int R), S) :=
  Mc.start [(0, rf Y 1), (1, .int a1)] rfl pnX4 (Nat.le_of_ble_eq_true rfl) (fun X (C : Ok VX Y X RX4 cX4_hasCamp 2 (some .boolean)) => by
  unfold fX4_hasCamp at h
  refine w_iload_n C dX4_hasCamp_0 rfl 1 rfl ?_
  refine w_if_lt C 16 dX4_hasCamp_1 (by decide) h (fun h => ?_) (fun h => ?_)
  · refine w_iconst (v := 0) C dX4_hasCamp_16 (by decide) ?_
    exact p_zret0 C dX4_hasCamp_17 rfl h
  refine w_iload_n C dX4_hasCamp_4 rfl 1 rfl ?_
  refine w_aload_n C dX4_hasCamp_5 rfl 0 rfl ?_
  refine w_geti C dX4_hasCamp_6 flX4_61 iX1_11 ?_
  refine w_icmp_ge C 16 dX4_hasCamp_9 (by decide) h (fun h => ?_) (fun h => ?_)
  · refine w_iconst (v := 0) C dX4_hasCamp_16 (by decide) ?_
    exact p_zret0 C dX4_hasCamp_17 rfl h
  refine w_iconst (v := 1) C dX4_hasCamp_12 (by decide) ?_
  refine w_goto C 17 dX4_hasCamp_13 (by decide) ?_
  exact p_zret0 C dX4_hasCamp_17 rfl h)
def fX6_lays_L47 (a2 : Int32) (s3 : Nat) : Nat → St → Int32 → Int32 → Option (St × Int32)
  | 0, _, _, _ => none
  | G47 + 1, S4, v5, v6 => if (12) ≤ v6 then (some (S4, v5)) else (if (S4.1 (47 + s3) 1) ≤ v6 then (some (S4, v5)) else (ldj S4 (51 + s3) v6 40 fun u7 => pl (fun (S8 : St) (v9 : Int32) => pl (v6 + 1) fun v10 => fX6_lays_L47 a2 s3 G47 S8 v9 v10) fun J111 => if (lg_cmp u7 (0)) < 0 then (J111 S4 v5) else (if 0 < (lg_cmp u7 (999)) then (J111 S4 v5) else (sti S4 10 ((a2 * (12)) + v6) 72 (Int64.toInt32 u7) fun S11 => pl (v5 + 1) fun v12 => J111 S11 v12))))
def fX6_lays (F : Nat) (S : St) (a1 : Int32) (a2 : Int32) : Option (St × Int32) := bv (fX6_sheetTrouble S a1) fun v1 => if v1 < 0 then (bv (fX4_hasCamp 1 S a2) fun v2 => if v2 = 0 then (bq (fX6_finding S (0)) fun S13 v14 => some (S13, v14)) else (lds a1 fun s3 => fX6_lays_L47 a2 s3 F S (0) (0))) else (bq (fX6_finding S v1) fun S15 v16 => some (S15, v16))
set_option maxRecDepth 100000 in
theorem mX6_lays {Y : YT} {F : Nat} {S : St} {a1 : Int32} {a2 : Int32} {R : St × Int32} (h : fX6_lays F S a1 a2 = some R) : Mc VX Y yX6_lays cX6_lays 9 (some .int) 2 43 [rf Y 0, .int a1, .int a2] S (some (.int R.2), R.1) :=
  Mc.start [(0, rf Y 0), (1, .int a1), (2, .int a2)] rfl pnX6 (Nat.le_of_ble_eq_true rfl) (fun X (C : Ok VX Y X RX6 cX6_lays 9 (some .int)) => by
  unfold fX6_lays at h
  refine w_aload_n C dX6_lays_0 rfl 0 rfl ?_
  refine w_iload_n C dX6_lays_1 rfl 1 rfl ?_
  refine p_Vi C dX6_lays_2 h (fun _ e => mX6_sheetTrouble e) lnX6_265 mvX6_sheetTrouble bX0 rfl ⟨Nat.le_of_ble_eq_true rfl, Nat.le_of_ble_eq_true rfl⟩ [] rfl (Nat.le_of_ble_eq_true rfl) (fun v1 h => ?_)
  refine w_istore_n C dX6_lays_5 rfl (by decide) [(3, .int v1), (0, rf Y 0), (1, .int a1), (2, .int a2)] rfl ?_
  refine w_iload_n C dX6_lays_6 rfl 0 rfl ?_
  refine w_if_lt C 16 dX6_lays_7 (by decide) h (fun h => ?_) (fun h => ?_)
  · refine w_aload_n C dX6_lays_16 rfl 1 rfl ?_
    refine w_getr C dX6_lays_17 flX6_10 gX0_0 ?_
    refine w_iload_n C dX6_lays_20 rfl 3 rfl ?_
    refine p_Vi C dX6_lays_21 h (fun _ e => mX4_hasCamp_1 e) lnX6_218 mvX4_hasCamp bX1 rfl ⟨Nat.le_of_ble_eq_true rfl, Nat.le_of_ble_eq_true rfl⟩ [] rfl (Nat.le_of_ble_eq_true rfl) (fun v2 h => ?_)
    refine w_if_ne C 33 dX6_lays_24 (by decide) h (fun h => ?_) (fun h => ?_)
    · refine w_aload_n C dX6_lays_33 rfl 1 rfl ?_
      refine w_getr C dX6_lays_34 flX6_58 gX0_8 ?_
      refine w_iload_n C dX6_lays_37 rfl 2 rfl ?_
      refine x_aald C dX6_lays_38 h (fun s3 hs3 h => ?_)
      refine w_astore C dX6_lays_39 (by decide) [(4, rf Y (47 + s3)), (3, .int v1), (0, rf Y 0), (1, .int a1), (2, .int a2)] rfl ?_
      refine w_iconst (v := 0) C dX6_lays_41 (by decide) ?_
      refine w_istore C dX6_lays_42 (by decide) [(5, .int (0)), (4, rf Y (47 + s3)), (3, .int v1), (0, rf Y 0), (1, .int a1), (2, .int a2)] rfl ?_
      refine w_iconst (v := 0) C dX6_lays_44 (by decide) ?_
      refine w_istore C dX6_lays_45 (by decide) [(6, .int (0)), (5, .int (0)), (4, rf Y (47 + s3)), (3, .int v1), (0, rf Y 0), (1, .int a1), (2, .int a2)] rfl ?_
      have hL47 : ∀ (G47 : Nat) (S4 : St) (v5 : Int32) (v6 : Int32), fX6_lays_L47 a2 s3 G47 S4 v5 v6 = some R → WS VX Y X 9 2 43 (some (.int R.2), R.1) S4 47 [(0, rf Y 0), (2, .int a2), (4, rf Y (47 + s3)), (5, .int v5), (6, .int v6)] [] := by
        intro G47
        induction G47 with
        | zero => intro S4 v5 v6 h; exact nomatch (show (none : Option (St × Int32)) = some R from h)
        | succ G47 ih =>
          intro S4 v5 v6 h
          rw [fX6_lays_L47] at h
          refine w_iload C dX6_lays_47 4 rfl ?_
          refine w_bipush (v := 12) C dX6_lays_49 (by decide) ?_
          refine w_icmp_ge C 117 dX6_lays_51 (by decide) h (fun h => ?_) (fun h => ?_)
          · refine w_iload C dX6_lays_117 3 rfl ?_
            exact w_iret C dX6_lays_119 h
          refine w_iload C dX6_lays_54 4 rfl ?_
          refine w_aload C dX6_lays_56 2 rfl ?_
          refine w_geti C dX6_lays_58 flX6_264 (iXso_1 hs3) ?_
          refine w_icmp_ge C 117 dX6_lays_61 (by decide) h (fun h => ?_) (fun h => ?_)
          · refine w_iload C dX6_lays_117 3 rfl ?_
            exact w_iret C dX6_lays_119 h
          refine w_aload C dX6_lays_64 2 rfl ?_
          refine w_getr C dX6_lays_66 flX6_268 (gXso_2 hs3) ?_
          refine w_iload C dX6_lays_69 4 rfl ?_
          refine x_lald C dX6_lays_71 (aXsn hs3) h (fun u7 h => ?_)
          refine w_lstore C dX6_lays_72 (by decide) [(7, .long u7), (0, rf Y 0), (2, .int a2), (4, rf Y (47 + s3)), (5, .int v5), (6, .int v6)] rfl ?_
          refine w_lload C dX6_lays_74 0 rfl ?_
          refine w_lconst (v := 0) C dX6_lays_76 (by decide) ?_
          refine w_lcmp C dX6_lays_77 ?_
          refine w_join (fun J111 => ∀ (S8 : St) (v9 : Int32), J111 S8 v9 = some R → WS VX Y X 9 2 43 (some (.int R.2), R.1) S8 111 [(0, rf Y 0), (2, .int a2), (4, rf Y (47 + s3)), (5, .int v9), (6, .int v6)] []) h ?_ (fun J111 hJ111 h => ?_)
          · intro S8 v9 h
            refine x_iinc C dX6_lays_111 4 rfl 1 (by decide) h (by decide) (fun v10 => [(6, .int v10), (0, rf Y 0), (2, .int a2), (4, rf Y (47 + s3)), (5, .int v9)]) (fun _ => rfl) (fun v10 h => ?_)
            refine w_goto C 47 dX6_lays_114 (by decide) ?_
            exact w_sub [1, 2, 3, 4, 0] rfl (ih _ _ _ h)
          refine w_if_lt C 111 dX6_lays_78 (by decide) h (fun h => ?_) (fun h => ?_)
          · exact w_sub [1, 2, 3, 4, 5] rfl (hJ111 _ _ h)
          refine w_lload C dX6_lays_81 0 rfl ?_
          refine w_ldc2 C dX6_lays_83 klX6_291 ?_
          refine w_lcmp C dX6_lays_86 ?_
          refine w_if_gt C 111 dX6_lays_87 (by decide) h (fun h => ?_) (fun h => ?_)
          · exact w_sub [1, 2, 3, 4, 5] rfl (hJ111 _ _ h)
          refine w_aload_n C dX6_lays_90 rfl 1 rfl ?_
          refine w_getr C dX6_lays_91 flX6_10 gX0_0 ?_
          refine w_getr C dX6_lays_94 flX6_221 gX1_13 ?_
          refine w_iload_n C dX6_lays_97 rfl 2 rfl ?_
          refine w_bipush (v := 12) C dX6_lays_98 (by decide) ?_
          refine w_imul C dX6_lays_100 ?_
          refine w_iload C dX6_lays_101 5 rfl ?_
          refine w_iadd C dX6_lays_103 ?_
          refine w_lload C dX6_lays_104 0 rfl ?_
          refine w_l2i C dX6_lays_106 ?_
          refine x_iast C dX6_lays_107 aX10 h (fun S11 h => ?_)
          refine x_iinc C dX6_lays_108 4 rfl 1 (by decide) h (by decide) (fun v12 => [(5, .int v12), (7, .long u7), (0, rf Y 0), (2, .int a2), (4, rf Y (47 + s3)), (6, .int v6)]) (fun _ => rfl) (fun v12 h => ?_)
          exact w_sub [2, 3, 4, 0, 5] rfl (hJ111 _ _ h)
      exact w_sub [4, 6, 2, 1, 0] rfl (hL47 _ _ _ _ h)
    refine w_aload_n C dX6_lays_27 rfl 1 rfl ?_
    refine w_iconst (v := 0) C dX6_lays_28 (by decide) ?_
    refine w_Vi C dX6_lays_29 h (fun _ e => mX6_finding e) lnX6_71 mvX6_finding bX0 rfl ⟨Nat.le_of_ble_eq_true rfl, Nat.le_of_ble_eq_true rfl⟩ [] rfl (Nat.le_of_ble_eq_true rfl) (fun S13 v14 h => ?_)
    exact w_iret C dX6_lays_32 h
  refine w_aload_n C dX6_lays_10 rfl 1 rfl ?_
  refine w_iload_n C dX6_lays_11 rfl 0 rfl ?_
  refine w_Vi C dX6_lays_12 h (fun _ e => mX6_finding e) lnX6_71 mvX6_finding bX0 rfl ⟨Nat.le_of_ble_eq_true rfl, Nat.le_of_ble_eq_true rfl⟩ [] rfl (Nat.le_of_ble_eq_true rfl) (fun S15 v16 h => ?_)
  exact w_iret C dX6_lays_15 h)
def fX3_hasRange (s : Nat) (S : St) (a1 : Int32) (a2 : Int32) : Option (Int32) := if a1 < 0 then (some (0)) else (if a2 < 0 then (some (0)) else (if (S.1 (47 + s) 1) < a1 then (some (0)) else (if ((S.1 (47 + s) 1) - a1) < a2 then (some (0)) else (some (1)))))
set_option maxRecDepth 100000 in
theorem mX3_hasRange {Y : YT} {s : Nat} {S : St} {a1 : Int32} {a2 : Int32} {R : Int32} (hs : s < 4) (h : fX3_hasRange s S a1 a2 = some R) : Mc VX Y yX3_hasRange cX3_hasRange 3 (some .boolean) 0 0 [rf Y (47 + s), .int a1, .int a2] S (some (.int R), S) :=
  Mc.start [(0, rf Y (47 + s)), (1, .int a1), (2, .int a2)] rfl pnX3 (Nat.le_of_ble_eq_true rfl) (fun X (C : Ok VX Y X RX3 cX3_hasRange 3 (some .boolean)) => by
  unfold fX3_hasRange at h
  refine w_iload_n C dX3_hasRange_0 rfl 1 rfl ?_
  refine w_if_lt C 30 dX3_hasRange_1 (by decide) h (fun h => ?_) (fun h => ?_)
  · refine w_iconst (v := 0) C dX3_hasRange_30 (by decide) ?_
    exact p_zret0 C dX3_hasRange_31 rfl h
  refine w_iload_n C dX3_hasRange_4 rfl 2 rfl ?_
  refine w_if_lt C 30 dX3_hasRange_5 (by decide) h (fun h => ?_) (fun h => ?_)
  · refine w_iconst (v := 0) C dX3_hasRange_30 (by decide) ?_
    exact p_zret0 C dX3_hasRange_31 rfl h
  refine w_iload_n C dX3_hasRange_8 rfl 1 rfl ?_
  refine w_aload_n C dX3_hasRange_9 rfl 0 rfl ?_
  refine w_geti C dX3_hasRange_10 flX3_19 (iXso_1 hs) ?_
  refine w_icmp_gt C 30 dX3_hasRange_13 (by decide) h (fun h => ?_) (fun h => ?_)
  · refine w_iconst (v := 0) C dX3_hasRange_30 (by decide) ?_
    exact p_zret0 C dX3_hasRange_31 rfl h
  refine w_iload_n C dX3_hasRange_16 rfl 2 rfl ?_
  refine w_aload_n C dX3_hasRange_17 rfl 0 rfl ?_
  refine w_geti C dX3_hasRange_18 flX3_19 (iXso_1 hs) ?_
  refine w_iload_n C dX3_hasRange_21 rfl 1 rfl ?_
  refine w_isub C dX3_hasRange_22 ?_
  refine w_icmp_gt C 30 dX3_hasRange_23 (by decide) h (fun h => ?_) (fun h => ?_)
  · refine w_iconst (v := 0) C dX3_hasRange_30 (by decide) ?_
    exact p_zret0 C dX3_hasRange_31 rfl h
  refine w_iconst (v := 1) C dX3_hasRange_26 (by decide) ?_
  refine w_goto C 31 dX3_hasRange_27 (by decide) ?_
  exact p_zret0 C dX3_hasRange_31 rfl h)
def fX6_copy (S : St) (a1 : Int32) (a2 : Int32) (a3 : Int32) (a4 : Int32) (a5 : Int32) : Option (St × Int32) := bv (fX6_within S a1 (0) (3)) fun v1 => pl (bq (fX6_finding S (0)) fun S2 v3 => some (S2, v3)) fun J18 => if v1 = 0 then (J18) else (bv (fX6_within S a3 (0) (3)) fun v4 => if v4 = 0 then (J18) else (lds a1 fun s5 => lds a3 fun s6 => bv (fX3_isMissing s5 S) fun v7 => pl (bq (fX6_finding S (5)) fun S8 v9 => some (S8, v9)) fun J56 => if v7 = 0 then (bv (fX3_isMissing s6 S) fun v10 => if v10 = 0 then (if (S.1 (47 + s5) 0) = (S.1 (47 + s6) 0) then (bv (fX3_hasRange s5 S a2 a5) fun v11 => pl (bq (fX6_finding S (0)) fun S12 v13 => some (S12, v13)) fun J104 => if v11 = 0 then (J104) else (bv (fX3_hasRange s6 S a4 a5) fun v14 => if v14 = 0 then (J104) else (cpj S (51 + s5) 40 (51 + s6) 40 a2 a4 a5 fun S15 => some (S15, a5)))) else (bq (fX6_finding S (2)) fun S16 v17 => some (S16, v17))) else (J56)) else (J56)))
set_option maxRecDepth 100000 in
theorem mX6_copy {Y : YT} {S : St} {a1 : Int32} {a2 : Int32} {a3 : Int32} {a4 : Int32} {a5 : Int32} {R : St × Int32} (h : fX6_copy  S a1 a2 a3 a4 a5 = some R) : Mc VX Y yX6_copy cX6_copy 8 (some .int) 1 60 [rf Y 0, .int a1, .int a2, .int a3, .int a4, .int a5] S (some (.int R.2), R.1) :=
  Mc.start [(0, rf Y 0), (1, .int a1), (2, .int a2), (3, .int a3), (4, .int a4), (5, .int a5)] rfl pnX6 (Nat.le_of_ble_eq_true rfl) (fun X (C : Ok VX Y X RX6 cX6_copy 8 (some .int)) => by
  unfold fX6_copy at h
  refine w_iload_n C dX6_copy_0 rfl 1 rfl ?_
  refine w_iconst (v := 0) C dX6_copy_1 (by decide) ?_
  refine w_iconst (v := 3) C dX6_copy_2 (by decide) ?_
  refine p_Si C dX6_copy_3 h (fun _ e => mX6_within e) lnX6_67 msX6_within rfl ⟨Nat.le_of_ble_eq_true rfl, Nat.le_of_ble_eq_true rfl⟩ [] rfl (Nat.le_of_ble_eq_true rfl) (fun v1 h => ?_)
  refine w_join (fun J18 => J18  = some R → WS VX Y X 8 1 60 (some (.int R.2), R.1) S 18 [(0, rf Y 0)] []) h ?_ (fun J18 hJ18 h => ?_)
  · intro  h
    refine w_aload_n C dX6_copy_18 rfl 0 rfl ?_
    refine w_iconst (v := 0) C dX6_copy_19 (by decide) ?_
    refine w_Vi C dX6_copy_20 h (fun _ e => mX6_finding e) lnX6_71 mvX6_finding bX0 rfl ⟨Nat.le_of_ble_eq_true rfl, Nat.le_of_ble_eq_true rfl⟩ [] rfl (Nat.le_of_ble_eq_true rfl) (fun S2 v3 h => ?_)
    exact w_iret C dX6_copy_23 h
  refine w_if_eq C 18 dX6_copy_6 (by decide) h (fun h => ?_) (fun h => ?_)
  · exact w_sub [0] rfl (hJ18  h)
  refine w_iload_n C dX6_copy_9 rfl 3 rfl ?_
  refine w_iconst (v := 0) C dX6_copy_10 (by decide) ?_
  refine w_iconst (v := 3) C dX6_copy_11 (by decide) ?_
  refine p_Si C dX6_copy_12 h (fun _ e => mX6_within e) lnX6_67 msX6_within rfl ⟨Nat.le_of_ble_eq_true rfl, Nat.le_of_ble_eq_true rfl⟩ [] rfl (Nat.le_of_ble_eq_true rfl) (fun v4 h => ?_)
  refine w_if_ne C 24 dX6_copy_15 (by decide) h (fun h => ?_) (fun h => ?_)
  · refine w_aload_n C dX6_copy_24 rfl 0 rfl ?_
    refine w_getr C dX6_copy_25 flX6_58 gX0_8 ?_
    refine w_iload_n C dX6_copy_28 rfl 1 rfl ?_
    refine x_aald C dX6_copy_29 h (fun s5 hs5 h => ?_)
    refine w_astore C dX6_copy_30 (by decide) [(6, rf Y (47 + s5)), (0, rf Y 0), (1, .int a1), (2, .int a2), (3, .int a3), (4, .int a4), (5, .int a5)] rfl ?_
    refine w_aload_n C dX6_copy_32 rfl 1 rfl ?_
    refine w_getr C dX6_copy_33 flX6_58 gX0_8 ?_
    refine w_iload_n C dX6_copy_36 rfl 4 rfl ?_
    refine x_aald C dX6_copy_37 h (fun s6 hs6 h => ?_)
    refine w_astore C dX6_copy_38 (by decide) [(7, rf Y (47 + s6)), (6, rf Y (47 + s5)), (0, rf Y 0), (1, .int a1), (2, .int a2), (3, .int a3), (4, .int a4), (5, .int a5)] rfl ?_
    refine w_aload C dX6_copy_40 1 rfl ?_
    refine p_Vi C dX6_copy_42 h (fun _ e => mX3_isMissing hs5 e) lnX6_276 mvX3_isMissing (bXso hs5) rfl ⟨Nat.le_of_ble_eq_true rfl, Nat.le_of_ble_eq_true rfl⟩ [] rfl (Nat.le_of_ble_eq_true rfl) (fun v7 h => ?_)
    refine w_join (fun J56 => J56  = some R → WS VX Y X 8 1 60 (some (.int R.2), R.1) S 56 [(0, rf Y 0)] []) h ?_ (fun J56 hJ56 h => ?_)
    · intro  h
      refine w_aload_n C dX6_copy_56 rfl 0 rfl ?_
      refine w_iconst (v := 5) C dX6_copy_57 (by decide) ?_
      refine w_Vi C dX6_copy_58 h (fun _ e => mX6_finding e) lnX6_71 mvX6_finding bX0 rfl ⟨Nat.le_of_ble_eq_true rfl, Nat.le_of_ble_eq_true rfl⟩ [] rfl (Nat.le_of_ble_eq_true rfl) (fun S8 v9 h => ?_)
      exact w_iret C dX6_copy_61 h
    refine w_if_ne C 56 dX6_copy_45 (by decide) h (fun h => ?_) (fun h => ?_)
    · exact w_sub [2] rfl (hJ56  h)
    refine w_aload C dX6_copy_48 0 rfl ?_
    refine p_Vi C dX6_copy_50 h (fun _ e => mX3_isMissing hs6 e) lnX6_276 mvX3_isMissing (bXso hs6) rfl ⟨Nat.le_of_ble_eq_true rfl, Nat.le_of_ble_eq_true rfl⟩ [] rfl (Nat.le_of_ble_eq_true rfl) (fun v10 h => ?_)
    refine w_if_eq C 62 dX6_copy_53 (by decide) h (fun h => ?_) (fun h => ?_)
    · refine w_aload C dX6_copy_62 1 rfl ?_
      refine w_geti C dX6_copy_64 flX6_279 (iXso_0 hs5) ?_
      refine w_aload C dX6_copy_67 0 rfl ?_
      refine w_geti C dX6_copy_69 flX6_279 (iXso_0 hs6) ?_
      refine w_icmp_eq C 81 dX6_copy_72 (by decide) h (fun h => ?_) (fun h => ?_)
      · refine w_aload C dX6_copy_81 1 rfl ?_
        refine w_iload_n C dX6_copy_83 rfl 4 rfl ?_
        refine w_iload C dX6_copy_84 7 rfl ?_
        refine p_Vi C dX6_copy_86 h (fun _ e => mX3_hasRange hs5 e) lnX6_282 mvX3_hasRange (bXso hs5) rfl ⟨Nat.le_of_ble_eq_true rfl, Nat.le_of_ble_eq_true rfl⟩ [] rfl (Nat.le_of_ble_eq_true rfl) (fun v11 h => ?_)
        refine w_join (fun J104 => J104  = some R → WS VX Y X 8 1 60 (some (.int R.2), R.1) S 104 [(0, rf Y 0)] []) h ?_ (fun J104 hJ104 h => ?_)
        · intro  h
          refine w_aload_n C dX6_copy_104 rfl 0 rfl ?_
          refine w_iconst (v := 0) C dX6_copy_105 (by decide) ?_
          refine w_Vi C dX6_copy_106 h (fun _ e => mX6_finding e) lnX6_71 mvX6_finding bX0 rfl ⟨Nat.le_of_ble_eq_true rfl, Nat.le_of_ble_eq_true rfl⟩ [] rfl (Nat.le_of_ble_eq_true rfl) (fun S12 v13 h => ?_)
          exact w_iret C dX6_copy_109 h
        refine w_if_eq C 104 dX6_copy_89 (by decide) h (fun h => ?_) (fun h => ?_)
        · exact w_sub [2] rfl (hJ104  h)
        refine w_aload C dX6_copy_92 0 rfl ?_
        refine w_iload C dX6_copy_94 6 rfl ?_
        refine w_iload C dX6_copy_96 7 rfl ?_
        refine p_Vi C dX6_copy_98 h (fun _ e => mX3_hasRange hs6 e) lnX6_282 mvX3_hasRange (bXso hs6) rfl ⟨Nat.le_of_ble_eq_true rfl, Nat.le_of_ble_eq_true rfl⟩ [] rfl (Nat.le_of_ble_eq_true rfl) (fun v14 h => ?_)
        refine w_if_ne C 110 dX6_copy_101 (by decide) h (fun h => ?_) (fun h => ?_)
        · refine w_aload C dX6_copy_110 1 rfl ?_
          refine w_getr C dX6_copy_112 flX6_268 (gXso_2 hs5) ?_
          refine w_iload_n C dX6_copy_115 rfl 4 rfl ?_
          refine w_aload C dX6_copy_116 0 rfl ?_
          refine w_getr C dX6_copy_118 flX6_268 (gXso_2 hs6) ?_
          refine w_iload C dX6_copy_121 6 rfl ?_
          refine w_iload C dX6_copy_123 7 rfl ?_
          refine x_copyj C dX6_copy_125 acX6_285 (aXsn hs5) (aXsn hs6) (Nat.le_of_ble_eq_true rfl) (Nat.le_of_ble_eq_true rfl) h (fun S15 h => ?_)
          refine w_iload C dX6_copy_128 7 rfl ?_
          exact w_iret C dX6_copy_130 h
        exact w_sub [2] rfl (hJ104  h)
      refine w_aload_n C dX6_copy_75 rfl 2 rfl ?_
      refine w_iconst (v := 2) C dX6_copy_76 (by decide) ?_
      refine w_Vi C dX6_copy_77 h (fun _ e => mX6_finding e) lnX6_71 mvX6_finding bX0 rfl ⟨Nat.le_of_ble_eq_true rfl, Nat.le_of_ble_eq_true rfl⟩ [] rfl (Nat.le_of_ble_eq_true rfl) (fun S16 v17 h => ?_)
      exact w_iret C dX6_copy_80 h
    exact w_sub [2] rfl (hJ56  h)
  exact w_sub [0] rfl (hJ18  h))
def fX3_narrowed (s : Nat) (S : St) (a1 : Int64) : Option (Int64) := if (S.1 (47 + s) 0) = (8) then (some (Int32.toInt64 ((Int32.toInt8 (Int64.toInt32 a1)).toInt32))) else (if (S.1 (47 + s) 0) = (16) then (some (Int32.toInt64 ((Int32.toInt16 (Int64.toInt32 a1)).toInt32))) else (some a1))
set_option maxRecDepth 100000 in
theorem mX3_narrowed {Y : YT} {s : Nat} {S : St} {a1 : Int64} {R : Int64} (hs : s < 4) (h : fX3_narrowed s S a1 = some R) : Mc VX Y yX3_narrowed cX3_narrowed 3 (some .long) 0 0 [rf Y (47 + s), .long a1] S (some (.long R), S) :=
  Mc.start [(0, rf Y (47 + s)), (1, .long a1)] rfl pnX3 (Nat.le_of_ble_eq_true rfl) (fun X (C : Ok VX Y X RX3 cX3_narrowed 3 (some .long)) => by
  unfold fX3_narrowed at h
  refine w_aload_n C dX3_narrowed_0 rfl 0 rfl ?_
  refine w_geti C dX3_narrowed_1 flX3_15 (iXso_0 hs) ?_
  refine w_bipush (v := 8) C dX3_narrowed_4 (by decide) ?_
  refine w_icmp_ne C 14 dX3_narrowed_6 (by decide) h (fun h => ?_) (fun h => ?_)
  · refine w_aload_n C dX3_narrowed_14 rfl 0 rfl ?_
    refine w_geti C dX3_narrowed_15 flX3_15 (iXso_0 hs) ?_
    refine w_bipush (v := 16) C dX3_narrowed_18 (by decide) ?_
    refine w_icmp_ne C 30 dX3_narrowed_20 (by decide) h (fun h => ?_) (fun h => ?_)
    · refine w_lload_n C dX3_narrowed_30 rfl 1 rfl ?_
      exact p_lret C dX3_narrowed_31 h
    refine w_lload_n C dX3_narrowed_23 rfl 1 rfl ?_
    refine w_l2i C dX3_narrowed_24 ?_
    refine w_i2s C dX3_narrowed_25 ?_
    refine w_i2l C dX3_narrowed_26 ?_
    refine w_goto C 31 dX3_narrowed_27 (by decide) ?_
    exact p_lret C dX3_narrowed_31 h
  refine w_lload_n C dX3_narrowed_9 rfl 1 rfl ?_
  refine w_l2i C dX3_narrowed_10 ?_
  refine w_i2b C dX3_narrowed_11 ?_
  refine w_i2l C dX3_narrowed_12 ?_
  exact p_lret C dX3_narrowed_13 h)
def fX6_write (S : St) (a1 : Int32) (a2 : Int32) (a3 : Int64) : Option (St × Int64) := bv (fX6_sheetTrouble S a1) fun v1 => if v1 < 0 then (lds a1 fun s2 => bv (fX6_within S a2 (0) ((S.1 (47 + s2) 1) - (1))) fun v3 => if v3 = 0 then (bq (fX6_finding S (0)) fun S10 v11 => some (S10, (Int32.toInt64 v11))) else (lds a1 fun s4 => ldj S (51 + s4) a2 40 fun u5 => lds a1 fun s6 => lds a1 fun s7 => bv (fX3_narrowed s7 S a3) fun u8 => stj S (51 + s6) a2 40 u8 fun S9 => some (S9, u5))) else (bq (fX6_finding S v1) fun S12 v13 => some (S12, (Int32.toInt64 v13)))
set_option maxRecDepth 100000 in
theorem mX6_write {Y : YT} {S : St} {a1 : Int32} {a2 : Int32} {a3 : Int64} {R : St × Int64} (h : fX6_write  S a1 a2 a3 = some R) : Mc VX Y yX6_write cX6_write 8 (some .long) 2 43 [rf Y 0, .int a1, .int a2, .long a3] S (some (.long R.2), R.1) :=
  Mc.start [(0, rf Y 0), (1, .int a1), (2, .int a2), (3, .long a3)] rfl pnX6 (Nat.le_of_ble_eq_true rfl) (fun X (C : Ok VX Y X RX6 cX6_write 8 (some .long)) => by
  unfold fX6_write at h
  refine w_aload_n C dX6_write_0 rfl 0 rfl ?_
  refine w_iload_n C dX6_write_1 rfl 1 rfl ?_
  refine p_Vi C dX6_write_2 h (fun _ e => mX6_sheetTrouble e) lnX6_265 mvX6_sheetTrouble bX0 rfl ⟨Nat.le_of_ble_eq_true rfl, Nat.le_of_ble_eq_true rfl⟩ [] rfl (Nat.le_of_ble_eq_true rfl) (fun v1 h => ?_)
  refine w_istore C dX6_write_5 (by decide) [(5, .int v1), (0, rf Y 0), (1, .int a1), (2, .int a2), (3, .long a3)] rfl ?_
  refine w_iload C dX6_write_7 0 rfl ?_
  refine w_if_lt C 20 dX6_write_9 (by decide) h (fun h => ?_) (fun h => ?_)
  · refine w_iload_n C dX6_write_20 rfl 3 rfl ?_
    refine w_iconst (v := 0) C dX6_write_21 (by decide) ?_
    refine w_aload_n C dX6_write_22 rfl 1 rfl ?_
    refine w_getr C dX6_write_23 flX6_58 gX0_8 ?_
    refine w_iload_n C dX6_write_26 rfl 2 rfl ?_
    refine x_aald C dX6_write_27 h (fun s2 hs2 h => ?_)
    refine w_geti C dX6_write_28 flX6_264 (iXso_1 hs2) ?_
    refine w_iconst (v := 1) C dX6_write_31 (by decide) ?_
    refine w_isub C dX6_write_32 ?_
    refine p_Si C dX6_write_33 h (fun _ e => mX6_within e) lnX6_67 msX6_within rfl ⟨Nat.le_of_ble_eq_true rfl, Nat.le_of_ble_eq_true rfl⟩ [] rfl (Nat.le_of_ble_eq_true rfl) (fun v3 h => ?_)
    refine w_if_ne C 46 dX6_write_36 (by decide) h (fun h => ?_) (fun h => ?_)
    · refine w_aload_n C dX6_write_46 rfl 1 rfl ?_
      refine w_getr C dX6_write_47 flX6_58 gX0_8 ?_
      refine w_iload_n C dX6_write_50 rfl 2 rfl ?_
      refine x_aald C dX6_write_51 h (fun s4 hs4 h => ?_)
      refine w_getr C dX6_write_52 flX6_268 (gXso_2 hs4) ?_
      refine w_iload_n C dX6_write_55 rfl 3 rfl ?_
      refine x_lald C dX6_write_56 (aXsn hs4) h (fun u5 h => ?_)
      refine w_lstore C dX6_write_57 (by decide) [(6, .long u5), (5, .int v1), (0, rf Y 0), (1, .int a1), (2, .int a2), (3, .long a3)] rfl ?_
      refine w_aload_n C dX6_write_59 rfl 2 rfl ?_
      refine w_getr C dX6_write_60 flX6_58 gX0_8 ?_
      refine w_iload_n C dX6_write_63 rfl 3 rfl ?_
      refine x_aald C dX6_write_64 h (fun s6 hs6 h => ?_)
      refine w_getr C dX6_write_65 flX6_268 (gXso_2 hs6) ?_
      refine w_iload_n C dX6_write_68 rfl 4 rfl ?_
      refine w_aload_n C dX6_write_69 rfl 2 rfl ?_
      refine w_getr C dX6_write_70 flX6_58 gX0_8 ?_
      refine w_iload_n C dX6_write_73 rfl 3 rfl ?_
      refine x_aald C dX6_write_74 h (fun s7 hs7 h => ?_)
      refine w_lload_n C dX6_write_75 rfl 5 rfl ?_
      refine p_Vl C dX6_write_76 h (fun _ e => mX3_narrowed hs7 e) lnX6_272 mvX3_narrowed (bXso hs7) rfl ⟨Nat.le_of_ble_eq_true rfl, Nat.le_of_ble_eq_true rfl⟩ [.int a2, rf Y (51 + s6)] rfl (Nat.le_of_ble_eq_true rfl) (fun u8 h => ?_)
      refine x_last C dX6_write_79 (aXsn hs6) h (fun S9 h => ?_)
      refine w_lload C dX6_write_80 0 rfl ?_
      exact w_lret C dX6_write_82 h
    refine w_aload_n C dX6_write_39 rfl 1 rfl ?_
    refine w_iconst (v := 0) C dX6_write_40 (by decide) ?_
    refine w_Vi C dX6_write_41 h (fun _ e => mX6_finding e) lnX6_71 mvX6_finding bX0 rfl ⟨Nat.le_of_ble_eq_true rfl, Nat.le_of_ble_eq_true rfl⟩ [] rfl (Nat.le_of_ble_eq_true rfl) (fun S10 v11 h => ?_)
    refine w_i2l C dX6_write_44 ?_
    exact w_lret C dX6_write_45 h
  refine w_aload_n C dX6_write_12 rfl 1 rfl ?_
  refine w_iload C dX6_write_13 0 rfl ?_
  refine w_Vi C dX6_write_15 h (fun _ e => mX6_finding e) lnX6_71 mvX6_finding bX0 rfl ⟨Nat.le_of_ble_eq_true rfl, Nat.le_of_ble_eq_true rfl⟩ [] rfl (Nat.le_of_ble_eq_true rfl) (fun S12 v13 h => ?_)
  refine w_i2l C dX6_write_18 ?_
  exact w_lret C dX6_write_19 h)
def fJ7_fill_d0a16_L6 (s : Nat) (a2 : Int64) (v1 : Int32) : Nat → St → Int32 → Option (St)
  | 0, _, _ => none
  | G6 + 1, S2, v3 => if v1 ≤ v3 then (some S2) else (stj S2 (51 + s) v3 40 a2 fun S4 => pl (v3 + 1) fun v5 => fJ7_fill_d0a16_L6 s a2 v1 G6 S4 v5)
def fJ7_fill_d0a16 (F : Nat) (s : Nat) (S : St) (a2 : Int64) : Option (St) := pl ((Int32.ofNat 40)) fun v1 => fJ7_fill_d0a16_L6 s a2 v1 F S (0)
set_option maxRecDepth 100000 in
theorem mJ7_fill_d0a16 {Y : YT} {F : Nat} {s : Nat} {S : St} {a2 : Int64} {R : St} (hs : s < 4) (h : fJ7_fill_d0a16 F s S a2 = some R) : Mc VX Y yJ7_fill_d0a16 cJ7_fill_d0a16 5 none 0 0 [rf Y (51 + s), .long a2] S (none, R) :=
  Mc.start [(0, rf Y (51 + s)), (1, .long a2)] rfl pnJ7 (Nat.le_of_ble_eq_true rfl) (fun X (C : Ok VX Y X RJ7 cJ7_fill_d0a16 5 none) => by
  unfold fJ7_fill_d0a16 at h
  refine w_iconst (v := 0) C dJ7_fill_d0a16_0 (by decide) ?_
  refine w_istore_n C dJ7_fill_d0a16_1 rfl (by decide) [(3, .int (0)), (0, rf Y (51 + s)), (1, .long a2)] rfl ?_
  refine w_aload_n C dJ7_fill_d0a16_2 rfl 1 rfl ?_
  refine x_alenj C dJ7_fill_d0a16_3 (aXsn hs) ?_
  refine w_topi h (fun v1 h => ?_)
  refine w_istore C dJ7_fill_d0a16_4 (by decide) [(4, .int v1), (3, .int (0)), (0, rf Y (51 + s)), (1, .long a2)] rfl ?_
  have hL6 : ∀ (G6 : Nat) (S2 : St) (v3 : Int32), fJ7_fill_d0a16_L6 s a2 v1 G6 S2 v3 = some R → WS VX Y X 5 0 0 (none, R) S2 6 [(0, rf Y (51 + s)), (1, .long a2), (3, .int v3), (4, .int v1)] [] := by
    intro G6
    induction G6 with
    | zero => intro S2 v3 h; exact nomatch (show (none : Option (St)) = some R from h)
    | succ G6 ih =>
      intro S2 v3 h
      rw [fJ7_fill_d0a16_L6] at h
      refine w_iload_n C dJ7_fill_d0a16_6 rfl 2 rfl ?_
      refine w_iload C dJ7_fill_d0a16_7 3 rfl ?_
      refine w_icmp_ge C 22 dJ7_fill_d0a16_9 (by decide) h (fun h => ?_) (fun h => ?_)
      · exact w_vret C dJ7_fill_d0a16_22 h
      refine w_aload_n C dJ7_fill_d0a16_12 rfl 0 rfl ?_
      refine w_iload_n C dJ7_fill_d0a16_13 rfl 2 rfl ?_
      refine w_lload_n C dJ7_fill_d0a16_14 rfl 1 rfl ?_
      refine x_last C dJ7_fill_d0a16_15 (aXsn hs) h (fun S4 h => ?_)
      refine x_iinc C dJ7_fill_d0a16_16 2 rfl 1 (by decide) h (by decide) (fun v5 => [(3, .int v5), (0, rf Y (51 + s)), (1, .long a2), (4, .int v1)]) (fun _ => rfl) (fun v5 h => ?_)
      refine w_goto C 6 dJ7_fill_d0a16_19 (by decide) ?_
      exact w_sub [1, 2, 0, 3] rfl (ih _ _ h)
  exact w_sub [2, 3, 1, 0] rfl (hL6 _ _ _ h))
def fX3_lay (F : Nat) (s : Nat) (S : St) (a1 : Int32) (a2 : Int32) : Option (St) := pl (si S (47 + s) 0 a1) fun S1 => pl (fun (v2 : Int32) => pl (si S1 (47 + s) 1 v2) fun S3 => bv (fJ7_fill_d0a16 F s S3 (0)) fun S4 => some S4) fun J15 => if a1 = 0 then (J15 (0)) else (J15 a2)
set_option maxRecDepth 100000 in
theorem mX3_lay {Y : YT} {F : Nat} {s : Nat} {S : St} {a1 : Int32} {a2 : Int32} {R : St} (hs : s < 4) (h : fX3_lay F s S a1 a2 = some R) : Mc VX Y yX3_lay cX3_lay 3 none 1 24 [rf Y (47 + s), .int a1, .int a2] S (none, R) :=
  Mc.start [(0, rf Y (47 + s)), (1, .int a1), (2, .int a2)] rfl pnX3 (Nat.le_of_ble_eq_true rfl) (fun X (C : Ok VX Y X RX3 cX3_lay 3 none) => by
  unfold fX3_lay at h
  refine w_aload_n C dX3_lay_0 rfl 0 rfl ?_
  refine w_iload_n C dX3_lay_1 rfl 1 rfl ?_
  refine x_puti C dX3_lay_2 fpX3_15 (iXso_0 hs) h (fun S1 h => ?_)
  refine w_aload_n C dX3_lay_5 rfl 0 rfl ?_
  refine w_iload_n C dX3_lay_6 rfl 1 rfl ?_
  refine w_join (fun J15 => ∀ (v2 : Int32), J15 v2 = some R → WS VX Y X 3 1 24 (none, R) S1 15 [(0, rf Y (47 + s))] [.int v2, rf Y (47 + s)]) h ?_ (fun J15 hJ15 h => ?_)
  · intro v2 h
    refine x_puti C dX3_lay_15 fpX3_19 (iXso_1 hs) h (fun S3 h => ?_)
    refine w_aload_n C dX3_lay_18 rfl 0 rfl ?_
    refine w_getr C dX3_lay_19 flX3_9 (gXso_2 hs) ?_
    refine w_lconst (v := 0) C dX3_lay_22 (by decide) ?_
    refine w_Sv C dX3_lay_23 h (fun _ e => mJ7_fill_d0a16 hs e) lnX3_22 msJ7_fill_d0a16 rfl ⟨Nat.le_of_ble_eq_true rfl, Nat.le_of_ble_eq_true rfl⟩ [] rfl (Nat.le_of_ble_eq_true rfl) (fun S4 h => ?_)
    exact w_vret C dX3_lay_26 h
  refine w_if_ne C 14 dX3_lay_7 (by decide) h (fun h => ?_) (fun h => ?_)
  · refine w_iload_n C dX3_lay_14 rfl 2 rfl ?_
    exact w_sub [0] rfl (hJ15 _ h)
  refine w_iconst (v := 0) C dX3_lay_10 (by decide) ?_
  refine w_goto C 15 dX3_lay_11 (by decide) ?_
  exact w_sub [0] rfl (hJ15 _ h))
def fX6_sheet (F : Nat) (S : St) (a1 : Int32) (a2 : Int32) (a3 : Int32) : Option (St × Int32) := bv (fX6_within S a1 (0) (3)) fun v1 => pl (bq (fX6_finding S (0)) fun S2 v3 => some (S2, v3)) fun J16 => if v1 = 0 then (J16) else (bv (fX6_isWidth S a2) fun v4 => if v4 = 0 then (J16) else (if 0 ≤ a3 then (if a3 ≤ (40) then (lds a1 fun s5 => bv (fX3_lay F s5 S a2 a3) fun S6 => lds a1 fun s7 => some (S6, (S6.1 (47 + s7) 1))) else (bq (fX6_finding S (0)) fun S8 v9 => some (S8, v9))) else (bq (fX6_finding S (6)) fun S10 v11 => some (S10, v11))))
set_option maxRecDepth 100000 in
theorem mX6_sheet {Y : YT} {F : Nat} {S : St} {a1 : Int32} {a2 : Int32} {a3 : Int32} {R : St × Int32} (h : fX6_sheet F S a1 a2 a3 = some R) : Mc VX Y yX6_sheet cX6_sheet 4 (some .int) 2 46 [rf Y 0, .int a1, .int a2, .int a3] S (some (.int R.2), R.1) :=
  Mc.start [(0, rf Y 0), (1, .int a1), (2, .int a2), (3, .int a3)] rfl pnX6 (Nat.le_of_ble_eq_true rfl) (fun X (C : Ok VX Y X RX6 cX6_sheet 4 (some .int)) => by
  unfold fX6_sheet at h
  refine w_iload_n C dX6_sheet_0 rfl 1 rfl ?_
  refine w_iconst (v := 0) C dX6_sheet_1 (by decide) ?_
  refine w_iconst (v := 3) C dX6_sheet_2 (by decide) ?_
  refine p_Si C dX6_sheet_3 h (fun _ e => mX6_within e) lnX6_67 msX6_within rfl ⟨Nat.le_of_ble_eq_true rfl, Nat.le_of_ble_eq_true rfl⟩ [] rfl (Nat.le_of_ble_eq_true rfl) (fun v1 h => ?_)
  refine w_join (fun J16 => J16  = some R → WS VX Y X 4 2 46 (some (.int R.2), R.1) S 16 [(0, rf Y 0)] []) h ?_ (fun J16 hJ16 h => ?_)
  · intro  h
    refine w_aload_n C dX6_sheet_16 rfl 0 rfl ?_
    refine w_iconst (v := 0) C dX6_sheet_17 (by decide) ?_
    refine w_Vi C dX6_sheet_18 h (fun _ e => mX6_finding e) lnX6_71 mvX6_finding bX0 rfl ⟨Nat.le_of_ble_eq_true rfl, Nat.le_of_ble_eq_true rfl⟩ [] rfl (Nat.le_of_ble_eq_true rfl) (fun S2 v3 h => ?_)
    exact w_iret C dX6_sheet_21 h
  refine w_if_eq C 16 dX6_sheet_6 (by decide) h (fun h => ?_) (fun h => ?_)
  · exact w_sub [0] rfl (hJ16  h)
  refine w_iload_n C dX6_sheet_9 rfl 2 rfl ?_
  refine p_Si C dX6_sheet_10 h (fun _ e => mX6_isWidth e) lnX6_259 msX6_isWidth rfl ⟨Nat.le_of_ble_eq_true rfl, Nat.le_of_ble_eq_true rfl⟩ [] rfl (Nat.le_of_ble_eq_true rfl) (fun v4 h => ?_)
  refine w_if_ne C 22 dX6_sheet_13 (by decide) h (fun h => ?_) (fun h => ?_)
  · refine w_iload_n C dX6_sheet_22 rfl 3 rfl ?_
    refine w_if_ge C 33 dX6_sheet_23 (by decide) h (fun h => ?_) (fun h => ?_)
    · refine w_iload_n C dX6_sheet_33 rfl 3 rfl ?_
      refine w_bipush (v := 40) C dX6_sheet_34 (by decide) ?_
      refine w_icmp_le C 45 dX6_sheet_36 (by decide) h (fun h => ?_) (fun h => ?_)
      · refine w_aload_n C dX6_sheet_45 rfl 0 rfl ?_
        refine w_getr C dX6_sheet_46 flX6_58 gX0_8 ?_
        refine w_iload_n C dX6_sheet_49 rfl 1 rfl ?_
        refine x_aald C dX6_sheet_50 h (fun s5 hs5 h => ?_)
        refine w_iload_n C dX6_sheet_51 rfl 2 rfl ?_
        refine w_iload_n C dX6_sheet_52 rfl 3 rfl ?_
        refine w_Vv C dX6_sheet_53 h (fun _ e => mX3_lay hs5 e) lnX6_262 mvX3_lay (bXso hs5) rfl ⟨Nat.le_of_ble_eq_true rfl, Nat.le_of_ble_eq_true rfl⟩ [] rfl (Nat.le_of_ble_eq_true rfl) (fun S6 h => ?_)
        refine w_aload_n C dX6_sheet_56 rfl 0 rfl ?_
        refine w_getr C dX6_sheet_57 flX6_58 gX0_8 ?_
        refine w_iload_n C dX6_sheet_60 rfl 1 rfl ?_
        refine x_aald C dX6_sheet_61 h (fun s7 hs7 h => ?_)
        refine w_geti C dX6_sheet_62 flX6_264 (iXso_1 hs7) ?_
        exact w_iret C dX6_sheet_65 h
      refine w_aload_n C dX6_sheet_39 rfl 0 rfl ?_
      refine w_iconst (v := 0) C dX6_sheet_40 (by decide) ?_
      refine w_Vi C dX6_sheet_41 h (fun _ e => mX6_finding e) lnX6_71 mvX6_finding bX0 rfl ⟨Nat.le_of_ble_eq_true rfl, Nat.le_of_ble_eq_true rfl⟩ [] rfl (Nat.le_of_ble_eq_true rfl) (fun S8 v9 h => ?_)
      exact w_iret C dX6_sheet_44 h
    refine w_aload_n C dX6_sheet_26 rfl 0 rfl ?_
    refine w_bipush (v := 6) C dX6_sheet_27 (by decide) ?_
    refine w_Vi C dX6_sheet_29 h (fun _ e => mX6_finding e) lnX6_71 mvX6_finding bX0 rfl ⟨Nat.le_of_ble_eq_true rfl, Nat.le_of_ble_eq_true rfl⟩ [] rfl (Nat.le_of_ble_eq_true rfl) (fun S10 v11 h => ?_)
    exact w_iret C dX6_sheet_32 h
  exact w_sub [0] rfl (hJ16  h))
def fX5_isLetter (S : St) (a1 : Int32) : Option (Int32) := if a1 < (97) then (some (0)) else (if (122) < a1 then (some (0)) else (some (1)))
set_option maxRecDepth 100000 in
theorem mX5_isLetter {Y : YT} {S : St} {a1 : Int32} {R : Int32} (h : fX5_isLetter  S a1 = some R) : Mc VX Y yX5_isLetter cX5_isLetter 1 (some .boolean) 0 0 [.int a1] S (some (.int R), S) :=
  Mc.start [(0, .int a1)] rfl pnX5 (Nat.le_of_ble_eq_true rfl) (fun X (C : Ok VX Y X RX5 cX5_isLetter 1 (some .boolean)) => by
  unfold fX5_isLetter at h
  refine w_iload_n C dX5_isLetter_0 rfl 0 rfl ?_
  refine w_bipush (v := 97) C dX5_isLetter_1 (by decide) ?_
  refine w_icmp_lt C 16 dX5_isLetter_3 (by decide) h (fun h => ?_) (fun h => ?_)
  · refine w_iconst (v := 0) C dX5_isLetter_16 (by decide) ?_
    exact p_zret0 C dX5_isLetter_17 rfl h
  refine w_iload_n C dX5_isLetter_6 rfl 0 rfl ?_
  refine w_bipush (v := 122) C dX5_isLetter_7 (by decide) ?_
  refine w_icmp_gt C 16 dX5_isLetter_9 (by decide) h (fun h => ?_) (fun h => ?_)
  · refine w_iconst (v := 0) C dX5_isLetter_16 (by decide) ?_
    exact p_zret0 C dX5_isLetter_17 rfl h
  refine w_iconst (v := 1) C dX5_isLetter_12 (by decide) ?_
  refine w_goto C 17 dX5_isLetter_13 (by decide) ?_
  exact p_zret0 C dX5_isLetter_17 rfl h)
def fX5_isDigit (S : St) (a1 : Int32) : Option (Int32) := if a1 < (48) then (some (0)) else (if (57) < a1 then (some (0)) else (some (1)))
set_option maxRecDepth 100000 in
theorem mX5_isDigit {Y : YT} {S : St} {a1 : Int32} {R : Int32} (h : fX5_isDigit  S a1 = some R) : Mc VX Y yX5_isDigit cX5_isDigit 1 (some .boolean) 0 0 [.int a1] S (some (.int R), S) :=
  Mc.start [(0, .int a1)] rfl pnX5 (Nat.le_of_ble_eq_true rfl) (fun X (C : Ok VX Y X RX5 cX5_isDigit 1 (some .boolean)) => by
  unfold fX5_isDigit at h
  refine w_iload_n C dX5_isDigit_0 rfl 0 rfl ?_
  refine w_bipush (v := 48) C dX5_isDigit_1 (by decide) ?_
  refine w_icmp_lt C 16 dX5_isDigit_3 (by decide) h (fun h => ?_) (fun h => ?_)
  · refine w_iconst (v := 0) C dX5_isDigit_16 (by decide) ?_
    exact p_zret0 C dX5_isDigit_17 rfl h
  refine w_iload_n C dX5_isDigit_6 rfl 0 rfl ?_
  refine w_bipush (v := 57) C dX5_isDigit_7 (by decide) ?_
  refine w_icmp_gt C 16 dX5_isDigit_9 (by decide) h (fun h => ?_) (fun h => ?_)
  · refine w_iconst (v := 0) C dX5_isDigit_16 (by decide) ?_
    exact p_zret0 C dX5_isDigit_17 rfl h
  refine w_iconst (v := 1) C dX5_isDigit_12 (by decide) ?_
  refine w_goto C 17 dX5_isDigit_13 (by decide) ?_
  exact p_zret0 C dX5_isDigit_17 rfl h)
def fX5_step_L149  : Nat → St → Option (St)
  | 0, _ => none
  | G149 + 1, S13 => if (S13.1 44 1) ≤ (S13.1 44 2) then (some S13) else (ldi S13 45 (S13.1 44 2) 120 fun v14 => bv (fX5_isDigit S13 v14) fun v15 => if v15 = 0 then (some S13) else (ldi S13 45 (S13.1 44 2) 120 fun v16 => pl (si S13 44 5 (if (1000) < ((((S13.1 44 5) * (10)) + v16) - (48)) then (1000) else ((((S13.1 44 5) * (10)) + v16) - (48)))) fun S17 => pl (si S17 44 2 ((S17.1 44 2) + (1))) fun S18 => fX5_step_L149 G149 S18))
def fX5_step_L85  : Nat → St → Option (St)
  | 0, _ => none
  | G85 + 1, S20 => if (S20.1 44 1) ≤ (S20.1 44 2) then (some S20) else (ldi S20 45 (S20.1 44 2) 120 fun v21 => bv (fX5_isLetter S20 v21) fun v22 => if v22 = 0 then (some S20) else (pl (si S20 44 2 ((S20.1 44 2) + (1))) fun S23 => fX5_step_L85 G85 S23))
def fX5_step_L0 (J38 : St → Option (St)) : Nat → St → Option (St)
  | 0, _ => none
  | G0 + 1, S25 => if (S25.1 44 1) ≤ (S25.1 44 2) then (J38 S25) else (ldi S25 45 (S25.1 44 2) 120 fun v26 => if v26 = (32) then (pl (si S25 44 2 ((S25.1 44 2) + (1))) fun S27 => fX5_step_L0 J38 G0 S27) else (J38 S25))
def fX5_step (F : Nat) (S : St) : Option (St) := pl (fun (S1 : St) => pl (si S1 44 4 (S1.1 44 2)) fun S2 => if (S2.1 44 2) < (S2.1 44 1) then (ldi S2 45 (S2.1 44 2) 120 fun v3 => bv (fX5_isLetter S2 v3) fun v4 => if v4 = 0 then (ldi S2 45 (S2.1 44 2) 120 fun v5 => bv (fX5_isDigit S2 v5) fun v6 => if v6 = 0 then (ldi S2 45 (S2.1 44 2) 120 fun v7 => pl (fun (v8 : Int32) => pl (si S2 44 3 v8) fun S9 => pl (si S9 44 2 ((S9.1 44 2) + (1))) fun S10 => some S10) fun J238 => if v7 = (44) then (J238 (3)) else (J238 (4))) else (pl (si S2 44 3 (2)) fun S11 => pl (si S11 44 5 (0)) fun S12 => fX5_step_L149 F S12)) else (pl (si S2 44 3 (1)) fun S19 => fX5_step_L85 F S19)) else (pl (si S2 44 3 (0)) fun S24 => some S24)) fun J38 => fX5_step_L0 J38 F S
set_option maxRecDepth 100000 in
theorem mX5_step {Y : YT} {F : Nat} {S : St} {R : St} (h : fX5_step F S  = some R) : Mc VX Y yX5_step cX5_step 1 none 1 21 [rf Y 44] S (none, R) :=
  Mc.start [(0, rf Y 44)] rfl pnX5 (Nat.le_of_ble_eq_true rfl) (fun X (C : Ok VX Y X RX5 cX5_step 1 none) => by
  unfold fX5_step at h
  refine w_join (fun J38 => ∀ (S1 : St), J38 S1 = some R → WS VX Y X 1 1 21 (none, R) S1 38 [(0, rf Y 44)] []) h ?_ (fun J38 hJ38 h => ?_)
  · intro S1 h
    refine w_aload_n C dX5_step_38 rfl 0 rfl ?_
    refine w_aload_n C dX5_step_39 rfl 0 rfl ?_
    refine w_geti C dX5_step_40 flX5_19 iX44_2 ?_
    refine x_puti C dX5_step_43 fpX5_29 iX44_4 h (fun S2 h => ?_)
    refine w_aload_n C dX5_step_46 rfl 0 rfl ?_
    refine w_geti C dX5_step_47 flX5_19 iX44_2 ?_
    refine w_aload_n C dX5_step_50 rfl 0 rfl ?_
    refine w_geti C dX5_step_51 flX5_15 iX44_1 ?_
    refine w_icmp_lt C 65 dX5_step_54 (by decide) h (fun h => ?_) (fun h => ?_)
    · refine w_aload_n C dX5_step_65 rfl 0 rfl ?_
      refine w_getr C dX5_step_66 flX5_9 gX44_0 ?_
      refine w_aload_n C dX5_step_69 rfl 0 rfl ?_
      refine w_geti C dX5_step_70 flX5_19 iX44_2 ?_
      refine x_iald C dX5_step_73 aX45 h (fun v3 h => ?_)
      refine p_Si C dX5_step_74 h (fun _ e => mX5_isLetter e) lnX5_142 msX5_isLetter rfl ⟨Nat.le_of_ble_eq_true rfl, Nat.le_of_ble_eq_true rfl⟩ [] rfl (Nat.le_of_ble_eq_true rfl) (fun v4 h => ?_)
      refine w_if_eq C 124 dX5_step_77 (by decide) h (fun h => ?_) (fun h => ?_)
      · refine w_aload_n C dX5_step_124 rfl 0 rfl ?_
        refine w_getr C dX5_step_125 flX5_9 gX44_0 ?_
        refine w_aload_n C dX5_step_128 rfl 0 rfl ?_
        refine w_geti C dX5_step_129 flX5_19 iX44_2 ?_
        refine x_iald C dX5_step_132 aX45 h (fun v5 h => ?_)
        refine p_Si C dX5_step_133 h (fun _ e => mX5_isDigit e) lnX5_146 msX5_isDigit rfl ⟨Nat.le_of_ble_eq_true rfl, Nat.le_of_ble_eq_true rfl⟩ [] rfl (Nat.le_of_ble_eq_true rfl) (fun v6 h => ?_)
        refine w_if_eq C 218 dX5_step_136 (by decide) h (fun h => ?_) (fun h => ?_)
        · refine w_aload_n C dX5_step_218 rfl 0 rfl ?_
          refine w_aload_n C dX5_step_219 rfl 0 rfl ?_
          refine w_getr C dX5_step_220 flX5_9 gX44_0 ?_
          refine w_aload_n C dX5_step_223 rfl 0 rfl ?_
          refine w_geti C dX5_step_224 flX5_19 iX44_2 ?_
          refine x_iald C dX5_step_227 aX45 h (fun v7 h => ?_)
          refine w_bipush (v := 44) C dX5_step_228 (by decide) ?_
          refine w_join (fun J238 => ∀ (v8 : Int32), J238 v8 = some R → WS VX Y X 1 1 21 (none, R) S2 238 [(0, rf Y 44)] [.int v8, rf Y 44]) h ?_ (fun J238 hJ238 h => ?_)
          · intro v8 h
            refine x_puti C dX5_step_238 fpX5_32 iX44_3 h (fun S9 h => ?_)
            refine w_aload_n C dX5_step_241 rfl 0 rfl ?_
            refine w_dup C dX5_step_242 rfl ?_
            refine w_geti C dX5_step_243 flX5_19 iX44_2 ?_
            refine w_iconst (v := 1) C dX5_step_246 (by decide) ?_
            refine w_iadd C dX5_step_247 ?_
            refine x_puti C dX5_step_248 fpX5_19 iX44_2 h (fun S10 h => ?_)
            exact w_vret C dX5_step_251 h
          refine w_icmp_ne C 237 dX5_step_230 (by decide) h (fun h => ?_) (fun h => ?_)
          · refine w_iconst (v := 4) C dX5_step_237 (by decide) ?_
            exact w_sub [0] rfl (hJ238 _ h)
          refine w_iconst (v := 3) C dX5_step_233 (by decide) ?_
          refine w_goto C 238 dX5_step_234 (by decide) ?_
          exact w_sub [0] rfl (hJ238 _ h)
        refine w_aload_n C dX5_step_139 rfl 0 rfl ?_
        refine w_iconst (v := 2) C dX5_step_140 (by decide) ?_
        refine x_puti C dX5_step_141 fpX5_32 iX44_3 h (fun S11 h => ?_)
        refine w_aload_n C dX5_step_144 rfl 0 rfl ?_
        refine w_iconst (v := 0) C dX5_step_145 (by decide) ?_
        refine x_puti C dX5_step_146 fpX5_71 iX44_5 h (fun S12 h => ?_)
        have hL149 : ∀ (G149 : Nat) (S13 : St), fX5_step_L149 G149 S13 = some R → WS VX Y X 1 1 21 (none, R) S13 149 [(0, rf Y 44)] [] := by
          intro G149
          induction G149 with
          | zero => intro S13 h; exact nomatch (show (none : Option (St)) = some R from h)
          | succ G149 ih =>
            intro S13 h
            rw [fX5_step_L149] at h
            refine w_aload_n C dX5_step_149 rfl 0 rfl ?_
            refine w_geti C dX5_step_150 flX5_19 iX44_2 ?_
            refine w_aload_n C dX5_step_153 rfl 0 rfl ?_
            refine w_geti C dX5_step_154 flX5_15 iX44_1 ?_
            refine w_icmp_ge C 251 dX5_step_157 (by decide) h (fun h => ?_) (fun h => ?_)
            · exact w_vret C dX5_step_251 h
            refine w_aload_n C dX5_step_160 rfl 0 rfl ?_
            refine w_getr C dX5_step_161 flX5_9 gX44_0 ?_
            refine w_aload_n C dX5_step_164 rfl 0 rfl ?_
            refine w_geti C dX5_step_165 flX5_19 iX44_2 ?_
            refine x_iald C dX5_step_168 aX45 h (fun v14 h => ?_)
            refine p_Si C dX5_step_169 h (fun _ e => mX5_isDigit e) lnX5_146 msX5_isDigit rfl ⟨Nat.le_of_ble_eq_true rfl, Nat.le_of_ble_eq_true rfl⟩ [] rfl (Nat.le_of_ble_eq_true rfl) (fun v15 h => ?_)
            refine w_if_eq C 251 dX5_step_172 (by decide) h (fun h => ?_) (fun h => ?_)
            · exact w_vret C dX5_step_251 h
            refine w_aload_n C dX5_step_175 rfl 0 rfl ?_
            refine w_aload_n C dX5_step_176 rfl 0 rfl ?_
            refine w_geti C dX5_step_177 flX5_71 iX44_5 ?_
            refine w_bipush (v := 10) C dX5_step_180 (by decide) ?_
            refine w_imul C dX5_step_182 ?_
            refine w_aload_n C dX5_step_183 rfl 0 rfl ?_
            refine w_getr C dX5_step_184 flX5_9 gX44_0 ?_
            refine w_aload_n C dX5_step_187 rfl 0 rfl ?_
            refine w_geti C dX5_step_188 flX5_19 iX44_2 ?_
            refine x_iald C dX5_step_191 aX45 h (fun v16 h => ?_)
            refine w_iadd C dX5_step_192 ?_
            refine w_bipush (v := 48) C dX5_step_193 (by decide) ?_
            refine w_isub C dX5_step_195 ?_
            refine w_sipush (v := 1000) C dX5_step_196 (by decide) ?_
            refine x_mmin C dX5_step_199 lnX5_149 (Nat.le_of_ble_eq_true rfl) (Nat.le_of_ble_eq_true rfl) ?_
            refine x_puti C dX5_step_202 fpX5_71 iX44_5 h (fun S17 h => ?_)
            refine w_aload_n C dX5_step_205 rfl 0 rfl ?_
            refine w_dup C dX5_step_206 rfl ?_
            refine w_geti C dX5_step_207 flX5_19 iX44_2 ?_
            refine w_iconst (v := 1) C dX5_step_210 (by decide) ?_
            refine w_iadd C dX5_step_211 ?_
            refine x_puti C dX5_step_212 fpX5_19 iX44_2 h (fun S18 h => ?_)
            refine w_goto C 149 dX5_step_215 (by decide) ?_
            exact w_sub [0] rfl (ih _ h)
        exact w_sub [0] rfl (hL149 _ _ h)
      refine w_aload_n C dX5_step_80 rfl 0 rfl ?_
      refine w_iconst (v := 1) C dX5_step_81 (by decide) ?_
      refine x_puti C dX5_step_82 fpX5_32 iX44_3 h (fun S19 h => ?_)
      have hL85 : ∀ (G85 : Nat) (S20 : St), fX5_step_L85 G85 S20 = some R → WS VX Y X 1 1 21 (none, R) S20 85 [(0, rf Y 44)] [] := by
        intro G85
        induction G85 with
        | zero => intro S20 h; exact nomatch (show (none : Option (St)) = some R from h)
        | succ G85 ih =>
          intro S20 h
          rw [fX5_step_L85] at h
          refine w_aload_n C dX5_step_85 rfl 0 rfl ?_
          refine w_geti C dX5_step_86 flX5_19 iX44_2 ?_
          refine w_aload_n C dX5_step_89 rfl 0 rfl ?_
          refine w_geti C dX5_step_90 flX5_15 iX44_1 ?_
          refine w_icmp_ge C 251 dX5_step_93 (by decide) h (fun h => ?_) (fun h => ?_)
          · exact w_vret C dX5_step_251 h
          refine w_aload_n C dX5_step_96 rfl 0 rfl ?_
          refine w_getr C dX5_step_97 flX5_9 gX44_0 ?_
          refine w_aload_n C dX5_step_100 rfl 0 rfl ?_
          refine w_geti C dX5_step_101 flX5_19 iX44_2 ?_
          refine x_iald C dX5_step_104 aX45 h (fun v21 h => ?_)
          refine p_Si C dX5_step_105 h (fun _ e => mX5_isLetter e) lnX5_142 msX5_isLetter rfl ⟨Nat.le_of_ble_eq_true rfl, Nat.le_of_ble_eq_true rfl⟩ [] rfl (Nat.le_of_ble_eq_true rfl) (fun v22 h => ?_)
          refine w_if_eq C 251 dX5_step_108 (by decide) h (fun h => ?_) (fun h => ?_)
          · exact w_vret C dX5_step_251 h
          refine w_aload_n C dX5_step_111 rfl 0 rfl ?_
          refine w_dup C dX5_step_112 rfl ?_
          refine w_geti C dX5_step_113 flX5_19 iX44_2 ?_
          refine w_iconst (v := 1) C dX5_step_116 (by decide) ?_
          refine w_iadd C dX5_step_117 ?_
          refine x_puti C dX5_step_118 fpX5_19 iX44_2 h (fun S23 h => ?_)
          refine w_goto C 85 dX5_step_121 (by decide) ?_
          exact w_sub [0] rfl (ih _ h)
      exact w_sub [0] rfl (hL85 _ _ h)
    refine w_aload_n C dX5_step_57 rfl 0 rfl ?_
    refine w_iconst (v := 0) C dX5_step_58 (by decide) ?_
    refine x_puti C dX5_step_59 fpX5_32 iX44_3 h (fun S24 h => ?_)
    refine w_goto C 251 dX5_step_62 (by decide) ?_
    exact w_vret C dX5_step_251 h
  have hL0 : ∀ (G0 : Nat) (S25 : St), fX5_step_L0 J38 G0 S25 = some R → WS VX Y X 1 1 21 (none, R) S25 0 [(0, rf Y 44)] [] := by
    intro G0
    induction G0 with
    | zero => intro S25 h; exact nomatch (show (none : Option (St)) = some R from h)
    | succ G0 ih =>
      intro S25 h
      rw [fX5_step_L0] at h
      refine w_aload_n C dX5_step_0 rfl 0 rfl ?_
      refine w_geti C dX5_step_1 flX5_19 iX44_2 ?_
      refine w_aload_n C dX5_step_4 rfl 0 rfl ?_
      refine w_geti C dX5_step_5 flX5_15 iX44_1 ?_
      refine w_icmp_ge C 38 dX5_step_8 (by decide) h (fun h => ?_) (fun h => ?_)
      · exact w_sub [0] rfl (hJ38 _ h)
      refine w_aload_n C dX5_step_11 rfl 0 rfl ?_
      refine w_getr C dX5_step_12 flX5_9 gX44_0 ?_
      refine w_aload_n C dX5_step_15 rfl 0 rfl ?_
      refine w_geti C dX5_step_16 flX5_19 iX44_2 ?_
      refine x_iald C dX5_step_19 aX45 h (fun v26 h => ?_)
      refine w_bipush (v := 32) C dX5_step_20 (by decide) ?_
      refine w_icmp_ne C 38 dX5_step_22 (by decide) h (fun h => ?_) (fun h => ?_)
      · exact w_sub [0] rfl (hJ38 _ h)
      refine w_aload_n C dX5_step_25 rfl 0 rfl ?_
      refine w_dup C dX5_step_26 rfl ?_
      refine w_geti C dX5_step_27 flX5_19 iX44_2 ?_
      refine w_iconst (v := 1) C dX5_step_30 (by decide) ?_
      refine w_iadd C dX5_step_31 ?_
      refine x_puti C dX5_step_32 fpX5_19 iX44_2 h (fun S27 h => ?_)
      refine w_goto C 0 dX5_step_35 (by decide) ?_
      exact w_sub [0] rfl (ih _ h)
  exact w_sub [0] rfl (hL0 _ _ h))
def fX5_kindName (S : St) (a1 : Int32) : Option (Nat) := if a1 = 1 then (some 1) else if a1 = 2 then (some 2) else if a1 = 3 then (some 3) else if a1 = 4 then (some 4) else if a1 = 5 then (some 5) else if a1 = 6 then (some 6) else (some 0)
set_option maxRecDepth 100000 in
theorem mX5_kindName {Y : YT} {S : St} {a1 : Int32} {R : Nat} (h : fX5_kindName  S a1 = some R) : Mc VX Y yX5_kindName cX5_kindName 1 (some (.object "java/lang/String")) 0 0 [.int a1] S (some (rz Y (10 + R)), S) :=
  Mc.start [(0, .int a1)] rfl pnX5 (Nat.le_of_ble_eq_true rfl) (fun X (C : Ok VX Y X RX5 cX5_kindName 1 (some (.object "java/lang/String"))) => by
  unfold fX5_kindName at h
  refine w_iload_n C dX5_kindName_0 rfl 0 rfl ?_
  by_cases c1 : a1 = 1
  · have h := ite_t c1 h
    refine w_tabIn C 40 dX5_kindName_1 c1 rfl (by decide) (by decide) rfl (by decide) ?_
    refine w_ldcs C dX5_kindName_40 1 (by decide) rfl ?_
    exact p_sret C dX5_kindName_42 h
  have h := ite_f c1 h
  by_cases c2 : a1 = 2
  · have h := ite_t c2 h
    refine w_tabIn C 43 dX5_kindName_1 c2 rfl (by decide) (by decide) rfl (by decide) ?_
    refine w_ldcs C dX5_kindName_43 2 (by decide) rfl ?_
    exact p_sret C dX5_kindName_45 h
  have h := ite_f c2 h
  by_cases c3 : a1 = 3
  · have h := ite_t c3 h
    refine w_tabIn C 46 dX5_kindName_1 c3 rfl (by decide) (by decide) rfl (by decide) ?_
    refine w_ldcs C dX5_kindName_46 3 (by decide) rfl ?_
    exact p_sret C dX5_kindName_48 h
  have h := ite_f c3 h
  by_cases c4 : a1 = 4
  · have h := ite_t c4 h
    refine w_tabIn C 49 dX5_kindName_1 c4 rfl (by decide) (by decide) rfl (by decide) ?_
    refine w_ldcs C dX5_kindName_49 4 (by decide) rfl ?_
    exact p_sret C dX5_kindName_51 h
  have h := ite_f c4 h
  by_cases c5 : a1 = 5
  · have h := ite_t c5 h
    refine w_tabIn C 52 dX5_kindName_1 c5 rfl (by decide) (by decide) rfl (by decide) ?_
    refine w_ldcs C dX5_kindName_52 5 (by decide) rfl ?_
    exact p_sret C dX5_kindName_54 h
  have h := ite_f c5 h
  by_cases c6 : a1 = 6
  · have h := ite_t c6 h
    refine w_tabIn C 55 dX5_kindName_1 c6 rfl (by decide) (by decide) rfl (by decide) ?_
    refine w_ldcs C dX5_kindName_55 6 (by decide) rfl ?_
    exact p_sret C dX5_kindName_57 h
  have h := ite_f c6 h
  refine w_tabOut C 58 dX5_kindName_1 (by have n1 := lv_neT c1 (a := 1) rfl; have n2 := lv_neT c2 (a := 2) rfl; have n3 := lv_neT c3 (a := 3) rfl; have n4 := lv_neT c4 (a := 4) rfl; have n5 := lv_neT c5 (a := 5) rfl; have n6 := lv_neT c6 (a := 6) rfl; omega) (by decide) ?_
  refine w_ldcs C dX5_kindName_58 0 (by decide) rfl ?_
  exact p_sret C dX5_kindName_60 h)
def fX5_isWord_L20 (S : St) (w : Nat) : Nat → Int32 → Option (Int32)
  | 0, _ => none
  | G20 + 1, v1 => if (slen w) ≤ v1 then (some (1)) else (ldi S 45 ((S.1 44 4) + v1) 120 fun v2 => bv (schar w v1) fun v3 => if v2 = v3 then (pl (v1 + 1) fun v4 => fX5_isWord_L20 S w G20 v4) else (some (0)))
def fX5_isWord (F : Nat) (w : Nat) (S : St) : Option (Int32) := if ((S.1 44 2) - (S.1 44 4)) = (slen w) then (fX5_isWord_L20 S w F (0)) else (some (0))
set_option maxRecDepth 100000 in
theorem mX5_isWord {Y : YT} {F : Nat} {w : Nat} {S : St} {R : Int32} (hw : w < 13) (h : fX5_isWord F w S  = some R) : Mc VX Y yX5_isWord cX5_isWord 3 (some .boolean) 4 85 [rf Y 44, rz Y (10 + w)] S (some (.int R), S) :=
  Mc.start [(0, rf Y 44), (1, rz Y (10 + w))] rfl pnX5 (Nat.le_of_ble_eq_true rfl) (fun X (C : Ok VX Y X RX5 cX5_isWord 3 (some .boolean)) => by
  unfold fX5_isWord at h
  refine w_aload_n C dX5_isWord_0 rfl 0 rfl ?_
  refine w_geti C dX5_isWord_1 flX5_19 iX44_2 ?_
  refine w_aload_n C dX5_isWord_4 rfl 0 rfl ?_
  refine w_geti C dX5_isWord_5 flX5_29 iX44_4 ?_
  refine w_isub C dX5_isWord_8 ?_
  refine w_aload_n C dX5_isWord_9 rfl 1 rfl ?_
  refine x_slen C hw dX5_isWord_10 lnX5_118 ⟨Nat.le_of_ble_eq_true rfl, Nat.le_of_ble_eq_true rfl⟩ [.int ((S.1 44 2) - (S.1 44 4))] (Nat.le_of_ble_eq_true rfl) ?_
  refine w_icmp_eq C 18 dX5_isWord_13 (by decide) h (fun h => ?_) (fun h => ?_)
  · refine w_iconst (v := 0) C dX5_isWord_18 (by decide) ?_
    refine w_istore_n C dX5_isWord_19 rfl (by decide) [(2, .int (0)), (0, rf Y 44), (1, rz Y (10 + w))] rfl ?_
    have hL20 : ∀ (G20 : Nat) (v1 : Int32), fX5_isWord_L20 S w G20 v1 = some R → WS VX Y X 3 4 85 (some (.int R), S) S 20 [(0, rf Y 44), (1, rz Y (10 + w)), (2, .int v1)] [] := by
      intro G20
      induction G20 with
      | zero => intro v1 h; exact nomatch (show (none : Option (Int32)) = some R from h)
      | succ G20 ih =>
        intro v1 h
        rw [fX5_isWord_L20] at h
        refine w_iload_n C dX5_isWord_20 rfl 2 rfl ?_
        refine w_aload_n C dX5_isWord_21 rfl 1 rfl ?_
        refine x_slen C hw dX5_isWord_22 lnX5_118 ⟨Nat.le_of_ble_eq_true rfl, Nat.le_of_ble_eq_true rfl⟩ [.int v1] (Nat.le_of_ble_eq_true rfl) ?_
        refine w_icmp_ge C 55 dX5_isWord_25 (by decide) h (fun h => ?_) (fun h => ?_)
        · refine w_iconst (v := 1) C dX5_isWord_55 (by decide) ?_
          exact p_zret0 C dX5_isWord_56 rfl h
        refine w_aload_n C dX5_isWord_28 rfl 0 rfl ?_
        refine w_getr C dX5_isWord_29 flX5_9 gX44_0 ?_
        refine w_aload_n C dX5_isWord_32 rfl 0 rfl ?_
        refine w_geti C dX5_isWord_33 flX5_29 iX44_4 ?_
        refine w_iload_n C dX5_isWord_36 rfl 2 rfl ?_
        refine w_iadd C dX5_isWord_37 ?_
        refine x_iald C dX5_isWord_38 aX45 h (fun v2 h => ?_)
        refine w_aload_n C dX5_isWord_39 rfl 1 rfl ?_
        refine w_iload_n C dX5_isWord_40 rfl 2 rfl ?_
        refine x_schar C hw dX5_isWord_41 lnX5_124 h ⟨Nat.le_of_ble_eq_true rfl, Nat.le_of_ble_eq_true rfl⟩ [.int v2] (Nat.le_of_ble_eq_true rfl) (fun v3 h => ?_)
        refine w_icmp_eq C 49 dX5_isWord_44 (by decide) h (fun h => ?_) (fun h => ?_)
        · refine x_iinc C dX5_isWord_49 2 rfl 1 (by decide) h (by decide) (fun v4 => [(2, .int v4), (0, rf Y 44), (1, rz Y (10 + w))]) (fun _ => rfl) (fun v4 h => ?_)
          refine w_goto C 20 dX5_isWord_52 (by decide) ?_
          exact w_sub [1, 2, 0] rfl (ih _ h)
        refine w_iconst (v := 0) C dX5_isWord_47 (by decide) ?_
        exact p_zret0 C dX5_isWord_48 rfl h
    exact w_sub [1, 2, 0] rfl (hL20 _ _ h)
  refine w_iconst (v := 0) C dX5_isWord_16 (by decide) ?_
  exact p_zret0 C dX5_isWord_17 rfl h)
def fX5_isNumber (S : St) (a1 : Int32) (a2 : Int32) : Option (Int32) := if (S.1 44 3) = (2) then (bv (fX6_within S (S.1 44 5) a1 a2) fun v1 => if v1 = 0 then (some (0)) else (some (1))) else (some (0))
set_option maxRecDepth 100000 in
theorem mX5_isNumber {Y : YT} {S : St} {a1 : Int32} {a2 : Int32} {R : Int32} (h : fX5_isNumber  S a1 a2 = some R) : Mc VX Y yX5_isNumber cX5_isNumber 3 (some .boolean) 1 22 [rf Y 44, .int a1, .int a2] S (some (.int R), S) :=
  Mc.start [(0, rf Y 44), (1, .int a1), (2, .int a2)] rfl pnX5 (Nat.le_of_ble_eq_true rfl) (fun X (C : Ok VX Y X RX5 cX5_isNumber 3 (some .boolean)) => by
  unfold fX5_isNumber at h
  refine w_aload_n C dX5_isNumber_0 rfl 0 rfl ?_
  refine w_geti C dX5_isNumber_1 flX5_32 iX44_3 ?_
  refine w_iconst (v := 2) C dX5_isNumber_4 (by decide) ?_
  refine w_icmp_ne C 24 dX5_isNumber_5 (by decide) h (fun h => ?_) (fun h => ?_)
  · refine w_iconst (v := 0) C dX5_isNumber_24 (by decide) ?_
    exact p_zret0 C dX5_isNumber_25 rfl h
  refine w_aload_n C dX5_isNumber_8 rfl 0 rfl ?_
  refine w_geti C dX5_isNumber_9 flX5_71 iX44_5 ?_
  refine w_iload_n C dX5_isNumber_12 rfl 1 rfl ?_
  refine w_iload_n C dX5_isNumber_13 rfl 2 rfl ?_
  refine p_SNi C "FeltHouse" dX5_isNumber_14 h (fun _ e => mX6_within e) C.2.2.2.2.2.2.2.1.2.1.2.2.2 msX6_within rfl ⟨Nat.le_of_ble_eq_true rfl, Nat.le_of_ble_eq_true rfl⟩ [] rfl (Nat.le_of_ble_eq_true rfl) (fun v1 h => ?_)
  refine w_if_eq C 24 dX5_isNumber_17 (by decide) h (fun h => ?_) (fun h => ?_)
  · refine w_iconst (v := 0) C dX5_isNumber_24 (by decide) ?_
    exact p_zret0 C dX5_isNumber_25 rfl h
  refine w_iconst (v := 1) C dX5_isNumber_20 (by decide) ?_
  refine w_goto C 25 dX5_isNumber_21 (by decide) ?_
  exact p_zret0 C dX5_isNumber_25 rfl h)
def fX4_addPart (b : Nat) (S : St) (a1 : Int32) (a2 : Int32) (a3 : Int32) (a4 : Int32) : Option (St × Int32) := if (S.1 b 0) < (20) then (pl ((S.1 b 0)) fun v1 => sti S (1 + b) v1 20 a1 fun S2 => sti S2 (2 + b) v1 20 a2 fun S3 => sti S3 (3 + b) v1 20 a3 fun S4 => sti S4 (4 + b) v1 20 a4 fun S5 => sti S5 (5 + b) v1 20 (0) fun S6 => pl (si S6 b 6 ((S6.1 b 6) ||| ((1) <<< (v1 &&& 31)))) fun S7 => pl (si S7 b 0 ((S7.1 b 0) + (1))) fun S8 => some (S8, v1)) else (some (S, (-1)))
set_option maxRecDepth 100000 in
theorem mX4_addPart_1 {Y : YT} {S : St} {a1 : Int32} {a2 : Int32} {a3 : Int32} {a4 : Int32} {R : St × Int32} (h : fX4_addPart 1 S a1 a2 a3 a4 = some R) : Mc VX Y yX4_addPart cX4_addPart 6 (some .int) 0 0 [rf Y 1, .int a1, .int a2, .int a3, .int a4] S (some (.int R.2), R.1) :=
  Mc.start [(0, rf Y 1), (1, .int a1), (2, .int a2), (3, .int a3), (4, .int a4)] rfl pnX4 (Nat.le_of_ble_eq_true rfl) (fun X (C : Ok VX Y X RX4 cX4_addPart 6 (some .int)) => by
  unfold fX4_addPart at h
  refine w_aload_n C dX4_addPart_0 rfl 0 rfl ?_
  refine w_geti C dX4_addPart_1 flX4_46 iX1_0 ?_
  refine w_bipush (v := 20) C dX4_addPart_4 (by decide) ?_
  refine w_icmp_lt C 11 dX4_addPart_6 (by decide) h (fun h => ?_) (fun h => ?_)
  · refine w_aload_n C dX4_addPart_11 rfl 0 rfl ?_
    refine w_geti C dX4_addPart_12 flX4_46 iX1_0 ?_
    refine w_topi h (fun v1 h => ?_)
    refine w_istore C dX4_addPart_15 (by decide) [(5, .int v1), (0, rf Y 1), (1, .int a1), (2, .int a2), (3, .int a3), (4, .int a4)] rfl ?_
    refine w_aload_n C dX4_addPart_17 rfl 1 rfl ?_
    refine w_getr C dX4_addPart_18 flX4_9 gX1_1 ?_
    refine w_iload C dX4_addPart_21 0 rfl ?_
    refine w_iload_n C dX4_addPart_23 rfl 2 rfl ?_
    refine x_iast C dX4_addPart_24 aX2 h (fun S2 h => ?_)
    refine w_aload_n C dX4_addPart_25 rfl 1 rfl ?_
    refine w_getr C dX4_addPart_26 flX4_15 gX1_2 ?_
    refine w_iload C dX4_addPart_29 0 rfl ?_
    refine w_iload_n C dX4_addPart_31 rfl 3 rfl ?_
    refine x_iast C dX4_addPart_32 aX3 h (fun S3 h => ?_)
    refine w_aload_n C dX4_addPart_33 rfl 1 rfl ?_
    refine w_getr C dX4_addPart_34 flX4_18 gX1_3 ?_
    refine w_iload C dX4_addPart_37 0 rfl ?_
    refine w_iload_n C dX4_addPart_39 rfl 4 rfl ?_
    refine x_iast C dX4_addPart_40 aX4 h (fun S4 h => ?_)
    refine w_aload_n C dX4_addPart_41 rfl 1 rfl ?_
    refine w_getr C dX4_addPart_42 flX4_21 gX1_4 ?_
    refine w_iload C dX4_addPart_45 0 rfl ?_
    refine w_iload C dX4_addPart_47 5 rfl ?_
    refine x_iast C dX4_addPart_49 aX5 h (fun S5 h => ?_)
    refine w_aload_n C dX4_addPart_50 rfl 1 rfl ?_
    refine w_getr C dX4_addPart_51 flX4_24 gX1_5 ?_
    refine w_iload C dX4_addPart_54 0 rfl ?_
    refine w_iconst (v := 0) C dX4_addPart_56 (by decide) ?_
    refine x_iast C dX4_addPart_57 aX6 h (fun S6 h => ?_)
    refine w_aload_n C dX4_addPart_58 rfl 1 rfl ?_
    refine w_dup C dX4_addPart_59 rfl ?_
    refine w_geti C dX4_addPart_60 flX4_55 iX1_6 ?_
    refine w_iconst (v := 1) C dX4_addPart_63 (by decide) ?_
    refine w_iload C dX4_addPart_64 0 rfl ?_
    refine w_ishl C dX4_addPart_66 ?_
    refine w_ior C dX4_addPart_67 ?_
    refine x_puti C dX4_addPart_68 fpX4_55 iX1_6 h (fun S7 h => ?_)
    refine w_aload_n C dX4_addPart_71 rfl 1 rfl ?_
    refine w_dup C dX4_addPart_72 rfl ?_
    refine w_geti C dX4_addPart_73 flX4_46 iX1_0 ?_
    refine w_iconst (v := 1) C dX4_addPart_76 (by decide) ?_
    refine w_iadd C dX4_addPart_77 ?_
    refine x_puti C dX4_addPart_78 fpX4_46 iX1_0 h (fun S8 h => ?_)
    refine w_iload C dX4_addPart_81 0 rfl ?_
    exact w_iret C dX4_addPart_83 h
  refine w_iconst (v := -1) C dX4_addPart_9 (by decide) ?_
  exact w_iret C dX4_addPart_10 h)
set_option maxRecDepth 100000 in
theorem mX4_addPart_23 {Y : YT} {S : St} {a1 : Int32} {a2 : Int32} {a3 : Int32} {a4 : Int32} {R : St × Int32} (h : fX4_addPart 23 S a1 a2 a3 a4 = some R) : Mc VX Y yX4_addPart cX4_addPart 6 (some .int) 0 0 [rf Y 23, .int a1, .int a2, .int a3, .int a4] S (some (.int R.2), R.1) :=
  Mc.start [(0, rf Y 23), (1, .int a1), (2, .int a2), (3, .int a3), (4, .int a4)] rfl pnX4 (Nat.le_of_ble_eq_true rfl) (fun X (C : Ok VX Y X RX4 cX4_addPart 6 (some .int)) => by
  unfold fX4_addPart at h
  refine w_aload_n C dX4_addPart_0 rfl 0 rfl ?_
  refine w_geti C dX4_addPart_1 flX4_46 iX23_0 ?_
  refine w_bipush (v := 20) C dX4_addPart_4 (by decide) ?_
  refine w_icmp_lt C 11 dX4_addPart_6 (by decide) h (fun h => ?_) (fun h => ?_)
  · refine w_aload_n C dX4_addPart_11 rfl 0 rfl ?_
    refine w_geti C dX4_addPart_12 flX4_46 iX23_0 ?_
    refine w_topi h (fun v1 h => ?_)
    refine w_istore C dX4_addPart_15 (by decide) [(5, .int v1), (0, rf Y 23), (1, .int a1), (2, .int a2), (3, .int a3), (4, .int a4)] rfl ?_
    refine w_aload_n C dX4_addPart_17 rfl 1 rfl ?_
    refine w_getr C dX4_addPart_18 flX4_9 gX23_1 ?_
    refine w_iload C dX4_addPart_21 0 rfl ?_
    refine w_iload_n C dX4_addPart_23 rfl 2 rfl ?_
    refine x_iast C dX4_addPart_24 aX24 h (fun S2 h => ?_)
    refine w_aload_n C dX4_addPart_25 rfl 1 rfl ?_
    refine w_getr C dX4_addPart_26 flX4_15 gX23_2 ?_
    refine w_iload C dX4_addPart_29 0 rfl ?_
    refine w_iload_n C dX4_addPart_31 rfl 3 rfl ?_
    refine x_iast C dX4_addPart_32 aX25 h (fun S3 h => ?_)
    refine w_aload_n C dX4_addPart_33 rfl 1 rfl ?_
    refine w_getr C dX4_addPart_34 flX4_18 gX23_3 ?_
    refine w_iload C dX4_addPart_37 0 rfl ?_
    refine w_iload_n C dX4_addPart_39 rfl 4 rfl ?_
    refine x_iast C dX4_addPart_40 aX26 h (fun S4 h => ?_)
    refine w_aload_n C dX4_addPart_41 rfl 1 rfl ?_
    refine w_getr C dX4_addPart_42 flX4_21 gX23_4 ?_
    refine w_iload C dX4_addPart_45 0 rfl ?_
    refine w_iload C dX4_addPart_47 5 rfl ?_
    refine x_iast C dX4_addPart_49 aX27 h (fun S5 h => ?_)
    refine w_aload_n C dX4_addPart_50 rfl 1 rfl ?_
    refine w_getr C dX4_addPart_51 flX4_24 gX23_5 ?_
    refine w_iload C dX4_addPart_54 0 rfl ?_
    refine w_iconst (v := 0) C dX4_addPart_56 (by decide) ?_
    refine x_iast C dX4_addPart_57 aX28 h (fun S6 h => ?_)
    refine w_aload_n C dX4_addPart_58 rfl 1 rfl ?_
    refine w_dup C dX4_addPart_59 rfl ?_
    refine w_geti C dX4_addPart_60 flX4_55 iX23_6 ?_
    refine w_iconst (v := 1) C dX4_addPart_63 (by decide) ?_
    refine w_iload C dX4_addPart_64 0 rfl ?_
    refine w_ishl C dX4_addPart_66 ?_
    refine w_ior C dX4_addPart_67 ?_
    refine x_puti C dX4_addPart_68 fpX4_55 iX23_6 h (fun S7 h => ?_)
    refine w_aload_n C dX4_addPart_71 rfl 1 rfl ?_
    refine w_dup C dX4_addPart_72 rfl ?_
    refine w_geti C dX4_addPart_73 flX4_46 iX23_0 ?_
    refine w_iconst (v := 1) C dX4_addPart_76 (by decide) ?_
    refine w_iadd C dX4_addPart_77 ?_
    refine x_puti C dX4_addPart_78 fpX4_46 iX23_0 h (fun S8 h => ?_)
    refine w_iload C dX4_addPart_81 0 rfl ?_
    exact w_iret C dX4_addPart_83 h
  refine w_iconst (v := -1) C dX4_addPart_9 (by decide) ?_
  exact w_iret C dX4_addPart_10 h)
def fX5_takePerhaps (F : Nat) (w : Nat) (c : Nat) (len : Nat) (S : St) (a3 : Int32) (a4 : Int32) : Option (St × Int32) := if (S.1 44 3) = (1) then (bv (fX5_isWord F w S) fun v1 => if v1 = 0 then (some (S, 1)) else (bv (fX5_step F S) fun S2 => bv (fX5_isNumber S2 (0) a4) fun v3 => if v3 = 0 then (some (S2, 0)) else (if a3 < 0 then (some (S2, 0)) else (if a3 < (Int32.ofNat len) then (sti S2 c a3 len (S2.1 44 5) fun S4 => bv (fX5_step F S4) fun S5 => some (S5, 1)) else (some (S2, 0)))))) else (some (S, 1))
set_option maxRecDepth 100000 in
theorem mX5_takePerhaps_27 {Y : YT} {F : Nat} {w : Nat} {S : St} {a3 : Int32} {a4 : Int32} {R : St × Int32} (hw : w < 13) (h : fX5_takePerhaps F w 27 20 S a3 a4 = some R) : Mc VX Y yX5_takePerhaps cX5_takePerhaps 5 (some .boolean) 5 107 [rf Y 44, rz Y (10 + w), rf Y 27, .int a3, .int a4] S (some (.int R.2), R.1) :=
  Mc.start [(0, rf Y 44), (1, rz Y (10 + w)), (2, rf Y 27), (3, .int a3), (4, .int a4)] rfl pnX5 (Nat.le_of_ble_eq_true rfl) (fun X (C : Ok VX Y X RX5 cX5_takePerhaps 5 (some .boolean)) => by
  unfold fX5_takePerhaps at h
  refine w_aload_n C dX5_takePerhaps_0 rfl 0 rfl ?_
  refine w_geti C dX5_takePerhaps_1 flX5_32 iX44_3 ?_
  refine w_iconst (v := 1) C dX5_takePerhaps_4 (by decide) ?_
  refine w_icmp_ne C 16 dX5_takePerhaps_5 (by decide) h (fun h => ?_) (fun h => ?_)
  · refine w_iconst (v := 1) C dX5_takePerhaps_16 (by decide) ?_
    exact w_zret0 C dX5_takePerhaps_17 rfl h
  refine w_aload_n C dX5_takePerhaps_8 rfl 0 rfl ?_
  refine w_aload_n C dX5_takePerhaps_9 rfl 1 rfl ?_
  refine p_Vi C dX5_takePerhaps_10 h (fun _ e => mX5_isWord hw e) lnX5_39 mvX5_isWord bX44 rfl ⟨Nat.le_of_ble_eq_true rfl, Nat.le_of_ble_eq_true rfl⟩ [] rfl (Nat.le_of_ble_eq_true rfl) (fun v1 h => ?_)
  refine w_if_ne C 18 dX5_takePerhaps_13 (by decide) h (fun h => ?_) (fun h => ?_)
  · refine w_aload_n C dX5_takePerhaps_18 rfl 0 rfl ?_
    refine w_Vv C dX5_takePerhaps_19 h (fun _ e => mX5_step e) lnX5_22 mvX5_step bX44 rfl ⟨Nat.le_of_ble_eq_true rfl, Nat.le_of_ble_eq_true rfl⟩ [] rfl (Nat.le_of_ble_eq_true rfl) (fun S2 h => ?_)
    refine w_aload_n C dX5_takePerhaps_22 rfl 0 rfl ?_
    refine w_iconst (v := 0) C dX5_takePerhaps_23 (by decide) ?_
    refine w_iload C dX5_takePerhaps_24 4 rfl ?_
    refine p_Vi C dX5_takePerhaps_26 h (fun _ e => mX5_isNumber e) lnX5_67 mvX5_isNumber bX44 rfl ⟨Nat.le_of_ble_eq_true rfl, Nat.le_of_ble_eq_true rfl⟩ [] rfl (Nat.le_of_ble_eq_true rfl) (fun v3 h => ?_)
    refine w_if_eq C 42 dX5_takePerhaps_29 (by decide) h (fun h => ?_) (fun h => ?_)
    · refine w_iconst (v := 0) C dX5_takePerhaps_42 (by decide) ?_
      exact w_zret0 C dX5_takePerhaps_43 rfl h
    refine w_iload_n C dX5_takePerhaps_32 rfl 3 rfl ?_
    refine w_if_lt C 42 dX5_takePerhaps_33 (by decide) h (fun h => ?_) (fun h => ?_)
    · refine w_iconst (v := 0) C dX5_takePerhaps_42 (by decide) ?_
      exact w_zret0 C dX5_takePerhaps_43 rfl h
    refine w_iload_n C dX5_takePerhaps_36 rfl 3 rfl ?_
    refine w_aload_n C dX5_takePerhaps_37 rfl 2 rfl ?_
    refine x_aleni C dX5_takePerhaps_38 aX27 ?_
    refine w_icmp_lt C 44 dX5_takePerhaps_39 (by decide) h (fun h => ?_) (fun h => ?_)
    · refine w_aload_n C dX5_takePerhaps_44 rfl 2 rfl ?_
      refine w_iload_n C dX5_takePerhaps_45 rfl 3 rfl ?_
      refine w_aload_n C dX5_takePerhaps_46 rfl 0 rfl ?_
      refine w_geti C dX5_takePerhaps_47 flX5_71 iX44_5 ?_
      refine x_iast C dX5_takePerhaps_50 aX27 h (fun S4 h => ?_)
      refine w_aload_n C dX5_takePerhaps_51 rfl 0 rfl ?_
      refine w_Vv C dX5_takePerhaps_52 h (fun _ e => mX5_step e) lnX5_22 mvX5_step bX44 rfl ⟨Nat.le_of_ble_eq_true rfl, Nat.le_of_ble_eq_true rfl⟩ [] rfl (Nat.le_of_ble_eq_true rfl) (fun S5 h => ?_)
      refine w_iconst (v := 1) C dX5_takePerhaps_55 (by decide) ?_
      exact w_zret0 C dX5_takePerhaps_56 rfl h
    refine w_iconst (v := 0) C dX5_takePerhaps_42 (by decide) ?_
    exact w_zret0 C dX5_takePerhaps_43 rfl h
  refine w_iconst (v := 1) C dX5_takePerhaps_16 (by decide) ?_
  exact w_zret0 C dX5_takePerhaps_17 rfl h)
set_option maxRecDepth 100000 in
theorem mX5_takePerhaps_28 {Y : YT} {F : Nat} {w : Nat} {S : St} {a3 : Int32} {a4 : Int32} {R : St × Int32} (hw : w < 13) (h : fX5_takePerhaps F w 28 20 S a3 a4 = some R) : Mc VX Y yX5_takePerhaps cX5_takePerhaps 5 (some .boolean) 5 107 [rf Y 44, rz Y (10 + w), rf Y 28, .int a3, .int a4] S (some (.int R.2), R.1) :=
  Mc.start [(0, rf Y 44), (1, rz Y (10 + w)), (2, rf Y 28), (3, .int a3), (4, .int a4)] rfl pnX5 (Nat.le_of_ble_eq_true rfl) (fun X (C : Ok VX Y X RX5 cX5_takePerhaps 5 (some .boolean)) => by
  unfold fX5_takePerhaps at h
  refine w_aload_n C dX5_takePerhaps_0 rfl 0 rfl ?_
  refine w_geti C dX5_takePerhaps_1 flX5_32 iX44_3 ?_
  refine w_iconst (v := 1) C dX5_takePerhaps_4 (by decide) ?_
  refine w_icmp_ne C 16 dX5_takePerhaps_5 (by decide) h (fun h => ?_) (fun h => ?_)
  · refine w_iconst (v := 1) C dX5_takePerhaps_16 (by decide) ?_
    exact w_zret0 C dX5_takePerhaps_17 rfl h
  refine w_aload_n C dX5_takePerhaps_8 rfl 0 rfl ?_
  refine w_aload_n C dX5_takePerhaps_9 rfl 1 rfl ?_
  refine p_Vi C dX5_takePerhaps_10 h (fun _ e => mX5_isWord hw e) lnX5_39 mvX5_isWord bX44 rfl ⟨Nat.le_of_ble_eq_true rfl, Nat.le_of_ble_eq_true rfl⟩ [] rfl (Nat.le_of_ble_eq_true rfl) (fun v1 h => ?_)
  refine w_if_ne C 18 dX5_takePerhaps_13 (by decide) h (fun h => ?_) (fun h => ?_)
  · refine w_aload_n C dX5_takePerhaps_18 rfl 0 rfl ?_
    refine w_Vv C dX5_takePerhaps_19 h (fun _ e => mX5_step e) lnX5_22 mvX5_step bX44 rfl ⟨Nat.le_of_ble_eq_true rfl, Nat.le_of_ble_eq_true rfl⟩ [] rfl (Nat.le_of_ble_eq_true rfl) (fun S2 h => ?_)
    refine w_aload_n C dX5_takePerhaps_22 rfl 0 rfl ?_
    refine w_iconst (v := 0) C dX5_takePerhaps_23 (by decide) ?_
    refine w_iload C dX5_takePerhaps_24 4 rfl ?_
    refine p_Vi C dX5_takePerhaps_26 h (fun _ e => mX5_isNumber e) lnX5_67 mvX5_isNumber bX44 rfl ⟨Nat.le_of_ble_eq_true rfl, Nat.le_of_ble_eq_true rfl⟩ [] rfl (Nat.le_of_ble_eq_true rfl) (fun v3 h => ?_)
    refine w_if_eq C 42 dX5_takePerhaps_29 (by decide) h (fun h => ?_) (fun h => ?_)
    · refine w_iconst (v := 0) C dX5_takePerhaps_42 (by decide) ?_
      exact w_zret0 C dX5_takePerhaps_43 rfl h
    refine w_iload_n C dX5_takePerhaps_32 rfl 3 rfl ?_
    refine w_if_lt C 42 dX5_takePerhaps_33 (by decide) h (fun h => ?_) (fun h => ?_)
    · refine w_iconst (v := 0) C dX5_takePerhaps_42 (by decide) ?_
      exact w_zret0 C dX5_takePerhaps_43 rfl h
    refine w_iload_n C dX5_takePerhaps_36 rfl 3 rfl ?_
    refine w_aload_n C dX5_takePerhaps_37 rfl 2 rfl ?_
    refine x_aleni C dX5_takePerhaps_38 aX28 ?_
    refine w_icmp_lt C 44 dX5_takePerhaps_39 (by decide) h (fun h => ?_) (fun h => ?_)
    · refine w_aload_n C dX5_takePerhaps_44 rfl 2 rfl ?_
      refine w_iload_n C dX5_takePerhaps_45 rfl 3 rfl ?_
      refine w_aload_n C dX5_takePerhaps_46 rfl 0 rfl ?_
      refine w_geti C dX5_takePerhaps_47 flX5_71 iX44_5 ?_
      refine x_iast C dX5_takePerhaps_50 aX28 h (fun S4 h => ?_)
      refine w_aload_n C dX5_takePerhaps_51 rfl 0 rfl ?_
      refine w_Vv C dX5_takePerhaps_52 h (fun _ e => mX5_step e) lnX5_22 mvX5_step bX44 rfl ⟨Nat.le_of_ble_eq_true rfl, Nat.le_of_ble_eq_true rfl⟩ [] rfl (Nat.le_of_ble_eq_true rfl) (fun S5 h => ?_)
      refine w_iconst (v := 1) C dX5_takePerhaps_55 (by decide) ?_
      exact w_zret0 C dX5_takePerhaps_56 rfl h
    refine w_iconst (v := 0) C dX5_takePerhaps_42 (by decide) ?_
    exact w_zret0 C dX5_takePerhaps_43 rfl h
  refine w_iconst (v := 1) C dX5_takePerhaps_16 (by decide) ?_
  exact w_zret0 C dX5_takePerhaps_17 rfl h)
def fX5_takePart (F : Nat) (S : St) (a2 : Int32) : Option (St × Int32) := if (S.1 23 0) < (20) then (bv (fX5_step F S) fun S1 => bv (fX5_isNumber S1 (0) (7)) fun v2 => if v2 = 0 then (some (S1, 0)) else (pl ((S1.1 44 5)) fun v3 => bv (fX5_step F S1) fun S4 => bv (fX5_isNumber S4 (1) (999)) fun v5 => if v5 = 0 then (some (S4, 0)) else (bq (fX4_addPart 23 S4 a2 v3 (S4.1 44 5) (0)) fun S6 v7 => bv (fX5_step F S6) fun S8 => bq (fX5_takePerhaps F 10 27 20 S8 v7 (99)) fun S9 v10 => if v10 = 0 then (some (S9, 0)) else (bq (fX5_takePerhaps F 11 28 20 S9 v7 (99)) fun S11 v12 => if v12 = 0 then (some (S11, 0)) else (some (S11, 1)))))) else (some (S, 0))
set_option maxRecDepth 100000 in
theorem mX5_takePart {Y : YT} {F : Nat} {S : St} {a2 : Int32} {R : St × Int32} (h : fX5_takePart F S a2 = some R) : Mc VX Y yX5_takePart cX5_takePart 5 (some .boolean) 6 131 [rf Y 44, rf Y 23, .int a2] S (some (.int R.2), R.1) :=
  Mc.start [(0, rf Y 44), (1, rf Y 23), (2, .int a2)] rfl pnX5 (Nat.le_of_ble_eq_true rfl) (fun X (C : Ok VX Y X RX5 cX5_takePart 5 (some .boolean)) => by
  unfold fX5_takePart at h
  refine w_aload_n C dX5_takePart_0 rfl 1 rfl ?_
  refine w_geti C dX5_takePart_1 flX5_62 iX23_0 ?_
  refine w_bipush (v := 20) C dX5_takePart_4 (by decide) ?_
  refine w_icmp_lt C 11 dX5_takePart_6 (by decide) h (fun h => ?_) (fun h => ?_)
  · refine w_aload_n C dX5_takePart_11 rfl 0 rfl ?_
    refine w_Vv C dX5_takePart_12 h (fun _ e => mX5_step e) lnX5_22 mvX5_step bX44 rfl ⟨Nat.le_of_ble_eq_true rfl, Nat.le_of_ble_eq_true rfl⟩ [] rfl (Nat.le_of_ble_eq_true rfl) (fun S1 h => ?_)
    refine w_aload_n C dX5_takePart_15 rfl 0 rfl ?_
    refine w_iconst (v := 0) C dX5_takePart_16 (by decide) ?_
    refine w_bipush (v := 7) C dX5_takePart_17 (by decide) ?_
    refine p_Vi C dX5_takePart_19 h (fun _ e => mX5_isNumber e) lnX5_67 mvX5_isNumber bX44 rfl ⟨Nat.le_of_ble_eq_true rfl, Nat.le_of_ble_eq_true rfl⟩ [] rfl (Nat.le_of_ble_eq_true rfl) (fun v2 h => ?_)
    refine w_if_ne C 27 dX5_takePart_22 (by decide) h (fun h => ?_) (fun h => ?_)
    · refine w_aload_n C dX5_takePart_27 rfl 0 rfl ?_
      refine w_geti C dX5_takePart_28 flX5_71 iX44_5 ?_
      refine w_topi h (fun v3 h => ?_)
      refine w_istore_n C dX5_takePart_31 rfl (by decide) [(3, .int v3), (0, rf Y 44), (1, rf Y 23), (2, .int a2)] rfl ?_
      refine w_aload_n C dX5_takePart_32 rfl 1 rfl ?_
      refine w_Vv C dX5_takePart_33 h (fun _ e => mX5_step e) lnX5_22 mvX5_step bX44 rfl ⟨Nat.le_of_ble_eq_true rfl, Nat.le_of_ble_eq_true rfl⟩ [] rfl (Nat.le_of_ble_eq_true rfl) (fun S4 h => ?_)
      refine w_aload_n C dX5_takePart_36 rfl 1 rfl ?_
      refine w_iconst (v := 1) C dX5_takePart_37 (by decide) ?_
      refine w_sipush (v := 999) C dX5_takePart_38 (by decide) ?_
      refine p_Vi C dX5_takePart_41 h (fun _ e => mX5_isNumber e) lnX5_67 mvX5_isNumber bX44 rfl ⟨Nat.le_of_ble_eq_true rfl, Nat.le_of_ble_eq_true rfl⟩ [] rfl (Nat.le_of_ble_eq_true rfl) (fun v5 h => ?_)
      refine w_if_ne C 49 dX5_takePart_44 (by decide) h (fun h => ?_) (fun h => ?_)
      · refine w_aload_n C dX5_takePart_49 rfl 2 rfl ?_
        refine w_iload_n C dX5_takePart_50 rfl 3 rfl ?_
        refine w_iload_n C dX5_takePart_51 rfl 0 rfl ?_
        refine w_aload_n C dX5_takePart_52 rfl 1 rfl ?_
        refine w_geti C dX5_takePart_53 flX5_71 iX44_5 ?_
        refine w_iconst (v := 0) C dX5_takePart_56 (by decide) ?_
        refine w_Vi C dX5_takePart_57 h (fun _ e => mX4_addPart_23 e) lnX5_74 mvX4_addPart bX23 rfl ⟨Nat.le_of_ble_eq_true rfl, Nat.le_of_ble_eq_true rfl⟩ [] rfl (Nat.le_of_ble_eq_true rfl) (fun S6 v7 h => ?_)
        refine w_istore C dX5_takePart_60 (by decide) [(4, .int v7), (3, .int v3), (0, rf Y 44), (1, rf Y 23), (2, .int a2)] rfl ?_
        refine w_aload_n C dX5_takePart_62 rfl 2 rfl ?_
        refine w_Vv C dX5_takePart_63 h (fun _ e => mX5_step e) lnX5_22 mvX5_step bX44 rfl ⟨Nat.le_of_ble_eq_true rfl, Nat.le_of_ble_eq_true rfl⟩ [] rfl (Nat.le_of_ble_eq_true rfl) (fun S8 h => ?_)
        refine w_aload_n C dX5_takePart_66 rfl 2 rfl ?_
        refine w_ldcs C dX5_takePart_67 10 (by decide) rfl ?_
        refine w_aload_n C dX5_takePart_69 rfl 3 rfl ?_
        refine w_getr C dX5_takePart_70 flX5_80 gX23_4 ?_
        refine w_iload C dX5_takePart_73 0 rfl ?_
        refine w_bipush (v := 99) C dX5_takePart_75 (by decide) ?_
        refine w_Vi C dX5_takePart_77 h (fun _ e => mX5_takePerhaps_27 (by decide) e) lnX5_83 mvX5_takePerhaps bX44 rfl ⟨Nat.le_of_ble_eq_true rfl, Nat.le_of_ble_eq_true rfl⟩ [] rfl (Nat.le_of_ble_eq_true rfl) (fun S9 v10 h => ?_)
        refine w_if_eq C 104 dX5_takePart_80 (by decide) h (fun h => ?_) (fun h => ?_)
        · refine w_iconst (v := 0) C dX5_takePart_104 (by decide) ?_
          exact w_zret0 C dX5_takePart_105 rfl h
        refine w_aload_n C dX5_takePart_83 rfl 2 rfl ?_
        refine w_ldcs C dX5_takePart_84 11 (by decide) rfl ?_
        refine w_aload_n C dX5_takePart_86 rfl 3 rfl ?_
        refine w_getr C dX5_takePart_87 flX5_89 gX23_5 ?_
        refine w_iload C dX5_takePart_90 0 rfl ?_
        refine w_bipush (v := 99) C dX5_takePart_92 (by decide) ?_
        refine w_Vi C dX5_takePart_94 h (fun _ e => mX5_takePerhaps_28 (by decide) e) lnX5_83 mvX5_takePerhaps bX44 rfl ⟨Nat.le_of_ble_eq_true rfl, Nat.le_of_ble_eq_true rfl⟩ [] rfl (Nat.le_of_ble_eq_true rfl) (fun S11 v12 h => ?_)
        refine w_if_eq C 104 dX5_takePart_97 (by decide) h (fun h => ?_) (fun h => ?_)
        · refine w_iconst (v := 0) C dX5_takePart_104 (by decide) ?_
          exact w_zret0 C dX5_takePart_105 rfl h
        refine w_iconst (v := 1) C dX5_takePart_100 (by decide) ?_
        refine w_goto C 105 dX5_takePart_101 (by decide) ?_
        exact w_zret0 C dX5_takePart_105 rfl h
      refine w_iconst (v := 0) C dX5_takePart_47 (by decide) ?_
      exact w_zret0 C dX5_takePart_48 rfl h
    refine w_iconst (v := 0) C dX5_takePart_25 (by decide) ?_
    exact w_zret0 C dX5_takePart_26 rfl h
  refine w_iconst (v := 0) C dX5_takePart_9 (by decide) ?_
  exact w_zret0 C dX5_takePart_10 rfl h)
def fX4_addCamp_L25 (b : Nat) (v1 : Int32) (J49 : St → Option (St × Int32)) : Nat → St → Int32 → Option (St × Int32)
  | 0, _, _ => none
  | G25 + 1, S5, v6 => if (12) ≤ v6 then (J49 S5) else (sti S5 (9 + b) ((v1 * (12)) + v6) 72 (0) fun S7 => pl (v6 + 1) fun v8 => fX4_addCamp_L25 b v1 J49 G25 S7 v8)
def fX4_addCamp (F : Nat) (b : Nat) (S : St) (a1 : Int32) : Option (St × Int32) := if (S.1 b 11) < (6) then (pl ((S.1 b 11)) fun v1 => sti S (8 + b) v1 6 a1 fun S2 => pl (fun (S3 : St) => pl (si S3 b 11 ((S3.1 b 11) + (1))) fun S4 => some (S4, v1)) fun J49 => fX4_addCamp_L25 b v1 J49 F S2 (0)) else (some (S, (-1)))
set_option maxRecDepth 100000 in
theorem mX4_addCamp_1 {Y : YT} {F : Nat} {S : St} {a1 : Int32} {R : St × Int32} (h : fX4_addCamp F 1 S a1 = some R) : Mc VX Y yX4_addCamp cX4_addCamp 4 (some .int) 0 0 [rf Y 1, .int a1] S (some (.int R.2), R.1) :=
  Mc.start [(0, rf Y 1), (1, .int a1)] rfl pnX4 (Nat.le_of_ble_eq_true rfl) (fun X (C : Ok VX Y X RX4 cX4_addCamp 4 (some .int)) => by
  unfold fX4_addCamp at h
  refine w_aload_n C dX4_addCamp_0 rfl 0 rfl ?_
  refine w_geti C dX4_addCamp_1 flX4_61 iX1_11 ?_
  refine w_bipush (v := 6) C dX4_addCamp_4 (by decide) ?_
  refine w_icmp_lt C 11 dX4_addCamp_6 (by decide) h (fun h => ?_) (fun h => ?_)
  · refine w_aload_n C dX4_addCamp_11 rfl 0 rfl ?_
    refine w_geti C dX4_addCamp_12 flX4_61 iX1_11 ?_
    refine w_topi h (fun v1 h => ?_)
    refine w_istore_n C dX4_addCamp_15 rfl (by decide) [(2, .int v1), (0, rf Y 1), (1, .int a1)] rfl ?_
    refine w_aload_n C dX4_addCamp_16 rfl 1 rfl ?_
    refine w_getr C dX4_addCamp_17 flX4_33 gX1_12 ?_
    refine w_iload_n C dX4_addCamp_20 rfl 0 rfl ?_
    refine w_iload_n C dX4_addCamp_21 rfl 2 rfl ?_
    refine x_iast C dX4_addCamp_22 aX9 h (fun S2 h => ?_)
    refine w_iconst (v := 0) C dX4_addCamp_23 (by decide) ?_
    refine w_istore_n C dX4_addCamp_24 rfl (by decide) [(3, .int (0)), (2, .int v1), (0, rf Y 1), (1, .int a1)] rfl ?_
    refine w_join (fun J49 => ∀ (S3 : St), J49 S3 = some R → WS VX Y X 4 0 0 (some (.int R.2), R.1) S3 49 [(0, rf Y 1), (2, .int v1)] []) h ?_ (fun J49 hJ49 h => ?_)
    · intro S3 h
      refine w_aload_n C dX4_addCamp_49 rfl 0 rfl ?_
      refine w_dup C dX4_addCamp_50 rfl ?_
      refine w_geti C dX4_addCamp_51 flX4_61 iX1_11 ?_
      refine w_iconst (v := 1) C dX4_addCamp_54 (by decide) ?_
      refine w_iadd C dX4_addCamp_55 ?_
      refine x_puti C dX4_addCamp_56 fpX4_61 iX1_11 h (fun S4 h => ?_)
      refine w_iload_n C dX4_addCamp_59 rfl 1 rfl ?_
      exact w_iret C dX4_addCamp_60 h
    have hL25 : ∀ (G25 : Nat) (S5 : St) (v6 : Int32), fX4_addCamp_L25 1 v1 J49 G25 S5 v6 = some R → WS VX Y X 4 0 0 (some (.int R.2), R.1) S5 25 [(0, rf Y 1), (2, .int v1), (3, .int v6)] [] := by
      intro G25
      induction G25 with
      | zero => intro S5 v6 h; exact nomatch (show (none : Option (St × Int32)) = some R from h)
      | succ G25 ih =>
        intro S5 v6 h
        rw [fX4_addCamp_L25] at h
        refine w_iload_n C dX4_addCamp_25 rfl 2 rfl ?_
        refine w_bipush (v := 12) C dX4_addCamp_26 (by decide) ?_
        refine w_icmp_ge C 49 dX4_addCamp_28 (by decide) h (fun h => ?_) (fun h => ?_)
        · exact w_sub [0, 1] rfl (hJ49 _ h)
        refine w_aload_n C dX4_addCamp_31 rfl 0 rfl ?_
        refine w_getr C dX4_addCamp_32 flX4_36 gX1_13 ?_
        refine w_iload_n C dX4_addCamp_35 rfl 1 rfl ?_
        refine w_bipush (v := 12) C dX4_addCamp_36 (by decide) ?_
        refine w_imul C dX4_addCamp_38 ?_
        refine w_iload_n C dX4_addCamp_39 rfl 2 rfl ?_
        refine w_iadd C dX4_addCamp_40 ?_
        refine w_iconst (v := 0) C dX4_addCamp_41 (by decide) ?_
        refine x_iast C dX4_addCamp_42 aX10 h (fun S7 h => ?_)
        refine x_iinc C dX4_addCamp_43 2 rfl 1 (by decide) h (by decide) (fun v8 => [(3, .int v8), (0, rf Y 1), (2, .int v1)]) (fun _ => rfl) (fun v8 h => ?_)
        refine w_goto C 25 dX4_addCamp_46 (by decide) ?_
        exact w_sub [1, 2, 0] rfl (ih _ _ h)
    exact w_sub [2, 1, 0] rfl (hL25 _ _ _ h)
  refine w_iconst (v := -1) C dX4_addCamp_9 (by decide) ?_
  exact w_iret C dX4_addCamp_10 h)
set_option maxRecDepth 100000 in
theorem mX4_addCamp_23 {Y : YT} {F : Nat} {S : St} {a1 : Int32} {R : St × Int32} (h : fX4_addCamp F 23 S a1 = some R) : Mc VX Y yX4_addCamp cX4_addCamp 4 (some .int) 0 0 [rf Y 23, .int a1] S (some (.int R.2), R.1) :=
  Mc.start [(0, rf Y 23), (1, .int a1)] rfl pnX4 (Nat.le_of_ble_eq_true rfl) (fun X (C : Ok VX Y X RX4 cX4_addCamp 4 (some .int)) => by
  unfold fX4_addCamp at h
  refine w_aload_n C dX4_addCamp_0 rfl 0 rfl ?_
  refine w_geti C dX4_addCamp_1 flX4_61 iX23_11 ?_
  refine w_bipush (v := 6) C dX4_addCamp_4 (by decide) ?_
  refine w_icmp_lt C 11 dX4_addCamp_6 (by decide) h (fun h => ?_) (fun h => ?_)
  · refine w_aload_n C dX4_addCamp_11 rfl 0 rfl ?_
    refine w_geti C dX4_addCamp_12 flX4_61 iX23_11 ?_
    refine w_topi h (fun v1 h => ?_)
    refine w_istore_n C dX4_addCamp_15 rfl (by decide) [(2, .int v1), (0, rf Y 23), (1, .int a1)] rfl ?_
    refine w_aload_n C dX4_addCamp_16 rfl 1 rfl ?_
    refine w_getr C dX4_addCamp_17 flX4_33 gX23_12 ?_
    refine w_iload_n C dX4_addCamp_20 rfl 0 rfl ?_
    refine w_iload_n C dX4_addCamp_21 rfl 2 rfl ?_
    refine x_iast C dX4_addCamp_22 aX31 h (fun S2 h => ?_)
    refine w_iconst (v := 0) C dX4_addCamp_23 (by decide) ?_
    refine w_istore_n C dX4_addCamp_24 rfl (by decide) [(3, .int (0)), (2, .int v1), (0, rf Y 23), (1, .int a1)] rfl ?_
    refine w_join (fun J49 => ∀ (S3 : St), J49 S3 = some R → WS VX Y X 4 0 0 (some (.int R.2), R.1) S3 49 [(0, rf Y 23), (2, .int v1)] []) h ?_ (fun J49 hJ49 h => ?_)
    · intro S3 h
      refine w_aload_n C dX4_addCamp_49 rfl 0 rfl ?_
      refine w_dup C dX4_addCamp_50 rfl ?_
      refine w_geti C dX4_addCamp_51 flX4_61 iX23_11 ?_
      refine w_iconst (v := 1) C dX4_addCamp_54 (by decide) ?_
      refine w_iadd C dX4_addCamp_55 ?_
      refine x_puti C dX4_addCamp_56 fpX4_61 iX23_11 h (fun S4 h => ?_)
      refine w_iload_n C dX4_addCamp_59 rfl 1 rfl ?_
      exact w_iret C dX4_addCamp_60 h
    have hL25 : ∀ (G25 : Nat) (S5 : St) (v6 : Int32), fX4_addCamp_L25 23 v1 J49 G25 S5 v6 = some R → WS VX Y X 4 0 0 (some (.int R.2), R.1) S5 25 [(0, rf Y 23), (2, .int v1), (3, .int v6)] [] := by
      intro G25
      induction G25 with
      | zero => intro S5 v6 h; exact nomatch (show (none : Option (St × Int32)) = some R from h)
      | succ G25 ih =>
        intro S5 v6 h
        rw [fX4_addCamp_L25] at h
        refine w_iload_n C dX4_addCamp_25 rfl 2 rfl ?_
        refine w_bipush (v := 12) C dX4_addCamp_26 (by decide) ?_
        refine w_icmp_ge C 49 dX4_addCamp_28 (by decide) h (fun h => ?_) (fun h => ?_)
        · exact w_sub [0, 1] rfl (hJ49 _ h)
        refine w_aload_n C dX4_addCamp_31 rfl 0 rfl ?_
        refine w_getr C dX4_addCamp_32 flX4_36 gX23_13 ?_
        refine w_iload_n C dX4_addCamp_35 rfl 1 rfl ?_
        refine w_bipush (v := 12) C dX4_addCamp_36 (by decide) ?_
        refine w_imul C dX4_addCamp_38 ?_
        refine w_iload_n C dX4_addCamp_39 rfl 2 rfl ?_
        refine w_iadd C dX4_addCamp_40 ?_
        refine w_iconst (v := 0) C dX4_addCamp_41 (by decide) ?_
        refine x_iast C dX4_addCamp_42 aX32 h (fun S7 h => ?_)
        refine x_iinc C dX4_addCamp_43 2 rfl 1 (by decide) h (by decide) (fun v8 => [(3, .int v8), (0, rf Y 23), (2, .int v1)]) (fun _ => rfl) (fun v8 h => ?_)
        refine w_goto C 25 dX4_addCamp_46 (by decide) ?_
        exact w_sub [1, 2, 0] rfl (ih _ _ h)
    exact w_sub [2, 1, 0] rfl (hL25 _ _ _ h)
  refine w_iconst (v := -1) C dX4_addCamp_9 (by decide) ?_
  exact w_iret C dX4_addCamp_10 h)
def fX5_takeGrass_L23 (F : Nat) (a2 : Int32) (J77 : St → Option (St × Int32)) : Nat → St → Int32 → Option (St × Int32)
  | 0, _, _ => none
  | G23 + 1, S4, v5 => if (12) ≤ v5 then (J77 S4) else (if (S4.1 44 3) = (2) then (bv (fX5_isNumber S4 (0) (999)) fun v6 => if v6 = 0 then (some (S4, 0)) else (sti S4 32 ((a2 * (12)) + v5) 72 (S4.1 44 5) fun S7 => bv (fX5_step F S7) fun S8 => pl (v5 + 1) fun v9 => fX5_takeGrass_L23 F a2 J77 G23 S8 v9)) else (some (S4, 1)))
def fX5_takeGrass (F : Nat) (S : St) (a2 : Int32) : Option (St × Int32) := bv (fX5_step F S) fun S1 => if a2 < 0 then (some (S1, 0)) else (bv (fX5_isNumber S1 (0) (999)) fun v2 => if v2 = 0 then (some (S1, 0)) else (pl (fun (S3 : St) => if (S3.1 44 3) = (2) then (some (S3, 0)) else (some (S3, 1))) fun J77 => fX5_takeGrass_L23 F a2 J77 F S1 (0)))
set_option maxRecDepth 100000 in
theorem mX5_takeGrass {Y : YT} {F : Nat} {S : St} {a2 : Int32} {R : St × Int32} (h : fX5_takeGrass F S a2 = some R) : Mc VX Y yX5_takeGrass cX5_takeGrass 4 (some .boolean) 2 44 [rf Y 44, rf Y 23, .int a2] S (some (.int R.2), R.1) :=
  Mc.start [(0, rf Y 44), (1, rf Y 23), (2, .int a2)] rfl pnX5 (Nat.le_of_ble_eq_true rfl) (fun X (C : Ok VX Y X RX5 cX5_takeGrass 4 (some .boolean)) => by
  unfold fX5_takeGrass at h
  refine w_aload_n C dX5_takeGrass_0 rfl 0 rfl ?_
  refine w_Vv C dX5_takeGrass_1 h (fun _ e => mX5_step e) lnX5_22 mvX5_step bX44 rfl ⟨Nat.le_of_ble_eq_true rfl, Nat.le_of_ble_eq_true rfl⟩ [] rfl (Nat.le_of_ble_eq_true rfl) (fun S1 h => ?_)
  refine w_iload_n C dX5_takeGrass_4 rfl 2 rfl ?_
  refine w_if_lt C 19 dX5_takeGrass_5 (by decide) h (fun h => ?_) (fun h => ?_)
  · refine w_iconst (v := 0) C dX5_takeGrass_19 (by decide) ?_
    exact w_zret0 C dX5_takeGrass_20 rfl h
  refine w_aload_n C dX5_takeGrass_8 rfl 0 rfl ?_
  refine w_iconst (v := 0) C dX5_takeGrass_9 (by decide) ?_
  refine w_sipush (v := 999) C dX5_takeGrass_10 (by decide) ?_
  refine p_Vi C dX5_takeGrass_13 h (fun _ e => mX5_isNumber e) lnX5_67 mvX5_isNumber bX44 rfl ⟨Nat.le_of_ble_eq_true rfl, Nat.le_of_ble_eq_true rfl⟩ [] rfl (Nat.le_of_ble_eq_true rfl) (fun v2 h => ?_)
  refine w_if_ne C 21 dX5_takeGrass_16 (by decide) h (fun h => ?_) (fun h => ?_)
  · refine w_iconst (v := 0) C dX5_takeGrass_21 (by decide) ?_
    refine w_istore_n C dX5_takeGrass_22 rfl (by decide) [(3, .int (0)), (0, rf Y 44), (1, rf Y 23), (2, .int a2)] rfl ?_
    refine w_join (fun J77 => ∀ (S3 : St), J77 S3 = some R → WS VX Y X 4 2 44 (some (.int R.2), R.1) S3 77 [(0, rf Y 44)] []) h ?_ (fun J77 hJ77 h => ?_)
    · intro S3 h
      refine w_aload_n C dX5_takeGrass_77 rfl 0 rfl ?_
      refine w_geti C dX5_takeGrass_78 flX5_32 iX44_3 ?_
      refine w_iconst (v := 2) C dX5_takeGrass_81 (by decide) ?_
      refine w_icmp_eq C 89 dX5_takeGrass_82 (by decide) h (fun h => ?_) (fun h => ?_)
      · refine w_iconst (v := 0) C dX5_takeGrass_89 (by decide) ?_
        exact w_zret0 C dX5_takeGrass_90 rfl h
      refine w_iconst (v := 1) C dX5_takeGrass_85 (by decide) ?_
      refine w_goto C 90 dX5_takeGrass_86 (by decide) ?_
      exact w_zret0 C dX5_takeGrass_90 rfl h
    have hL23 : ∀ (G23 : Nat) (S4 : St) (v5 : Int32), fX5_takeGrass_L23 F a2 J77 G23 S4 v5 = some R → WS VX Y X 4 2 44 (some (.int R.2), R.1) S4 23 [(0, rf Y 44), (1, rf Y 23), (2, .int a2), (3, .int v5)] [] := by
      intro G23
      induction G23 with
      | zero => intro S4 v5 h; exact nomatch (show (none : Option (St × Int32)) = some R from h)
      | succ G23 ih =>
        intro S4 v5 h
        rw [fX5_takeGrass_L23] at h
        refine w_iload_n C dX5_takeGrass_23 rfl 3 rfl ?_
        refine w_bipush (v := 12) C dX5_takeGrass_24 (by decide) ?_
        refine w_icmp_ge C 77 dX5_takeGrass_26 (by decide) h (fun h => ?_) (fun h => ?_)
        · exact w_sub [0] rfl (hJ77 _ h)
        refine w_aload_n C dX5_takeGrass_29 rfl 0 rfl ?_
        refine w_geti C dX5_takeGrass_30 flX5_32 iX44_3 ?_
        refine w_iconst (v := 2) C dX5_takeGrass_33 (by decide) ?_
        refine w_icmp_eq C 39 dX5_takeGrass_34 (by decide) h (fun h => ?_) (fun h => ?_)
        · refine w_aload_n C dX5_takeGrass_39 rfl 0 rfl ?_
          refine w_iconst (v := 0) C dX5_takeGrass_40 (by decide) ?_
          refine w_sipush (v := 999) C dX5_takeGrass_41 (by decide) ?_
          refine p_Vi C dX5_takeGrass_44 h (fun _ e => mX5_isNumber e) lnX5_67 mvX5_isNumber bX44 rfl ⟨Nat.le_of_ble_eq_true rfl, Nat.le_of_ble_eq_true rfl⟩ [] rfl (Nat.le_of_ble_eq_true rfl) (fun v6 h => ?_)
          refine w_if_ne C 52 dX5_takeGrass_47 (by decide) h (fun h => ?_) (fun h => ?_)
          · refine w_aload_n C dX5_takeGrass_52 rfl 1 rfl ?_
            refine w_getr C dX5_takeGrass_53 flX5_104 gX23_13 ?_
            refine w_iload_n C dX5_takeGrass_56 rfl 2 rfl ?_
            refine w_bipush (v := 12) C dX5_takeGrass_57 (by decide) ?_
            refine w_imul C dX5_takeGrass_59 ?_
            refine w_iload_n C dX5_takeGrass_60 rfl 3 rfl ?_
            refine w_iadd C dX5_takeGrass_61 ?_
            refine w_aload_n C dX5_takeGrass_62 rfl 0 rfl ?_
            refine w_geti C dX5_takeGrass_63 flX5_71 iX44_5 ?_
            refine x_iast C dX5_takeGrass_66 aX32 h (fun S7 h => ?_)
            refine w_aload_n C dX5_takeGrass_67 rfl 0 rfl ?_
            refine w_Vv C dX5_takeGrass_68 h (fun _ e => mX5_step e) lnX5_22 mvX5_step bX44 rfl ⟨Nat.le_of_ble_eq_true rfl, Nat.le_of_ble_eq_true rfl⟩ [] rfl (Nat.le_of_ble_eq_true rfl) (fun S8 h => ?_)
            refine x_iinc C dX5_takeGrass_71 3 rfl 1 (by decide) h (by decide) (fun v9 => [(3, .int v9), (0, rf Y 44), (1, rf Y 23), (2, .int a2)]) (fun _ => rfl) (fun v9 h => ?_)
            refine w_goto C 23 dX5_takeGrass_74 (by decide) ?_
            exact w_sub [1, 2, 3, 0] rfl (ih _ _ h)
          refine w_iconst (v := 0) C dX5_takeGrass_50 (by decide) ?_
          exact w_zret0 C dX5_takeGrass_51 rfl h
        refine w_iconst (v := 1) C dX5_takeGrass_37 (by decide) ?_
        exact w_zret0 C dX5_takeGrass_38 rfl h
    exact w_sub [1, 2, 3, 0] rfl (hL23 _ _ _ h)
  refine w_iconst (v := 0) C dX5_takeGrass_19 (by decide) ?_
  exact w_zret0 C dX5_takeGrass_20 rfl h)
def fX5_takeCamp (F : Nat) (S : St) : Option (St × Int32) := if (S.1 23 11) < (6) then (bv (fX5_step F S) fun S1 => bv (fX5_isNumber S1 (0) (99)) fun v2 => if v2 = 0 then (some (S1, 0)) else (bq (fX4_addCamp F 23 S1 (S1.1 44 5)) fun S3 v4 => bv (fX5_step F S3) fun S5 => if (S5.1 44 3) = (1) then (bv (fX5_isWord F 12 S5) fun v6 => if v6 = 0 then (some (S5, 1)) else (bq (fX5_takeGrass F S5 v4) fun S7 v8 => if v8 = 0 then (some (S7, 0)) else (some (S7, 1)))) else (some (S5, 1)))) else (some (S, 0))
set_option maxRecDepth 100000 in
theorem mX5_takeCamp {Y : YT} {F : Nat} {S : St} {R : St × Int32} (h : fX5_takeCamp F S  = some R) : Mc VX Y yX5_takeCamp cX5_takeCamp 3 (some .boolean) 5 107 [rf Y 44, rf Y 23] S (some (.int R.2), R.1) :=
  Mc.start [(0, rf Y 44), (1, rf Y 23)] rfl pnX5 (Nat.le_of_ble_eq_true rfl) (fun X (C : Ok VX Y X RX5 cX5_takeCamp 3 (some .boolean)) => by
  unfold fX5_takeCamp at h
  refine w_aload_n C dX5_takeCamp_0 rfl 1 rfl ?_
  refine w_geti C dX5_takeCamp_1 flX5_92 iX23_11 ?_
  refine w_bipush (v := 6) C dX5_takeCamp_4 (by decide) ?_
  refine w_icmp_lt C 11 dX5_takeCamp_6 (by decide) h (fun h => ?_) (fun h => ?_)
  · refine w_aload_n C dX5_takeCamp_11 rfl 0 rfl ?_
    refine w_Vv C dX5_takeCamp_12 h (fun _ e => mX5_step e) lnX5_22 mvX5_step bX44 rfl ⟨Nat.le_of_ble_eq_true rfl, Nat.le_of_ble_eq_true rfl⟩ [] rfl (Nat.le_of_ble_eq_true rfl) (fun S1 h => ?_)
    refine w_aload_n C dX5_takeCamp_15 rfl 0 rfl ?_
    refine w_iconst (v := 0) C dX5_takeCamp_16 (by decide) ?_
    refine w_bipush (v := 99) C dX5_takeCamp_17 (by decide) ?_
    refine p_Vi C dX5_takeCamp_19 h (fun _ e => mX5_isNumber e) lnX5_67 mvX5_isNumber bX44 rfl ⟨Nat.le_of_ble_eq_true rfl, Nat.le_of_ble_eq_true rfl⟩ [] rfl (Nat.le_of_ble_eq_true rfl) (fun v2 h => ?_)
    refine w_if_ne C 27 dX5_takeCamp_22 (by decide) h (fun h => ?_) (fun h => ?_)
    · refine w_aload_n C dX5_takeCamp_27 rfl 1 rfl ?_
      refine w_aload_n C dX5_takeCamp_28 rfl 0 rfl ?_
      refine w_geti C dX5_takeCamp_29 flX5_71 iX44_5 ?_
      refine w_Vi C dX5_takeCamp_32 h (fun _ e => mX4_addCamp_23 e) lnX5_95 mvX4_addCamp bX23 rfl ⟨Nat.le_of_ble_eq_true rfl, Nat.le_of_ble_eq_true rfl⟩ [] rfl (Nat.le_of_ble_eq_true rfl) (fun S3 v4 h => ?_)
      refine w_istore_n C dX5_takeCamp_35 rfl (by decide) [(2, .int v4), (0, rf Y 44), (1, rf Y 23)] rfl ?_
      refine w_aload_n C dX5_takeCamp_36 rfl 1 rfl ?_
      refine w_Vv C dX5_takeCamp_37 h (fun _ e => mX5_step e) lnX5_22 mvX5_step bX44 rfl ⟨Nat.le_of_ble_eq_true rfl, Nat.le_of_ble_eq_true rfl⟩ [] rfl (Nat.le_of_ble_eq_true rfl) (fun S5 h => ?_)
      refine w_aload_n C dX5_takeCamp_40 rfl 1 rfl ?_
      refine w_geti C dX5_takeCamp_41 flX5_32 iX44_3 ?_
      refine w_iconst (v := 1) C dX5_takeCamp_44 (by decide) ?_
      refine w_icmp_ne C 66 dX5_takeCamp_45 (by decide) h (fun h => ?_) (fun h => ?_)
      · refine w_iconst (v := 1) C dX5_takeCamp_66 (by decide) ?_
        refine w_goto C 71 dX5_takeCamp_67 (by decide) ?_
        exact w_zret0 C dX5_takeCamp_71 rfl h
      refine w_aload_n C dX5_takeCamp_48 rfl 1 rfl ?_
      refine w_ldcs C dX5_takeCamp_49 12 (by decide) rfl ?_
      refine p_Vi C dX5_takeCamp_51 h (fun _ e => mX5_isWord (by decide) e) lnX5_39 mvX5_isWord bX44 rfl ⟨Nat.le_of_ble_eq_true rfl, Nat.le_of_ble_eq_true rfl⟩ [] rfl (Nat.le_of_ble_eq_true rfl) (fun v6 h => ?_)
      refine w_if_eq C 66 dX5_takeCamp_54 (by decide) h (fun h => ?_) (fun h => ?_)
      · refine w_iconst (v := 1) C dX5_takeCamp_66 (by decide) ?_
        refine w_goto C 71 dX5_takeCamp_67 (by decide) ?_
        exact w_zret0 C dX5_takeCamp_71 rfl h
      refine w_aload_n C dX5_takeCamp_57 rfl 1 rfl ?_
      refine w_aload_n C dX5_takeCamp_58 rfl 2 rfl ?_
      refine w_iload_n C dX5_takeCamp_59 rfl 0 rfl ?_
      refine w_Vi C dX5_takeCamp_60 h (fun _ e => mX5_takeGrass e) lnX5_101 mvX5_takeGrass bX44 rfl ⟨Nat.le_of_ble_eq_true rfl, Nat.le_of_ble_eq_true rfl⟩ [] rfl (Nat.le_of_ble_eq_true rfl) (fun S7 v8 h => ?_)
      refine w_if_eq C 70 dX5_takeCamp_63 (by decide) h (fun h => ?_) (fun h => ?_)
      · refine w_iconst (v := 0) C dX5_takeCamp_70 (by decide) ?_
        exact w_zret0 C dX5_takeCamp_71 rfl h
      refine w_iconst (v := 1) C dX5_takeCamp_66 (by decide) ?_
      refine w_goto C 71 dX5_takeCamp_67 (by decide) ?_
      exact w_zret0 C dX5_takeCamp_71 rfl h
    refine w_iconst (v := 0) C dX5_takeCamp_25 (by decide) ?_
    exact w_zret0 C dX5_takeCamp_26 rfl h
  refine w_iconst (v := 0) C dX5_takeCamp_9 (by decide) ?_
  exact w_zret0 C dX5_takeCamp_10 rfl h)
def fX4_addBeast (b : Nat) (S : St) (a1 : Int32) : Option (St × Int32) := if (S.1 b 9) < (6) then (sti S (7 + b) (S.1 b 9) 6 a1 fun S1 => pl (si S1 b 9 ((S1.1 b 9) + (1))) fun S2 => some (S2, ((S2.1 b 9) - (1)))) else (some (S, (-1)))
set_option maxRecDepth 100000 in
theorem mX4_addBeast_1 {Y : YT} {S : St} {a1 : Int32} {R : St × Int32} (h : fX4_addBeast 1 S a1 = some R) : Mc VX Y yX4_addBeast cX4_addBeast 2 (some .int) 0 0 [rf Y 1, .int a1] S (some (.int R.2), R.1) :=
  Mc.start [(0, rf Y 1), (1, .int a1)] rfl pnX4 (Nat.le_of_ble_eq_true rfl) (fun X (C : Ok VX Y X RX4 cX4_addBeast 2 (some .int)) => by
  unfold fX4_addBeast at h
  refine w_aload_n C dX4_addBeast_0 rfl 0 rfl ?_
  refine w_geti C dX4_addBeast_1 flX4_58 iX1_9 ?_
  refine w_bipush (v := 6) C dX4_addBeast_4 (by decide) ?_
  refine w_icmp_lt C 11 dX4_addBeast_6 (by decide) h (fun h => ?_) (fun h => ?_)
  · refine w_aload_n C dX4_addBeast_11 rfl 0 rfl ?_
    refine w_getr C dX4_addBeast_12 flX4_30 gX1_10 ?_
    refine w_aload_n C dX4_addBeast_15 rfl 0 rfl ?_
    refine w_geti C dX4_addBeast_16 flX4_58 iX1_9 ?_
    refine w_iload_n C dX4_addBeast_19 rfl 1 rfl ?_
    refine x_iast C dX4_addBeast_20 aX8 h (fun S1 h => ?_)
    refine w_aload_n C dX4_addBeast_21 rfl 0 rfl ?_
    refine w_dup C dX4_addBeast_22 rfl ?_
    refine w_geti C dX4_addBeast_23 flX4_58 iX1_9 ?_
    refine w_iconst (v := 1) C dX4_addBeast_26 (by decide) ?_
    refine w_iadd C dX4_addBeast_27 ?_
    refine x_puti C dX4_addBeast_28 fpX4_58 iX1_9 h (fun S2 h => ?_)
    refine w_aload_n C dX4_addBeast_31 rfl 0 rfl ?_
    refine w_geti C dX4_addBeast_32 flX4_58 iX1_9 ?_
    refine w_iconst (v := 1) C dX4_addBeast_35 (by decide) ?_
    refine w_isub C dX4_addBeast_36 ?_
    exact w_iret C dX4_addBeast_37 h
  refine w_iconst (v := -1) C dX4_addBeast_9 (by decide) ?_
  exact w_iret C dX4_addBeast_10 h)
set_option maxRecDepth 100000 in
theorem mX4_addBeast_23 {Y : YT} {S : St} {a1 : Int32} {R : St × Int32} (h : fX4_addBeast 23 S a1 = some R) : Mc VX Y yX4_addBeast cX4_addBeast 2 (some .int) 0 0 [rf Y 23, .int a1] S (some (.int R.2), R.1) :=
  Mc.start [(0, rf Y 23), (1, .int a1)] rfl pnX4 (Nat.le_of_ble_eq_true rfl) (fun X (C : Ok VX Y X RX4 cX4_addBeast 2 (some .int)) => by
  unfold fX4_addBeast at h
  refine w_aload_n C dX4_addBeast_0 rfl 0 rfl ?_
  refine w_geti C dX4_addBeast_1 flX4_58 iX23_9 ?_
  refine w_bipush (v := 6) C dX4_addBeast_4 (by decide) ?_
  refine w_icmp_lt C 11 dX4_addBeast_6 (by decide) h (fun h => ?_) (fun h => ?_)
  · refine w_aload_n C dX4_addBeast_11 rfl 0 rfl ?_
    refine w_getr C dX4_addBeast_12 flX4_30 gX23_10 ?_
    refine w_aload_n C dX4_addBeast_15 rfl 0 rfl ?_
    refine w_geti C dX4_addBeast_16 flX4_58 iX23_9 ?_
    refine w_iload_n C dX4_addBeast_19 rfl 1 rfl ?_
    refine x_iast C dX4_addBeast_20 aX30 h (fun S1 h => ?_)
    refine w_aload_n C dX4_addBeast_21 rfl 0 rfl ?_
    refine w_dup C dX4_addBeast_22 rfl ?_
    refine w_geti C dX4_addBeast_23 flX4_58 iX23_9 ?_
    refine w_iconst (v := 1) C dX4_addBeast_26 (by decide) ?_
    refine w_iadd C dX4_addBeast_27 ?_
    refine x_puti C dX4_addBeast_28 fpX4_58 iX23_9 h (fun S2 h => ?_)
    refine w_aload_n C dX4_addBeast_31 rfl 0 rfl ?_
    refine w_geti C dX4_addBeast_32 flX4_58 iX23_9 ?_
    refine w_iconst (v := 1) C dX4_addBeast_35 (by decide) ?_
    refine w_isub C dX4_addBeast_36 ?_
    exact w_iret C dX4_addBeast_37 h
  refine w_iconst (v := -1) C dX4_addBeast_9 (by decide) ?_
  exact w_iret C dX4_addBeast_10 h)
def fX5_takeBeast (F : Nat) (S : St) : Option (St × Int32) := if (S.1 23 9) < (6) then (bv (fX5_step F S) fun S1 => bv (fX5_isNumber S1 (1) (999)) fun v2 => if v2 = 0 then (some (S1, 0)) else (bq (fX4_addBeast 23 S1 (S1.1 44 5)) fun S3 v4 => bv (fX5_step F S3) fun S5 => some (S5, 1))) else (some (S, 0))
set_option maxRecDepth 100000 in
theorem mX5_takeBeast {Y : YT} {F : Nat} {S : St} {R : St × Int32} (h : fX5_takeBeast F S  = some R) : Mc VX Y yX5_takeBeast cX5_takeBeast 2 (some .boolean) 2 44 [rf Y 44, rf Y 23] S (some (.int R.2), R.1) :=
  Mc.start [(0, rf Y 44), (1, rf Y 23)] rfl pnX5 (Nat.le_of_ble_eq_true rfl) (fun X (C : Ok VX Y X RX5 cX5_takeBeast 2 (some .boolean)) => by
  unfold fX5_takeBeast at h
  refine w_aload_n C dX5_takeBeast_0 rfl 1 rfl ?_
  refine w_geti C dX5_takeBeast_1 flX5_106 iX23_9 ?_
  refine w_bipush (v := 6) C dX5_takeBeast_4 (by decide) ?_
  refine w_icmp_lt C 11 dX5_takeBeast_6 (by decide) h (fun h => ?_) (fun h => ?_)
  · refine w_aload_n C dX5_takeBeast_11 rfl 0 rfl ?_
    refine w_Vv C dX5_takeBeast_12 h (fun _ e => mX5_step e) lnX5_22 mvX5_step bX44 rfl ⟨Nat.le_of_ble_eq_true rfl, Nat.le_of_ble_eq_true rfl⟩ [] rfl (Nat.le_of_ble_eq_true rfl) (fun S1 h => ?_)
    refine w_aload_n C dX5_takeBeast_15 rfl 0 rfl ?_
    refine w_iconst (v := 1) C dX5_takeBeast_16 (by decide) ?_
    refine w_sipush (v := 999) C dX5_takeBeast_17 (by decide) ?_
    refine p_Vi C dX5_takeBeast_20 h (fun _ e => mX5_isNumber e) lnX5_67 mvX5_isNumber bX44 rfl ⟨Nat.le_of_ble_eq_true rfl, Nat.le_of_ble_eq_true rfl⟩ [] rfl (Nat.le_of_ble_eq_true rfl) (fun v2 h => ?_)
    refine w_if_ne C 28 dX5_takeBeast_23 (by decide) h (fun h => ?_) (fun h => ?_)
    · refine w_aload_n C dX5_takeBeast_28 rfl 1 rfl ?_
      refine w_aload_n C dX5_takeBeast_29 rfl 0 rfl ?_
      refine w_geti C dX5_takeBeast_30 flX5_71 iX44_5 ?_
      refine w_Vi C dX5_takeBeast_33 h (fun _ e => mX4_addBeast_23 e) lnX5_109 mvX4_addBeast bX23 rfl ⟨Nat.le_of_ble_eq_true rfl, Nat.le_of_ble_eq_true rfl⟩ [] rfl (Nat.le_of_ble_eq_true rfl) (fun S3 v4 h => ?_)
      refine w_pop C dX5_takeBeast_36 rfl ?_
      refine w_aload_n C dX5_takeBeast_37 rfl 0 rfl ?_
      refine w_Vv C dX5_takeBeast_38 h (fun _ e => mX5_step e) lnX5_22 mvX5_step bX44 rfl ⟨Nat.le_of_ble_eq_true rfl, Nat.le_of_ble_eq_true rfl⟩ [] rfl (Nat.le_of_ble_eq_true rfl) (fun S5 h => ?_)
      refine w_iconst (v := 1) C dX5_takeBeast_41 (by decide) ?_
      exact w_zret0 C dX5_takeBeast_42 rfl h
    refine w_iconst (v := 0) C dX5_takeBeast_26 (by decide) ?_
    exact w_zret0 C dX5_takeBeast_27 rfl h
  refine w_iconst (v := 0) C dX5_takeBeast_9 (by decide) ?_
  exact w_zret0 C dX5_takeBeast_10 rfl h)
def fX5_takeDraw (F : Nat) (S : St) : Option (St × Int32) := bv (fX5_step F S) fun S1 => bv (fX5_isNumber S1 (0) (99)) fun v2 => if v2 = 0 then (some (S1, 0)) else (pl (si S1 23 8 (S1.1 44 5)) fun S3 => bv (fX5_step F S3) fun S4 => some (S4, 1))
set_option maxRecDepth 100000 in
theorem mX5_takeDraw {Y : YT} {F : Nat} {S : St} {R : St × Int32} (h : fX5_takeDraw F S  = some R) : Mc VX Y yX5_takeDraw cX5_takeDraw 2 (some .boolean) 2 44 [rf Y 44, rf Y 23] S (some (.int R.2), R.1) :=
  Mc.start [(0, rf Y 44), (1, rf Y 23)] rfl pnX5 (Nat.le_of_ble_eq_true rfl) (fun X (C : Ok VX Y X RX5 cX5_takeDraw 2 (some .boolean)) => by
  unfold fX5_takeDraw at h
  refine w_aload_n C dX5_takeDraw_0 rfl 0 rfl ?_
  refine w_Vv C dX5_takeDraw_1 h (fun _ e => mX5_step e) lnX5_22 mvX5_step bX44 rfl ⟨Nat.le_of_ble_eq_true rfl, Nat.le_of_ble_eq_true rfl⟩ [] rfl (Nat.le_of_ble_eq_true rfl) (fun S1 h => ?_)
  refine w_aload_n C dX5_takeDraw_4 rfl 0 rfl ?_
  refine w_iconst (v := 0) C dX5_takeDraw_5 (by decide) ?_
  refine w_bipush (v := 99) C dX5_takeDraw_6 (by decide) ?_
  refine p_Vi C dX5_takeDraw_8 h (fun _ e => mX5_isNumber e) lnX5_67 mvX5_isNumber bX44 rfl ⟨Nat.le_of_ble_eq_true rfl, Nat.le_of_ble_eq_true rfl⟩ [] rfl (Nat.le_of_ble_eq_true rfl) (fun v2 h => ?_)
  refine w_if_ne C 16 dX5_takeDraw_11 (by decide) h (fun h => ?_) (fun h => ?_)
  · refine w_aload_n C dX5_takeDraw_16 rfl 1 rfl ?_
    refine w_aload_n C dX5_takeDraw_17 rfl 0 rfl ?_
    refine w_geti C dX5_takeDraw_18 flX5_71 iX44_5 ?_
    refine x_puti C dX5_takeDraw_21 fpX5_112 iX23_8 h (fun S3 h => ?_)
    refine w_aload_n C dX5_takeDraw_24 rfl 0 rfl ?_
    refine w_Vv C dX5_takeDraw_25 h (fun _ e => mX5_step e) lnX5_22 mvX5_step bX44 rfl ⟨Nat.le_of_ble_eq_true rfl, Nat.le_of_ble_eq_true rfl⟩ [] rfl (Nat.le_of_ble_eq_true rfl) (fun S4 h => ?_)
    refine w_iconst (v := 1) C dX5_takeDraw_28 (by decide) ?_
    exact w_zret0 C dX5_takeDraw_29 rfl h
  refine w_iconst (v := 0) C dX5_takeDraw_14 (by decide) ?_
  exact w_zret0 C dX5_takeDraw_15 rfl h)
def fX5_takeItem_L12 (F : Nat) (S : St) (J29 : Int32 → Option (St × Int32)) (J42 : Option (St × Int32)) : Nat → Int32 → Option (St × Int32)
  | 0, _ => none
  | G12 + 1, v13 => if (7) ≤ v13 then (J42) else (bs (fX5_kindName S v13) fun w14 => bv (fX5_isWord F w14 S) fun v15 => if v15 = 0 then (pl (v13 + 1) fun v16 => fX5_takeItem_L12 F S J29 J42 G12 v16) else (J29 v13))
def fX5_takeItem (F : Nat) (S : St) : Option (St × Int32) := if (S.1 44 3) = (1) then (pl (fun (v1 : Int32) => bq (fX5_takePart F S v1) fun S2 v3 => ok (v3 &&& 1 = v3) (some (S2, v3))) fun J29 => pl (bv (fX5_isWord F 7 S) fun v4 => if v4 = 0 then (bv (fX5_isWord F 8 S) fun v5 => if v5 = 0 then (bv (fX5_isWord F 9 S) fun v6 => if v6 = 0 then (some (S, 0)) else (bq (fX5_takeDraw F S) fun S7 v8 => if v8 = 0 then (some (S7, 0)) else (some (S7, 1)))) else (bq (fX5_takeBeast F S) fun S9 v10 => ok (v10 &&& 1 = v10) (some (S9, v10)))) else (bq (fX5_takeCamp F S) fun S11 v12 => ok (v12 &&& 1 = v12) (some (S11, v12)))) fun J42 => fX5_takeItem_L12 F S J29 J42 F (0)) else (some (S, 0))
set_option maxRecDepth 100000 in
theorem mX5_takeItem {Y : YT} {F : Nat} {S : St} {R : St × Int32} (h : fX5_takeItem F S  = some R) : Mc VX Y yX5_takeItem cX5_takeItem 3 (some .boolean) 7 155 [rf Y 44, rf Y 23] S (some (.int R.2), R.1) :=
  Mc.start [(0, rf Y 44), (1, rf Y 23)] rfl pnX5 (Nat.le_of_ble_eq_true rfl) (fun X (C : Ok VX Y X RX5 cX5_takeItem 3 (some .boolean)) => by
  unfold fX5_takeItem at h
  refine w_aload_n C dX5_takeItem_0 rfl 0 rfl ?_
  refine w_geti C dX5_takeItem_1 flX5_32 iX44_3 ?_
  refine w_iconst (v := 1) C dX5_takeItem_4 (by decide) ?_
  refine w_icmp_eq C 10 dX5_takeItem_5 (by decide) h (fun h => ?_) (fun h => ?_)
  · refine w_iconst (v := 0) C dX5_takeItem_10 (by decide) ?_
    refine w_istore_n C dX5_takeItem_11 rfl (by decide) [(2, .int (0)), (0, rf Y 44), (1, rf Y 23)] rfl ?_
    refine w_join (fun J29 => ∀ (v1 : Int32), J29 v1 = some R → WS VX Y X 3 7 155 (some (.int R.2), R.1) S 29 [(0, rf Y 44), (1, rf Y 23), (2, .int v1)] []) h ?_ (fun J29 hJ29 h => ?_)
    · intro v1 h
      refine w_aload_n C dX5_takeItem_29 rfl 0 rfl ?_
      refine w_aload_n C dX5_takeItem_30 rfl 1 rfl ?_
      refine w_iload_n C dX5_takeItem_31 rfl 2 rfl ?_
      refine w_Vi C dX5_takeItem_32 h (fun _ e => mX5_takePart e) lnX5_43 mvX5_takePart bX44 rfl ⟨Nat.le_of_ble_eq_true rfl, Nat.le_of_ble_eq_true rfl⟩ [] rfl (Nat.le_of_ble_eq_true rfl) (fun S2 v3 h => ?_)
      exact w_zret C dX5_takeItem_35 h
    refine w_join (fun J42 => J42  = some R → WS VX Y X 3 7 155 (some (.int R.2), R.1) S 42 [(0, rf Y 44), (1, rf Y 23)] []) h ?_ (fun J42 hJ42 h => ?_)
    · intro  h
      refine w_aload_n C dX5_takeItem_42 rfl 0 rfl ?_
      refine w_ldcs C dX5_takeItem_43 7 (by decide) rfl ?_
      refine p_Vi C dX5_takeItem_45 h (fun _ e => mX5_isWord (by decide) e) lnX5_39 mvX5_isWord bX44 rfl ⟨Nat.le_of_ble_eq_true rfl, Nat.le_of_ble_eq_true rfl⟩ [] rfl (Nat.le_of_ble_eq_true rfl) (fun v4 h => ?_)
      refine w_if_eq C 57 dX5_takeItem_48 (by decide) h (fun h => ?_) (fun h => ?_)
      · refine w_aload_n C dX5_takeItem_57 rfl 0 rfl ?_
        refine w_ldcs C dX5_takeItem_58 8 (by decide) rfl ?_
        refine p_Vi C dX5_takeItem_60 h (fun _ e => mX5_isWord (by decide) e) lnX5_39 mvX5_isWord bX44 rfl ⟨Nat.le_of_ble_eq_true rfl, Nat.le_of_ble_eq_true rfl⟩ [] rfl (Nat.le_of_ble_eq_true rfl) (fun v5 h => ?_)
        refine w_if_eq C 72 dX5_takeItem_63 (by decide) h (fun h => ?_) (fun h => ?_)
        · refine w_aload_n C dX5_takeItem_72 rfl 0 rfl ?_
          refine w_ldcs C dX5_takeItem_73 9 (by decide) rfl ?_
          refine p_Vi C dX5_takeItem_75 h (fun _ e => mX5_isWord (by decide) e) lnX5_39 mvX5_isWord bX44 rfl ⟨Nat.le_of_ble_eq_true rfl, Nat.le_of_ble_eq_true rfl⟩ [] rfl (Nat.le_of_ble_eq_true rfl) (fun v6 h => ?_)
          refine w_if_eq C 93 dX5_takeItem_78 (by decide) h (fun h => ?_) (fun h => ?_)
          · refine w_iconst (v := 0) C dX5_takeItem_93 (by decide) ?_
            exact w_zret0 C dX5_takeItem_94 rfl h
          refine w_aload_n C dX5_takeItem_81 rfl 0 rfl ?_
          refine w_aload_n C dX5_takeItem_82 rfl 1 rfl ?_
          refine w_Vi C dX5_takeItem_83 h (fun _ e => mX5_takeDraw e) lnX5_59 mvX5_takeDraw bX44 rfl ⟨Nat.le_of_ble_eq_true rfl, Nat.le_of_ble_eq_true rfl⟩ [] rfl (Nat.le_of_ble_eq_true rfl) (fun S7 v8 h => ?_)
          refine w_if_eq C 93 dX5_takeItem_86 (by decide) h (fun h => ?_) (fun h => ?_)
          · refine w_iconst (v := 0) C dX5_takeItem_93 (by decide) ?_
            exact w_zret0 C dX5_takeItem_94 rfl h
          refine w_iconst (v := 1) C dX5_takeItem_89 (by decide) ?_
          refine w_goto C 94 dX5_takeItem_90 (by decide) ?_
          exact w_zret0 C dX5_takeItem_94 rfl h
        refine w_aload_n C dX5_takeItem_66 rfl 0 rfl ?_
        refine w_aload_n C dX5_takeItem_67 rfl 1 rfl ?_
        refine w_Vi C dX5_takeItem_68 h (fun _ e => mX5_takeBeast e) lnX5_54 mvX5_takeBeast bX44 rfl ⟨Nat.le_of_ble_eq_true rfl, Nat.le_of_ble_eq_true rfl⟩ [] rfl (Nat.le_of_ble_eq_true rfl) (fun S9 v10 h => ?_)
        exact w_zret C dX5_takeItem_71 h
      refine w_aload_n C dX5_takeItem_51 rfl 0 rfl ?_
      refine w_aload_n C dX5_takeItem_52 rfl 1 rfl ?_
      refine w_Vi C dX5_takeItem_53 h (fun _ e => mX5_takeCamp e) lnX5_49 mvX5_takeCamp bX44 rfl ⟨Nat.le_of_ble_eq_true rfl, Nat.le_of_ble_eq_true rfl⟩ [] rfl (Nat.le_of_ble_eq_true rfl) (fun S11 v12 h => ?_)
      exact w_zret C dX5_takeItem_56 h
    have hL12 : ∀ (G12 : Nat) (v13 : Int32), fX5_takeItem_L12 F S J29 J42 G12 v13 = some R → WS VX Y X 3 7 155 (some (.int R.2), R.1) S 12 [(0, rf Y 44), (1, rf Y 23), (2, .int v13)] [] := by
      intro G12
      induction G12 with
      | zero => intro v13 h; exact nomatch (show (none : Option (St × Int32)) = some R from h)
      | succ G12 ih =>
        intro v13 h
        rw [fX5_takeItem_L12] at h
        refine w_iload_n C dX5_takeItem_12 rfl 2 rfl ?_
        refine w_bipush (v := 7) C dX5_takeItem_13 (by decide) ?_
        refine w_icmp_ge C 42 dX5_takeItem_15 (by decide) h (fun h => ?_) (fun h => ?_)
        · exact w_sub [0, 1] rfl (hJ42  h)
        refine w_aload_n C dX5_takeItem_18 rfl 0 rfl ?_
        refine w_iload_n C dX5_takeItem_19 rfl 2 rfl ?_
        refine p_Sr C dX5_takeItem_20 h (fun _ e => mX5_kindName e) lnX5_35 msX5_kindName rfl ⟨Nat.le_of_ble_eq_true rfl, Nat.le_of_ble_eq_true rfl⟩ [rf Y 44] rfl (Nat.le_of_ble_eq_true rfl) (fun w14 hw14 h => ?_)
        refine p_Vi C dX5_takeItem_23 h (fun _ e => mX5_isWord hw14 e) lnX5_39 mvX5_isWord bX44 rfl ⟨Nat.le_of_ble_eq_true rfl, Nat.le_of_ble_eq_true rfl⟩ [] rfl (Nat.le_of_ble_eq_true rfl) (fun v15 h => ?_)
        refine w_if_eq C 36 dX5_takeItem_26 (by decide) h (fun h => ?_) (fun h => ?_)
        · refine x_iinc C dX5_takeItem_36 2 rfl 1 (by decide) h (by decide) (fun v16 => [(2, .int v16), (0, rf Y 44), (1, rf Y 23)]) (fun _ => rfl) (fun v16 h => ?_)
          refine w_goto C 12 dX5_takeItem_39 (by decide) ?_
          exact w_sub [1, 2, 0] rfl (ih _ h)
        exact w_sub [0, 1, 2] rfl (hJ29 _ h)
    exact w_sub [1, 2, 0] rfl (hL12 _ _ h)
  refine w_iconst (v := 0) C dX5_takeItem_8 (by decide) ?_
  exact w_zret0 C dX5_takeItem_9 rfl h)
def fX5_tellTo_L11 (F : Nat) (J25 : St → Option (St × Int32)) (J49 : St → Option (St × Int32)) (J66 : St → Option (St × Int32)) : Nat → St → Int32 → Option (St × Int32)
  | 0, _, _ => none
  | G11 + 1, S6, v7 => if (120) < v7 then (J66 S6) else (bq (fX5_takeItem F S6) fun S8 v9 => if v9 = 0 then (J25 S8) else (if (S8.1 44 3) = 0 then (some (S8, v7)) else (if (S8.1 44 3) = (3) then (bv (fX5_step F S8) fun S10 => pl (v7 + 1) fun v11 => fX5_tellTo_L11 F J25 J49 J66 G11 S10 v11) else (J49 S8))))
def fX5_tellTo (F : Nat) (S : St) : Option (St × Int32) := pl (si S 44 2 (0)) fun S1 => bv (fX5_step F S1) fun S2 => pl (fun (S3 : St) => some (S3, ((-1) - (S3.1 44 4)))) fun J25 => pl (fun (S4 : St) => some (S4, ((-1) - (S4.1 44 4)))) fun J49 => pl (fun (S5 : St) => some (S5, ((-1) - (S5.1 44 4)))) fun J66 => fX5_tellTo_L11 F J25 J49 J66 F S2 (1)
set_option maxRecDepth 100000 in
theorem mX5_tellTo {Y : YT} {F : Nat} {S : St} {R : St × Int32} (h : fX5_tellTo F S  = some R) : Mc VX Y yX5_tellTo cX5_tellTo 3 (some .int) 8 177 [rf Y 44, rf Y 23] S (some (.int R.2), R.1) :=
  Mc.start [(0, rf Y 44), (1, rf Y 23)] rfl pnX5 (Nat.le_of_ble_eq_true rfl) (fun X (C : Ok VX Y X RX5 cX5_tellTo 3 (some .int)) => by
  unfold fX5_tellTo at h
  refine w_aload_n C dX5_tellTo_0 rfl 0 rfl ?_
  refine w_iconst (v := 0) C dX5_tellTo_1 (by decide) ?_
  refine x_puti C dX5_tellTo_2 fpX5_19 iX44_2 h (fun S1 h => ?_)
  refine w_aload_n C dX5_tellTo_5 rfl 0 rfl ?_
  refine w_Vv C dX5_tellTo_6 h (fun _ e => mX5_step e) lnX5_22 mvX5_step bX44 rfl ⟨Nat.le_of_ble_eq_true rfl, Nat.le_of_ble_eq_true rfl⟩ [] rfl (Nat.le_of_ble_eq_true rfl) (fun S2 h => ?_)
  refine w_iconst (v := 1) C dX5_tellTo_9 (by decide) ?_
  refine w_istore_n C dX5_tellTo_10 rfl (by decide) [(2, .int (1)), (0, rf Y 44), (1, rf Y 23)] rfl ?_
  refine w_join (fun J25 => ∀ (S3 : St), J25 S3 = some R → WS VX Y X 3 8 177 (some (.int R.2), R.1) S3 25 [(0, rf Y 44)] []) h ?_ (fun J25 hJ25 h => ?_)
  · intro S3 h
    refine w_iconst (v := -1) C dX5_tellTo_25 (by decide) ?_
    refine w_aload_n C dX5_tellTo_26 rfl 0 rfl ?_
    refine w_geti C dX5_tellTo_27 flX5_29 iX44_4 ?_
    refine w_isub C dX5_tellTo_30 ?_
    exact w_iret C dX5_tellTo_31 h
  refine w_join (fun J49 => ∀ (S4 : St), J49 S4 = some R → WS VX Y X 3 8 177 (some (.int R.2), R.1) S4 49 [(0, rf Y 44)] []) h ?_ (fun J49 hJ49 h => ?_)
  · intro S4 h
    refine w_iconst (v := -1) C dX5_tellTo_49 (by decide) ?_
    refine w_aload_n C dX5_tellTo_50 rfl 0 rfl ?_
    refine w_geti C dX5_tellTo_51 flX5_29 iX44_4 ?_
    refine w_isub C dX5_tellTo_54 ?_
    exact w_iret C dX5_tellTo_55 h
  refine w_join (fun J66 => ∀ (S5 : St), J66 S5 = some R → WS VX Y X 3 8 177 (some (.int R.2), R.1) S5 66 [(0, rf Y 44)] []) h ?_ (fun J66 hJ66 h => ?_)
  · intro S5 h
    refine w_iconst (v := -1) C dX5_tellTo_66 (by decide) ?_
    refine w_aload_n C dX5_tellTo_67 rfl 0 rfl ?_
    refine w_geti C dX5_tellTo_68 flX5_29 iX44_4 ?_
    refine w_isub C dX5_tellTo_71 ?_
    exact w_iret C dX5_tellTo_72 h
  have hL11 : ∀ (G11 : Nat) (S6 : St) (v7 : Int32), fX5_tellTo_L11 F J25 J49 J66 G11 S6 v7 = some R → WS VX Y X 3 8 177 (some (.int R.2), R.1) S6 11 [(0, rf Y 44), (1, rf Y 23), (2, .int v7)] [] := by
    intro G11
    induction G11 with
    | zero => intro S6 v7 h; exact nomatch (show (none : Option (St × Int32)) = some R from h)
    | succ G11 ih =>
      intro S6 v7 h
      rw [fX5_tellTo_L11] at h
      refine w_iload_n C dX5_tellTo_11 rfl 2 rfl ?_
      refine w_bipush (v := 120) C dX5_tellTo_12 (by decide) ?_
      refine w_icmp_gt C 66 dX5_tellTo_14 (by decide) h (fun h => ?_) (fun h => ?_)
      · exact w_sub [0] rfl (hJ66 _ h)
      refine w_aload_n C dX5_tellTo_17 rfl 0 rfl ?_
      refine w_aload_n C dX5_tellTo_18 rfl 1 rfl ?_
      refine w_Vi C dX5_tellTo_19 h (fun _ e => mX5_takeItem e) lnX5_25 mvX5_takeItem bX44 rfl ⟨Nat.le_of_ble_eq_true rfl, Nat.le_of_ble_eq_true rfl⟩ [] rfl (Nat.le_of_ble_eq_true rfl) (fun S8 v9 h => ?_)
      refine w_if_ne C 32 dX5_tellTo_22 (by decide) h (fun h => ?_) (fun h => ?_)
      · refine w_aload_n C dX5_tellTo_32 rfl 0 rfl ?_
        refine w_geti C dX5_tellTo_33 flX5_32 iX44_3 ?_
        refine w_if_ne C 41 dX5_tellTo_36 (by decide) h (fun h => ?_) (fun h => ?_)
        · refine w_aload_n C dX5_tellTo_41 rfl 0 rfl ?_
          refine w_geti C dX5_tellTo_42 flX5_32 iX44_3 ?_
          refine w_iconst (v := 3) C dX5_tellTo_45 (by decide) ?_
          refine w_icmp_eq C 56 dX5_tellTo_46 (by decide) h (fun h => ?_) (fun h => ?_)
          · refine w_aload_n C dX5_tellTo_56 rfl 0 rfl ?_
            refine w_Vv C dX5_tellTo_57 h (fun _ e => mX5_step e) lnX5_22 mvX5_step bX44 rfl ⟨Nat.le_of_ble_eq_true rfl, Nat.le_of_ble_eq_true rfl⟩ [] rfl (Nat.le_of_ble_eq_true rfl) (fun S10 h => ?_)
            refine x_iinc C dX5_tellTo_60 2 rfl 1 (by decide) h (by decide) (fun v11 => [(2, .int v11), (0, rf Y 44), (1, rf Y 23)]) (fun _ => rfl) (fun v11 h => ?_)
            refine w_goto C 11 dX5_tellTo_63 (by decide) ?_
            exact w_sub [1, 2, 0] rfl (ih _ _ h)
          exact w_sub [0] rfl (hJ49 _ h)
        refine w_iload_n C dX5_tellTo_39 rfl 2 rfl ?_
        exact w_iret C dX5_tellTo_40 h
      exact w_sub [0] rfl (hJ25 _ h)
  exact w_sub [1, 2, 0] rfl (hL11 _ _ _ h))
