def fX7_isIn (S : St) (a1 : Int64) (a2 : Int64) (a3 : Int64) : Option (Int32) := if (lg_cmp a1 a2) < 0 then (some (0)) else (if 0 < (lg_cmp a1 a3) then (some (0)) else (some (1)))
set_option maxRecDepth 100000 in
theorem mX7_isIn {Y : YT} {S : St} {a1 : Int64} {a2 : Int64} {a3 : Int64} {R : Int32} (h : fX7_isIn  S a1 a2 a3 = some R) : Mc VM Y yX7_isIn cX7_isIn 6 (some .boolean) 0 0 [.long a1, .long a2, .long a3] S (some (.int R), S) :=
  Mc.start [(0, .long a1), (2, .long a2), (4, .long a3)] rfl pnX7 (Nat.le_of_ble_eq_true rfl) (fun X (C : Ok VM Y X RX7 cX7_isIn 6 (some .boolean)) => by
  unfold fX7_isIn at h
  refine w_lload_n C dX7_isIn_0 rfl 0 rfl ?_
  refine w_lload_n C dX7_isIn_1 rfl 1 rfl ?_
  refine w_lcmp C dX7_isIn_2 ?_
  refine w_if_lt C 17 dX7_isIn_3 (by decide) h (fun h => ?_) (fun h => ?_)
  · refine w_iconst (v := 0) C dX7_isIn_17 (by decide) ?_
    exact p_zret0 C dX7_isIn_18 rfl h
  refine w_lload_n C dX7_isIn_6 rfl 0 rfl ?_
  refine w_lload C dX7_isIn_7 2 rfl ?_
  refine w_lcmp C dX7_isIn_9 ?_
  refine w_if_gt C 17 dX7_isIn_10 (by decide) h (fun h => ?_) (fun h => ?_)
  · refine w_iconst (v := 0) C dX7_isIn_17 (by decide) ?_
    exact p_zret0 C dX7_isIn_18 rfl h
  refine w_iconst (v := 1) C dX7_isIn_13 (by decide) ?_
  refine w_goto C 18 dX7_isIn_14 (by decide) ?_
  exact p_zret0 C dX7_isIn_18 rfl h)
def fX7_finds (S : St) (a1 : Int32) : Option (St × Int32) := ldi S 4 (0) 8 fun v1 => sti S 4 (0) 8 (v1 + (1)) fun S2 => ldi S2 4 (((-1000000001) - a1) + (1)) 8 fun v3 => sti S2 4 (((-1000000001) - a1) + (1)) 8 (v3 + (1)) fun S4 => some (S4, a1)
set_option maxRecDepth 100000 in
theorem mX7_finds {Y : YT} {S : St} {a1 : Int32} {R : St × Int32} (h : fX7_finds  S a1 = some R) : Mc VM Y yX7_finds cX7_finds 2 (some .int) 0 0 [rf Y 0, .int a1] S (some (.int R.2), R.1) :=
  Mc.start [(0, rf Y 0), (1, .int a1)] rfl pnX7 (Nat.le_of_ble_eq_true rfl) (fun X (C : Ok VM Y X RX7 cX7_finds 2 (some .int)) => by
  unfold fX7_finds at h
  refine w_aload_n C dX7_finds_0 rfl 0 rfl ?_
  refine w_getr C dX7_finds_1 flX7_19 gM0_4 ?_
  refine w_iconst (v := 0) C dX7_finds_4 (by decide) ?_
  refine w_dup2 C dX7_finds_5 rfl rfl ?_
  refine x_iald C dX7_finds_6 aM4 h (fun v1 h => ?_)
  refine w_iconst (v := 1) C dX7_finds_7 (by decide) ?_
  refine w_iadd C dX7_finds_8 ?_
  refine x_iast C dX7_finds_9 aM4 h (fun S2 h => ?_)
  refine w_aload_n C dX7_finds_10 rfl 0 rfl ?_
  refine w_getr C dX7_finds_11 flX7_19 gM0_4 ?_
  refine w_ldc C dX7_finds_14 kcX7_54 ?_
  refine w_iload_n C dX7_finds_16 rfl 1 rfl ?_
  refine w_isub C dX7_finds_17 ?_
  refine w_iconst (v := 1) C dX7_finds_18 (by decide) ?_
  refine w_iadd C dX7_finds_19 ?_
  refine w_dup2 C dX7_finds_20 rfl rfl ?_
  refine x_iald C dX7_finds_21 aM4 h (fun v3 h => ?_)
  refine w_iconst (v := 1) C dX7_finds_22 (by decide) ?_
  refine w_iadd C dX7_finds_23 ?_
  refine x_iast C dX7_finds_24 aM4 h (fun S4 h => ?_)
  refine w_iload_n C dX7_finds_25 rfl 1 rfl ?_
  exact w_iret C dX7_finds_26 h)
def fX7_becomes (S : St) (a1 : Int32) (a2 : Int32) : Option (St × Int32) := ldi S 1 a1 216 fun v1 => sti S 1 a1 216 a2 fun S2 => some (S2, v1)
set_option maxRecDepth 100000 in
theorem mX7_becomes {Y : YT} {S : St} {a1 : Int32} {a2 : Int32} {R : St × Int32} (h : fX7_becomes  S a1 a2 = some R) : Mc VM Y yX7_becomes cX7_becomes 4 (some .int) 0 0 [rf Y 0, .int a1, .int a2] S (some (.int R.2), R.1) :=
  Mc.start [(0, rf Y 0), (1, .int a1), (2, .int a2)] rfl pnX7 (Nat.le_of_ble_eq_true rfl) (fun X (C : Ok VM Y X RX7 cX7_becomes 4 (some .int)) => by
  unfold fX7_becomes at h
  refine w_aload_n C dX7_becomes_0 rfl 0 rfl ?_
  refine w_getr C dX7_becomes_1 flX7_7 gM0_0 ?_
  refine w_iload_n C dX7_becomes_4 rfl 1 rfl ?_
  refine x_iald C dX7_becomes_5 aM1 h (fun v1 h => ?_)
  refine w_istore_n C dX7_becomes_6 rfl (by decide) [(3, .int v1), (0, rf Y 0), (1, .int a1), (2, .int a2)] rfl ?_
  refine w_aload_n C dX7_becomes_7 rfl 1 rfl ?_
  refine w_getr C dX7_becomes_8 flX7_7 gM0_0 ?_
  refine w_iload_n C dX7_becomes_11 rfl 2 rfl ?_
  refine w_iload_n C dX7_becomes_12 rfl 3 rfl ?_
  refine x_iast C dX7_becomes_13 aM1 h (fun S2 h => ?_)
  refine w_iload_n C dX7_becomes_14 rfl 0 rfl ?_
  exact w_iret C dX7_becomes_15 h)
def fX7_has (S : St) (a1 : Int32) (a2 : Int32) : Option (Int32) := ldi S 1 (((12) + ((6) * a1)) + a2) 216 fun v1 => some v1
set_option maxRecDepth 100000 in
theorem mX7_has {Y : YT} {S : St} {a1 : Int32} {a2 : Int32} {R : Int32} (h : fX7_has  S a1 a2 = some R) : Mc VM Y yX7_has cX7_has 3 (some .int) 0 0 [rf Y 0, .int a1, .int a2] S (some (.int R), S) :=
  Mc.start [(0, rf Y 0), (1, .int a1), (2, .int a2)] rfl pnX7 (Nat.le_of_ble_eq_true rfl) (fun X (C : Ok VM Y X RX7 cX7_has 3 (some .int)) => by
  unfold fX7_has at h
  refine w_aload_n C dX7_has_0 rfl 0 rfl ?_
  refine w_getr C dX7_has_1 flX7_7 gM0_0 ?_
  refine w_bipush (v := 12) C dX7_has_4 (by decide) ?_
  refine w_bipush (v := 6) C dX7_has_6 (by decide) ?_
  refine w_iload_n C dX7_has_8 rfl 1 rfl ?_
  refine w_imul C dX7_has_9 ?_
  refine w_iadd C dX7_has_10 ?_
  refine w_iload_n C dX7_has_11 rfl 2 rfl ?_
  refine w_iadd C dX7_has_12 ?_
  refine x_iald C dX7_has_13 aM1 h (fun v1 h => ?_)
  exact p_iret C dX7_has_14 h)
def fX7_gets (S : St) (a1 : Int32) (a2 : Int32) (a3 : Int32) : Option (St) := sti S 1 (((12) + ((6) * a1)) + a2) 216 a3 fun S1 => some S1
set_option maxRecDepth 100000 in
theorem mX7_gets {Y : YT} {S : St} {a1 : Int32} {a2 : Int32} {a3 : Int32} {R : St} (h : fX7_gets  S a1 a2 a3 = some R) : Mc VM Y yX7_gets cX7_gets 4 none 0 0 [rf Y 0, .int a1, .int a2, .int a3] S (none, R) :=
  Mc.start [(0, rf Y 0), (1, .int a1), (2, .int a2), (3, .int a3)] rfl pnX7 (Nat.le_of_ble_eq_true rfl) (fun X (C : Ok VM Y X RX7 cX7_gets 4 none) => by
  unfold fX7_gets at h
  refine w_aload_n C dX7_gets_0 rfl 0 rfl ?_
  refine w_getr C dX7_gets_1 flX7_7 gM0_0 ?_
  refine w_bipush (v := 12) C dX7_gets_4 (by decide) ?_
  refine w_bipush (v := 6) C dX7_gets_6 (by decide) ?_
  refine w_iload_n C dX7_gets_8 rfl 1 rfl ?_
  refine w_imul C dX7_gets_9 ?_
  refine w_iadd C dX7_gets_10 ?_
  refine w_iload_n C dX7_gets_11 rfl 2 rfl ?_
  refine w_iadd C dX7_gets_12 ?_
  refine w_iload_n C dX7_gets_13 rfl 3 rfl ?_
  refine x_iast C dX7_gets_14 aM1 h (fun S1 h => ?_)
  exact w_vret C dX7_gets_15 h)
def fX7_isPart (S : St) (a1 : Int32) : Option (Int32) := if a1 < 0 then (some (0)) else (ldi S 1 (0) 216 fun v1 => if v1 ≤ a1 then (some (0)) else (some (1)))
set_option maxRecDepth 100000 in
theorem mX7_isPart {Y : YT} {S : St} {a1 : Int32} {R : Int32} (h : fX7_isPart  S a1 = some R) : Mc VM Y yX7_isPart cX7_isPart 2 (some .boolean) 0 0 [rf Y 0, .int a1] S (some (.int R), S) :=
  Mc.start [(0, rf Y 0), (1, .int a1)] rfl pnX7 (Nat.le_of_ble_eq_true rfl) (fun X (C : Ok VM Y X RX7 cX7_isPart 2 (some .boolean)) => by
  unfold fX7_isPart at h
  refine w_iload_n C dX7_isPart_0 rfl 1 rfl ?_
  refine w_if_lt C 18 dX7_isPart_1 (by decide) h (fun h => ?_) (fun h => ?_)
  · refine w_iconst (v := 0) C dX7_isPart_18 (by decide) ?_
    exact p_zret0 C dX7_isPart_19 rfl h
  refine w_iload_n C dX7_isPart_4 rfl 1 rfl ?_
  refine w_aload_n C dX7_isPart_5 rfl 0 rfl ?_
  refine w_getr C dX7_isPart_6 flX7_7 gM0_0 ?_
  refine w_iconst (v := 0) C dX7_isPart_9 (by decide) ?_
  refine x_iald C dX7_isPart_10 aM1 h (fun v1 h => ?_)
  refine w_icmp_ge C 18 dX7_isPart_11 (by decide) h (fun h => ?_) (fun h => ?_)
  · refine w_iconst (v := 0) C dX7_isPart_18 (by decide) ?_
    exact p_zret0 C dX7_isPart_19 rfl h
  refine w_iconst (v := 1) C dX7_isPart_14 (by decide) ?_
  refine w_goto C 19 dX7_isPart_15 (by decide) ?_
  exact p_zret0 C dX7_isPart_19 rfl h)
def fX7_isThere (S : St) (a1 : Int32) : Option (Int32) := bv (fX7_has S a1 (5)) fun v1 => if v1 = (1) then (some (1)) else (some (0))
set_option maxRecDepth 100000 in
theorem mX7_isThere {Y : YT} {S : St} {a1 : Int32} {R : Int32} (h : fX7_isThere  S a1 = some R) : Mc VM Y yX7_isThere cX7_isThere 2 (some .boolean) 1 22 [rf Y 0, .int a1] S (some (.int R), S) :=
  Mc.start [(0, rf Y 0), (1, .int a1)] rfl pnX7 (Nat.le_of_ble_eq_true rfl) (fun X (C : Ok VM Y X RX7 cX7_isThere 2 (some .boolean)) => by
  unfold fX7_isThere at h
  refine w_aload_n C dX7_isThere_0 rfl 0 rfl ?_
  refine w_iload_n C dX7_isThere_1 rfl 1 rfl ?_
  refine w_iconst (v := 5) C dX7_isThere_2 (by decide) ?_
  refine p_Vi C dX7_isThere_3 h (fun _ e => mX7_has e) lnX7_55 mvX7_has bM0 rfl ⟨Nat.le_of_ble_eq_true rfl, Nat.le_of_ble_eq_true rfl⟩ [] rfl (Nat.le_of_ble_eq_true rfl) (fun v1 h => ?_)
  refine w_iconst (v := 1) C dX7_isThere_6 (by decide) ?_
  refine w_icmp_ne C 14 dX7_isThere_7 (by decide) h (fun h => ?_) (fun h => ?_)
  · refine w_iconst (v := 0) C dX7_isThere_14 (by decide) ?_
    exact p_zret0 C dX7_isThere_15 rfl h
  refine w_iconst (v := 1) C dX7_isThere_10 (by decide) ?_
  refine w_goto C 15 dX7_isThere_11 (by decide) ?_
  exact p_zret0 C dX7_isThere_15 rfl h)
def fX7_comes (S : St) (a1 : Int32) (a2 : Int32) (a3 : Int32) (a4 : Int32) (a5 : Int32) : Option (St) := ldi S 1 (0) 216 fun v1 => bv (fX7_gets S v1 (0) a1) fun S2 => bv (fX7_gets S2 v1 (1) a2) fun S3 => bv (fX7_gets S3 v1 (2) a3) fun S4 => bv (fX7_gets S4 v1 (3) a4) fun S5 => bv (fX7_gets S5 v1 (4) a5) fun S6 => bv (fX7_gets S6 v1 (5) (1)) fun S7 => ldi S7 1 (0) 216 fun v8 => sti S7 1 (0) 216 (v8 + (1)) fun S9 => some S9
set_option maxRecDepth 100000 in
theorem mX7_comes {Y : YT} {S : St} {a1 : Int32} {a2 : Int32} {a3 : Int32} {a4 : Int32} {a5 : Int32} {R : St} (h : fX7_comes  S a1 a2 a3 a4 a5 = some R) : Mc VM Y yX7_comes cX7_comes 7 none 1 23 [rf Y 0, .int a1, .int a2, .int a3, .int a4, .int a5] S (none, R) :=
  Mc.start [(0, rf Y 0), (1, .int a1), (2, .int a2), (3, .int a3), (4, .int a4), (5, .int a5)] rfl pnX7 (Nat.le_of_ble_eq_true rfl) (fun X (C : Ok VM Y X RX7 cX7_comes 7 none) => by
  unfold fX7_comes at h
  refine w_aload_n C dX7_comes_0 rfl 0 rfl ?_
  refine w_getr C dX7_comes_1 flX7_7 gM0_0 ?_
  refine w_iconst (v := 0) C dX7_comes_4 (by decide) ?_
  refine x_iald C dX7_comes_5 aM1 h (fun v1 h => ?_)
  refine w_istore C dX7_comes_6 (by decide) [(6, .int v1), (0, rf Y 0), (1, .int a1), (2, .int a2), (3, .int a3), (4, .int a4), (5, .int a5)] rfl ?_
  refine w_aload_n C dX7_comes_8 rfl 1 rfl ?_
  refine w_iload C dX7_comes_9 0 rfl ?_
  refine w_iconst (v := 0) C dX7_comes_11 (by decide) ?_
  refine w_iload_n C dX7_comes_12 rfl 2 rfl ?_
  refine w_Vv C dX7_comes_13 h (fun _ e => mX7_gets e) lnX7_59 mvX7_gets bM0 rfl ⟨Nat.le_of_ble_eq_true rfl, Nat.le_of_ble_eq_true rfl⟩ [] rfl (Nat.le_of_ble_eq_true rfl) (fun S2 h => ?_)
  refine w_aload_n C dX7_comes_16 rfl 1 rfl ?_
  refine w_iload C dX7_comes_17 0 rfl ?_
  refine w_iconst (v := 1) C dX7_comes_19 (by decide) ?_
  refine w_iload_n C dX7_comes_20 rfl 3 rfl ?_
  refine w_Vv C dX7_comes_21 h (fun _ e => mX7_gets e) lnX7_59 mvX7_gets bM0 rfl ⟨Nat.le_of_ble_eq_true rfl, Nat.le_of_ble_eq_true rfl⟩ [] rfl (Nat.le_of_ble_eq_true rfl) (fun S3 h => ?_)
  refine w_aload_n C dX7_comes_24 rfl 1 rfl ?_
  refine w_iload C dX7_comes_25 0 rfl ?_
  refine w_iconst (v := 2) C dX7_comes_27 (by decide) ?_
  refine w_iload_n C dX7_comes_28 rfl 4 rfl ?_
  refine w_Vv C dX7_comes_29 h (fun _ e => mX7_gets e) lnX7_59 mvX7_gets bM0 rfl ⟨Nat.le_of_ble_eq_true rfl, Nat.le_of_ble_eq_true rfl⟩ [] rfl (Nat.le_of_ble_eq_true rfl) (fun S4 h => ?_)
  refine w_aload_n C dX7_comes_32 rfl 1 rfl ?_
  refine w_iload C dX7_comes_33 0 rfl ?_
  refine w_iconst (v := 3) C dX7_comes_35 (by decide) ?_
  refine w_iload C dX7_comes_36 5 rfl ?_
  refine w_Vv C dX7_comes_38 h (fun _ e => mX7_gets e) lnX7_59 mvX7_gets bM0 rfl ⟨Nat.le_of_ble_eq_true rfl, Nat.le_of_ble_eq_true rfl⟩ [] rfl (Nat.le_of_ble_eq_true rfl) (fun S5 h => ?_)
  refine w_aload_n C dX7_comes_41 rfl 1 rfl ?_
  refine w_iload C dX7_comes_42 0 rfl ?_
  refine w_iconst (v := 4) C dX7_comes_44 (by decide) ?_
  refine w_iload C dX7_comes_45 6 rfl ?_
  refine w_Vv C dX7_comes_47 h (fun _ e => mX7_gets e) lnX7_59 mvX7_gets bM0 rfl ⟨Nat.le_of_ble_eq_true rfl, Nat.le_of_ble_eq_true rfl⟩ [] rfl (Nat.le_of_ble_eq_true rfl) (fun S6 h => ?_)
  refine w_aload_n C dX7_comes_50 rfl 1 rfl ?_
  refine w_iload C dX7_comes_51 0 rfl ?_
  refine w_iconst (v := 5) C dX7_comes_53 (by decide) ?_
  refine w_iconst (v := 1) C dX7_comes_54 (by decide) ?_
  refine w_Vv C dX7_comes_55 h (fun _ e => mX7_gets e) lnX7_59 mvX7_gets bM0 rfl ⟨Nat.le_of_ble_eq_true rfl, Nat.le_of_ble_eq_true rfl⟩ [] rfl (Nat.le_of_ble_eq_true rfl) (fun S7 h => ?_)
  refine w_aload_n C dX7_comes_58 rfl 1 rfl ?_
  refine w_getr C dX7_comes_59 flX7_7 gM0_0 ?_
  refine w_iconst (v := 0) C dX7_comes_62 (by decide) ?_
  refine w_dup2 C dX7_comes_63 rfl rfl ?_
  refine x_iald C dX7_comes_64 aM1 h (fun v8 h => ?_)
  refine w_iconst (v := 1) C dX7_comes_65 (by decide) ?_
  refine w_iadd C dX7_comes_66 ?_
  refine x_iast C dX7_comes_67 aM1 h (fun S9 h => ?_)
  exact w_vret C dX7_comes_68 h)
def fX7_part (S : St) (a1 : Int32) (a2 : Int32) (a3 : Int32) (a4 : Int32) : Option (St × Int32) := bv (fX7_isIn S (Int32.toInt64 a1) (0) (6)) fun v1 => pl (bq (fX7_finds S (-1000000001)) fun S2 v3 => some (S2, v3)) fun J49 => if v1 = 0 then (J49) else (bv (fX7_isIn S (Int32.toInt64 a2) (0) (7)) fun v4 => if v4 = 0 then (J49) else (bv (fX7_isIn S (Int32.toInt64 a3) (1) (999)) fun v5 => if v5 = 0 then (J49) else (bv (fX7_isIn S (Int32.toInt64 a4) (0) (99)) fun v6 => if v6 = 0 then (J49) else (ldi S 1 (0) 216 fun v7 => if v7 = (20) then (bq (fX7_finds S (-1000000002)) fun S10 v11 => some (S10, v11)) else (bv (fX7_comes S a1 a2 a3 a4 (0)) fun S8 => ldi S8 1 (0) 216 fun v9 => some (S8, (v9 - (1))))))))
set_option maxRecDepth 100000 in
theorem mX7_part {Y : YT} {S : St} {a1 : Int32} {a2 : Int32} {a3 : Int32} {a4 : Int32} {R : St × Int32} (h : fX7_part  S a1 a2 a3 a4 = some R) : Mc VM Y yX7_part cX7_part 5 (some .int) 2 49 [rf Y 0, .int a1, .int a2, .int a3, .int a4] S (some (.int R.2), R.1) :=
  Mc.start [(0, rf Y 0), (1, .int a1), (2, .int a2), (3, .int a3), (4, .int a4)] rfl pnX7 (Nat.le_of_ble_eq_true rfl) (fun X (C : Ok VM Y X RX7 cX7_part 5 (some .int)) => by
  unfold fX7_part at h
  refine w_iload_n C dX7_part_0 rfl 1 rfl ?_
  refine w_i2l C dX7_part_1 ?_
  refine w_lconst (v := 0) C dX7_part_2 (by decide) ?_
  refine w_ldc2 C dX7_part_3 klX7_63 ?_
  refine p_Si C dX7_part_6 h (fun _ e => mX7_isIn e) lnX7_65 msX7_isIn rfl ⟨Nat.le_of_ble_eq_true rfl, Nat.le_of_ble_eq_true rfl⟩ [] rfl (Nat.le_of_ble_eq_true rfl) (fun v1 h => ?_)
  refine w_join (fun J49 => J49  = some R → WS VM Y X 5 2 49 (some (.int R.2), R.1) S 49 [(0, rf Y 0)] []) h ?_ (fun J49 hJ49 h => ?_)
  · intro  h
    refine w_aload_n C dX7_part_49 rfl 0 rfl ?_
    refine w_ldc C dX7_part_50 kcX7_54 ?_
    refine w_Vi C dX7_part_52 h (fun _ e => mX7_finds e) lnX7_75 mvX7_finds bM0 rfl ⟨Nat.le_of_ble_eq_true rfl, Nat.le_of_ble_eq_true rfl⟩ [] rfl (Nat.le_of_ble_eq_true rfl) (fun S2 v3 h => ?_)
    exact w_iret C dX7_part_55 h
  refine w_if_eq C 49 dX7_part_9 (by decide) h (fun h => ?_) (fun h => ?_)
  · exact w_sub [0] rfl (hJ49  h)
  refine w_iload_n C dX7_part_12 rfl 2 rfl ?_
  refine w_i2l C dX7_part_13 ?_
  refine w_lconst (v := 0) C dX7_part_14 (by decide) ?_
  refine w_ldc2 C dX7_part_15 klX7_69 ?_
  refine p_Si C dX7_part_18 h (fun _ e => mX7_isIn e) lnX7_65 msX7_isIn rfl ⟨Nat.le_of_ble_eq_true rfl, Nat.le_of_ble_eq_true rfl⟩ [] rfl (Nat.le_of_ble_eq_true rfl) (fun v4 h => ?_)
  refine w_if_eq C 49 dX7_part_21 (by decide) h (fun h => ?_) (fun h => ?_)
  · exact w_sub [0] rfl (hJ49  h)
  refine w_iload_n C dX7_part_24 rfl 3 rfl ?_
  refine w_i2l C dX7_part_25 ?_
  refine w_lconst (v := 1) C dX7_part_26 (by decide) ?_
  refine w_ldc2 C dX7_part_27 klX7_71 ?_
  refine p_Si C dX7_part_30 h (fun _ e => mX7_isIn e) lnX7_65 msX7_isIn rfl ⟨Nat.le_of_ble_eq_true rfl, Nat.le_of_ble_eq_true rfl⟩ [] rfl (Nat.le_of_ble_eq_true rfl) (fun v5 h => ?_)
  refine w_if_eq C 49 dX7_part_33 (by decide) h (fun h => ?_) (fun h => ?_)
  · exact w_sub [0] rfl (hJ49  h)
  refine w_iload C dX7_part_36 4 rfl ?_
  refine w_i2l C dX7_part_38 ?_
  refine w_lconst (v := 0) C dX7_part_39 (by decide) ?_
  refine w_ldc2 C dX7_part_40 klX7_73 ?_
  refine p_Si C dX7_part_43 h (fun _ e => mX7_isIn e) lnX7_65 msX7_isIn rfl ⟨Nat.le_of_ble_eq_true rfl, Nat.le_of_ble_eq_true rfl⟩ [] rfl (Nat.le_of_ble_eq_true rfl) (fun v6 h => ?_)
  refine w_if_ne C 56 dX7_part_46 (by decide) h (fun h => ?_) (fun h => ?_)
  · refine w_aload_n C dX7_part_56 rfl 0 rfl ?_
    refine w_getr C dX7_part_57 flX7_7 gM0_0 ?_
    refine w_iconst (v := 0) C dX7_part_60 (by decide) ?_
    refine x_iald C dX7_part_61 aM1 h (fun v7 h => ?_)
    refine w_bipush (v := 20) C dX7_part_62 (by decide) ?_
    refine w_icmp_ne C 74 dX7_part_64 (by decide) h (fun h => ?_) (fun h => ?_)
    · refine w_aload_n C dX7_part_74 rfl 0 rfl ?_
      refine w_iload_n C dX7_part_75 rfl 1 rfl ?_
      refine w_iload_n C dX7_part_76 rfl 2 rfl ?_
      refine w_iload_n C dX7_part_77 rfl 3 rfl ?_
      refine w_iload C dX7_part_78 4 rfl ?_
      refine w_iconst (v := 0) C dX7_part_80 (by decide) ?_
      refine w_Vv C dX7_part_81 h (fun _ e => mX7_comes e) lnX7_80 mvX7_comes bM0 rfl ⟨Nat.le_of_ble_eq_true rfl, Nat.le_of_ble_eq_true rfl⟩ [] rfl (Nat.le_of_ble_eq_true rfl) (fun S8 h => ?_)
      refine w_aload_n C dX7_part_84 rfl 0 rfl ?_
      refine w_getr C dX7_part_85 flX7_7 gM0_0 ?_
      refine w_iconst (v := 0) C dX7_part_88 (by decide) ?_
      refine x_iald C dX7_part_89 aM1 h (fun v9 h => ?_)
      refine w_iconst (v := 1) C dX7_part_90 (by decide) ?_
      refine w_isub C dX7_part_91 ?_
      exact w_iret C dX7_part_92 h
    refine w_aload_n C dX7_part_67 rfl 0 rfl ?_
    refine w_ldc C dX7_part_68 kcX7_79 ?_
    refine w_Vi C dX7_part_70 h (fun _ e => mX7_finds e) lnX7_75 mvX7_finds bM0 rfl ⟨Nat.le_of_ble_eq_true rfl, Nat.le_of_ble_eq_true rfl⟩ [] rfl (Nat.le_of_ble_eq_true rfl) (fun S10 v11 h => ?_)
    exact w_iret C dX7_part_73 h
  exact w_sub [0] rfl (hJ49  h))
def fX7_good (S : St) (a1 : Int32) : Option (Int32) := bv (fX7_isThere S a1) fun v1 => if v1 = 0 then (some (0)) else (bv (fX7_has S a1 (2)) fun v2 => bv (fX7_has S a1 (4)) fun v3 => some ((v2 * ((100) - v3)) / (100)))
set_option maxRecDepth 100000 in
theorem mX7_good {Y : YT} {S : St} {a1 : Int32} {R : Int32} (h : fX7_good  S a1 = some R) : Mc VM Y yX7_good cX7_good 2 (some .int) 2 43 [rf Y 0, .int a1] S (some (.int R), S) :=
  Mc.start [(0, rf Y 0), (1, .int a1)] rfl pnX7 (Nat.le_of_ble_eq_true rfl) (fun X (C : Ok VM Y X RX7 cX7_good 2 (some .int)) => by
  unfold fX7_good at h
  refine w_aload_n C dX7_good_0 rfl 0 rfl ?_
  refine w_iload_n C dX7_good_1 rfl 1 rfl ?_
  refine p_Vi C dX7_good_2 h (fun _ e => mX7_isThere e) lnX7_84 mvX7_isThere bM0 rfl ⟨Nat.le_of_ble_eq_true rfl, Nat.le_of_ble_eq_true rfl⟩ [] rfl (Nat.le_of_ble_eq_true rfl) (fun v1 h => ?_)
  refine w_if_eq C 30 dX7_good_5 (by decide) h (fun h => ?_) (fun h => ?_)
  · refine w_iconst (v := 0) C dX7_good_30 (by decide) ?_
    exact p_iret C dX7_good_31 h
  refine w_aload_n C dX7_good_8 rfl 0 rfl ?_
  refine w_iload_n C dX7_good_9 rfl 1 rfl ?_
  refine w_iconst (v := 2) C dX7_good_10 (by decide) ?_
  refine p_Vi C dX7_good_11 h (fun _ e => mX7_has e) lnX7_55 mvX7_has bM0 rfl ⟨Nat.le_of_ble_eq_true rfl, Nat.le_of_ble_eq_true rfl⟩ [] rfl (Nat.le_of_ble_eq_true rfl) (fun v2 h => ?_)
  refine w_bipush (v := 100) C dX7_good_14 (by decide) ?_
  refine w_aload_n C dX7_good_16 rfl 0 rfl ?_
  refine w_iload_n C dX7_good_17 rfl 1 rfl ?_
  refine w_iconst (v := 4) C dX7_good_18 (by decide) ?_
  refine p_Vi C dX7_good_19 h (fun _ e => mX7_has e) lnX7_55 mvX7_has bM0 rfl ⟨Nat.le_of_ble_eq_true rfl, Nat.le_of_ble_eq_true rfl⟩ [.int (100), .int v2] rfl (Nat.le_of_ble_eq_true rfl) (fun v3 h => ?_)
  refine w_isub C dX7_good_22 ?_
  refine w_imul C dX7_good_23 ?_
  refine w_bipush (v := 100) C dX7_good_24 (by decide) ?_
  refine w_idiv C dX7_good_26 (by decide) ?_
  refine w_goto C 31 dX7_good_27 (by decide) ?_
  exact p_iret C dX7_good_31 h)
def fX7_pushes (S : St) (a1 : Int32) : Option (Int32) := bv (fX7_has S a1 (0)) fun v1 => if v1 = (1) then (bv (fX7_good S a1) fun v6 => if v6 ≤ 0 then (some (0)) else (bv (fX7_good S a1) fun v7 => ldi S 1 (6) 216 fun v8 => some (v7 + (v8 / (4))))) else (if v1 = (5) then (bv (fX7_isThere S a1) fun v2 => if v2 = 0 then (some (0)) else (ldi S 1 (4) 216 fun v3 => bv (fX7_has S a1 (1)) fun v4 => if v3 = v4 then (ldi S 1 (3) 216 fun v5 => some v5) else (some (0)))) else (some (0)))
set_option maxRecDepth 100000 in
theorem mX7_pushes {Y : YT} {S : St} {a1 : Int32} {R : Int32} (h : fX7_pushes  S a1 = some R) : Mc VM Y yX7_pushes cX7_pushes 3 (some .int) 3 64 [rf Y 0, .int a1] S (some (.int R), S) :=
  Mc.start [(0, rf Y 0), (1, .int a1)] rfl pnX7 (Nat.le_of_ble_eq_true rfl) (fun X (C : Ok VM Y X RX7 cX7_pushes 3 (some .int)) => by
  unfold fX7_pushes at h
  refine w_aload_n C dX7_pushes_0 rfl 0 rfl ?_
  refine w_iload_n C dX7_pushes_1 rfl 1 rfl ?_
  refine w_iconst (v := 0) C dX7_pushes_2 (by decide) ?_
  refine p_Vi C dX7_pushes_3 h (fun _ e => mX7_has e) lnX7_55 mvX7_has bM0 rfl ⟨Nat.le_of_ble_eq_true rfl, Nat.le_of_ble_eq_true rfl⟩ [] rfl (Nat.le_of_ble_eq_true rfl) (fun v1 h => ?_)
  refine w_istore_n C dX7_pushes_6 rfl (by decide) [(2, .int v1), (0, rf Y 0), (1, .int a1)] rfl ?_
  refine w_iload_n C dX7_pushes_7 rfl 0 rfl ?_
  refine w_iconst (v := 1) C dX7_pushes_8 (by decide) ?_
  refine w_icmp_ne C 40 dX7_pushes_9 (by decide) h (fun h => ?_) (fun h => ?_)
  · refine w_iload_n C dX7_pushes_40 rfl 0 rfl ?_
    refine w_iconst (v := 5) C dX7_pushes_41 (by decide) ?_
    refine w_icmp_ne C 77 dX7_pushes_42 (by decide) h (fun h => ?_) (fun h => ?_)
    · refine w_iconst (v := 0) C dX7_pushes_77 (by decide) ?_
      exact p_iret C dX7_pushes_78 h
    refine w_aload_n C dX7_pushes_45 rfl 1 rfl ?_
    refine w_iload_n C dX7_pushes_46 rfl 2 rfl ?_
    refine p_Vi C dX7_pushes_47 h (fun _ e => mX7_isThere e) lnX7_84 mvX7_isThere bM0 rfl ⟨Nat.le_of_ble_eq_true rfl, Nat.le_of_ble_eq_true rfl⟩ [] rfl (Nat.le_of_ble_eq_true rfl) (fun v2 h => ?_)
    refine w_if_eq C 77 dX7_pushes_50 (by decide) h (fun h => ?_) (fun h => ?_)
    · refine w_iconst (v := 0) C dX7_pushes_77 (by decide) ?_
      exact p_iret C dX7_pushes_78 h
    refine w_aload_n C dX7_pushes_53 rfl 1 rfl ?_
    refine w_getr C dX7_pushes_54 flX7_7 gM0_0 ?_
    refine w_iconst (v := 4) C dX7_pushes_57 (by decide) ?_
    refine x_iald C dX7_pushes_58 aM1 h (fun v3 h => ?_)
    refine w_aload_n C dX7_pushes_59 rfl 1 rfl ?_
    refine w_iload_n C dX7_pushes_60 rfl 2 rfl ?_
    refine w_iconst (v := 1) C dX7_pushes_61 (by decide) ?_
    refine p_Vi C dX7_pushes_62 h (fun _ e => mX7_has e) lnX7_55 mvX7_has bM0 rfl ⟨Nat.le_of_ble_eq_true rfl, Nat.le_of_ble_eq_true rfl⟩ [.int v3] rfl (Nat.le_of_ble_eq_true rfl) (fun v4 h => ?_)
    refine w_icmp_ne C 77 dX7_pushes_65 (by decide) h (fun h => ?_) (fun h => ?_)
    · refine w_iconst (v := 0) C dX7_pushes_77 (by decide) ?_
      exact p_iret C dX7_pushes_78 h
    refine w_aload_n C dX7_pushes_68 rfl 1 rfl ?_
    refine w_getr C dX7_pushes_69 flX7_7 gM0_0 ?_
    refine w_iconst (v := 3) C dX7_pushes_72 (by decide) ?_
    refine x_iald C dX7_pushes_73 aM1 h (fun v5 h => ?_)
    refine w_goto C 78 dX7_pushes_74 (by decide) ?_
    exact p_iret C dX7_pushes_78 h
  refine w_aload_n C dX7_pushes_12 rfl 1 rfl ?_
  refine w_iload_n C dX7_pushes_13 rfl 2 rfl ?_
  refine p_Vi C dX7_pushes_14 h (fun _ e => mX7_good e) lnX7_88 mvX7_good bM0 rfl ⟨Nat.le_of_ble_eq_true rfl, Nat.le_of_ble_eq_true rfl⟩ [] rfl (Nat.le_of_ble_eq_true rfl) (fun v6 h => ?_)
  refine w_if_le C 38 dX7_pushes_17 (by decide) h (fun h => ?_) (fun h => ?_)
  · refine w_iconst (v := 0) C dX7_pushes_38 (by decide) ?_
    exact p_iret C dX7_pushes_39 h
  refine w_aload_n C dX7_pushes_20 rfl 1 rfl ?_
  refine w_iload_n C dX7_pushes_21 rfl 2 rfl ?_
  refine p_Vi C dX7_pushes_22 h (fun _ e => mX7_good e) lnX7_88 mvX7_good bM0 rfl ⟨Nat.le_of_ble_eq_true rfl, Nat.le_of_ble_eq_true rfl⟩ [] rfl (Nat.le_of_ble_eq_true rfl) (fun v7 h => ?_)
  refine w_aload_n C dX7_pushes_25 rfl 1 rfl ?_
  refine w_getr C dX7_pushes_26 flX7_7 gM0_0 ?_
  refine w_bipush (v := 6) C dX7_pushes_29 (by decide) ?_
  refine x_iald C dX7_pushes_31 aM1 h (fun v8 h => ?_)
  refine w_iconst (v := 4) C dX7_pushes_32 (by decide) ?_
  refine w_idiv C dX7_pushes_33 (by decide) ?_
  refine w_iadd C dX7_pushes_34 ?_
  refine w_goto C 39 dX7_pushes_35 (by decide) ?_
  exact p_iret C dX7_pushes_39 h)
def fX7_holdsOf (S : St) (a1 : Int32) : Option (Int32) := bv (fX7_good S a1) fun v1 => ldi S 1 (8) 216 fun v2 => pl (((v1 * v2) / (20))) fun v3 => bv (fX7_has S a1 (0)) fun v4 => if v4 = 2 then (some v3) else if v4 = 3 then (bv (fX7_good S a1) fun v5 => if v5 ≤ 0 then (some (0)) else (bv (fX7_has S a1 (3)) fun v6 => some v6)) else if v4 = 4 then (bv (fX7_good S a1) fun v7 => some (v7 / (10))) else if v4 = 5 then (bv (fX7_good S a1) fun v8 => some (v8 / (10))) else if v4 = 6 then (ldi S 1 (5) 216 fun v9 => some (v3 - ((v9 * v3) / (10)))) else (some (0))
set_option maxRecDepth 100000 in
theorem mX7_holdsOf {Y : YT} {S : St} {a1 : Int32} {R : Int32} (h : fX7_holdsOf  S a1 = some R) : Mc VM Y yX7_holdsOf cX7_holdsOf 3 (some .int) 3 64 [rf Y 0, .int a1] S (some (.int R), S) :=
  Mc.start [(0, rf Y 0), (1, .int a1)] rfl pnX7 (Nat.le_of_ble_eq_true rfl) (fun X (C : Ok VM Y X RX7 cX7_holdsOf 3 (some .int)) => by
  unfold fX7_holdsOf at h
  refine w_aload_n C dX7_holdsOf_0 rfl 0 rfl ?_
  refine w_iload_n C dX7_holdsOf_1 rfl 1 rfl ?_
  refine p_Vi C dX7_holdsOf_2 h (fun _ e => mX7_good e) lnX7_88 mvX7_good bM0 rfl ⟨Nat.le_of_ble_eq_true rfl, Nat.le_of_ble_eq_true rfl⟩ [] rfl (Nat.le_of_ble_eq_true rfl) (fun v1 h => ?_)
  refine w_aload_n C dX7_holdsOf_5 rfl 0 rfl ?_
  refine w_getr C dX7_holdsOf_6 flX7_7 gM0_0 ?_
  refine w_bipush (v := 8) C dX7_holdsOf_9 (by decide) ?_
  refine x_iald C dX7_holdsOf_11 aM1 h (fun v2 h => ?_)
  refine w_imul C dX7_holdsOf_12 ?_
  refine w_bipush (v := 20) C dX7_holdsOf_13 (by decide) ?_
  refine w_idiv C dX7_holdsOf_15 (by decide) ?_
  refine w_topi h (fun v3 h => ?_)
  refine w_istore_n C dX7_holdsOf_16 rfl (by decide) [(2, .int v3), (0, rf Y 0), (1, .int a1)] rfl ?_
  refine w_aload_n C dX7_holdsOf_17 rfl 1 rfl ?_
  refine w_iload_n C dX7_holdsOf_18 rfl 2 rfl ?_
  refine w_iconst (v := 0) C dX7_holdsOf_19 (by decide) ?_
  refine p_Vi C dX7_holdsOf_20 h (fun _ e => mX7_has e) lnX7_55 mvX7_has bM0 rfl ⟨Nat.le_of_ble_eq_true rfl, Nat.le_of_ble_eq_true rfl⟩ [] rfl (Nat.le_of_ble_eq_true rfl) (fun v4 h => ?_)
  by_cases c2 : v4 = 2
  · have h := ite_t c2 h
    refine w_tabIn C 56 dX7_holdsOf_23 c2 rfl (by decide) (by decide) rfl (by decide) ?_
    refine w_iload_n C dX7_holdsOf_56 rfl 0 rfl ?_
    exact p_iret C dX7_holdsOf_57 h
  have h := ite_f c2 h
  by_cases c3 : v4 = 3
  · have h := ite_t c3 h
    refine w_tabIn C 72 dX7_holdsOf_23 c3 rfl (by decide) (by decide) rfl (by decide) ?_
    refine w_aload_n C dX7_holdsOf_72 rfl 1 rfl ?_
    refine w_iload_n C dX7_holdsOf_73 rfl 2 rfl ?_
    refine p_Vi C dX7_holdsOf_74 h (fun _ e => mX7_good e) lnX7_88 mvX7_good bM0 rfl ⟨Nat.le_of_ble_eq_true rfl, Nat.le_of_ble_eq_true rfl⟩ [] rfl (Nat.le_of_ble_eq_true rfl) (fun v5 h => ?_)
    refine w_if_le C 89 dX7_holdsOf_77 (by decide) h (fun h => ?_) (fun h => ?_)
    · refine w_iconst (v := 0) C dX7_holdsOf_89 (by decide) ?_
      exact p_iret C dX7_holdsOf_90 h
    refine w_aload_n C dX7_holdsOf_80 rfl 1 rfl ?_
    refine w_iload_n C dX7_holdsOf_81 rfl 2 rfl ?_
    refine w_iconst (v := 3) C dX7_holdsOf_82 (by decide) ?_
    refine p_Vi C dX7_holdsOf_83 h (fun _ e => mX7_has e) lnX7_55 mvX7_has bM0 rfl ⟨Nat.le_of_ble_eq_true rfl, Nat.le_of_ble_eq_true rfl⟩ [] rfl (Nat.le_of_ble_eq_true rfl) (fun v6 h => ?_)
    refine w_goto C 90 dX7_holdsOf_86 (by decide) ?_
    exact p_iret C dX7_holdsOf_90 h
  have h := ite_f c3 h
  by_cases c4 : v4 = 4
  · have h := ite_t c4 h
    refine w_tabIn C 91 dX7_holdsOf_23 c4 rfl (by decide) (by decide) rfl (by decide) ?_
    refine w_aload_n C dX7_holdsOf_91 rfl 1 rfl ?_
    refine w_iload_n C dX7_holdsOf_92 rfl 2 rfl ?_
    refine p_Vi C dX7_holdsOf_93 h (fun _ e => mX7_good e) lnX7_88 mvX7_good bM0 rfl ⟨Nat.le_of_ble_eq_true rfl, Nat.le_of_ble_eq_true rfl⟩ [] rfl (Nat.le_of_ble_eq_true rfl) (fun v7 h => ?_)
    refine w_bipush (v := 10) C dX7_holdsOf_96 (by decide) ?_
    refine w_idiv C dX7_holdsOf_98 (by decide) ?_
    exact p_iret C dX7_holdsOf_99 h
  have h := ite_f c4 h
  by_cases c5 : v4 = 5
  · have h := ite_t c5 h
    refine w_tabIn C 91 dX7_holdsOf_23 c5 rfl (by decide) (by decide) rfl (by decide) ?_
    refine w_aload_n C dX7_holdsOf_91 rfl 1 rfl ?_
    refine w_iload_n C dX7_holdsOf_92 rfl 2 rfl ?_
    refine p_Vi C dX7_holdsOf_93 h (fun _ e => mX7_good e) lnX7_88 mvX7_good bM0 rfl ⟨Nat.le_of_ble_eq_true rfl, Nat.le_of_ble_eq_true rfl⟩ [] rfl (Nat.le_of_ble_eq_true rfl) (fun v8 h => ?_)
    refine w_bipush (v := 10) C dX7_holdsOf_96 (by decide) ?_
    refine w_idiv C dX7_holdsOf_98 (by decide) ?_
    exact p_iret C dX7_holdsOf_99 h
  have h := ite_f c5 h
  by_cases c6 : v4 = 6
  · have h := ite_t c6 h
    refine w_tabIn C 58 dX7_holdsOf_23 c6 rfl (by decide) (by decide) rfl (by decide) ?_
    refine w_iload_n C dX7_holdsOf_58 rfl 0 rfl ?_
    refine w_aload_n C dX7_holdsOf_59 rfl 1 rfl ?_
    refine w_getr C dX7_holdsOf_60 flX7_7 gM0_0 ?_
    refine w_iconst (v := 5) C dX7_holdsOf_63 (by decide) ?_
    refine x_iald C dX7_holdsOf_64 aM1 h (fun v9 h => ?_)
    refine w_iload_n C dX7_holdsOf_65 rfl 0 rfl ?_
    refine w_imul C dX7_holdsOf_66 ?_
    refine w_bipush (v := 10) C dX7_holdsOf_67 (by decide) ?_
    refine w_idiv C dX7_holdsOf_69 (by decide) ?_
    refine w_isub C dX7_holdsOf_70 ?_
    exact p_iret C dX7_holdsOf_71 h
  have h := ite_f c6 h
  refine w_tabOut C 100 dX7_holdsOf_23 (by have n2 := lv_neT c2 (a := 2) rfl; have n3 := lv_neT c3 (a := 3) rfl; have n4 := lv_neT c4 (a := 4) rfl; have n5 := lv_neT c5 (a := 5) rfl; have n6 := lv_neT c6 (a := 6) rfl; omega) (by decide) ?_
  refine w_iconst (v := 0) C dX7_holdsOf_100 (by decide) ?_
  exact p_iret C dX7_holdsOf_101 h)
def fX7_warms (S : St) (a1 : Int32) : Option (Int32) := bv (fX7_has S a1 (0)) fun v1 => pl (ldi S 1 (5) 216 fun v2 => pl (fun (v3 : Int32) => ldi S 1 (3) 216 fun v4 => pl ((v3 - (v4 / (10)))) fun v5 => if v1 = (4) then (some v3) else (if 0 ≤ v5 then (some v5) else (some (0)))) fun J48 => if v2 < (5) then (bv (fX7_good S a1) fun v6 => J48 (v6 / (5))) else (bv (fX7_good S a1) fun v7 => J48 ((v7 / (5)) / (2)))) fun J19 => if v1 = (4) then (J19) else (if v1 = (5) then (J19) else (some (0)))
set_option maxRecDepth 100000 in
theorem mX7_warms {Y : YT} {S : St} {a1 : Int32} {R : Int32} (h : fX7_warms  S a1 = some R) : Mc VM Y yX7_warms cX7_warms 5 (some .int) 3 64 [rf Y 0, .int a1] S (some (.int R), S) :=
  Mc.start [(0, rf Y 0), (1, .int a1)] rfl pnX7 (Nat.le_of_ble_eq_true rfl) (fun X (C : Ok VM Y X RX7 cX7_warms 5 (some .int)) => by
  unfold fX7_warms at h
  refine w_aload_n C dX7_warms_0 rfl 0 rfl ?_
  refine w_iload_n C dX7_warms_1 rfl 1 rfl ?_
  refine w_iconst (v := 0) C dX7_warms_2 (by decide) ?_
  refine p_Vi C dX7_warms_3 h (fun _ e => mX7_has e) lnX7_55 mvX7_has bM0 rfl ⟨Nat.le_of_ble_eq_true rfl, Nat.le_of_ble_eq_true rfl⟩ [] rfl (Nat.le_of_ble_eq_true rfl) (fun v1 h => ?_)
  refine w_istore_n C dX7_warms_6 rfl (by decide) [(2, .int v1), (0, rf Y 0), (1, .int a1)] rfl ?_
  refine w_iload_n C dX7_warms_7 rfl 0 rfl ?_
  refine w_iconst (v := 4) C dX7_warms_8 (by decide) ?_
  refine w_join (fun J19 => J19  = some R → WS VM Y X 5 3 64 (some (.int R), S) S 19 [(0, rf Y 0), (1, .int a1), (2, .int v1)] []) h ?_ (fun J19 hJ19 h => ?_)
  · intro  h
    refine w_aload_n C dX7_warms_19 rfl 0 rfl ?_
    refine w_getr C dX7_warms_20 flX7_7 gM0_0 ?_
    refine w_iconst (v := 5) C dX7_warms_23 (by decide) ?_
    refine x_iald C dX7_warms_24 aM1 h (fun v2 h => ?_)
    refine w_iconst (v := 5) C dX7_warms_25 (by decide) ?_
    refine w_join (fun J48 => ∀ (v3 : Int32), J48 v3 = some R → WS VM Y X 5 3 64 (some (.int R), S) S 48 [(0, rf Y 0), (2, .int v1)] [.int v3]) h ?_ (fun J48 hJ48 h => ?_)
    · intro v3 h
      refine w_istore_n C dX7_warms_48 rfl (by decide) [(3, .int v3), (0, rf Y 0), (2, .int v1)] rfl ?_
      refine w_iload_n C dX7_warms_49 rfl 0 rfl ?_
      refine w_aload_n C dX7_warms_50 rfl 1 rfl ?_
      refine w_getr C dX7_warms_51 flX7_7 gM0_0 ?_
      refine w_iconst (v := 3) C dX7_warms_54 (by decide) ?_
      refine x_iald C dX7_warms_55 aM1 h (fun v4 h => ?_)
      refine w_bipush (v := 10) C dX7_warms_56 (by decide) ?_
      refine w_idiv C dX7_warms_58 (by decide) ?_
      refine w_isub C dX7_warms_59 ?_
      refine w_topi h (fun v5 h => ?_)
      refine w_istore C dX7_warms_60 (by decide) [(4, .int v5), (3, .int v3), (0, rf Y 0), (2, .int v1)] rfl ?_
      refine w_iload_n C dX7_warms_62 rfl 3 rfl ?_
      refine w_iconst (v := 4) C dX7_warms_63 (by decide) ?_
      refine w_icmp_ne C 71 dX7_warms_64 (by decide) h (fun h => ?_) (fun h => ?_)
      · refine w_iload C dX7_warms_71 0 rfl ?_
        refine w_if_ge C 80 dX7_warms_73 (by decide) h (fun h => ?_) (fun h => ?_)
        · refine w_iload C dX7_warms_80 0 rfl ?_
          exact p_iret C dX7_warms_82 h
        refine w_iconst (v := 0) C dX7_warms_76 (by decide) ?_
        refine w_goto C 82 dX7_warms_77 (by decide) ?_
        exact p_iret C dX7_warms_82 h
      refine w_iload_n C dX7_warms_67 rfl 1 rfl ?_
      refine w_goto C 82 dX7_warms_68 (by decide) ?_
      exact p_iret C dX7_warms_82 h
    refine w_icmp_lt C 41 dX7_warms_26 (by decide) h (fun h => ?_) (fun h => ?_)
    · refine w_aload_n C dX7_warms_41 rfl 0 rfl ?_
      refine w_iload_n C dX7_warms_42 rfl 1 rfl ?_
      refine p_Vi C dX7_warms_43 h (fun _ e => mX7_good e) lnX7_88 mvX7_good bM0 rfl ⟨Nat.le_of_ble_eq_true rfl, Nat.le_of_ble_eq_true rfl⟩ [] rfl (Nat.le_of_ble_eq_true rfl) (fun v6 h => ?_)
      refine w_iconst (v := 5) C dX7_warms_46 (by decide) ?_
      refine w_idiv C dX7_warms_47 (by decide) ?_
      exact w_sub [0, 2] rfl (hJ48 _ h)
    refine w_aload_n C dX7_warms_29 rfl 0 rfl ?_
    refine w_iload_n C dX7_warms_30 rfl 1 rfl ?_
    refine p_Vi C dX7_warms_31 h (fun _ e => mX7_good e) lnX7_88 mvX7_good bM0 rfl ⟨Nat.le_of_ble_eq_true rfl, Nat.le_of_ble_eq_true rfl⟩ [] rfl (Nat.le_of_ble_eq_true rfl) (fun v7 h => ?_)
    refine w_iconst (v := 5) C dX7_warms_34 (by decide) ?_
    refine w_idiv C dX7_warms_35 (by decide) ?_
    refine w_iconst (v := 2) C dX7_warms_36 (by decide) ?_
    refine w_idiv C dX7_warms_37 (by decide) ?_
    refine w_goto C 48 dX7_warms_38 (by decide) ?_
    exact w_sub [0, 2] rfl (hJ48 _ h)
  refine w_icmp_eq C 19 dX7_warms_9 (by decide) h (fun h => ?_) (fun h => ?_)
  · exact w_sub [1, 2, 0] rfl (hJ19  h)
  refine w_iload_n C dX7_warms_12 rfl 0 rfl ?_
  refine w_iconst (v := 5) C dX7_warms_13 (by decide) ?_
  refine w_icmp_eq C 19 dX7_warms_14 (by decide) h (fun h => ?_) (fun h => ?_)
  · exact w_sub [1, 2, 0] rfl (hJ19  h)
  refine w_iconst (v := 0) C dX7_warms_17 (by decide) ?_
  exact p_iret C dX7_warms_18 h)
def fX7_of (S : St) (a1 : Int32) (a2 : Int32) : Option (St × Int32) := bv (fX7_isPart S a1) fun v1 => pl (bq (fX7_finds S (-1000000001)) fun S2 v3 => some (S2, v3)) fun J20 => if v1 = 0 then (J20) else (bv (fX7_isIn S (Int32.toInt64 a2) (0) (9)) fun v4 => if v4 = 0 then (J20) else (if (6) ≤ a2 then (if a2 = (6) then (bv (fX7_good S a1) fun v8 => some (S, v8)) else (if a2 = (7) then (bv (fX7_pushes S a1) fun v7 => some (S, v7)) else (if a2 = (8) then (bv (fX7_holdsOf S a1) fun v6 => some (S, v6)) else (bv (fX7_warms S a1) fun v5 => some (S, v5))))) else (bv (fX7_has S a1 a2) fun v9 => some (S, v9))))
set_option maxRecDepth 100000 in
theorem mX7_of {Y : YT} {S : St} {a1 : Int32} {a2 : Int32} {R : St × Int32} (h : fX7_of  S a1 a2 = some R) : Mc VM Y yX7_of cX7_of 3 (some .int) 4 88 [rf Y 0, .int a1, .int a2] S (some (.int R.2), R.1) :=
  Mc.start [(0, rf Y 0), (1, .int a1), (2, .int a2)] rfl pnX7 (Nat.le_of_ble_eq_true rfl) (fun X (C : Ok VM Y X RX7 cX7_of 3 (some .int)) => by
  unfold fX7_of at h
  refine w_aload_n C dX7_of_0 rfl 0 rfl ?_
  refine w_iload_n C dX7_of_1 rfl 1 rfl ?_
  refine p_Vi C dX7_of_2 h (fun _ e => mX7_isPart e) lnX7_91 mvX7_isPart bM0 rfl ⟨Nat.le_of_ble_eq_true rfl, Nat.le_of_ble_eq_true rfl⟩ [] rfl (Nat.le_of_ble_eq_true rfl) (fun v1 h => ?_)
  refine w_join (fun J20 => J20  = some R → WS VM Y X 3 4 88 (some (.int R.2), R.1) S 20 [(0, rf Y 0)] []) h ?_ (fun J20 hJ20 h => ?_)
  · intro  h
    refine w_aload_n C dX7_of_20 rfl 0 rfl ?_
    refine w_ldc C dX7_of_21 kcX7_54 ?_
    refine w_Vi C dX7_of_23 h (fun _ e => mX7_finds e) lnX7_75 mvX7_finds bM0 rfl ⟨Nat.le_of_ble_eq_true rfl, Nat.le_of_ble_eq_true rfl⟩ [] rfl (Nat.le_of_ble_eq_true rfl) (fun S2 v3 h => ?_)
    exact w_iret C dX7_of_26 h
  refine w_if_eq C 20 dX7_of_5 (by decide) h (fun h => ?_) (fun h => ?_)
  · exact w_sub [0] rfl (hJ20  h)
  refine w_iload_n C dX7_of_8 rfl 2 rfl ?_
  refine w_i2l C dX7_of_9 ?_
  refine w_lconst (v := 0) C dX7_of_10 (by decide) ?_
  refine w_ldc2 C dX7_of_11 klX7_94 ?_
  refine p_Si C dX7_of_14 h (fun _ e => mX7_isIn e) lnX7_65 msX7_isIn rfl ⟨Nat.le_of_ble_eq_true rfl, Nat.le_of_ble_eq_true rfl⟩ [] rfl (Nat.le_of_ble_eq_true rfl) (fun v4 h => ?_)
  refine w_if_ne C 27 dX7_of_17 (by decide) h (fun h => ?_) (fun h => ?_)
  · refine w_iload_n C dX7_of_27 rfl 2 rfl ?_
    refine w_bipush (v := 6) C dX7_of_28 (by decide) ?_
    refine w_icmp_ge C 42 dX7_of_30 (by decide) h (fun h => ?_) (fun h => ?_)
    · refine w_iload_n C dX7_of_42 rfl 2 rfl ?_
      refine w_bipush (v := 6) C dX7_of_43 (by decide) ?_
      refine w_icmp_ne C 56 dX7_of_45 (by decide) h (fun h => ?_) (fun h => ?_)
      · refine w_iload_n C dX7_of_56 rfl 2 rfl ?_
        refine w_bipush (v := 7) C dX7_of_57 (by decide) ?_
        refine w_icmp_ne C 70 dX7_of_59 (by decide) h (fun h => ?_) (fun h => ?_)
        · refine w_iload_n C dX7_of_70 rfl 2 rfl ?_
          refine w_bipush (v := 8) C dX7_of_71 (by decide) ?_
          refine w_icmp_ne C 84 dX7_of_73 (by decide) h (fun h => ?_) (fun h => ?_)
          · refine w_aload_n C dX7_of_84 rfl 0 rfl ?_
            refine w_iload_n C dX7_of_85 rfl 1 rfl ?_
            refine p_Vi C dX7_of_86 h (fun _ e => mX7_warms e) lnX7_102 mvX7_warms bM0 rfl ⟨Nat.le_of_ble_eq_true rfl, Nat.le_of_ble_eq_true rfl⟩ [] rfl (Nat.le_of_ble_eq_true rfl) (fun v5 h => ?_)
            exact w_iret C dX7_of_89 h
          refine w_aload_n C dX7_of_76 rfl 0 rfl ?_
          refine w_iload_n C dX7_of_77 rfl 1 rfl ?_
          refine p_Vi C dX7_of_78 h (fun _ e => mX7_holdsOf e) lnX7_99 mvX7_holdsOf bM0 rfl ⟨Nat.le_of_ble_eq_true rfl, Nat.le_of_ble_eq_true rfl⟩ [] rfl (Nat.le_of_ble_eq_true rfl) (fun v6 h => ?_)
          refine w_goto C 89 dX7_of_81 (by decide) ?_
          exact w_iret C dX7_of_89 h
        refine w_aload_n C dX7_of_62 rfl 0 rfl ?_
        refine w_iload_n C dX7_of_63 rfl 1 rfl ?_
        refine p_Vi C dX7_of_64 h (fun _ e => mX7_pushes e) lnX7_96 mvX7_pushes bM0 rfl ⟨Nat.le_of_ble_eq_true rfl, Nat.le_of_ble_eq_true rfl⟩ [] rfl (Nat.le_of_ble_eq_true rfl) (fun v7 h => ?_)
        refine w_goto C 89 dX7_of_67 (by decide) ?_
        exact w_iret C dX7_of_89 h
      refine w_aload_n C dX7_of_48 rfl 0 rfl ?_
      refine w_iload_n C dX7_of_49 rfl 1 rfl ?_
      refine p_Vi C dX7_of_50 h (fun _ e => mX7_good e) lnX7_88 mvX7_good bM0 rfl ⟨Nat.le_of_ble_eq_true rfl, Nat.le_of_ble_eq_true rfl⟩ [] rfl (Nat.le_of_ble_eq_true rfl) (fun v8 h => ?_)
      refine w_goto C 89 dX7_of_53 (by decide) ?_
      exact w_iret C dX7_of_89 h
    refine w_aload_n C dX7_of_33 rfl 0 rfl ?_
    refine w_iload_n C dX7_of_34 rfl 1 rfl ?_
    refine w_iload_n C dX7_of_35 rfl 2 rfl ?_
    refine p_Vi C dX7_of_36 h (fun _ e => mX7_has e) lnX7_55 mvX7_has bM0 rfl ⟨Nat.le_of_ble_eq_true rfl, Nat.le_of_ble_eq_true rfl⟩ [] rfl (Nat.le_of_ble_eq_true rfl) (fun v9 h => ?_)
    refine w_goto C 89 dX7_of_39 (by decide) ?_
    exact w_iret C dX7_of_89 h
  exact w_sub [0] rfl (hJ20  h))
def fX7_set (S : St) (a1 : Int32) (a2 : Int32) (a3 : Int32) : Option (St × Int32) := bv (fX7_isPart S a1) fun v1 => pl (bq (fX7_finds S (-1000000001)) fun S2 v3 => some (S2, v3)) fun J54 => if v1 = 0 then (J54) else (bv (fX7_isIn S (Int32.toInt64 a2) (2) (4)) fun v4 => if v4 = 0 then (J54) else (pl (fun (u5 : Int64) (u6 : Int64) => pl (fun (u7 : Int64) => bv (fX7_isIn S u5 u6 u7) fun v8 => if v8 = 0 then (J54) else (bq (fX7_becomes S (((12) + ((6) * a1)) + a2) a3) fun S9 v10 => some (S9, v10))) fun J48 => if a2 = (2) then (J48 (999)) else (J48 (99))) fun J34 => if a2 = (2) then (J34 (Int32.toInt64 a3) (1)) else (J34 (Int32.toInt64 a3) (0))))
set_option maxRecDepth 100000 in
theorem mX7_set {Y : YT} {S : St} {a1 : Int32} {a2 : Int32} {a3 : Int32} {R : St × Int32} (h : fX7_set  S a1 a2 a3 = some R) : Mc VM Y yX7_set cX7_set 4 (some .int) 1 25 [rf Y 0, .int a1, .int a2, .int a3] S (some (.int R.2), R.1) :=
  Mc.start [(0, rf Y 0), (1, .int a1), (2, .int a2), (3, .int a3)] rfl pnX7 (Nat.le_of_ble_eq_true rfl) (fun X (C : Ok VM Y X RX7 cX7_set 4 (some .int)) => by
  unfold fX7_set at h
  refine w_aload_n C dX7_set_0 rfl 0 rfl ?_
  refine w_iload_n C dX7_set_1 rfl 1 rfl ?_
  refine p_Vi C dX7_set_2 h (fun _ e => mX7_isPart e) lnX7_91 mvX7_isPart bM0 rfl ⟨Nat.le_of_ble_eq_true rfl, Nat.le_of_ble_eq_true rfl⟩ [] rfl (Nat.le_of_ble_eq_true rfl) (fun v1 h => ?_)
  refine w_join (fun J54 => J54  = some R → WS VM Y X 4 1 25 (some (.int R.2), R.1) S 54 [(0, rf Y 0)] []) h ?_ (fun J54 hJ54 h => ?_)
  · intro  h
    refine w_aload_n C dX7_set_54 rfl 0 rfl ?_
    refine w_ldc C dX7_set_55 kcX7_54 ?_
    refine w_Vi C dX7_set_57 h (fun _ e => mX7_finds e) lnX7_75 mvX7_finds bM0 rfl ⟨Nat.le_of_ble_eq_true rfl, Nat.le_of_ble_eq_true rfl⟩ [] rfl (Nat.le_of_ble_eq_true rfl) (fun S2 v3 h => ?_)
    exact w_iret C dX7_set_60 h
  refine w_if_eq C 54 dX7_set_5 (by decide) h (fun h => ?_) (fun h => ?_)
  · exact w_sub [0] rfl (hJ54  h)
  refine w_iload_n C dX7_set_8 rfl 2 rfl ?_
  refine w_i2l C dX7_set_9 ?_
  refine w_ldc2 C dX7_set_10 klX7_105 ?_
  refine w_ldc2 C dX7_set_13 klX7_107 ?_
  refine p_Si C dX7_set_16 h (fun _ e => mX7_isIn e) lnX7_65 msX7_isIn rfl ⟨Nat.le_of_ble_eq_true rfl, Nat.le_of_ble_eq_true rfl⟩ [] rfl (Nat.le_of_ble_eq_true rfl) (fun v4 h => ?_)
  refine w_if_eq C 54 dX7_set_19 (by decide) h (fun h => ?_) (fun h => ?_)
  · exact w_sub [0] rfl (hJ54  h)
  refine w_iload_n C dX7_set_22 rfl 3 rfl ?_
  refine w_i2l C dX7_set_23 ?_
  refine w_iload_n C dX7_set_24 rfl 2 rfl ?_
  refine w_iconst (v := 2) C dX7_set_25 (by decide) ?_
  refine w_join (fun J34 => ∀ (u5 : Int64) (u6 : Int64), J34 u5 u6 = some R → WS VM Y X 4 1 25 (some (.int R.2), R.1) S 34 [(0, rf Y 0), (1, .int a1), (2, .int a2), (3, .int a3)] [.long u6, .long u5]) h ?_ (fun J34 hJ34 h => ?_)
  · intro u5 u6 h
    refine w_iload_n C dX7_set_34 rfl 2 rfl ?_
    refine w_iconst (v := 2) C dX7_set_35 (by decide) ?_
    refine w_join (fun J48 => ∀ (u7 : Int64), J48 u7 = some R → WS VM Y X 4 1 25 (some (.int R.2), R.1) S 48 [(0, rf Y 0), (1, .int a1), (2, .int a2), (3, .int a3)] [.long u7, .long u6, .long u5]) h ?_ (fun J48 hJ48 h => ?_)
    · intro u7 h
      refine p_Si C dX7_set_48 h (fun _ e => mX7_isIn e) lnX7_65 msX7_isIn rfl ⟨Nat.le_of_ble_eq_true rfl, Nat.le_of_ble_eq_true rfl⟩ [] rfl (Nat.le_of_ble_eq_true rfl) (fun v8 h => ?_)
      refine w_if_ne C 61 dX7_set_51 (by decide) h (fun h => ?_) (fun h => ?_)
      · refine w_aload_n C dX7_set_61 rfl 0 rfl ?_
        refine w_bipush (v := 12) C dX7_set_62 (by decide) ?_
        refine w_bipush (v := 6) C dX7_set_64 (by decide) ?_
        refine w_iload_n C dX7_set_66 rfl 1 rfl ?_
        refine w_imul C dX7_set_67 ?_
        refine w_iadd C dX7_set_68 ?_
        refine w_iload_n C dX7_set_69 rfl 2 rfl ?_
        refine w_iadd C dX7_set_70 ?_
        refine w_iload_n C dX7_set_71 rfl 3 rfl ?_
        refine w_Vi C dX7_set_72 h (fun _ e => mX7_becomes e) lnX7_109 mvX7_becomes bM0 rfl ⟨Nat.le_of_ble_eq_true rfl, Nat.le_of_ble_eq_true rfl⟩ [] rfl (Nat.le_of_ble_eq_true rfl) (fun S9 v10 h => ?_)
        exact w_iret C dX7_set_75 h
      exact w_sub [0] rfl (hJ54  h)
    refine w_icmp_ne C 45 dX7_set_36 (by decide) h (fun h => ?_) (fun h => ?_)
    · refine w_ldc2 C dX7_set_45 klX7_73 ?_
      exact w_sub [0, 1, 2, 3] rfl (hJ48 _ h)
    refine w_ldc2 C dX7_set_39 klX7_71 ?_
    refine w_goto C 48 dX7_set_42 (by decide) ?_
    exact w_sub [0, 1, 2, 3] rfl (hJ48 _ h)
  refine w_icmp_ne C 33 dX7_set_26 (by decide) h (fun h => ?_) (fun h => ?_)
  · refine w_lconst (v := 0) C dX7_set_33 (by decide) ?_
    exact w_sub [0, 1, 2, 3] rfl (hJ34 _ _ h)
  refine w_lconst (v := 1) C dX7_set_29 (by decide) ?_
  refine w_goto C 34 dX7_set_30 (by decide) ?_
  exact w_sub [0, 1, 2, 3] rfl (hJ34 _ _ h))
def fX7_want (S : St) (a1 : Int32) (a2 : Int32) : Option (St × Int32) := bv (fX7_isPart S a1) fun v1 => if v1 = 0 then (bq (fX7_finds S (-1000000001)) fun S5 v6 => some (S5, v6)) else (pl (fun (v2 : Int32) => bq (fX7_becomes S (((12) + ((6) * a1)) + (5)) v2) fun S3 v4 => if v4 = v2 then (some (S3, 0)) else (some (S3, 1))) fun J24 => if a2 = 0 then (J24 (0)) else (J24 (1)))
set_option maxRecDepth 100000 in
theorem mX7_want {Y : YT} {S : St} {a1 : Int32} {a2 : Int32} {R : St × Int32} (h : fX7_want  S a1 a2 = some R) : Mc VM Y yX7_want cX7_want 4 (some .int) 1 23 [rf Y 0, .int a1, .int a2] S (some (.int R.2), R.1) :=
  Mc.start [(0, rf Y 0), (1, .int a1), (2, .int a2)] rfl pnX7 (Nat.le_of_ble_eq_true rfl) (fun X (C : Ok VM Y X RX7 cX7_want 4 (some .int)) => by
  unfold fX7_want at h
  refine w_aload_n C dX7_want_0 rfl 0 rfl ?_
  refine w_iload_n C dX7_want_1 rfl 1 rfl ?_
  refine p_Vi C dX7_want_2 h (fun _ e => mX7_isPart e) lnX7_91 mvX7_isPart bM0 rfl ⟨Nat.le_of_ble_eq_true rfl, Nat.le_of_ble_eq_true rfl⟩ [] rfl (Nat.le_of_ble_eq_true rfl) (fun v1 h => ?_)
  refine w_if_ne C 15 dX7_want_5 (by decide) h (fun h => ?_) (fun h => ?_)
  · refine w_iload_n C dX7_want_15 rfl 2 rfl ?_
    refine w_join (fun J24 => ∀ (v2 : Int32), J24 v2 = some R → WS VM Y X 4 1 23 (some (.int R.2), R.1) S 24 [(0, rf Y 0), (1, .int a1)] [.int v2]) h ?_ (fun J24 hJ24 h => ?_)
    · intro v2 h
      refine w_istore_n C dX7_want_24 rfl (by decide) [(3, .int v2), (0, rf Y 0), (1, .int a1)] rfl ?_
      refine w_aload_n C dX7_want_25 rfl 1 rfl ?_
      refine w_bipush (v := 12) C dX7_want_26 (by decide) ?_
      refine w_bipush (v := 6) C dX7_want_28 (by decide) ?_
      refine w_iload_n C dX7_want_30 rfl 2 rfl ?_
      refine w_imul C dX7_want_31 ?_
      refine w_iadd C dX7_want_32 ?_
      refine w_iconst (v := 5) C dX7_want_33 (by decide) ?_
      refine w_iadd C dX7_want_34 ?_
      refine w_iload_n C dX7_want_35 rfl 0 rfl ?_
      refine w_Vi C dX7_want_36 h (fun _ e => mX7_becomes e) lnX7_109 mvX7_becomes bM0 rfl ⟨Nat.le_of_ble_eq_true rfl, Nat.le_of_ble_eq_true rfl⟩ [] rfl (Nat.le_of_ble_eq_true rfl) (fun S3 v4 h => ?_)
      refine w_iload_n C dX7_want_39 rfl 0 rfl ?_
      refine w_icmp_ne C 47 dX7_want_40 (by decide) h (fun h => ?_) (fun h => ?_)
      · refine w_iconst (v := 1) C dX7_want_47 (by decide) ?_
        exact w_iret C dX7_want_48 h
      refine w_iconst (v := 0) C dX7_want_43 (by decide) ?_
      refine w_goto C 48 dX7_want_44 (by decide) ?_
      exact w_iret C dX7_want_48 h
    refine w_if_eq C 23 dX7_want_16 (by decide) h (fun h => ?_) (fun h => ?_)
    · refine w_iconst (v := 0) C dX7_want_23 (by decide) ?_
      exact w_sub [0, 1] rfl (hJ24 _ h)
    refine w_iconst (v := 1) C dX7_want_19 (by decide) ?_
    refine w_goto C 24 dX7_want_20 (by decide) ?_
    exact w_sub [0, 1] rfl (hJ24 _ h)
  refine w_aload_n C dX7_want_8 rfl 0 rfl ?_
  refine w_ldc C dX7_want_9 kcX7_54 ?_
  refine w_Vi C dX7_want_11 h (fun _ e => mX7_finds e) lnX7_75 mvX7_finds bM0 rfl ⟨Nat.le_of_ble_eq_true rfl, Nat.le_of_ble_eq_true rfl⟩ [] rfl (Nat.le_of_ble_eq_true rfl) (fun S5 v6 h => ?_)
  exact w_iret C dX7_want_14 h)
def fX7_as (S : St) (a1 : Int32) (a2 : Int32) : Option (St × Int32) := bv (fX7_isPart S a1) fun v1 => pl (bq (fX7_finds S (-1000000001)) fun S2 v3 => some (S2, v3)) fun J20 => if v1 = 0 then (J20) else (bv (fX7_isIn S (Int32.toInt64 a2) (0) (6)) fun v4 => if v4 = 0 then (J20) else (bv (fX7_has S a1 (0)) fun v5 => pl (fun (v6 : Int32) => if v6 = 0 then (bq (fX7_finds S (-1000000003)) fun S7 v8 => some (S7, v8)) else (bv (fX7_good S a1) fun v9 => some (S, v9))) fun J69 => pl (J69 (1)) fun J64 => if v5 = a2 then (J64) else (if a2 = 0 then (J64) else (pl (pl (J69 (0)) fun J68 => if a2 = (2) then (if v5 = (6) then (J64) else (J68)) else (J68)) fun J53 => if a2 = (4) then (if v5 = (5) then (J64) else (J53)) else (J53)))))
set_option maxRecDepth 100000 in
theorem mX7_as {Y : YT} {S : St} {a1 : Int32} {a2 : Int32} {R : St × Int32} (h : fX7_as  S a1 a2 = some R) : Mc VM Y yX7_as cX7_as 5 (some .int) 3 64 [rf Y 0, .int a1, .int a2] S (some (.int R.2), R.1) :=
  Mc.start [(0, rf Y 0), (1, .int a1), (2, .int a2)] rfl pnX7 (Nat.le_of_ble_eq_true rfl) (fun X (C : Ok VM Y X RX7 cX7_as 5 (some .int)) => by
  unfold fX7_as at h
  refine w_aload_n C dX7_as_0 rfl 0 rfl ?_
  refine w_iload_n C dX7_as_1 rfl 1 rfl ?_
  refine p_Vi C dX7_as_2 h (fun _ e => mX7_isPart e) lnX7_91 mvX7_isPart bM0 rfl ⟨Nat.le_of_ble_eq_true rfl, Nat.le_of_ble_eq_true rfl⟩ [] rfl (Nat.le_of_ble_eq_true rfl) (fun v1 h => ?_)
  refine w_join (fun J20 => J20  = some R → WS VM Y X 5 3 64 (some (.int R.2), R.1) S 20 [(0, rf Y 0)] []) h ?_ (fun J20 hJ20 h => ?_)
  · intro  h
    refine w_aload_n C dX7_as_20 rfl 0 rfl ?_
    refine w_ldc C dX7_as_21 kcX7_54 ?_
    refine w_Vi C dX7_as_23 h (fun _ e => mX7_finds e) lnX7_75 mvX7_finds bM0 rfl ⟨Nat.le_of_ble_eq_true rfl, Nat.le_of_ble_eq_true rfl⟩ [] rfl (Nat.le_of_ble_eq_true rfl) (fun S2 v3 h => ?_)
    exact w_iret C dX7_as_26 h
  refine w_if_eq C 20 dX7_as_5 (by decide) h (fun h => ?_) (fun h => ?_)
  · exact w_sub [0] rfl (hJ20  h)
  refine w_iload_n C dX7_as_8 rfl 2 rfl ?_
  refine w_i2l C dX7_as_9 ?_
  refine w_lconst (v := 0) C dX7_as_10 (by decide) ?_
  refine w_ldc2 C dX7_as_11 klX7_63 ?_
  refine p_Si C dX7_as_14 h (fun _ e => mX7_isIn e) lnX7_65 msX7_isIn rfl ⟨Nat.le_of_ble_eq_true rfl, Nat.le_of_ble_eq_true rfl⟩ [] rfl (Nat.le_of_ble_eq_true rfl) (fun v4 h => ?_)
  refine w_if_ne C 27 dX7_as_17 (by decide) h (fun h => ?_) (fun h => ?_)
  · refine w_aload_n C dX7_as_27 rfl 0 rfl ?_
    refine w_iload_n C dX7_as_28 rfl 1 rfl ?_
    refine w_iconst (v := 0) C dX7_as_29 (by decide) ?_
    refine p_Vi C dX7_as_30 h (fun _ e => mX7_has e) lnX7_55 mvX7_has bM0 rfl ⟨Nat.le_of_ble_eq_true rfl, Nat.le_of_ble_eq_true rfl⟩ [] rfl (Nat.le_of_ble_eq_true rfl) (fun v5 h => ?_)
    refine w_istore_n C dX7_as_33 rfl (by decide) [(3, .int v5), (0, rf Y 0), (1, .int a1), (2, .int a2)] rfl ?_
    refine w_iload_n C dX7_as_34 rfl 0 rfl ?_
    refine w_iload_n C dX7_as_35 rfl 3 rfl ?_
    refine w_join (fun J69 => ∀ (v6 : Int32), J69 v6 = some R → WS VM Y X 5 3 64 (some (.int R.2), R.1) S 69 [(0, rf Y 0), (1, .int a1)] [.int v6]) h ?_ (fun J69 hJ69 h => ?_)
    · intro v6 h
      refine w_istore C dX7_as_69 (by decide) [(4, .int v6), (0, rf Y 0), (1, .int a1)] rfl ?_
      refine w_iload C dX7_as_71 0 rfl ?_
      refine w_if_eq C 84 dX7_as_73 (by decide) h (fun h => ?_) (fun h => ?_)
      · refine w_aload_n C dX7_as_84 rfl 1 rfl ?_
        refine w_ldc C dX7_as_85 kcX7_112 ?_
        refine w_Vi C dX7_as_87 h (fun _ e => mX7_finds e) lnX7_75 mvX7_finds bM0 rfl ⟨Nat.le_of_ble_eq_true rfl, Nat.le_of_ble_eq_true rfl⟩ [] rfl (Nat.le_of_ble_eq_true rfl) (fun S7 v8 h => ?_)
        exact w_iret C dX7_as_90 h
      refine w_aload_n C dX7_as_76 rfl 1 rfl ?_
      refine w_iload_n C dX7_as_77 rfl 2 rfl ?_
      refine p_Vi C dX7_as_78 h (fun _ e => mX7_good e) lnX7_88 mvX7_good bM0 rfl ⟨Nat.le_of_ble_eq_true rfl, Nat.le_of_ble_eq_true rfl⟩ [] rfl (Nat.le_of_ble_eq_true rfl) (fun v9 h => ?_)
      refine w_goto C 90 dX7_as_81 (by decide) ?_
      exact w_iret C dX7_as_90 h
    refine w_join (fun J64 => J64  = some R → WS VM Y X 5 3 64 (some (.int R.2), R.1) S 64 [(0, rf Y 0), (1, .int a1)] []) h ?_ (fun J64 hJ64 h => ?_)
    · intro  h
      refine w_iconst (v := 1) C dX7_as_64 (by decide) ?_
      refine w_goto C 69 dX7_as_65 (by decide) ?_
      exact w_sub [0, 1] rfl (hJ69 _ h)
    refine w_icmp_eq C 64 dX7_as_36 (by decide) h (fun h => ?_) (fun h => ?_)
    · exact w_sub [1, 2] rfl (hJ64  h)
    refine w_iload_n C dX7_as_39 rfl 3 rfl ?_
    refine w_if_eq C 64 dX7_as_40 (by decide) h (fun h => ?_) (fun h => ?_)
    · exact w_sub [1, 2] rfl (hJ64  h)
    refine w_iload_n C dX7_as_43 rfl 3 rfl ?_
    refine w_iconst (v := 4) C dX7_as_44 (by decide) ?_
    refine w_join (fun J53 => J53  = some R → WS VM Y X 5 3 64 (some (.int R.2), R.1) S 53 [(0, rf Y 0), (1, .int a1), (2, .int a2), (3, .int v5)] []) h ?_ (fun J53 hJ53 h => ?_)
    · intro  h
      refine w_iload_n C dX7_as_53 rfl 2 rfl ?_
      refine w_iconst (v := 2) C dX7_as_54 (by decide) ?_
      refine w_join (fun J68 => J68  = some R → WS VM Y X 5 3 64 (some (.int R.2), R.1) S 68 [(0, rf Y 0), (1, .int a1)] []) h ?_ (fun J68 hJ68 h => ?_)
      · intro  h
        refine w_iconst (v := 0) C dX7_as_68 (by decide) ?_
        exact w_sub [0, 1] rfl (hJ69 _ h)
      refine w_icmp_ne C 68 dX7_as_55 (by decide) h (fun h => ?_) (fun h => ?_)
      · exact w_sub [0, 1] rfl (hJ68  h)
      refine w_iload_n C dX7_as_58 rfl 3 rfl ?_
      refine w_bipush (v := 6) C dX7_as_59 (by decide) ?_
      refine w_icmp_ne C 68 dX7_as_61 (by decide) h (fun h => ?_) (fun h => ?_)
      · exact w_sub [0, 1] rfl (hJ68  h)
      exact w_sub [0, 1] rfl (hJ64  h)
    refine w_icmp_ne C 53 dX7_as_45 (by decide) h (fun h => ?_) (fun h => ?_)
    · exact w_sub [1, 2, 3, 0] rfl (hJ53  h)
    refine w_iload_n C dX7_as_48 rfl 0 rfl ?_
    refine w_iconst (v := 5) C dX7_as_49 (by decide) ?_
    refine w_icmp_eq C 64 dX7_as_50 (by decide) h (fun h => ?_) (fun h => ?_)
    · exact w_sub [1, 2] rfl (hJ64  h)
    exact w_sub [1, 2, 3, 0] rfl (hJ53  h)
  exact w_sub [0] rfl (hJ20  h))
def fX7_mostSky (S : St) (a1 : Int32) : Option (Int32) := if a1 = (1) then (some (7)) else (if a1 = (2) then (some (9)) else (if a1 = (4) then (some (60)) else (some (99))))
set_option maxRecDepth 100000 in
theorem mX7_mostSky {Y : YT} {S : St} {a1 : Int32} {R : Int32} (h : fX7_mostSky  S a1 = some R) : Mc VM Y yX7_mostSky cX7_mostSky 1 (some .int) 0 0 [.int a1] S (some (.int R), S) :=
  Mc.start [(0, .int a1)] rfl pnX7 (Nat.le_of_ble_eq_true rfl) (fun X (C : Ok VM Y X RX7 cX7_mostSky 1 (some .int)) => by
  unfold fX7_mostSky at h
  refine w_iload_n C dX7_mostSky_0 rfl 0 rfl ?_
  refine w_iconst (v := 1) C dX7_mostSky_1 (by decide) ?_
  refine w_icmp_ne C 10 dX7_mostSky_2 (by decide) h (fun h => ?_) (fun h => ?_)
  · refine w_iload_n C dX7_mostSky_10 rfl 0 rfl ?_
    refine w_iconst (v := 2) C dX7_mostSky_11 (by decide) ?_
    refine w_icmp_ne C 20 dX7_mostSky_12 (by decide) h (fun h => ?_) (fun h => ?_)
    · refine w_iload_n C dX7_mostSky_20 rfl 0 rfl ?_
      refine w_iconst (v := 4) C dX7_mostSky_21 (by decide) ?_
      refine w_icmp_ne C 30 dX7_mostSky_22 (by decide) h (fun h => ?_) (fun h => ?_)
      · refine w_bipush (v := 99) C dX7_mostSky_30 (by decide) ?_
        exact p_iret C dX7_mostSky_32 h
      refine w_bipush (v := 60) C dX7_mostSky_25 (by decide) ?_
      refine w_goto C 32 dX7_mostSky_27 (by decide) ?_
      exact p_iret C dX7_mostSky_32 h
    refine w_bipush (v := 9) C dX7_mostSky_15 (by decide) ?_
    refine w_goto C 32 dX7_mostSky_17 (by decide) ?_
    exact p_iret C dX7_mostSky_32 h
  refine w_bipush (v := 7) C dX7_mostSky_5 (by decide) ?_
  refine w_goto C 32 dX7_mostSky_7 (by decide) ?_
  exact p_iret C dX7_mostSky_32 h)
def fX7_sky (S : St) (a1 : Int32) (a2 : Int32) : Option (St × Int32) := bv (fX7_isIn S (Int32.toInt64 a1) (0) (4)) fun v1 => pl (bq (fX7_finds S (-1000000001)) fun S2 v3 => some (S2, v3)) fun J37 => if v1 = 0 then (J37) else (bv (fX7_mostSky S a1) fun v4 => bv (fX7_isIn S (Int32.toInt64 a2) (0) (Int32.toInt64 v4)) fun v5 => if v5 = 0 then (J37) else (bq (fX7_becomes S ((3) + a1) a2) fun S6 v7 => some (S6, v7)))
set_option maxRecDepth 100000 in
theorem mX7_sky {Y : YT} {S : St} {a1 : Int32} {a2 : Int32} {R : St × Int32} (h : fX7_sky  S a1 a2 = some R) : Mc VM Y yX7_sky cX7_sky 3 (some .int) 1 25 [rf Y 0, .int a1, .int a2] S (some (.int R.2), R.1) :=
  Mc.start [(0, rf Y 0), (1, .int a1), (2, .int a2)] rfl pnX7 (Nat.le_of_ble_eq_true rfl) (fun X (C : Ok VM Y X RX7 cX7_sky 3 (some .int)) => by
  unfold fX7_sky at h
  refine w_iload_n C dX7_sky_0 rfl 1 rfl ?_
  refine w_i2l C dX7_sky_1 ?_
  refine w_lconst (v := 0) C dX7_sky_2 (by decide) ?_
  refine w_ldc2 C dX7_sky_3 klX7_107 ?_
  refine p_Si C dX7_sky_6 h (fun _ e => mX7_isIn e) lnX7_65 msX7_isIn rfl ⟨Nat.le_of_ble_eq_true rfl, Nat.le_of_ble_eq_true rfl⟩ [] rfl (Nat.le_of_ble_eq_true rfl) (fun v1 h => ?_)
  refine w_join (fun J37 => J37  = some R → WS VM Y X 3 1 25 (some (.int R.2), R.1) S 37 [(0, rf Y 0)] []) h ?_ (fun J37 hJ37 h => ?_)
  · intro  h
    refine w_aload_n C dX7_sky_37 rfl 0 rfl ?_
    refine w_ldc C dX7_sky_38 kcX7_54 ?_
    refine w_Vi C dX7_sky_40 h (fun _ e => mX7_finds e) lnX7_75 mvX7_finds bM0 rfl ⟨Nat.le_of_ble_eq_true rfl, Nat.le_of_ble_eq_true rfl⟩ [] rfl (Nat.le_of_ble_eq_true rfl) (fun S2 v3 h => ?_)
    exact w_iret C dX7_sky_43 h
  refine w_if_eq C 37 dX7_sky_9 (by decide) h (fun h => ?_) (fun h => ?_)
  · exact w_sub [0] rfl (hJ37  h)
  refine w_iload_n C dX7_sky_12 rfl 2 rfl ?_
  refine w_i2l C dX7_sky_13 ?_
  refine w_lconst (v := 0) C dX7_sky_14 (by decide) ?_
  refine w_iload_n C dX7_sky_15 rfl 1 rfl ?_
  refine p_Si C dX7_sky_16 h (fun _ e => mX7_mostSky e) lnX7_113 msX7_mostSky rfl ⟨Nat.le_of_ble_eq_true rfl, Nat.le_of_ble_eq_true rfl⟩ [.long (0), .long (Int32.toInt64 a2)] rfl (Nat.le_of_ble_eq_true rfl) (fun v4 h => ?_)
  refine w_i2l C dX7_sky_19 ?_
  refine p_Si C dX7_sky_20 h (fun _ e => mX7_isIn e) lnX7_65 msX7_isIn rfl ⟨Nat.le_of_ble_eq_true rfl, Nat.le_of_ble_eq_true rfl⟩ [] rfl (Nat.le_of_ble_eq_true rfl) (fun v5 h => ?_)
  refine w_if_eq C 37 dX7_sky_23 (by decide) h (fun h => ?_) (fun h => ?_)
  · exact w_sub [0] rfl (hJ37  h)
  refine w_aload_n C dX7_sky_26 rfl 0 rfl ?_
  refine w_iconst (v := 3) C dX7_sky_27 (by decide) ?_
  refine w_iload_n C dX7_sky_28 rfl 1 rfl ?_
  refine w_iadd C dX7_sky_29 ?_
  refine w_iload_n C dX7_sky_30 rfl 2 rfl ?_
  refine w_Vi C dX7_sky_31 h (fun _ e => mX7_becomes e) lnX7_109 mvX7_becomes bM0 rfl ⟨Nat.le_of_ble_eq_true rfl, Nat.le_of_ble_eq_true rfl⟩ [] rfl (Nat.le_of_ble_eq_true rfl) (fun S6 v7 h => ?_)
  refine w_goto C 43 dX7_sky_34 (by decide) ?_
  exact w_iret C dX7_sky_43 h)
def fX7_draw (S : St) (a1 : Int32) : Option (St × Int32) := bv (fX7_isIn S (Int32.toInt64 a1) (0) (99)) fun v1 => if v1 = 0 then (bq (fX7_finds S (-1000000001)) fun S2 v3 => some (S2, v3)) else (bq (fX7_becomes S (8) a1) fun S4 v5 => some (S4, v5))
set_option maxRecDepth 100000 in
theorem mX7_draw {Y : YT} {S : St} {a1 : Int32} {R : St × Int32} (h : fX7_draw  S a1 = some R) : Mc VM Y yX7_draw cX7_draw 2 (some .int) 1 25 [rf Y 0, .int a1] S (some (.int R.2), R.1) :=
  Mc.start [(0, rf Y 0), (1, .int a1)] rfl pnX7 (Nat.le_of_ble_eq_true rfl) (fun X (C : Ok VM Y X RX7 cX7_draw 2 (some .int)) => by
  unfold fX7_draw at h
  refine w_iload_n C dX7_draw_0 rfl 1 rfl ?_
  refine w_i2l C dX7_draw_1 ?_
  refine w_lconst (v := 0) C dX7_draw_2 (by decide) ?_
  refine w_ldc2 C dX7_draw_3 klX7_73 ?_
  refine p_Si C dX7_draw_6 h (fun _ e => mX7_isIn e) lnX7_65 msX7_isIn rfl ⟨Nat.le_of_ble_eq_true rfl, Nat.le_of_ble_eq_true rfl⟩ [] rfl (Nat.le_of_ble_eq_true rfl) (fun v1 h => ?_)
  refine w_if_eq C 22 dX7_draw_9 (by decide) h (fun h => ?_) (fun h => ?_)
  · refine w_aload_n C dX7_draw_22 rfl 0 rfl ?_
    refine w_ldc C dX7_draw_23 kcX7_54 ?_
    refine w_Vi C dX7_draw_25 h (fun _ e => mX7_finds e) lnX7_75 mvX7_finds bM0 rfl ⟨Nat.le_of_ble_eq_true rfl, Nat.le_of_ble_eq_true rfl⟩ [] rfl (Nat.le_of_ble_eq_true rfl) (fun S2 v3 h => ?_)
    exact w_iret C dX7_draw_28 h
  refine w_aload_n C dX7_draw_12 rfl 0 rfl ?_
  refine w_bipush (v := 8) C dX7_draw_13 (by decide) ?_
  refine w_iload_n C dX7_draw_15 rfl 1 rfl ?_
  refine w_Vi C dX7_draw_16 h (fun _ e => mX7_becomes e) lnX7_109 mvX7_becomes bM0 rfl ⟨Nat.le_of_ble_eq_true rfl, Nat.le_of_ble_eq_true rfl⟩ [] rfl (Nat.le_of_ble_eq_true rfl) (fun S4 v5 h => ?_)
  refine w_goto C 28 dX7_draw_19 (by decide) ?_
  exact w_iret C dX7_draw_28 h)
def fX7_age_L31 (J136 : St → Int32 → Option (St × Int32)) : Nat → St → Int32 → Int32 → Option (St × Int32)
  | 0, _, _, _ => none
  | G31 + 1, S8, v9, v10 => ldi S8 1 (0) 216 fun v11 => if v11 ≤ v10 then (J136 S8 v9) else (bv (fX7_isThere S8 v10) fun v12 => pl (fun (S13 : St) (v14 : Int32) => pl (v10 + 1) fun v15 => fX7_age_L31 J136 G31 S13 v14 v15) fun J130 => if v12 = 0 then (J130 S8 v9) else (bv (fX7_has S8 v10 (4)) fun v16 => ldi S8 1 (5) 216 fun v17 => pl (fun (v18 : Int32) => pl ((v16 + v18)) fun v19 => pl (fun (v20 : Int32) => bv (fX7_gets S8 v10 (4) v20) fun S21 => pl (fun (v22 : Int32) => bv (fX7_gets S21 v10 (5) v22) fun S23 => pl (fun (v24 : Int32) => pl ((v9 + v24)) fun v25 => J130 S23 v25) fun J128 => if v19 ≤ (99) then (J128 (0)) else (J128 (1))) fun J112 => if v19 ≤ (99) then (J112 (1)) else (J112 (0))) fun J93 => if v19 ≤ (99) then (J93 v19) else (J93 (0))) fun J73 => if v17 ≤ (4) then (J73 (1)) else (J73 (2))))
def fX7_age_L23 (F : Nat) (a1 : Int32) : Nat → St → Int32 → Int32 → Option (St × Int32)
  | 0, _, _, _ => none
  | G23 + 1, S2, v3, v4 => if a1 ≤ v4 then (some (S2, v3)) else (pl (fun (S5 : St) (v6 : Int32) => pl (v4 + 1) fun v7 => fX7_age_L23 F a1 G23 S5 v6 v7) fun J136 => fX7_age_L31 J136 F S2 v3 (0))
def fX7_age (F : Nat) (S : St) (a1 : Int32) : Option (St × Int32) := bv (fX7_isIn S (Int32.toInt64 a1) (1) (50)) fun v1 => if v1 = 0 then (bq (fX7_finds S (-1000000001)) fun S26 v27 => some (S26, v27)) else (fX7_age_L23 F a1 F S (0) (0))
set_option maxRecDepth 100000 in
theorem mX7_age {Y : YT} {F : Nat} {S : St} {a1 : Int32} {R : St × Int32} (h : fX7_age F S a1 = some R) : Mc VM Y yX7_age cX7_age 6 (some .int) 2 43 [rf Y 0, .int a1] S (some (.int R.2), R.1) :=
  Mc.start [(0, rf Y 0), (1, .int a1)] rfl pnX7 (Nat.le_of_ble_eq_true rfl) (fun X (C : Ok VM Y X RX7 cX7_age 6 (some .int)) => by
  unfold fX7_age at h
  refine w_iload_n C dX7_age_0 rfl 1 rfl ?_
  refine w_i2l C dX7_age_1 ?_
  refine w_lconst (v := 1) C dX7_age_2 (by decide) ?_
  refine w_ldc2 C dX7_age_3 klX7_116 ?_
  refine p_Si C dX7_age_6 h (fun _ e => mX7_isIn e) lnX7_65 msX7_isIn rfl ⟨Nat.le_of_ble_eq_true rfl, Nat.le_of_ble_eq_true rfl⟩ [] rfl (Nat.le_of_ble_eq_true rfl) (fun v1 h => ?_)
  refine w_if_ne C 19 dX7_age_9 (by decide) h (fun h => ?_) (fun h => ?_)
  · refine w_iconst (v := 0) C dX7_age_19 (by decide) ?_
    refine w_istore_n C dX7_age_20 rfl (by decide) [(2, .int (0)), (0, rf Y 0), (1, .int a1)] rfl ?_
    refine w_iconst (v := 0) C dX7_age_21 (by decide) ?_
    refine w_istore_n C dX7_age_22 rfl (by decide) [(3, .int (0)), (2, .int (0)), (0, rf Y 0), (1, .int a1)] rfl ?_
    have hL23 : ∀ (G23 : Nat) (S2 : St) (v3 : Int32) (v4 : Int32), fX7_age_L23 F a1 G23 S2 v3 v4 = some R → WS VM Y X 6 2 43 (some (.int R.2), R.1) S2 23 [(0, rf Y 0), (1, .int a1), (2, .int v3), (3, .int v4)] [] := by
      intro G23
      induction G23 with
      | zero => intro S2 v3 v4 h; exact nomatch (show (none : Option (St × Int32)) = some R from h)
      | succ G23 ih =>
        intro S2 v3 v4 h
        rw [fX7_age_L23] at h
        refine w_iload_n C dX7_age_23 rfl 3 rfl ?_
        refine w_iload_n C dX7_age_24 rfl 1 rfl ?_
        refine w_icmp_ge C 142 dX7_age_25 (by decide) h (fun h => ?_) (fun h => ?_)
        · refine w_iload_n C dX7_age_142 rfl 2 rfl ?_
          exact w_iret C dX7_age_143 h
        refine w_iconst (v := 0) C dX7_age_28 (by decide) ?_
        refine w_istore C dX7_age_29 (by decide) [(4, .int (0)), (0, rf Y 0), (1, .int a1), (2, .int v3), (3, .int v4)] rfl ?_
        refine w_join (fun J136 => ∀ (S5 : St) (v6 : Int32), J136 S5 v6 = some R → WS VM Y X 6 2 43 (some (.int R.2), R.1) S5 136 [(0, rf Y 0), (1, .int a1), (2, .int v6), (3, .int v4)] []) h ?_ (fun J136 hJ136 h => ?_)
        · intro S5 v6 h
          refine x_iinc C dX7_age_136 3 rfl 1 (by decide) h (by decide) (fun v7 => [(3, .int v7), (0, rf Y 0), (1, .int a1), (2, .int v6)]) (fun _ => rfl) (fun v7 h => ?_)
          refine w_goto C 23 dX7_age_139 (by decide) ?_
          exact w_sub [1, 2, 3, 0] rfl (ih _ _ _ h)
        have hL31 : ∀ (G31 : Nat) (S8 : St) (v9 : Int32) (v10 : Int32), fX7_age_L31 J136 G31 S8 v9 v10 = some R → WS VM Y X 6 2 43 (some (.int R.2), R.1) S8 31 [(0, rf Y 0), (1, .int a1), (2, .int v9), (3, .int v4), (4, .int v10)] [] := by
          intro G31
          induction G31 with
          | zero => intro S8 v9 v10 h; exact nomatch (show (none : Option (St × Int32)) = some R from h)
          | succ G31 ih =>
            intro S8 v9 v10 h
            rw [fX7_age_L31] at h
            refine w_iload C dX7_age_31 4 rfl ?_
            refine w_aload_n C dX7_age_33 rfl 0 rfl ?_
            refine w_getr C dX7_age_34 flX7_7 gM0_0 ?_
            refine w_iconst (v := 0) C dX7_age_37 (by decide) ?_
            refine x_iald C dX7_age_38 aM1 h (fun v11 h => ?_)
            refine w_icmp_ge C 136 dX7_age_39 (by decide) h (fun h => ?_) (fun h => ?_)
            · exact w_sub [0, 1, 2, 3] rfl (hJ136 _ _ h)
            refine w_aload_n C dX7_age_42 rfl 0 rfl ?_
            refine w_iload C dX7_age_43 4 rfl ?_
            refine p_Vi C dX7_age_45 h (fun _ e => mX7_isThere e) lnX7_84 mvX7_isThere bM0 rfl ⟨Nat.le_of_ble_eq_true rfl, Nat.le_of_ble_eq_true rfl⟩ [] rfl (Nat.le_of_ble_eq_true rfl) (fun v12 h => ?_)
            refine w_join (fun J130 => ∀ (S13 : St) (v14 : Int32), J130 S13 v14 = some R → WS VM Y X 6 2 43 (some (.int R.2), R.1) S13 130 [(0, rf Y 0), (1, .int a1), (2, .int v14), (3, .int v4), (4, .int v10)] []) h ?_ (fun J130 hJ130 h => ?_)
            · intro S13 v14 h
              refine x_iinc C dX7_age_130 4 rfl 1 (by decide) h (by decide) (fun v15 => [(4, .int v15), (0, rf Y 0), (1, .int a1), (2, .int v14), (3, .int v4)]) (fun _ => rfl) (fun v15 h => ?_)
              refine w_goto C 31 dX7_age_133 (by decide) ?_
              exact w_sub [1, 2, 3, 4, 0] rfl (ih _ _ _ h)
            refine w_if_eq C 130 dX7_age_48 (by decide) h (fun h => ?_) (fun h => ?_)
            · exact w_sub [0, 1, 2, 3, 4] rfl (hJ130 _ _ h)
            refine w_aload_n C dX7_age_51 rfl 0 rfl ?_
            refine w_iload C dX7_age_52 4 rfl ?_
            refine w_iconst (v := 4) C dX7_age_54 (by decide) ?_
            refine p_Vi C dX7_age_55 h (fun _ e => mX7_has e) lnX7_55 mvX7_has bM0 rfl ⟨Nat.le_of_ble_eq_true rfl, Nat.le_of_ble_eq_true rfl⟩ [] rfl (Nat.le_of_ble_eq_true rfl) (fun v16 h => ?_)
            refine w_aload_n C dX7_age_58 rfl 0 rfl ?_
            refine w_getr C dX7_age_59 flX7_7 gM0_0 ?_
            refine w_iconst (v := 5) C dX7_age_62 (by decide) ?_
            refine x_iald C dX7_age_63 aM1 h (fun v17 h => ?_)
            refine w_iconst (v := 4) C dX7_age_64 (by decide) ?_
            refine w_join (fun J73 => ∀ (v18 : Int32), J73 v18 = some R → WS VM Y X 6 2 43 (some (.int R.2), R.1) S8 73 [(0, rf Y 0), (1, .int a1), (2, .int v9), (3, .int v4), (4, .int v10)] [.int v18, .int v16]) h ?_ (fun J73 hJ73 h => ?_)
            · intro v18 h
              refine w_iadd C dX7_age_73 ?_
              refine w_topi h (fun v19 h => ?_)
              refine w_istore C dX7_age_74 (by decide) [(5, .int v19), (0, rf Y 0), (1, .int a1), (2, .int v9), (3, .int v4), (4, .int v10)] rfl ?_
              refine w_aload_n C dX7_age_76 rfl 1 rfl ?_
              refine w_iload C dX7_age_77 5 rfl ?_
              refine w_iconst (v := 4) C dX7_age_79 (by decide) ?_
              refine w_iload C dX7_age_80 0 rfl ?_
              refine w_bipush (v := 99) C dX7_age_82 (by decide) ?_
              refine w_join (fun J93 => ∀ (v20 : Int32), J93 v20 = some R → WS VM Y X 6 2 43 (some (.int R.2), R.1) S8 93 [(0, rf Y 0), (1, .int a1), (2, .int v9), (3, .int v4), (4, .int v10), (5, .int v19)] [.int v20, .int (4), .int v10, rf Y 0]) h ?_ (fun J93 hJ93 h => ?_)
              · intro v20 h
                refine w_Vv C dX7_age_93 h (fun _ e => mX7_gets e) lnX7_59 mvX7_gets bM0 rfl ⟨Nat.le_of_ble_eq_true rfl, Nat.le_of_ble_eq_true rfl⟩ [] rfl (Nat.le_of_ble_eq_true rfl) (fun S21 h => ?_)
                refine w_aload_n C dX7_age_96 rfl 0 rfl ?_
                refine w_iload C dX7_age_97 4 rfl ?_
                refine w_iconst (v := 5) C dX7_age_99 (by decide) ?_
                refine w_iload C dX7_age_100 5 rfl ?_
                refine w_bipush (v := 99) C dX7_age_102 (by decide) ?_
                refine w_join (fun J112 => ∀ (v22 : Int32), J112 v22 = some R → WS VM Y X 6 2 43 (some (.int R.2), R.1) S21 112 [(0, rf Y 0), (1, .int a1), (2, .int v9), (3, .int v4), (4, .int v10), (5, .int v19)] [.int v22, .int (5), .int v10, rf Y 0]) h ?_ (fun J112 hJ112 h => ?_)
                · intro v22 h
                  refine w_Vv C dX7_age_112 h (fun _ e => mX7_gets e) lnX7_59 mvX7_gets bM0 rfl ⟨Nat.le_of_ble_eq_true rfl, Nat.le_of_ble_eq_true rfl⟩ [] rfl (Nat.le_of_ble_eq_true rfl) (fun S23 h => ?_)
                  refine w_iload_n C dX7_age_115 rfl 2 rfl ?_
                  refine w_iload C dX7_age_116 5 rfl ?_
                  refine w_bipush (v := 99) C dX7_age_118 (by decide) ?_
                  refine w_join (fun J128 => ∀ (v24 : Int32), J128 v24 = some R → WS VM Y X 6 2 43 (some (.int R.2), R.1) S23 128 [(0, rf Y 0), (1, .int a1), (3, .int v4), (4, .int v10)] [.int v24, .int v9]) h ?_ (fun J128 hJ128 h => ?_)
                  · intro v24 h
                    refine w_iadd C dX7_age_128 ?_
                    refine w_topi h (fun v25 h => ?_)
                    refine w_istore_n C dX7_age_129 rfl (by decide) [(2, .int v25), (0, rf Y 0), (1, .int a1), (3, .int v4), (4, .int v10)] rfl ?_
                    exact w_sub [1, 2, 0, 3, 4] rfl (hJ130 _ _ h)
                  refine w_icmp_le C 127 dX7_age_120 (by decide) h (fun h => ?_) (fun h => ?_)
                  · refine w_iconst (v := 0) C dX7_age_127 (by decide) ?_
                    exact w_sub [0, 1, 3, 4] rfl (hJ128 _ h)
                  refine w_iconst (v := 1) C dX7_age_123 (by decide) ?_
                  refine w_goto C 128 dX7_age_124 (by decide) ?_
                  exact w_sub [0, 1, 3, 4] rfl (hJ128 _ h)
                refine w_icmp_le C 111 dX7_age_104 (by decide) h (fun h => ?_) (fun h => ?_)
                · refine w_iconst (v := 1) C dX7_age_111 (by decide) ?_
                  exact w_sub [0, 1, 2, 3, 4, 5] rfl (hJ112 _ h)
                refine w_iconst (v := 0) C dX7_age_107 (by decide) ?_
                refine w_goto C 112 dX7_age_108 (by decide) ?_
                exact w_sub [0, 1, 2, 3, 4, 5] rfl (hJ112 _ h)
              refine w_icmp_le C 91 dX7_age_84 (by decide) h (fun h => ?_) (fun h => ?_)
              · refine w_iload C dX7_age_91 0 rfl ?_
                exact w_sub [1, 2, 3, 4, 5, 0] rfl (hJ93 _ h)
              refine w_iconst (v := 0) C dX7_age_87 (by decide) ?_
              refine w_goto C 93 dX7_age_88 (by decide) ?_
              exact w_sub [1, 2, 3, 4, 5, 0] rfl (hJ93 _ h)
            refine w_icmp_le C 72 dX7_age_65 (by decide) h (fun h => ?_) (fun h => ?_)
            · refine w_iconst (v := 1) C dX7_age_72 (by decide) ?_
              exact w_sub [0, 1, 2, 3, 4] rfl (hJ73 _ h)
            refine w_iconst (v := 2) C dX7_age_68 (by decide) ?_
            refine w_goto C 73 dX7_age_69 (by decide) ?_
            exact w_sub [0, 1, 2, 3, 4] rfl (hJ73 _ h)
        exact w_sub [1, 2, 3, 4, 0] rfl (hL31 _ _ _ _ h)
    exact w_sub [2, 3, 1, 0] rfl (hL23 _ _ _ _ h)
  refine w_aload_n C dX7_age_12 rfl 0 rfl ?_
  refine w_ldc C dX7_age_13 kcX7_54 ?_
  refine w_Vi C dX7_age_15 h (fun _ e => mX7_finds e) lnX7_75 mvX7_finds bM0 rfl ⟨Nat.le_of_ble_eq_true rfl, Nat.le_of_ble_eq_true rfl⟩ [] rfl (Nat.le_of_ble_eq_true rfl) (fun S26 v27 h => ?_)
  exact w_iret C dX7_age_18 h)
def fX7_strain_L4 (S : St) (a1 : Int32) (J42 : Int32 → Option (Int32)) : Nat → Int32 → Int32 → Option (Int32)
  | 0, _, _ => none
  | G4 + 1, v7, v8 => ldi S 1 (0) 216 fun v9 => if v9 ≤ v8 then (J42 v7) else (bv (fX7_has S v8 (1)) fun v10 => pl (fun (v11 : Int32) => pl ((v7 + v11)) fun v12 => pl (v8 + 1) fun v13 => fX7_strain_L4 S a1 J42 G4 v12 v13) fun J34 => if v10 = a1 then (bv (fX7_pushes S v8) fun v14 => J34 v14) else (J34 (0)))
def fX7_strain (F : Nat) (S : St) (a1 : Int32) : Option (Int32) := pl (fun (v1 : Int32) => ldi S 1 (4) 216 fun v2 => pl ((((a1 + (8)) - v2) - ((a1 + (8)) - v2) / (8) * (8))) fun v3 => if v3 = (4) then (ldi S 1 (3) 216 fun v6 => some (v1 + v6)) else (if v3 = 0 then (ldi S 1 (3) 216 fun v5 => some (v1 + (v5 / (2)))) else (ldi S 1 (3) 216 fun v4 => some (v1 + (v4 / (4)))))) fun J42 => fX7_strain_L4 S a1 J42 F (0) (0)
set_option maxRecDepth 100000 in
theorem mX7_strain {Y : YT} {F : Nat} {S : St} {a1 : Int32} {R : Int32} (h : fX7_strain F S a1 = some R) : Mc VM Y yX7_strain cX7_strain 4 (some .int) 4 86 [rf Y 0, .int a1] S (some (.int R), S) :=
  Mc.start [(0, rf Y 0), (1, .int a1)] rfl pnX7 (Nat.le_of_ble_eq_true rfl) (fun X (C : Ok VM Y X RX7 cX7_strain 4 (some .int)) => by
  unfold fX7_strain at h
  refine w_iconst (v := 0) C dX7_strain_0 (by decide) ?_
  refine w_istore_n C dX7_strain_1 rfl (by decide) [(2, .int (0)), (0, rf Y 0), (1, .int a1)] rfl ?_
  refine w_iconst (v := 0) C dX7_strain_2 (by decide) ?_
  refine w_istore_n C dX7_strain_3 rfl (by decide) [(3, .int (0)), (2, .int (0)), (0, rf Y 0), (1, .int a1)] rfl ?_
  refine w_join (fun J42 => ∀ (v1 : Int32), J42 v1 = some R → WS VM Y X 4 4 86 (some (.int R), S) S 42 [(0, rf Y 0), (1, .int a1), (2, .int v1)] []) h ?_ (fun J42 hJ42 h => ?_)
  · intro v1 h
    refine w_iload_n C dX7_strain_42 rfl 1 rfl ?_
    refine w_bipush (v := 8) C dX7_strain_43 (by decide) ?_
    refine w_iadd C dX7_strain_45 ?_
    refine w_aload_n C dX7_strain_46 rfl 0 rfl ?_
    refine w_getr C dX7_strain_47 flX7_7 gM0_0 ?_
    refine w_iconst (v := 4) C dX7_strain_50 (by decide) ?_
    refine x_iald C dX7_strain_51 aM1 h (fun v2 h => ?_)
    refine w_isub C dX7_strain_52 ?_
    refine w_bipush (v := 8) C dX7_strain_53 (by decide) ?_
    refine w_irem C dX7_strain_55 (by decide) ?_
    refine w_topi h (fun v3 h => ?_)
    refine w_istore_n C dX7_strain_56 rfl (by decide) [(3, .int v3), (0, rf Y 0), (1, .int a1), (2, .int v1)] rfl ?_
    refine w_iload_n C dX7_strain_57 rfl 3 rfl ?_
    refine w_iload_n C dX7_strain_58 rfl 0 rfl ?_
    refine w_iconst (v := 4) C dX7_strain_59 (by decide) ?_
    refine w_icmp_ne C 72 dX7_strain_60 (by decide) h (fun h => ?_) (fun h => ?_)
    · refine w_iload_n C dX7_strain_72 rfl 0 rfl ?_
      refine w_if_ne C 87 dX7_strain_73 (by decide) h (fun h => ?_) (fun h => ?_)
      · refine w_aload_n C dX7_strain_87 rfl 1 rfl ?_
        refine w_getr C dX7_strain_88 flX7_7 gM0_0 ?_
        refine w_iconst (v := 3) C dX7_strain_91 (by decide) ?_
        refine x_iald C dX7_strain_92 aM1 h (fun v4 h => ?_)
        refine w_iconst (v := 4) C dX7_strain_93 (by decide) ?_
        refine w_idiv C dX7_strain_94 (by decide) ?_
        refine w_iadd C dX7_strain_95 ?_
        exact p_iret C dX7_strain_96 h
      refine w_aload_n C dX7_strain_76 rfl 1 rfl ?_
      refine w_getr C dX7_strain_77 flX7_7 gM0_0 ?_
      refine w_iconst (v := 3) C dX7_strain_80 (by decide) ?_
      refine x_iald C dX7_strain_81 aM1 h (fun v5 h => ?_)
      refine w_iconst (v := 2) C dX7_strain_82 (by decide) ?_
      refine w_idiv C dX7_strain_83 (by decide) ?_
      refine w_goto C 95 dX7_strain_84 (by decide) ?_
      refine w_iadd C dX7_strain_95 ?_
      exact p_iret C dX7_strain_96 h
    refine w_aload_n C dX7_strain_63 rfl 1 rfl ?_
    refine w_getr C dX7_strain_64 flX7_7 gM0_0 ?_
    refine w_iconst (v := 3) C dX7_strain_67 (by decide) ?_
    refine x_iald C dX7_strain_68 aM1 h (fun v6 h => ?_)
    refine w_goto C 95 dX7_strain_69 (by decide) ?_
    refine w_iadd C dX7_strain_95 ?_
    exact p_iret C dX7_strain_96 h
  have hL4 : ∀ (G4 : Nat) (v7 : Int32) (v8 : Int32), fX7_strain_L4 S a1 J42 G4 v7 v8 = some R → WS VM Y X 4 4 86 (some (.int R), S) S 4 [(0, rf Y 0), (1, .int a1), (2, .int v7), (3, .int v8)] [] := by
    intro G4
    induction G4 with
    | zero => intro v7 v8 h; exact nomatch (show (none : Option (Int32)) = some R from h)
    | succ G4 ih =>
      intro v7 v8 h
      rw [fX7_strain_L4] at h
      refine w_iload_n C dX7_strain_4 rfl 3 rfl ?_
      refine w_aload_n C dX7_strain_5 rfl 0 rfl ?_
      refine w_getr C dX7_strain_6 flX7_7 gM0_0 ?_
      refine w_iconst (v := 0) C dX7_strain_9 (by decide) ?_
      refine x_iald C dX7_strain_10 aM1 h (fun v9 h => ?_)
      refine w_icmp_ge C 42 dX7_strain_11 (by decide) h (fun h => ?_) (fun h => ?_)
      · exact w_sub [0, 1, 2] rfl (hJ42 _ h)
      refine w_iload_n C dX7_strain_14 rfl 2 rfl ?_
      refine w_aload_n C dX7_strain_15 rfl 0 rfl ?_
      refine w_iload_n C dX7_strain_16 rfl 3 rfl ?_
      refine w_iconst (v := 1) C dX7_strain_17 (by decide) ?_
      refine p_Vi C dX7_strain_18 h (fun _ e => mX7_has e) lnX7_55 mvX7_has bM0 rfl ⟨Nat.le_of_ble_eq_true rfl, Nat.le_of_ble_eq_true rfl⟩ [.int v7] rfl (Nat.le_of_ble_eq_true rfl) (fun v10 h => ?_)
      refine w_iload_n C dX7_strain_21 rfl 1 rfl ?_
      refine w_join (fun J34 => ∀ (v11 : Int32), J34 v11 = some R → WS VM Y X 4 4 86 (some (.int R), S) S 34 [(0, rf Y 0), (1, .int a1), (3, .int v8)] [.int v11, .int v7]) h ?_ (fun J34 hJ34 h => ?_)
      · intro v11 h
        refine w_iadd C dX7_strain_34 ?_
        refine w_topi h (fun v12 h => ?_)
        refine w_istore_n C dX7_strain_35 rfl (by decide) [(2, .int v12), (0, rf Y 0), (1, .int a1), (3, .int v8)] rfl ?_
        refine x_iinc C dX7_strain_36 3 rfl 1 (by decide) h (by decide) (fun v13 => [(3, .int v13), (2, .int v12), (0, rf Y 0), (1, .int a1)]) (fun _ => rfl) (fun v13 h => ?_)
        refine w_goto C 4 dX7_strain_39 (by decide) ?_
        exact w_sub [2, 3, 1, 0] rfl (ih _ _ h)
      refine w_icmp_ne C 33 dX7_strain_22 (by decide) h (fun h => ?_) (fun h => ?_)
      · refine w_iconst (v := 0) C dX7_strain_33 (by decide) ?_
        exact w_sub [0, 1, 3] rfl (hJ34 _ h)
      refine w_aload_n C dX7_strain_25 rfl 0 rfl ?_
      refine w_iload_n C dX7_strain_26 rfl 3 rfl ?_
      refine p_Vi C dX7_strain_27 h (fun _ e => mX7_pushes e) lnX7_96 mvX7_pushes bM0 rfl ⟨Nat.le_of_ble_eq_true rfl, Nat.le_of_ble_eq_true rfl⟩ [.int v7] rfl (Nat.le_of_ble_eq_true rfl) (fun v14 h => ?_)
      refine w_goto C 34 dX7_strain_30 (by decide) ?_
      exact w_sub [0, 1, 3] rfl (hJ34 _ h)
  exact w_sub [2, 3, 1, 0] rfl (hL4 _ _ _ h))
def fX7_ownHold_L4 (S : St) (a1 : Int32) : Nat → Int32 → Int32 → Option (Int32)
  | 0, _, _ => none
  | G4 + 1, v1, v2 => ldi S 1 (0) 216 fun v3 => if v3 ≤ v2 then (some v1) else (bv (fX7_has S v2 (1)) fun v4 => pl (fun (v5 : Int32) => pl ((v1 + v5)) fun v6 => pl (v2 + 1) fun v7 => fX7_ownHold_L4 S a1 G4 v6 v7) fun J34 => if v4 = a1 then (bv (fX7_holdsOf S v2) fun v8 => J34 v8) else (J34 (0)))
def fX7_ownHold (F : Nat) (S : St) (a1 : Int32) : Option (Int32) := fX7_ownHold_L4 S a1 F (0) (0)
set_option maxRecDepth 100000 in
theorem mX7_ownHold {Y : YT} {F : Nat} {S : St} {a1 : Int32} {R : Int32} (h : fX7_ownHold F S a1 = some R) : Mc VM Y yX7_ownHold cX7_ownHold 4 (some .int) 4 86 [rf Y 0, .int a1] S (some (.int R), S) :=
  Mc.start [(0, rf Y 0), (1, .int a1)] rfl pnX7 (Nat.le_of_ble_eq_true rfl) (fun X (C : Ok VM Y X RX7 cX7_ownHold 4 (some .int)) => by
  unfold fX7_ownHold at h
  refine w_iconst (v := 0) C dX7_ownHold_0 (by decide) ?_
  refine w_istore_n C dX7_ownHold_1 rfl (by decide) [(2, .int (0)), (0, rf Y 0), (1, .int a1)] rfl ?_
  refine w_iconst (v := 0) C dX7_ownHold_2 (by decide) ?_
  refine w_istore_n C dX7_ownHold_3 rfl (by decide) [(3, .int (0)), (2, .int (0)), (0, rf Y 0), (1, .int a1)] rfl ?_
  have hL4 : ∀ (G4 : Nat) (v1 : Int32) (v2 : Int32), fX7_ownHold_L4 S a1 G4 v1 v2 = some R → WS VM Y X 4 4 86 (some (.int R), S) S 4 [(0, rf Y 0), (1, .int a1), (2, .int v1), (3, .int v2)] [] := by
    intro G4
    induction G4 with
    | zero => intro v1 v2 h; exact nomatch (show (none : Option (Int32)) = some R from h)
    | succ G4 ih =>
      intro v1 v2 h
      rw [fX7_ownHold_L4] at h
      refine w_iload_n C dX7_ownHold_4 rfl 3 rfl ?_
      refine w_aload_n C dX7_ownHold_5 rfl 0 rfl ?_
      refine w_getr C dX7_ownHold_6 flX7_7 gM0_0 ?_
      refine w_iconst (v := 0) C dX7_ownHold_9 (by decide) ?_
      refine x_iald C dX7_ownHold_10 aM1 h (fun v3 h => ?_)
      refine w_icmp_ge C 42 dX7_ownHold_11 (by decide) h (fun h => ?_) (fun h => ?_)
      · refine w_iload_n C dX7_ownHold_42 rfl 2 rfl ?_
        exact p_iret C dX7_ownHold_43 h
      refine w_iload_n C dX7_ownHold_14 rfl 2 rfl ?_
      refine w_aload_n C dX7_ownHold_15 rfl 0 rfl ?_
      refine w_iload_n C dX7_ownHold_16 rfl 3 rfl ?_
      refine w_iconst (v := 1) C dX7_ownHold_17 (by decide) ?_
      refine p_Vi C dX7_ownHold_18 h (fun _ e => mX7_has e) lnX7_55 mvX7_has bM0 rfl ⟨Nat.le_of_ble_eq_true rfl, Nat.le_of_ble_eq_true rfl⟩ [.int v1] rfl (Nat.le_of_ble_eq_true rfl) (fun v4 h => ?_)
      refine w_iload_n C dX7_ownHold_21 rfl 1 rfl ?_
      refine w_join (fun J34 => ∀ (v5 : Int32), J34 v5 = some R → WS VM Y X 4 4 86 (some (.int R), S) S 34 [(0, rf Y 0), (1, .int a1), (3, .int v2)] [.int v5, .int v1]) h ?_ (fun J34 hJ34 h => ?_)
      · intro v5 h
        refine w_iadd C dX7_ownHold_34 ?_
        refine w_topi h (fun v6 h => ?_)
        refine w_istore_n C dX7_ownHold_35 rfl (by decide) [(2, .int v6), (0, rf Y 0), (1, .int a1), (3, .int v2)] rfl ?_
        refine x_iinc C dX7_ownHold_36 3 rfl 1 (by decide) h (by decide) (fun v7 => [(3, .int v7), (2, .int v6), (0, rf Y 0), (1, .int a1)]) (fun _ => rfl) (fun v7 h => ?_)
        refine w_goto C 4 dX7_ownHold_39 (by decide) ?_
        exact w_sub [2, 3, 1, 0] rfl (ih _ _ h)
      refine w_icmp_ne C 33 dX7_ownHold_22 (by decide) h (fun h => ?_) (fun h => ?_)
      · refine w_iconst (v := 0) C dX7_ownHold_33 (by decide) ?_
        exact w_sub [0, 1, 3] rfl (hJ34 _ h)
      refine w_aload_n C dX7_ownHold_25 rfl 0 rfl ?_
      refine w_iload_n C dX7_ownHold_26 rfl 3 rfl ?_
      refine p_Vi C dX7_ownHold_27 h (fun _ e => mX7_holdsOf e) lnX7_99 mvX7_holdsOf bM0 rfl ⟨Nat.le_of_ble_eq_true rfl, Nat.le_of_ble_eq_true rfl⟩ [.int v1] rfl (Nat.le_of_ble_eq_true rfl) (fun v8 h => ?_)
      refine w_goto C 34 dX7_ownHold_30 (by decide) ?_
      exact w_sub [0, 1, 3] rfl (hJ34 _ h)
  exact w_sub [2, 3, 1, 0] rfl (hL4 _ _ _ h))
def fX7_holdOf (F : Nat) (S : St) (a1 : Int32) : Option (Int32) := bv (fX7_ownHold F S a1) fun v1 => bv (fX7_ownHold F S ((a1 + (1)) - (a1 + (1)) / (8) * (8))) fun v2 => bv (fX7_ownHold F S ((a1 + (7)) - (a1 + (7)) / (8) * (8))) fun v3 => some (v1 + ((v2 + v3) / (2)))
set_option maxRecDepth 100000 in
theorem mX7_holdOf {Y : YT} {F : Nat} {S : St} {a1 : Int32} {R : Int32} (h : fX7_holdOf F S a1 = some R) : Mc VM Y yX7_holdOf cX7_holdOf 2 (some .int) 5 109 [rf Y 0, .int a1] S (some (.int R), S) :=
  Mc.start [(0, rf Y 0), (1, .int a1)] rfl pnX7 (Nat.le_of_ble_eq_true rfl) (fun X (C : Ok VM Y X RX7 cX7_holdOf 2 (some .int)) => by
  unfold fX7_holdOf at h
  refine w_aload_n C dX7_holdOf_0 rfl 0 rfl ?_
  refine w_iload_n C dX7_holdOf_1 rfl 1 rfl ?_
  refine p_Vi C dX7_holdOf_2 h (fun _ e => mX7_ownHold e) lnX7_118 mvX7_ownHold bM0 rfl ⟨Nat.le_of_ble_eq_true rfl, Nat.le_of_ble_eq_true rfl⟩ [] rfl (Nat.le_of_ble_eq_true rfl) (fun v1 h => ?_)
  refine w_aload_n C dX7_holdOf_5 rfl 0 rfl ?_
  refine w_iload_n C dX7_holdOf_6 rfl 1 rfl ?_
  refine w_iconst (v := 1) C dX7_holdOf_7 (by decide) ?_
  refine w_iadd C dX7_holdOf_8 ?_
  refine w_bipush (v := 8) C dX7_holdOf_9 (by decide) ?_
  refine w_irem C dX7_holdOf_11 (by decide) ?_
  refine p_Vi C dX7_holdOf_12 h (fun _ e => mX7_ownHold e) lnX7_118 mvX7_ownHold bM0 rfl ⟨Nat.le_of_ble_eq_true rfl, Nat.le_of_ble_eq_true rfl⟩ [.int v1] rfl (Nat.le_of_ble_eq_true rfl) (fun v2 h => ?_)
  refine w_aload_n C dX7_holdOf_15 rfl 0 rfl ?_
  refine w_iload_n C dX7_holdOf_16 rfl 1 rfl ?_
  refine w_bipush (v := 7) C dX7_holdOf_17 (by decide) ?_
  refine w_iadd C dX7_holdOf_19 ?_
  refine w_bipush (v := 8) C dX7_holdOf_20 (by decide) ?_
  refine w_irem C dX7_holdOf_22 (by decide) ?_
  refine p_Vi C dX7_holdOf_23 h (fun _ e => mX7_ownHold e) lnX7_118 mvX7_ownHold bM0 rfl ⟨Nat.le_of_ble_eq_true rfl, Nat.le_of_ble_eq_true rfl⟩ [.int v2, .int v1] rfl (Nat.le_of_ble_eq_true rfl) (fun v3 h => ?_)
  refine w_iadd C dX7_holdOf_26 ?_
  refine w_iconst (v := 2) C dX7_holdOf_27 (by decide) ?_
  refine w_idiv C dX7_holdOf_28 (by decide) ?_
  refine w_iadd C dX7_holdOf_29 ?_
  exact p_iret C dX7_holdOf_30 h)
def fX7_spare (F : Nat) (S : St) (a1 : Int32) : Option (Int32) := bv (fX7_holdOf F S a1) fun v1 => bv (fX7_strain F S a1) fun v2 => some (v1 - v2)
set_option maxRecDepth 100000 in
theorem mX7_spare {Y : YT} {F : Nat} {S : St} {a1 : Int32} {R : Int32} (h : fX7_spare F S a1 = some R) : Mc VM Y yX7_spare cX7_spare 2 (some .int) 6 130 [rf Y 0, .int a1] S (some (.int R), S) :=
  Mc.start [(0, rf Y 0), (1, .int a1)] rfl pnX7 (Nat.le_of_ble_eq_true rfl) (fun X (C : Ok VM Y X RX7 cX7_spare 2 (some .int)) => by
  unfold fX7_spare at h
  refine w_aload_n C dX7_spare_0 rfl 0 rfl ?_
  refine w_iload_n C dX7_spare_1 rfl 1 rfl ?_
  refine p_Vi C dX7_spare_2 h (fun _ e => mX7_holdOf e) lnX7_121 mvX7_holdOf bM0 rfl ⟨Nat.le_of_ble_eq_true rfl, Nat.le_of_ble_eq_true rfl⟩ [] rfl (Nat.le_of_ble_eq_true rfl) (fun v1 h => ?_)
  refine w_aload_n C dX7_spare_5 rfl 0 rfl ?_
  refine w_iload_n C dX7_spare_6 rfl 1 rfl ?_
  refine p_Vi C dX7_spare_7 h (fun _ e => mX7_strain e) lnX7_124 mvX7_strain bM0 rfl ⟨Nat.le_of_ble_eq_true rfl, Nat.le_of_ble_eq_true rfl⟩ [.int v1] rfl (Nat.le_of_ble_eq_true rfl) (fun v2 h => ?_)
  refine w_isub C dX7_spare_10 ?_
  exact p_iret C dX7_spare_11 h)
def fX7_side (F : Nat) (S : St) (a1 : Int32) (a2 : Int32) : Option (St × Int32) := bv (fX7_isIn S (Int32.toInt64 a1) (0) (7)) fun v1 => pl (bq (fX7_finds S (-1000000001)) fun S2 v3 => some (S2, v3)) fun J24 => if v1 = 0 then (J24) else (bv (fX7_isIn S (Int32.toInt64 a2) (0) (2)) fun v4 => if v4 = 0 then (J24) else (if a2 = 0 then (bv (fX7_strain F S a1) fun v7 => some (S, v7)) else (if a2 = (1) then (bv (fX7_holdOf F S a1) fun v6 => some (S, v6)) else (bv (fX7_spare F S a1) fun v5 => some (S, v5)))))
set_option maxRecDepth 100000 in
theorem mX7_side {Y : YT} {F : Nat} {S : St} {a1 : Int32} {a2 : Int32} {R : St × Int32} (h : fX7_side F S a1 a2 = some R) : Mc VM Y yX7_side cX7_side 3 (some .int) 7 151 [rf Y 0, .int a1, .int a2] S (some (.int R.2), R.1) :=
  Mc.start [(0, rf Y 0), (1, .int a1), (2, .int a2)] rfl pnX7 (Nat.le_of_ble_eq_true rfl) (fun X (C : Ok VM Y X RX7 cX7_side 3 (some .int)) => by
  unfold fX7_side at h
  refine w_iload_n C dX7_side_0 rfl 1 rfl ?_
  refine w_i2l C dX7_side_1 ?_
  refine w_lconst (v := 0) C dX7_side_2 (by decide) ?_
  refine w_ldc2 C dX7_side_3 klX7_69 ?_
  refine p_Si C dX7_side_6 h (fun _ e => mX7_isIn e) lnX7_65 msX7_isIn rfl ⟨Nat.le_of_ble_eq_true rfl, Nat.le_of_ble_eq_true rfl⟩ [] rfl (Nat.le_of_ble_eq_true rfl) (fun v1 h => ?_)
  refine w_join (fun J24 => J24  = some R → WS VM Y X 3 7 151 (some (.int R.2), R.1) S 24 [(0, rf Y 0)] []) h ?_ (fun J24 hJ24 h => ?_)
  · intro  h
    refine w_aload_n C dX7_side_24 rfl 0 rfl ?_
    refine w_ldc C dX7_side_25 kcX7_54 ?_
    refine w_Vi C dX7_side_27 h (fun _ e => mX7_finds e) lnX7_75 mvX7_finds bM0 rfl ⟨Nat.le_of_ble_eq_true rfl, Nat.le_of_ble_eq_true rfl⟩ [] rfl (Nat.le_of_ble_eq_true rfl) (fun S2 v3 h => ?_)
    exact w_iret C dX7_side_30 h
  refine w_if_eq C 24 dX7_side_9 (by decide) h (fun h => ?_) (fun h => ?_)
  · exact w_sub [0] rfl (hJ24  h)
  refine w_iload_n C dX7_side_12 rfl 2 rfl ?_
  refine w_i2l C dX7_side_13 ?_
  refine w_lconst (v := 0) C dX7_side_14 (by decide) ?_
  refine w_ldc2 C dX7_side_15 klX7_105 ?_
  refine p_Si C dX7_side_18 h (fun _ e => mX7_isIn e) lnX7_65 msX7_isIn rfl ⟨Nat.le_of_ble_eq_true rfl, Nat.le_of_ble_eq_true rfl⟩ [] rfl (Nat.le_of_ble_eq_true rfl) (fun v4 h => ?_)
  refine w_if_ne C 31 dX7_side_21 (by decide) h (fun h => ?_) (fun h => ?_)
  · refine w_iload_n C dX7_side_31 rfl 2 rfl ?_
    refine w_if_ne C 43 dX7_side_32 (by decide) h (fun h => ?_) (fun h => ?_)
    · refine w_iload_n C dX7_side_43 rfl 2 rfl ?_
      refine w_iconst (v := 1) C dX7_side_44 (by decide) ?_
      refine w_icmp_ne C 56 dX7_side_45 (by decide) h (fun h => ?_) (fun h => ?_)
      · refine w_aload_n C dX7_side_56 rfl 0 rfl ?_
        refine w_iload_n C dX7_side_57 rfl 1 rfl ?_
        refine p_Vi C dX7_side_58 h (fun _ e => mX7_spare e) lnX7_127 mvX7_spare bM0 rfl ⟨Nat.le_of_ble_eq_true rfl, Nat.le_of_ble_eq_true rfl⟩ [] rfl (Nat.le_of_ble_eq_true rfl) (fun v5 h => ?_)
        exact w_iret C dX7_side_61 h
      refine w_aload_n C dX7_side_48 rfl 0 rfl ?_
      refine w_iload_n C dX7_side_49 rfl 1 rfl ?_
      refine p_Vi C dX7_side_50 h (fun _ e => mX7_holdOf e) lnX7_121 mvX7_holdOf bM0 rfl ⟨Nat.le_of_ble_eq_true rfl, Nat.le_of_ble_eq_true rfl⟩ [] rfl (Nat.le_of_ble_eq_true rfl) (fun v6 h => ?_)
      refine w_goto C 61 dX7_side_53 (by decide) ?_
      exact w_iret C dX7_side_61 h
    refine w_aload_n C dX7_side_35 rfl 0 rfl ?_
    refine w_iload_n C dX7_side_36 rfl 1 rfl ?_
    refine p_Vi C dX7_side_37 h (fun _ e => mX7_strain e) lnX7_124 mvX7_strain bM0 rfl ⟨Nat.le_of_ble_eq_true rfl, Nat.le_of_ble_eq_true rfl⟩ [] rfl (Nat.le_of_ble_eq_true rfl) (fun v7 h => ?_)
    refine w_goto C 61 dX7_side_40 (by decide) ?_
    exact w_iret C dX7_side_61 h
  exact w_sub [0] rfl (hJ24  h))
def fX7_isStanding_L103 (F : Nat) (S : St) (v1 : Int32) (J144 : Int32 → Int32 → Option (Int32)) : Nat → Int32 → Int32 → Int32 → Option (Int32)
  | 0, _, _, _ => none
  | G103 + 1, v4, v5, v6 => if (8) ≤ v6 then (J144 v4 v5) else (pl ((v4 + ((v1 >>> (v6 &&& 31)) &&& (1)))) fun v7 => pl (fun (v8 : Int32) => pl (v6 + 1) fun v9 => fX7_isStanding_L103 F S v1 J144 G103 v7 v8 v9) fun J137 => pl (J137 (0)) fun J136 => if v5 = 0 then (J136) else (bv (fX7_spare F S v6) fun v10 => if v10 < 0 then (J136) else (J137 (1))))
def fX7_isStanding_L4 (S : St) (J96 : Int32 → Option (Int32)) : Nat → Int32 → Int32 → Option (Int32)
  | 0, _, _ => none
  | G4 + 1, v11, v12 => ldi S 1 (0) 216 fun v13 => if v13 ≤ v12 then (J96 v11) else (bv (fX7_has S v12 (0)) fun v14 => pl (pl (fun (v15 : Int32) => pl ((v11 ||| v15)) fun v16 => pl (v12 + 1) fun v17 => fX7_isStanding_L4 S J96 G4 v16 v17) fun J88 => pl (J88 (0)) fun J87 => if v14 = (1) then (bv (fX7_good S v12) fun v18 => if v18 ≤ 0 then (J87) else (bv (fX7_has S v12 (1)) fun v19 => J88 ((1) <<< (v19 &&& 31)))) else (J87)) fun J62 => pl (bv (fX7_isThere S v12) fun v20 => if v20 = 0 then (J62) else (ldi S 1 (8) 216 fun v21 => bv (fX7_good S v12) fun v22 => if v21 ≤ ((v22 / (2)) + (20)) then (J62) else (some (0)))) fun J32 => if v14 = (2) then (J32) else (if v14 = (6) then (J32) else (J62)))
def fX7_isStanding (F : Nat) (S : St) : Option (Int32) := pl (fun (v1 : Int32) => pl (fun (v2 : Int32) (v3 : Int32) => if v3 = 0 then (some (0)) else (if v2 < (3) then (some (0)) else (some (1)))) fun J144 => fX7_isStanding_L103 F S v1 J144 F (0) (1) (0)) fun J96 => fX7_isStanding_L4 S J96 F (0) (0)
set_option maxRecDepth 100000 in
theorem mX7_isStanding {Y : YT} {F : Nat} {S : St} {R : Int32} (h : fX7_isStanding F S  = some R) : Mc VM Y yX7_isStanding cX7_isStanding 5 (some .boolean) 7 151 [rf Y 0] S (some (.int R), S) :=
  Mc.start [(0, rf Y 0)] rfl pnX7 (Nat.le_of_ble_eq_true rfl) (fun X (C : Ok VM Y X RX7 cX7_isStanding 5 (some .boolean)) => by
  unfold fX7_isStanding at h
  refine w_iconst (v := 0) C dX7_isStanding_0 (by decide) ?_
  refine w_istore_n C dX7_isStanding_1 rfl (by decide) [(1, .int (0)), (0, rf Y 0)] rfl ?_
  refine w_iconst (v := 0) C dX7_isStanding_2 (by decide) ?_
  refine w_istore_n C dX7_isStanding_3 rfl (by decide) [(2, .int (0)), (1, .int (0)), (0, rf Y 0)] rfl ?_
  refine w_join (fun J96 => ∀ (v1 : Int32), J96 v1 = some R → WS VM Y X 5 7 151 (some (.int R), S) S 96 [(0, rf Y 0), (1, .int v1)] []) h ?_ (fun J96 hJ96 h => ?_)
  · intro v1 h
    refine w_iconst (v := 0) C dX7_isStanding_96 (by decide) ?_
    refine w_istore_n C dX7_isStanding_97 rfl (by decide) [(2, .int (0)), (0, rf Y 0), (1, .int v1)] rfl ?_
    refine w_iconst (v := 1) C dX7_isStanding_98 (by decide) ?_
    refine w_istore_n C dX7_isStanding_99 rfl (by decide) [(3, .int (1)), (2, .int (0)), (0, rf Y 0), (1, .int v1)] rfl ?_
    refine w_iconst (v := 0) C dX7_isStanding_100 (by decide) ?_
    refine w_istore C dX7_isStanding_101 (by decide) [(4, .int (0)), (3, .int (1)), (2, .int (0)), (0, rf Y 0), (1, .int v1)] rfl ?_
    refine w_join (fun J144 => ∀ (v2 : Int32) (v3 : Int32), J144 v2 v3 = some R → WS VM Y X 5 7 151 (some (.int R), S) S 144 [(2, .int v2), (3, .int v3)] []) h ?_ (fun J144 hJ144 h => ?_)
    · intro v2 v3 h
      refine w_iload_n C dX7_isStanding_144 rfl 1 rfl ?_
      refine w_if_eq C 157 dX7_isStanding_145 (by decide) h (fun h => ?_) (fun h => ?_)
      · refine w_iconst (v := 0) C dX7_isStanding_157 (by decide) ?_
        exact p_zret0 C dX7_isStanding_158 rfl h
      refine w_iload_n C dX7_isStanding_148 rfl 0 rfl ?_
      refine w_iconst (v := 3) C dX7_isStanding_149 (by decide) ?_
      refine w_icmp_lt C 157 dX7_isStanding_150 (by decide) h (fun h => ?_) (fun h => ?_)
      · refine w_iconst (v := 0) C dX7_isStanding_157 (by decide) ?_
        exact p_zret0 C dX7_isStanding_158 rfl h
      refine w_iconst (v := 1) C dX7_isStanding_153 (by decide) ?_
      refine w_goto C 158 dX7_isStanding_154 (by decide) ?_
      exact p_zret0 C dX7_isStanding_158 rfl h
    have hL103 : ∀ (G103 : Nat) (v4 : Int32) (v5 : Int32) (v6 : Int32), fX7_isStanding_L103 F S v1 J144 G103 v4 v5 v6 = some R → WS VM Y X 5 7 151 (some (.int R), S) S 103 [(0, rf Y 0), (1, .int v1), (2, .int v4), (3, .int v5), (4, .int v6)] [] := by
      intro G103
      induction G103 with
      | zero => intro v4 v5 v6 h; exact nomatch (show (none : Option (Int32)) = some R from h)
      | succ G103 ih =>
        intro v4 v5 v6 h
        rw [fX7_isStanding_L103] at h
        refine w_iload C dX7_isStanding_103 4 rfl ?_
        refine w_bipush (v := 8) C dX7_isStanding_105 (by decide) ?_
        refine w_icmp_ge C 144 dX7_isStanding_107 (by decide) h (fun h => ?_) (fun h => ?_)
        · exact w_sub [2, 3] rfl (hJ144 _ _ h)
        refine w_iload_n C dX7_isStanding_110 rfl 2 rfl ?_
        refine w_iload_n C dX7_isStanding_111 rfl 1 rfl ?_
        refine w_iload C dX7_isStanding_112 4 rfl ?_
        refine w_ishr C dX7_isStanding_114 ?_
        refine w_iconst (v := 1) C dX7_isStanding_115 (by decide) ?_
        refine w_iand C dX7_isStanding_116 ?_
        refine w_iadd C dX7_isStanding_117 ?_
        refine w_topi h (fun v7 h => ?_)
        refine w_istore_n C dX7_isStanding_118 rfl (by decide) [(2, .int v7), (0, rf Y 0), (1, .int v1), (3, .int v5), (4, .int v6)] rfl ?_
        refine w_iload_n C dX7_isStanding_119 rfl 3 rfl ?_
        refine w_join (fun J137 => ∀ (v8 : Int32), J137 v8 = some R → WS VM Y X 5 7 151 (some (.int R), S) S 137 [(0, rf Y 0), (1, .int v1), (2, .int v7), (4, .int v6)] [.int v8]) h ?_ (fun J137 hJ137 h => ?_)
        · intro v8 h
          refine w_istore_n C dX7_isStanding_137 rfl (by decide) [(3, .int v8), (0, rf Y 0), (1, .int v1), (2, .int v7), (4, .int v6)] rfl ?_
          refine x_iinc C dX7_isStanding_138 4 rfl 1 (by decide) h (by decide) (fun v9 => [(4, .int v9), (3, .int v8), (0, rf Y 0), (1, .int v1), (2, .int v7)]) (fun _ => rfl) (fun v9 h => ?_)
          refine w_goto C 103 dX7_isStanding_141 (by decide) ?_
          exact w_sub [2, 3, 4, 1, 0] rfl (ih _ _ _ h)
        refine w_join (fun J136 => J136  = some R → WS VM Y X 5 7 151 (some (.int R), S) S 136 [(0, rf Y 0), (1, .int v1), (2, .int v7), (4, .int v6)] []) h ?_ (fun J136 hJ136 h => ?_)
        · intro  h
          refine w_iconst (v := 0) C dX7_isStanding_136 (by decide) ?_
          exact w_sub [0, 1, 2, 3] rfl (hJ137 _ h)
        refine w_if_eq C 136 dX7_isStanding_120 (by decide) h (fun h => ?_) (fun h => ?_)
        · exact w_sub [1, 2, 0, 4] rfl (hJ136  h)
        refine w_aload_n C dX7_isStanding_123 rfl 1 rfl ?_
        refine w_iload C dX7_isStanding_124 4 rfl ?_
        refine p_Vi C dX7_isStanding_126 h (fun _ e => mX7_spare e) lnX7_127 mvX7_spare bM0 rfl ⟨Nat.le_of_ble_eq_true rfl, Nat.le_of_ble_eq_true rfl⟩ [] rfl (Nat.le_of_ble_eq_true rfl) (fun v10 h => ?_)
        refine w_if_lt C 136 dX7_isStanding_129 (by decide) h (fun h => ?_) (fun h => ?_)
        · exact w_sub [1, 2, 0, 4] rfl (hJ136  h)
        refine w_iconst (v := 1) C dX7_isStanding_132 (by decide) ?_
        refine w_goto C 137 dX7_isStanding_133 (by decide) ?_
        exact w_sub [1, 2, 0, 4] rfl (hJ137 _ h)
    exact w_sub [3, 4, 2, 1, 0] rfl (hL103 _ _ _ _ h)
  have hL4 : ∀ (G4 : Nat) (v11 : Int32) (v12 : Int32), fX7_isStanding_L4 S J96 G4 v11 v12 = some R → WS VM Y X 5 7 151 (some (.int R), S) S 4 [(0, rf Y 0), (1, .int v11), (2, .int v12)] [] := by
    intro G4
    induction G4 with
    | zero => intro v11 v12 h; exact nomatch (show (none : Option (Int32)) = some R from h)
    | succ G4 ih =>
      intro v11 v12 h
      rw [fX7_isStanding_L4] at h
      refine w_iload_n C dX7_isStanding_4 rfl 2 rfl ?_
      refine w_aload_n C dX7_isStanding_5 rfl 0 rfl ?_
      refine w_getr C dX7_isStanding_6 flX7_7 gM0_0 ?_
      refine w_iconst (v := 0) C dX7_isStanding_9 (by decide) ?_
      refine x_iald C dX7_isStanding_10 aM1 h (fun v13 h => ?_)
      refine w_icmp_ge C 96 dX7_isStanding_11 (by decide) h (fun h => ?_) (fun h => ?_)
      · exact w_sub [0, 1] rfl (hJ96 _ h)
      refine w_aload_n C dX7_isStanding_14 rfl 0 rfl ?_
      refine w_iload_n C dX7_isStanding_15 rfl 2 rfl ?_
      refine w_iconst (v := 0) C dX7_isStanding_16 (by decide) ?_
      refine p_Vi C dX7_isStanding_17 h (fun _ e => mX7_has e) lnX7_55 mvX7_has bM0 rfl ⟨Nat.le_of_ble_eq_true rfl, Nat.le_of_ble_eq_true rfl⟩ [] rfl (Nat.le_of_ble_eq_true rfl) (fun v14 h => ?_)
      refine w_istore_n C dX7_isStanding_20 rfl (by decide) [(3, .int v14), (0, rf Y 0), (1, .int v11), (2, .int v12)] rfl ?_
      refine w_iload_n C dX7_isStanding_21 rfl 0 rfl ?_
      refine w_iconst (v := 2) C dX7_isStanding_22 (by decide) ?_
      refine w_join (fun J62 => J62  = some R → WS VM Y X 5 7 151 (some (.int R), S) S 62 [(0, rf Y 0), (1, .int v11), (2, .int v12), (3, .int v14)] []) h ?_ (fun J62 hJ62 h => ?_)
      · intro  h
        refine w_iload_n C dX7_isStanding_62 rfl 1 rfl ?_
        refine w_iload_n C dX7_isStanding_63 rfl 3 rfl ?_
        refine w_iconst (v := 1) C dX7_isStanding_64 (by decide) ?_
        refine w_join (fun J88 => ∀ (v15 : Int32), J88 v15 = some R → WS VM Y X 5 7 151 (some (.int R), S) S 88 [(0, rf Y 0), (2, .int v12)] [.int v15, .int v11]) h ?_ (fun J88 hJ88 h => ?_)
        · intro v15 h
          refine w_ior C dX7_isStanding_88 ?_
          refine w_topi h (fun v16 h => ?_)
          refine w_istore_n C dX7_isStanding_89 rfl (by decide) [(1, .int v16), (0, rf Y 0), (2, .int v12)] rfl ?_
          refine x_iinc C dX7_isStanding_90 2 rfl 1 (by decide) h (by decide) (fun v17 => [(2, .int v17), (1, .int v16), (0, rf Y 0)]) (fun _ => rfl) (fun v17 h => ?_)
          refine w_goto C 4 dX7_isStanding_93 (by decide) ?_
          exact w_sub [2, 1, 0] rfl (ih _ _ h)
        refine w_join (fun J87 => J87  = some R → WS VM Y X 5 7 151 (some (.int R), S) S 87 [(0, rf Y 0), (2, .int v12)] [.int v11]) h ?_ (fun J87 hJ87 h => ?_)
        · intro  h
          refine w_iconst (v := 0) C dX7_isStanding_87 (by decide) ?_
          exact w_sub [0, 1] rfl (hJ88 _ h)
        refine w_icmp_ne C 87 dX7_isStanding_65 (by decide) h (fun h => ?_) (fun h => ?_)
        · exact w_sub [0, 2] rfl (hJ87  h)
        refine w_aload_n C dX7_isStanding_68 rfl 0 rfl ?_
        refine w_iload_n C dX7_isStanding_69 rfl 2 rfl ?_
        refine p_Vi C dX7_isStanding_70 h (fun _ e => mX7_good e) lnX7_88 mvX7_good bM0 rfl ⟨Nat.le_of_ble_eq_true rfl, Nat.le_of_ble_eq_true rfl⟩ [.int v11] rfl (Nat.le_of_ble_eq_true rfl) (fun v18 h => ?_)
        refine w_if_le C 87 dX7_isStanding_73 (by decide) h (fun h => ?_) (fun h => ?_)
        · exact w_sub [0, 2] rfl (hJ87  h)
        refine w_iconst (v := 1) C dX7_isStanding_76 (by decide) ?_
        refine w_aload_n C dX7_isStanding_77 rfl 0 rfl ?_
        refine w_iload_n C dX7_isStanding_78 rfl 2 rfl ?_
        refine w_iconst (v := 1) C dX7_isStanding_79 (by decide) ?_
        refine p_Vi C dX7_isStanding_80 h (fun _ e => mX7_has e) lnX7_55 mvX7_has bM0 rfl ⟨Nat.le_of_ble_eq_true rfl, Nat.le_of_ble_eq_true rfl⟩ [.int (1), .int v11] rfl (Nat.le_of_ble_eq_true rfl) (fun v19 h => ?_)
        refine w_ishl C dX7_isStanding_83 ?_
        refine w_goto C 88 dX7_isStanding_84 (by decide) ?_
        exact w_sub [0, 2] rfl (hJ88 _ h)
      refine w_join (fun J32 => J32  = some R → WS VM Y X 5 7 151 (some (.int R), S) S 32 [(0, rf Y 0), (1, .int v11), (2, .int v12), (3, .int v14)] []) h ?_ (fun J32 hJ32 h => ?_)
      · intro  h
        refine w_aload_n C dX7_isStanding_32 rfl 0 rfl ?_
        refine w_iload_n C dX7_isStanding_33 rfl 2 rfl ?_
        refine p_Vi C dX7_isStanding_34 h (fun _ e => mX7_isThere e) lnX7_84 mvX7_isThere bM0 rfl ⟨Nat.le_of_ble_eq_true rfl, Nat.le_of_ble_eq_true rfl⟩ [] rfl (Nat.le_of_ble_eq_true rfl) (fun v20 h => ?_)
        refine w_if_eq C 62 dX7_isStanding_37 (by decide) h (fun h => ?_) (fun h => ?_)
        · exact w_sub [0, 1, 2, 3] rfl (hJ62  h)
        refine w_aload_n C dX7_isStanding_40 rfl 0 rfl ?_
        refine w_getr C dX7_isStanding_41 flX7_7 gM0_0 ?_
        refine w_bipush (v := 8) C dX7_isStanding_44 (by decide) ?_
        refine x_iald C dX7_isStanding_46 aM1 h (fun v21 h => ?_)
        refine w_aload_n C dX7_isStanding_47 rfl 0 rfl ?_
        refine w_iload_n C dX7_isStanding_48 rfl 2 rfl ?_
        refine p_Vi C dX7_isStanding_49 h (fun _ e => mX7_good e) lnX7_88 mvX7_good bM0 rfl ⟨Nat.le_of_ble_eq_true rfl, Nat.le_of_ble_eq_true rfl⟩ [.int v21] rfl (Nat.le_of_ble_eq_true rfl) (fun v22 h => ?_)
        refine w_iconst (v := 2) C dX7_isStanding_52 (by decide) ?_
        refine w_idiv C dX7_isStanding_53 (by decide) ?_
        refine w_bipush (v := 20) C dX7_isStanding_54 (by decide) ?_
        refine w_iadd C dX7_isStanding_56 ?_
        refine w_icmp_le C 62 dX7_isStanding_57 (by decide) h (fun h => ?_) (fun h => ?_)
        · exact w_sub [0, 1, 2, 3] rfl (hJ62  h)
        refine w_iconst (v := 0) C dX7_isStanding_60 (by decide) ?_
        exact p_zret0 C dX7_isStanding_61 rfl h
      refine w_icmp_eq C 32 dX7_isStanding_23 (by decide) h (fun h => ?_) (fun h => ?_)
      · exact w_sub [1, 2, 3, 0] rfl (hJ32  h)
      refine w_iload_n C dX7_isStanding_26 rfl 0 rfl ?_
      refine w_bipush (v := 6) C dX7_isStanding_27 (by decide) ?_
      refine w_icmp_ne C 62 dX7_isStanding_29 (by decide) h (fun h => ?_) (fun h => ?_)
      · exact w_sub [1, 2, 3, 0] rfl (hJ62  h)
      exact w_sub [1, 2, 3, 0] rfl (hJ32  h)
  exact w_sub [2, 1, 0] rfl (hL4 _ _ _ h))
def fX7_stands (F : Nat) (S : St) : Option (Int32) := bv (fX7_isStanding F S) fun v1 => if v1 = 0 then (some (0)) else (some (1))
set_option maxRecDepth 100000 in
theorem mX7_stands {Y : YT} {F : Nat} {S : St} {R : Int32} (h : fX7_stands F S  = some R) : Mc VM Y yX7_stands cX7_stands 1 (some .int) 8 175 [rf Y 0] S (some (.int R), S) :=
  Mc.start [(0, rf Y 0)] rfl pnX7 (Nat.le_of_ble_eq_true rfl) (fun X (C : Ok VM Y X RX7 cX7_stands 1 (some .int)) => by
  unfold fX7_stands at h
  refine w_aload_n C dX7_stands_0 rfl 0 rfl ?_
  refine p_Vi C dX7_stands_1 h (fun _ e => mX7_isStanding e) lnX7_130 mvX7_isStanding bM0 rfl ⟨Nat.le_of_ble_eq_true rfl, Nat.le_of_ble_eq_true rfl⟩ [] rfl (Nat.le_of_ble_eq_true rfl) (fun v1 h => ?_)
  refine w_if_eq C 11 dX7_stands_4 (by decide) h (fun h => ?_) (fun h => ?_)
  · refine w_iconst (v := 0) C dX7_stands_11 (by decide) ?_
    exact p_iret C dX7_stands_12 h
  refine w_iconst (v := 1) C dX7_stands_7 (by decide) ?_
  refine w_goto C 12 dX7_stands_8 (by decide) ?_
  exact p_iret C dX7_stands_12 h)
def fX7_leastSpare_L4 (F : Nat) (S : St) : Nat → Int32 → Int32 → Option (Int32)
  | 0, _, _ => none
  | G4 + 1, v1, v2 => if (8) ≤ v2 then (some v1) else (bv (fX7_spare F S v2) fun v3 => bv (fX7_spare F S v1) fun v4 => pl (fun (v5 : Int32) => pl (v2 + 1) fun v6 => fX7_leastSpare_L4 F S G4 v5 v6) fun J28 => if v4 ≤ v3 then (J28 v1) else (J28 v2))
def fX7_leastSpare (F : Nat) (S : St) : Option (Int32) := fX7_leastSpare_L4 F S F (0) (1)
set_option maxRecDepth 100000 in
theorem mX7_leastSpare {Y : YT} {F : Nat} {S : St} {R : Int32} (h : fX7_leastSpare F S  = some R) : Mc VM Y yX7_leastSpare cX7_leastSpare 3 (some .int) 7 151 [rf Y 0] S (some (.int R), S) :=
  Mc.start [(0, rf Y 0)] rfl pnX7 (Nat.le_of_ble_eq_true rfl) (fun X (C : Ok VM Y X RX7 cX7_leastSpare 3 (some .int)) => by
  unfold fX7_leastSpare at h
  refine w_iconst (v := 0) C dX7_leastSpare_0 (by decide) ?_
  refine w_istore_n C dX7_leastSpare_1 rfl (by decide) [(1, .int (0)), (0, rf Y 0)] rfl ?_
  refine w_iconst (v := 1) C dX7_leastSpare_2 (by decide) ?_
  refine w_istore_n C dX7_leastSpare_3 rfl (by decide) [(2, .int (1)), (1, .int (0)), (0, rf Y 0)] rfl ?_
  have hL4 : ∀ (G4 : Nat) (v1 : Int32) (v2 : Int32), fX7_leastSpare_L4 F S G4 v1 v2 = some R → WS VM Y X 3 7 151 (some (.int R), S) S 4 [(0, rf Y 0), (1, .int v1), (2, .int v2)] [] := by
    intro G4
    induction G4 with
    | zero => intro v1 v2 h; exact nomatch (show (none : Option (Int32)) = some R from h)
    | succ G4 ih =>
      intro v1 v2 h
      rw [fX7_leastSpare_L4] at h
      refine w_iload_n C dX7_leastSpare_4 rfl 2 rfl ?_
      refine w_bipush (v := 8) C dX7_leastSpare_5 (by decide) ?_
      refine w_icmp_ge C 35 dX7_leastSpare_7 (by decide) h (fun h => ?_) (fun h => ?_)
      · refine w_iload_n C dX7_leastSpare_35 rfl 1 rfl ?_
        exact p_iret C dX7_leastSpare_36 h
      refine w_aload_n C dX7_leastSpare_10 rfl 0 rfl ?_
      refine w_iload_n C dX7_leastSpare_11 rfl 2 rfl ?_
      refine p_Vi C dX7_leastSpare_12 h (fun _ e => mX7_spare e) lnX7_127 mvX7_spare bM0 rfl ⟨Nat.le_of_ble_eq_true rfl, Nat.le_of_ble_eq_true rfl⟩ [] rfl (Nat.le_of_ble_eq_true rfl) (fun v3 h => ?_)
      refine w_aload_n C dX7_leastSpare_15 rfl 0 rfl ?_
      refine w_iload_n C dX7_leastSpare_16 rfl 1 rfl ?_
      refine p_Vi C dX7_leastSpare_17 h (fun _ e => mX7_spare e) lnX7_127 mvX7_spare bM0 rfl ⟨Nat.le_of_ble_eq_true rfl, Nat.le_of_ble_eq_true rfl⟩ [.int v3] rfl (Nat.le_of_ble_eq_true rfl) (fun v4 h => ?_)
      refine w_join (fun J28 => ∀ (v5 : Int32), J28 v5 = some R → WS VM Y X 3 7 151 (some (.int R), S) S 28 [(0, rf Y 0), (2, .int v2)] [.int v5]) h ?_ (fun J28 hJ28 h => ?_)
      · intro v5 h
        refine w_istore_n C dX7_leastSpare_28 rfl (by decide) [(1, .int v5), (0, rf Y 0), (2, .int v2)] rfl ?_
        refine x_iinc C dX7_leastSpare_29 2 rfl 1 (by decide) h (by decide) (fun v6 => [(2, .int v6), (1, .int v5), (0, rf Y 0)]) (fun _ => rfl) (fun v6 h => ?_)
        refine w_goto C 4 dX7_leastSpare_32 (by decide) ?_
        exact w_sub [2, 1, 0] rfl (ih _ _ h)
      refine w_icmp_ge C 27 dX7_leastSpare_20 (by decide) h (fun h => ?_) (fun h => ?_)
      · refine w_iload_n C dX7_leastSpare_27 rfl 1 rfl ?_
        exact w_sub [0, 2] rfl (hJ28 _ h)
      refine w_iload_n C dX7_leastSpare_23 rfl 2 rfl ?_
      refine w_goto C 28 dX7_leastSpare_24 (by decide) ?_
      exact w_sub [0, 2] rfl (hJ28 _ h)
  exact w_sub [2, 1, 0] rfl (hL4 _ _ _ h))
def fX7_first (F : Nat) (S : St) : Option (Int32) := bv (fX7_leastSpare F S) fun v1 => some v1
set_option maxRecDepth 100000 in
theorem mX7_first {Y : YT} {F : Nat} {S : St} {R : Int32} (h : fX7_first F S  = some R) : Mc VM Y yX7_first cX7_first 1 (some .int) 8 173 [rf Y 0] S (some (.int R), S) :=
  Mc.start [(0, rf Y 0)] rfl pnX7 (Nat.le_of_ble_eq_true rfl) (fun X (C : Ok VM Y X RX7 cX7_first 1 (some .int)) => by
  unfold fX7_first at h
  refine w_aload_n C dX7_first_0 rfl 0 rfl ?_
  refine p_Vi C dX7_first_1 h (fun _ e => mX7_leastSpare e) lnX7_134 mvX7_leastSpare bM0 rfl ⟨Nat.le_of_ble_eq_true rfl, Nat.le_of_ble_eq_true rfl⟩ [] rfl (Nat.le_of_ble_eq_true rfl) (fun v1 h => ?_)
  exact p_iret C dX7_first_4 h)
def fX7_gust_L11 (F : Nat) (J47 : St → Int32 → Option (St × Int32)) : Nat → St → Int32 → Int32 → Option (St × Int32)
  | 0, _, _, _ => none
  | G11 + 1, S7, v8, v9 => if (100) ≤ v9 then (J47 S7 v8) else (if 0 ≤ v8 then (J47 S7 v8) else (sti S7 1 (3) 216 v9 fun S10 => bv (fX7_isStanding F S10) fun v11 => pl (fun (v12 : Int32) => pl (v9 + 1) fun v13 => fX7_gust_L11 F J47 G11 S10 v12 v13) fun J40 => if v11 = 0 then (J40 v9) else (J40 (-1))))
def fX7_gust (F : Nat) (S : St) : Option (St × Int32) := ldi S 1 (3) 216 fun v1 => pl (fun (S2 : St) (v3 : Int32) => sti S2 1 (3) 216 v1 fun S4 => if 0 ≤ v3 then (some (S4, v3)) else (bq (fX7_finds S4 (-1000000004)) fun S5 v6 => some (S5, v6))) fun J47 => fX7_gust_L11 F J47 F S (-1) (0)
set_option maxRecDepth 100000 in
theorem mX7_gust {Y : YT} {F : Nat} {S : St} {R : St × Int32} (h : fX7_gust F S  = some R) : Mc VM Y yX7_gust cX7_gust 4 (some .int) 8 175 [rf Y 0] S (some (.int R.2), R.1) :=
  Mc.start [(0, rf Y 0)] rfl pnX7 (Nat.le_of_ble_eq_true rfl) (fun X (C : Ok VM Y X RX7 cX7_gust 4 (some .int)) => by
  unfold fX7_gust at h
  refine w_aload_n C dX7_gust_0 rfl 0 rfl ?_
  refine w_getr C dX7_gust_1 flX7_7 gM0_0 ?_
  refine w_iconst (v := 3) C dX7_gust_4 (by decide) ?_
  refine x_iald C dX7_gust_5 aM1 h (fun v1 h => ?_)
  refine w_istore_n C dX7_gust_6 rfl (by decide) [(1, .int v1), (0, rf Y 0)] rfl ?_
  refine w_iconst (v := -1) C dX7_gust_7 (by decide) ?_
  refine w_istore_n C dX7_gust_8 rfl (by decide) [(2, .int (-1)), (1, .int v1), (0, rf Y 0)] rfl ?_
  refine w_iconst (v := 0) C dX7_gust_9 (by decide) ?_
  refine w_istore_n C dX7_gust_10 rfl (by decide) [(3, .int (0)), (2, .int (-1)), (1, .int v1), (0, rf Y 0)] rfl ?_
  refine w_join (fun J47 => ∀ (S2 : St) (v3 : Int32), J47 S2 v3 = some R → WS VM Y X 4 8 175 (some (.int R.2), R.1) S2 47 [(0, rf Y 0), (1, .int v1), (2, .int v3)] []) h ?_ (fun J47 hJ47 h => ?_)
  · intro S2 v3 h
    refine w_aload_n C dX7_gust_47 rfl 0 rfl ?_
    refine w_getr C dX7_gust_48 flX7_7 gM0_0 ?_
    refine w_iconst (v := 3) C dX7_gust_51 (by decide) ?_
    refine w_iload_n C dX7_gust_52 rfl 1 rfl ?_
    refine x_iast C dX7_gust_53 aM1 h (fun S4 h => ?_)
    refine w_iload_n C dX7_gust_54 rfl 2 rfl ?_
    refine w_if_ge C 67 dX7_gust_55 (by decide) h (fun h => ?_) (fun h => ?_)
    · refine w_iload_n C dX7_gust_67 rfl 2 rfl ?_
      exact w_iret C dX7_gust_68 h
    refine w_aload_n C dX7_gust_58 rfl 0 rfl ?_
    refine w_ldc C dX7_gust_59 kcX7_138 ?_
    refine w_Vi C dX7_gust_61 h (fun _ e => mX7_finds e) lnX7_75 mvX7_finds bM0 rfl ⟨Nat.le_of_ble_eq_true rfl, Nat.le_of_ble_eq_true rfl⟩ [] rfl (Nat.le_of_ble_eq_true rfl) (fun S5 v6 h => ?_)
    refine w_goto C 68 dX7_gust_64 (by decide) ?_
    exact w_iret C dX7_gust_68 h
  have hL11 : ∀ (G11 : Nat) (S7 : St) (v8 : Int32) (v9 : Int32), fX7_gust_L11 F J47 G11 S7 v8 v9 = some R → WS VM Y X 4 8 175 (some (.int R.2), R.1) S7 11 [(0, rf Y 0), (1, .int v1), (2, .int v8), (3, .int v9)] [] := by
    intro G11
    induction G11 with
    | zero => intro S7 v8 v9 h; exact nomatch (show (none : Option (St × Int32)) = some R from h)
    | succ G11 ih =>
      intro S7 v8 v9 h
      rw [fX7_gust_L11] at h
      refine w_iload_n C dX7_gust_11 rfl 3 rfl ?_
      refine w_bipush (v := 100) C dX7_gust_12 (by decide) ?_
      refine w_icmp_ge C 47 dX7_gust_14 (by decide) h (fun h => ?_) (fun h => ?_)
      · exact w_sub [0, 1, 2] rfl (hJ47 _ _ h)
      refine w_iload_n C dX7_gust_17 rfl 2 rfl ?_
      refine w_if_ge C 47 dX7_gust_18 (by decide) h (fun h => ?_) (fun h => ?_)
      · exact w_sub [0, 1, 2] rfl (hJ47 _ _ h)
      refine w_aload_n C dX7_gust_21 rfl 0 rfl ?_
      refine w_getr C dX7_gust_22 flX7_7 gM0_0 ?_
      refine w_iconst (v := 3) C dX7_gust_25 (by decide) ?_
      refine w_iload_n C dX7_gust_26 rfl 3 rfl ?_
      refine x_iast C dX7_gust_27 aM1 h (fun S10 h => ?_)
      refine w_aload_n C dX7_gust_28 rfl 0 rfl ?_
      refine p_Vi C dX7_gust_29 h (fun _ e => mX7_isStanding e) lnX7_130 mvX7_isStanding bM0 rfl ⟨Nat.le_of_ble_eq_true rfl, Nat.le_of_ble_eq_true rfl⟩ [] rfl (Nat.le_of_ble_eq_true rfl) (fun v11 h => ?_)
      refine w_join (fun J40 => ∀ (v12 : Int32), J40 v12 = some R → WS VM Y X 4 8 175 (some (.int R.2), R.1) S10 40 [(0, rf Y 0), (1, .int v1), (3, .int v9)] [.int v12]) h ?_ (fun J40 hJ40 h => ?_)
      · intro v12 h
        refine w_istore_n C dX7_gust_40 rfl (by decide) [(2, .int v12), (0, rf Y 0), (1, .int v1), (3, .int v9)] rfl ?_
        refine x_iinc C dX7_gust_41 3 rfl 1 (by decide) h (by decide) (fun v13 => [(3, .int v13), (2, .int v12), (0, rf Y 0), (1, .int v1)]) (fun _ => rfl) (fun v13 h => ?_)
        refine w_goto C 11 dX7_gust_44 (by decide) ?_
        exact w_sub [2, 3, 1, 0] rfl (ih _ _ _ h)
      refine w_if_eq C 39 dX7_gust_32 (by decide) h (fun h => ?_) (fun h => ?_)
      · refine w_iload_n C dX7_gust_39 rfl 3 rfl ?_
        exact w_sub [0, 1, 3] rfl (hJ40 _ h)
      refine w_iconst (v := -1) C dX7_gust_35 (by decide) ?_
      refine w_goto C 40 dX7_gust_36 (by decide) ?_
      exact w_sub [0, 1, 3] rfl (hJ40 _ h)
  exact w_sub [3, 2, 1, 0] rfl (hL11 _ _ _ _ h))
def fX7_canWant_L4 (F : Nat) : Nat → St → Int32 → Int32 → Option (St × Int32)
  | 0, _, _, _ => none
  | G4 + 1, S1, v2, v3 => ldi S1 1 (0) 216 fun v4 => if v4 ≤ v3 then (some (S1, v2)) else (bv (fX7_isThere S1 v3) fun v5 => pl (fun (S6 : St) (v7 : Int32) => pl (v3 + 1) fun v8 => fX7_canWant_L4 F G4 S6 v7 v8) fun J53 => if v5 = 0 then (J53 S1 v2) else (bv (fX7_gets S1 v3 (5) (0)) fun S9 => bv (fX7_isStanding F S9) fun v10 => pl (fun (v11 : Int32) => pl ((v2 ||| v11)) fun v12 => bv (fX7_gets S9 v3 (5) (1)) fun S13 => J53 S13 v12) fun J44 => if v10 = 0 then (J44 (0)) else (J44 ((1) <<< (v3 &&& 31)))))
def fX7_canWant (F : Nat) (S : St) : Option (St × Int32) := fX7_canWant_L4 F F S (0) (0)
set_option maxRecDepth 100000 in
theorem mX7_canWant {Y : YT} {F : Nat} {S : St} {R : St × Int32} (h : fX7_canWant F S  = some R) : Mc VM Y yX7_canWant cX7_canWant 3 (some .int) 8 175 [rf Y 0] S (some (.int R.2), R.1) :=
  Mc.start [(0, rf Y 0)] rfl pnX7 (Nat.le_of_ble_eq_true rfl) (fun X (C : Ok VM Y X RX7 cX7_canWant 3 (some .int)) => by
  unfold fX7_canWant at h
  refine w_iconst (v := 0) C dX7_canWant_0 (by decide) ?_
  refine w_istore_n C dX7_canWant_1 rfl (by decide) [(1, .int (0)), (0, rf Y 0)] rfl ?_
  refine w_iconst (v := 0) C dX7_canWant_2 (by decide) ?_
  refine w_istore_n C dX7_canWant_3 rfl (by decide) [(2, .int (0)), (1, .int (0)), (0, rf Y 0)] rfl ?_
  have hL4 : ∀ (G4 : Nat) (S1 : St) (v2 : Int32) (v3 : Int32), fX7_canWant_L4 F G4 S1 v2 v3 = some R → WS VM Y X 3 8 175 (some (.int R.2), R.1) S1 4 [(0, rf Y 0), (1, .int v2), (2, .int v3)] [] := by
    intro G4
    induction G4 with
    | zero => intro S1 v2 v3 h; exact nomatch (show (none : Option (St × Int32)) = some R from h)
    | succ G4 ih =>
      intro S1 v2 v3 h
      rw [fX7_canWant_L4] at h
      refine w_iload_n C dX7_canWant_4 rfl 2 rfl ?_
      refine w_aload_n C dX7_canWant_5 rfl 0 rfl ?_
      refine w_getr C dX7_canWant_6 flX7_7 gM0_0 ?_
      refine w_iconst (v := 0) C dX7_canWant_9 (by decide) ?_
      refine x_iald C dX7_canWant_10 aM1 h (fun v4 h => ?_)
      refine w_icmp_ge C 59 dX7_canWant_11 (by decide) h (fun h => ?_) (fun h => ?_)
      · refine w_iload_n C dX7_canWant_59 rfl 1 rfl ?_
        exact w_iret C dX7_canWant_60 h
      refine w_aload_n C dX7_canWant_14 rfl 0 rfl ?_
      refine w_iload_n C dX7_canWant_15 rfl 2 rfl ?_
      refine p_Vi C dX7_canWant_16 h (fun _ e => mX7_isThere e) lnX7_84 mvX7_isThere bM0 rfl ⟨Nat.le_of_ble_eq_true rfl, Nat.le_of_ble_eq_true rfl⟩ [] rfl (Nat.le_of_ble_eq_true rfl) (fun v5 h => ?_)
      refine w_join (fun J53 => ∀ (S6 : St) (v7 : Int32), J53 S6 v7 = some R → WS VM Y X 3 8 175 (some (.int R.2), R.1) S6 53 [(0, rf Y 0), (1, .int v7), (2, .int v3)] []) h ?_ (fun J53 hJ53 h => ?_)
      · intro S6 v7 h
        refine x_iinc C dX7_canWant_53 2 rfl 1 (by decide) h (by decide) (fun v8 => [(2, .int v8), (0, rf Y 0), (1, .int v7)]) (fun _ => rfl) (fun v8 h => ?_)
        refine w_goto C 4 dX7_canWant_56 (by decide) ?_
        exact w_sub [1, 2, 0] rfl (ih _ _ _ h)
      refine w_if_eq C 53 dX7_canWant_19 (by decide) h (fun h => ?_) (fun h => ?_)
      · exact w_sub [0, 1, 2] rfl (hJ53 _ _ h)
      refine w_aload_n C dX7_canWant_22 rfl 0 rfl ?_
      refine w_iload_n C dX7_canWant_23 rfl 2 rfl ?_
      refine w_iconst (v := 5) C dX7_canWant_24 (by decide) ?_
      refine w_iconst (v := 0) C dX7_canWant_25 (by decide) ?_
      refine w_Vv C dX7_canWant_26 h (fun _ e => mX7_gets e) lnX7_59 mvX7_gets bM0 rfl ⟨Nat.le_of_ble_eq_true rfl, Nat.le_of_ble_eq_true rfl⟩ [] rfl (Nat.le_of_ble_eq_true rfl) (fun S9 h => ?_)
      refine w_iload_n C dX7_canWant_29 rfl 1 rfl ?_
      refine w_aload_n C dX7_canWant_30 rfl 0 rfl ?_
      refine p_Vi C dX7_canWant_31 h (fun _ e => mX7_isStanding e) lnX7_130 mvX7_isStanding bM0 rfl ⟨Nat.le_of_ble_eq_true rfl, Nat.le_of_ble_eq_true rfl⟩ [.int v2] rfl (Nat.le_of_ble_eq_true rfl) (fun v10 h => ?_)
      refine w_join (fun J44 => ∀ (v11 : Int32), J44 v11 = some R → WS VM Y X 3 8 175 (some (.int R.2), R.1) S9 44 [(0, rf Y 0), (2, .int v3)] [.int v11, .int v2]) h ?_ (fun J44 hJ44 h => ?_)
      · intro v11 h
        refine w_ior C dX7_canWant_44 ?_
        refine w_topi h (fun v12 h => ?_)
        refine w_istore_n C dX7_canWant_45 rfl (by decide) [(1, .int v12), (0, rf Y 0), (2, .int v3)] rfl ?_
        refine w_aload_n C dX7_canWant_46 rfl 1 rfl ?_
        refine w_iload_n C dX7_canWant_47 rfl 2 rfl ?_
        refine w_iconst (v := 5) C dX7_canWant_48 (by decide) ?_
        refine w_iconst (v := 1) C dX7_canWant_49 (by decide) ?_
        refine w_Vv C dX7_canWant_50 h (fun _ e => mX7_gets e) lnX7_59 mvX7_gets bM0 rfl ⟨Nat.le_of_ble_eq_true rfl, Nat.le_of_ble_eq_true rfl⟩ [] rfl (Nat.le_of_ble_eq_true rfl) (fun S13 h => ?_)
        exact w_sub [1, 0, 2] rfl (hJ53 _ _ h)
      refine w_if_eq C 43 dX7_canWant_34 (by decide) h (fun h => ?_) (fun h => ?_)
      · refine w_iconst (v := 0) C dX7_canWant_43 (by decide) ?_
        exact w_sub [0, 2] rfl (hJ44 _ h)
      refine w_iconst (v := 1) C dX7_canWant_37 (by decide) ?_
      refine w_iload_n C dX7_canWant_38 rfl 2 rfl ?_
      refine w_ishl C dX7_canWant_39 ?_
      refine w_goto C 44 dX7_canWant_40 (by decide) ?_
      exact w_sub [0, 2] rfl (hJ44 _ h)
  exact w_sub [2, 1, 0] rfl (hL4 _ _ _ _ h))
def fX7_span_L33 (F : Nat) (J77 : St → Int32 → Int32 → Option (St × Int32)) : Nat → St → Int32 → Int32 → Int32 → Option (St × Int32)
  | 0, _, _, _, _ => none
  | G33 + 1, S9, v10, v11, v12 => if (100) ≤ v12 then (J77 S9 v10 v11) else (sti S9 1 (8) 216 v12 fun S13 => bv (fX7_isStanding F S13) fun v14 => pl (fun (v15 : Int32) (v16 : Int32) => pl (v12 + 1) fun v17 => fX7_span_L33 F J77 G33 S13 v15 v16 v17) fun J71 => if v14 = 0 then (J71 v10 v11) else (pl (fun (v18 : Int32) => J71 v18 v12) fun J66 => if 0 ≤ v10 then (J66 v10) else (J66 v12)))
def fX7_span (F : Nat) (S : St) (a1 : Int32) : Option (St × Int32) := bv (fX7_isIn S (Int32.toInt64 a1) (0) (1)) fun v1 => if v1 = 0 then (bq (fX7_finds S (-1000000001)) fun S19 v20 => some (S19, v20)) else (ldi S 1 (8) 216 fun v2 => pl (fun (S3 : St) (v4 : Int32) (v5 : Int32) => sti S3 1 (8) 216 v2 fun S6 => if 0 ≤ v4 then (if a1 = 0 then (some (S6, v4)) else (some (S6, v5))) else (bq (fX7_finds S6 (-1000000004)) fun S7 v8 => some (S7, v8))) fun J77 => fX7_span_L33 F J77 F S (-1) (-1) (0))
set_option maxRecDepth 100000 in
theorem mX7_span {Y : YT} {F : Nat} {S : St} {a1 : Int32} {R : St × Int32} (h : fX7_span F S a1 = some R) : Mc VM Y yX7_span cX7_span 6 (some .int) 8 175 [rf Y 0, .int a1] S (some (.int R.2), R.1) :=
  Mc.start [(0, rf Y 0), (1, .int a1)] rfl pnX7 (Nat.le_of_ble_eq_true rfl) (fun X (C : Ok VM Y X RX7 cX7_span 6 (some .int)) => by
  unfold fX7_span at h
  refine w_iload_n C dX7_span_0 rfl 1 rfl ?_
  refine w_i2l C dX7_span_1 ?_
  refine w_lconst (v := 0) C dX7_span_2 (by decide) ?_
  refine w_lconst (v := 1) C dX7_span_3 (by decide) ?_
  refine p_Si C dX7_span_4 h (fun _ e => mX7_isIn e) lnX7_65 msX7_isIn rfl ⟨Nat.le_of_ble_eq_true rfl, Nat.le_of_ble_eq_true rfl⟩ [] rfl (Nat.le_of_ble_eq_true rfl) (fun v1 h => ?_)
  refine w_if_ne C 17 dX7_span_7 (by decide) h (fun h => ?_) (fun h => ?_)
  · refine w_aload_n C dX7_span_17 rfl 0 rfl ?_
    refine w_getr C dX7_span_18 flX7_7 gM0_0 ?_
    refine w_bipush (v := 8) C dX7_span_21 (by decide) ?_
    refine x_iald C dX7_span_23 aM1 h (fun v2 h => ?_)
    refine w_istore_n C dX7_span_24 rfl (by decide) [(2, .int v2), (0, rf Y 0), (1, .int a1)] rfl ?_
    refine w_iconst (v := -1) C dX7_span_25 (by decide) ?_
    refine w_istore_n C dX7_span_26 rfl (by decide) [(3, .int (-1)), (2, .int v2), (0, rf Y 0), (1, .int a1)] rfl ?_
    refine w_iconst (v := -1) C dX7_span_27 (by decide) ?_
    refine w_istore C dX7_span_28 (by decide) [(4, .int (-1)), (3, .int (-1)), (2, .int v2), (0, rf Y 0), (1, .int a1)] rfl ?_
    refine w_iconst (v := 0) C dX7_span_30 (by decide) ?_
    refine w_istore C dX7_span_31 (by decide) [(5, .int (0)), (4, .int (-1)), (3, .int (-1)), (2, .int v2), (0, rf Y 0), (1, .int a1)] rfl ?_
    refine w_join (fun J77 => ∀ (S3 : St) (v4 : Int32) (v5 : Int32), J77 S3 v4 v5 = some R → WS VM Y X 6 8 175 (some (.int R.2), R.1) S3 77 [(0, rf Y 0), (1, .int a1), (2, .int v2), (3, .int v4), (4, .int v5)] []) h ?_ (fun J77 hJ77 h => ?_)
    · intro S3 v4 v5 h
      refine w_aload_n C dX7_span_77 rfl 0 rfl ?_
      refine w_getr C dX7_span_78 flX7_7 gM0_0 ?_
      refine w_bipush (v := 8) C dX7_span_81 (by decide) ?_
      refine w_iload_n C dX7_span_83 rfl 2 rfl ?_
      refine x_iast C dX7_span_84 aM1 h (fun S6 h => ?_)
      refine w_iload_n C dX7_span_85 rfl 3 rfl ?_
      refine w_if_ge C 98 dX7_span_86 (by decide) h (fun h => ?_) (fun h => ?_)
      · refine w_iload_n C dX7_span_98 rfl 1 rfl ?_
        refine w_if_ne C 106 dX7_span_99 (by decide) h (fun h => ?_) (fun h => ?_)
        · refine w_iload C dX7_span_106 4 rfl ?_
          exact w_iret C dX7_span_108 h
        refine w_iload_n C dX7_span_102 rfl 3 rfl ?_
        refine w_goto C 108 dX7_span_103 (by decide) ?_
        exact w_iret C dX7_span_108 h
      refine w_aload_n C dX7_span_89 rfl 0 rfl ?_
      refine w_ldc C dX7_span_90 kcX7_138 ?_
      refine w_Vi C dX7_span_92 h (fun _ e => mX7_finds e) lnX7_75 mvX7_finds bM0 rfl ⟨Nat.le_of_ble_eq_true rfl, Nat.le_of_ble_eq_true rfl⟩ [] rfl (Nat.le_of_ble_eq_true rfl) (fun S7 v8 h => ?_)
      refine w_goto C 108 dX7_span_95 (by decide) ?_
      exact w_iret C dX7_span_108 h
    have hL33 : ∀ (G33 : Nat) (S9 : St) (v10 : Int32) (v11 : Int32) (v12 : Int32), fX7_span_L33 F J77 G33 S9 v10 v11 v12 = some R → WS VM Y X 6 8 175 (some (.int R.2), R.1) S9 33 [(0, rf Y 0), (1, .int a1), (2, .int v2), (3, .int v10), (4, .int v11), (5, .int v12)] [] := by
      intro G33
      induction G33 with
      | zero => intro S9 v10 v11 v12 h; exact nomatch (show (none : Option (St × Int32)) = some R from h)
      | succ G33 ih =>
        intro S9 v10 v11 v12 h
        rw [fX7_span_L33] at h
        refine w_iload C dX7_span_33 5 rfl ?_
        refine w_bipush (v := 100) C dX7_span_35 (by decide) ?_
        refine w_icmp_ge C 77 dX7_span_37 (by decide) h (fun h => ?_) (fun h => ?_)
        · exact w_sub [0, 1, 2, 3, 4] rfl (hJ77 _ _ _ h)
        refine w_aload_n C dX7_span_40 rfl 0 rfl ?_
        refine w_getr C dX7_span_41 flX7_7 gM0_0 ?_
        refine w_bipush (v := 8) C dX7_span_44 (by decide) ?_
        refine w_iload C dX7_span_46 5 rfl ?_
        refine x_iast C dX7_span_48 aM1 h (fun S13 h => ?_)
        refine w_aload_n C dX7_span_49 rfl 0 rfl ?_
        refine p_Vi C dX7_span_50 h (fun _ e => mX7_isStanding e) lnX7_130 mvX7_isStanding bM0 rfl ⟨Nat.le_of_ble_eq_true rfl, Nat.le_of_ble_eq_true rfl⟩ [] rfl (Nat.le_of_ble_eq_true rfl) (fun v14 h => ?_)
        refine w_join (fun J71 => ∀ (v15 : Int32) (v16 : Int32), J71 v15 v16 = some R → WS VM Y X 6 8 175 (some (.int R.2), R.1) S13 71 [(0, rf Y 0), (1, .int a1), (2, .int v2), (3, .int v15), (4, .int v16), (5, .int v12)] []) h ?_ (fun J71 hJ71 h => ?_)
        · intro v15 v16 h
          refine x_iinc C dX7_span_71 5 rfl 1 (by decide) h (by decide) (fun v17 => [(5, .int v17), (0, rf Y 0), (1, .int a1), (2, .int v2), (3, .int v15), (4, .int v16)]) (fun _ => rfl) (fun v17 h => ?_)
          refine w_goto C 33 dX7_span_74 (by decide) ?_
          exact w_sub [1, 2, 3, 4, 5, 0] rfl (ih _ _ _ _ h)
        refine w_if_eq C 71 dX7_span_53 (by decide) h (fun h => ?_) (fun h => ?_)
        · exact w_sub [0, 1, 2, 3, 4, 5] rfl (hJ71 _ _ h)
        refine w_iload_n C dX7_span_56 rfl 3 rfl ?_
        refine w_join (fun J66 => ∀ (v18 : Int32), J66 v18 = some R → WS VM Y X 6 8 175 (some (.int R.2), R.1) S13 66 [(0, rf Y 0), (1, .int a1), (2, .int v2), (5, .int v12)] [.int v18]) h ?_ (fun J66 hJ66 h => ?_)
        · intro v18 h
          refine w_istore_n C dX7_span_66 rfl (by decide) [(3, .int v18), (0, rf Y 0), (1, .int a1), (2, .int v2), (5, .int v12)] rfl ?_
          refine w_iload C dX7_span_67 4 rfl ?_
          refine w_istore C dX7_span_69 (by decide) [(4, .int v12), (3, .int v18), (0, rf Y 0), (1, .int a1), (2, .int v2), (5, .int v12)] rfl ?_
          exact w_sub [2, 3, 4, 1, 0, 5] rfl (hJ71 _ _ h)
        refine w_if_ge C 65 dX7_span_57 (by decide) h (fun h => ?_) (fun h => ?_)
        · refine w_iload_n C dX7_span_65 rfl 3 rfl ?_
          exact w_sub [0, 1, 2, 5] rfl (hJ66 _ h)
        refine w_iload C dX7_span_60 5 rfl ?_
        refine w_goto C 66 dX7_span_62 (by decide) ?_
        exact w_sub [0, 1, 2, 5] rfl (hJ66 _ h)
    exact w_sub [4, 5, 3, 2, 1, 0] rfl (hL33 _ _ _ _ _ h)
  refine w_aload_n C dX7_span_10 rfl 0 rfl ?_
  refine w_ldc C dX7_span_11 kcX7_54 ?_
  refine w_Vi C dX7_span_13 h (fun _ e => mX7_finds e) lnX7_75 mvX7_finds bM0 rfl ⟨Nat.le_of_ble_eq_true rfl, Nat.le_of_ble_eq_true rfl⟩ [] rfl (Nat.le_of_ble_eq_true rfl) (fun S19 v20 h => ?_)
  exact w_iret C dX7_span_16 h)
def fX7_worst_L14 (F : Nat) (J61 : St → Int32 → Option (St × Int32)) : Nat → St → Int32 → Int32 → Int32 → Option (St × Int32)
  | 0, _, _, _, _ => none
  | G14 + 1, S5, v6, v7, v8 => if (8) ≤ v8 then (J61 S5 v6) else (sti S5 1 (4) 216 v8 fun S9 => bv (fX7_leastSpare F S9) fun v10 => bv (fX7_spare F S9 v10) fun v11 => pl (fun (v12 : Int32) (v13 : Int32) => pl (v8 + 1) fun v14 => fX7_worst_L14 F J61 G14 S9 v12 v13 v14) fun J55 => pl (J55 v8 v11) fun J49 => if v6 < 0 then (J49) else (if v7 ≤ v11 then (J55 v6 v7) else (J49)))
def fX7_worst (F : Nat) (S : St) : Option (St × Int32) := ldi S 1 (4) 216 fun v1 => pl (fun (S2 : St) (v3 : Int32) => sti S2 1 (4) 216 v1 fun S4 => some (S4, v3)) fun J61 => fX7_worst_L14 F J61 F S (-1) (0) (0)
set_option maxRecDepth 100000 in
theorem mX7_worst {Y : YT} {F : Nat} {S : St} {R : St × Int32} (h : fX7_worst F S  = some R) : Mc VM Y yX7_worst cX7_worst 6 (some .int) 8 173 [rf Y 0] S (some (.int R.2), R.1) :=
  Mc.start [(0, rf Y 0)] rfl pnX7 (Nat.le_of_ble_eq_true rfl) (fun X (C : Ok VM Y X RX7 cX7_worst 6 (some .int)) => by
  unfold fX7_worst at h
  refine w_aload_n C dX7_worst_0 rfl 0 rfl ?_
  refine w_getr C dX7_worst_1 flX7_7 gM0_0 ?_
  refine w_iconst (v := 4) C dX7_worst_4 (by decide) ?_
  refine x_iald C dX7_worst_5 aM1 h (fun v1 h => ?_)
  refine w_istore_n C dX7_worst_6 rfl (by decide) [(1, .int v1), (0, rf Y 0)] rfl ?_
  refine w_iconst (v := -1) C dX7_worst_7 (by decide) ?_
  refine w_istore_n C dX7_worst_8 rfl (by decide) [(2, .int (-1)), (1, .int v1), (0, rf Y 0)] rfl ?_
  refine w_iconst (v := 0) C dX7_worst_9 (by decide) ?_
  refine w_istore_n C dX7_worst_10 rfl (by decide) [(3, .int (0)), (2, .int (-1)), (1, .int v1), (0, rf Y 0)] rfl ?_
  refine w_iconst (v := 0) C dX7_worst_11 (by decide) ?_
  refine w_istore C dX7_worst_12 (by decide) [(4, .int (0)), (3, .int (0)), (2, .int (-1)), (1, .int v1), (0, rf Y 0)] rfl ?_
  refine w_join (fun J61 => ∀ (S2 : St) (v3 : Int32), J61 S2 v3 = some R → WS VM Y X 6 8 173 (some (.int R.2), R.1) S2 61 [(0, rf Y 0), (1, .int v1), (2, .int v3)] []) h ?_ (fun J61 hJ61 h => ?_)
  · intro S2 v3 h
    refine w_aload_n C dX7_worst_61 rfl 0 rfl ?_
    refine w_getr C dX7_worst_62 flX7_7 gM0_0 ?_
    refine w_iconst (v := 4) C dX7_worst_65 (by decide) ?_
    refine w_iload_n C dX7_worst_66 rfl 1 rfl ?_
    refine x_iast C dX7_worst_67 aM1 h (fun S4 h => ?_)
    refine w_iload_n C dX7_worst_68 rfl 2 rfl ?_
    exact w_iret C dX7_worst_69 h
  have hL14 : ∀ (G14 : Nat) (S5 : St) (v6 : Int32) (v7 : Int32) (v8 : Int32), fX7_worst_L14 F J61 G14 S5 v6 v7 v8 = some R → WS VM Y X 6 8 173 (some (.int R.2), R.1) S5 14 [(0, rf Y 0), (1, .int v1), (2, .int v6), (3, .int v7), (4, .int v8)] [] := by
    intro G14
    induction G14 with
    | zero => intro S5 v6 v7 v8 h; exact nomatch (show (none : Option (St × Int32)) = some R from h)
    | succ G14 ih =>
      intro S5 v6 v7 v8 h
      rw [fX7_worst_L14] at h
      refine w_iload C dX7_worst_14 4 rfl ?_
      refine w_bipush (v := 8) C dX7_worst_16 (by decide) ?_
      refine w_icmp_ge C 61 dX7_worst_18 (by decide) h (fun h => ?_) (fun h => ?_)
      · exact w_sub [0, 1, 2] rfl (hJ61 _ _ h)
      refine w_aload_n C dX7_worst_21 rfl 0 rfl ?_
      refine w_getr C dX7_worst_22 flX7_7 gM0_0 ?_
      refine w_iconst (v := 4) C dX7_worst_25 (by decide) ?_
      refine w_iload C dX7_worst_26 4 rfl ?_
      refine x_iast C dX7_worst_28 aM1 h (fun S9 h => ?_)
      refine w_aload_n C dX7_worst_29 rfl 0 rfl ?_
      refine w_aload_n C dX7_worst_30 rfl 0 rfl ?_
      refine p_Vi C dX7_worst_31 h (fun _ e => mX7_leastSpare e) lnX7_134 mvX7_leastSpare bM0 rfl ⟨Nat.le_of_ble_eq_true rfl, Nat.le_of_ble_eq_true rfl⟩ [rf Y 0] rfl (Nat.le_of_ble_eq_true rfl) (fun v10 h => ?_)
      refine p_Vi C dX7_worst_34 h (fun _ e => mX7_spare e) lnX7_127 mvX7_spare bM0 rfl ⟨Nat.le_of_ble_eq_true rfl, Nat.le_of_ble_eq_true rfl⟩ [] rfl (Nat.le_of_ble_eq_true rfl) (fun v11 h => ?_)
      refine w_istore C dX7_worst_37 (by decide) [(5, .int v11), (0, rf Y 0), (1, .int v1), (2, .int v6), (3, .int v7), (4, .int v8)] rfl ?_
      refine w_iload_n C dX7_worst_39 rfl 3 rfl ?_
      refine w_join (fun J55 => ∀ (v12 : Int32) (v13 : Int32), J55 v12 v13 = some R → WS VM Y X 6 8 173 (some (.int R.2), R.1) S9 55 [(0, rf Y 0), (1, .int v1), (2, .int v12), (3, .int v13), (4, .int v8)] []) h ?_ (fun J55 hJ55 h => ?_)
      · intro v12 v13 h
        refine x_iinc C dX7_worst_55 4 rfl 1 (by decide) h (by decide) (fun v14 => [(4, .int v14), (0, rf Y 0), (1, .int v1), (2, .int v12), (3, .int v13)]) (fun _ => rfl) (fun v14 h => ?_)
        refine w_goto C 14 dX7_worst_58 (by decide) ?_
        exact w_sub [1, 2, 3, 4, 0] rfl (ih _ _ _ _ h)
      refine w_join (fun J49 => J49  = some R → WS VM Y X 6 8 173 (some (.int R.2), R.1) S9 49 [(0, rf Y 0), (1, .int v1), (4, .int v8), (5, .int v11)] []) h ?_ (fun J49 hJ49 h => ?_)
      · intro  h
        refine w_iload C dX7_worst_49 2 rfl ?_
        refine w_istore_n C dX7_worst_51 rfl (by decide) [(2, .int v8), (0, rf Y 0), (1, .int v1), (4, .int v8), (5, .int v11)] rfl ?_
        refine w_iload C dX7_worst_52 4 rfl ?_
        refine w_istore_n C dX7_worst_54 rfl (by decide) [(3, .int v11), (2, .int v8), (0, rf Y 0), (1, .int v1), (4, .int v8), (5, .int v11)] rfl ?_
        exact w_sub [2, 3, 1, 0, 4] rfl (hJ55 _ _ h)
      refine w_if_lt C 49 dX7_worst_40 (by decide) h (fun h => ?_) (fun h => ?_)
      · exact w_sub [1, 2, 5, 0] rfl (hJ49  h)
      refine w_iload C dX7_worst_43 0 rfl ?_
      refine w_iload_n C dX7_worst_45 rfl 4 rfl ?_
      refine w_icmp_ge C 55 dX7_worst_46 (by decide) h (fun h => ?_) (fun h => ?_)
      · exact w_sub [1, 2, 3, 4, 5] rfl (hJ55 _ _ h)
      exact w_sub [1, 2, 5, 0] rfl (hJ49  h)
  exact w_sub [4, 3, 2, 1, 0] rfl (hL14 _ _ _ _ _ h))
def fX7_warmthNow_L4 (S : St) (J28 : Int32 → Option (Int32)) : Nat → Int32 → Int32 → Option (Int32)
  | 0, _, _ => none
  | G4 + 1, v4, v5 => ldi S 1 (0) 216 fun v6 => if v6 ≤ v5 then (J28 v4) else (bv (fX7_warms S v5) fun v7 => pl ((v4 + v7)) fun v8 => pl (v5 + 1) fun v9 => fX7_warmthNow_L4 S J28 G4 v8 v9)
def fX7_warmthNow (F : Nat) (S : St) : Option (Int32) := pl (fun (v1 : Int32) => ldi S 1 (3) 216 fun v2 => ldi S 1 (6) 216 fun v3 => some ((v1 - (v2 / (5))) - (v3 / (3)))) fun J28 => fX7_warmthNow_L4 S J28 F (0) (0)
set_option maxRecDepth 100000 in
theorem mX7_warmthNow {Y : YT} {F : Nat} {S : St} {R : Int32} (h : fX7_warmthNow F S  = some R) : Mc VM Y yX7_warmthNow cX7_warmthNow 3 (some .int) 4 88 [rf Y 0] S (some (.int R), S) :=
  Mc.start [(0, rf Y 0)] rfl pnX7 (Nat.le_of_ble_eq_true rfl) (fun X (C : Ok VM Y X RX7 cX7_warmthNow 3 (some .int)) => by
  unfold fX7_warmthNow at h
  refine w_iconst (v := 0) C dX7_warmthNow_0 (by decide) ?_
  refine w_istore_n C dX7_warmthNow_1 rfl (by decide) [(1, .int (0)), (0, rf Y 0)] rfl ?_
  refine w_iconst (v := 0) C dX7_warmthNow_2 (by decide) ?_
  refine w_istore_n C dX7_warmthNow_3 rfl (by decide) [(2, .int (0)), (1, .int (0)), (0, rf Y 0)] rfl ?_
  refine w_join (fun J28 => ∀ (v1 : Int32), J28 v1 = some R → WS VM Y X 3 4 88 (some (.int R), S) S 28 [(0, rf Y 0), (1, .int v1)] []) h ?_ (fun J28 hJ28 h => ?_)
  · intro v1 h
    refine w_iload_n C dX7_warmthNow_28 rfl 1 rfl ?_
    refine w_aload_n C dX7_warmthNow_29 rfl 0 rfl ?_
    refine w_getr C dX7_warmthNow_30 flX7_7 gM0_0 ?_
    refine w_iconst (v := 3) C dX7_warmthNow_33 (by decide) ?_
    refine x_iald C dX7_warmthNow_34 aM1 h (fun v2 h => ?_)
    refine w_iconst (v := 5) C dX7_warmthNow_35 (by decide) ?_
    refine w_idiv C dX7_warmthNow_36 (by decide) ?_
    refine w_isub C dX7_warmthNow_37 ?_
    refine w_aload_n C dX7_warmthNow_38 rfl 0 rfl ?_
    refine w_getr C dX7_warmthNow_39 flX7_7 gM0_0 ?_
    refine w_bipush (v := 6) C dX7_warmthNow_42 (by decide) ?_
    refine x_iald C dX7_warmthNow_44 aM1 h (fun v3 h => ?_)
    refine w_iconst (v := 3) C dX7_warmthNow_45 (by decide) ?_
    refine w_idiv C dX7_warmthNow_46 (by decide) ?_
    refine w_isub C dX7_warmthNow_47 ?_
    exact p_iret C dX7_warmthNow_48 h
  have hL4 : ∀ (G4 : Nat) (v4 : Int32) (v5 : Int32), fX7_warmthNow_L4 S J28 G4 v4 v5 = some R → WS VM Y X 3 4 88 (some (.int R), S) S 4 [(0, rf Y 0), (1, .int v4), (2, .int v5)] [] := by
    intro G4
    induction G4 with
    | zero => intro v4 v5 h; exact nomatch (show (none : Option (Int32)) = some R from h)
    | succ G4 ih =>
      intro v4 v5 h
      rw [fX7_warmthNow_L4] at h
      refine w_iload_n C dX7_warmthNow_4 rfl 2 rfl ?_
      refine w_aload_n C dX7_warmthNow_5 rfl 0 rfl ?_
      refine w_getr C dX7_warmthNow_6 flX7_7 gM0_0 ?_
      refine w_iconst (v := 0) C dX7_warmthNow_9 (by decide) ?_
      refine x_iald C dX7_warmthNow_10 aM1 h (fun v6 h => ?_)
      refine w_icmp_ge C 28 dX7_warmthNow_11 (by decide) h (fun h => ?_) (fun h => ?_)
      · exact w_sub [0, 1] rfl (hJ28 _ h)
      refine w_iload_n C dX7_warmthNow_14 rfl 1 rfl ?_
      refine w_aload_n C dX7_warmthNow_15 rfl 0 rfl ?_
      refine w_iload_n C dX7_warmthNow_16 rfl 2 rfl ?_
      refine p_Vi C dX7_warmthNow_17 h (fun _ e => mX7_warms e) lnX7_102 mvX7_warms bM0 rfl ⟨Nat.le_of_ble_eq_true rfl, Nat.le_of_ble_eq_true rfl⟩ [.int v4] rfl (Nat.le_of_ble_eq_true rfl) (fun v7 h => ?_)
      refine w_iadd C dX7_warmthNow_20 ?_
      refine w_topi h (fun v8 h => ?_)
      refine w_istore_n C dX7_warmthNow_21 rfl (by decide) [(1, .int v8), (0, rf Y 0), (2, .int v5)] rfl ?_
      refine x_iinc C dX7_warmthNow_22 2 rfl 1 (by decide) h (by decide) (fun v9 => [(2, .int v9), (1, .int v8), (0, rf Y 0)]) (fun _ => rfl) (fun v9 h => ?_)
      refine w_goto C 4 dX7_warmthNow_25 (by decide) ?_
      exact w_sub [2, 1, 0] rfl (ih _ _ h)
  exact w_sub [2, 1, 0] rfl (hL4 _ _ _ h))
def fX7_fuel (F : Nat) (S : St) : Option (Int32) := ldi S 1 (7) 216 fun v1 => bv (fX7_warmthNow F S) fun v2 => pl ((((10) * v1) - v2)) fun v3 => if v3 ≤ 0 then (some (0)) else (some ((v3 / (20)) + (1)))
set_option maxRecDepth 100000 in
theorem mX7_fuel {Y : YT} {F : Nat} {S : St} {R : Int32} (h : fX7_fuel F S  = some R) : Mc VM Y yX7_fuel cX7_fuel 2 (some .int) 5 110 [rf Y 0] S (some (.int R), S) :=
  Mc.start [(0, rf Y 0)] rfl pnX7 (Nat.le_of_ble_eq_true rfl) (fun X (C : Ok VM Y X RX7 cX7_fuel 2 (some .int)) => by
  unfold fX7_fuel at h
  refine w_bipush (v := 10) C dX7_fuel_0 (by decide) ?_
  refine w_aload_n C dX7_fuel_2 rfl 0 rfl ?_
  refine w_getr C dX7_fuel_3 flX7_7 gM0_0 ?_
  refine w_bipush (v := 7) C dX7_fuel_6 (by decide) ?_
  refine x_iald C dX7_fuel_8 aM1 h (fun v1 h => ?_)
  refine w_imul C dX7_fuel_9 ?_
  refine w_aload_n C dX7_fuel_10 rfl 0 rfl ?_
  refine p_Vi C dX7_fuel_11 h (fun _ e => mX7_warmthNow e) lnX7_139 mvX7_warmthNow bM0 rfl ⟨Nat.le_of_ble_eq_true rfl, Nat.le_of_ble_eq_true rfl⟩ [.int ((10) * v1)] rfl (Nat.le_of_ble_eq_true rfl) (fun v2 h => ?_)
  refine w_isub C dX7_fuel_14 ?_
  refine w_topi h (fun v3 h => ?_)
  refine w_istore_n C dX7_fuel_15 rfl (by decide) [(1, .int v3), (0, rf Y 0)] rfl ?_
  refine w_iload_n C dX7_fuel_16 rfl 0 rfl ?_
  refine w_if_le C 29 dX7_fuel_17 (by decide) h (fun h => ?_) (fun h => ?_)
  · refine w_iconst (v := 0) C dX7_fuel_29 (by decide) ?_
    exact p_iret C dX7_fuel_30 h
  refine w_iload_n C dX7_fuel_20 rfl 0 rfl ?_
  refine w_bipush (v := 20) C dX7_fuel_21 (by decide) ?_
  refine w_idiv C dX7_fuel_23 (by decide) ?_
  refine w_iconst (v := 1) C dX7_fuel_24 (by decide) ?_
  refine w_iadd C dX7_fuel_25 ?_
  refine w_goto C 30 dX7_fuel_26 (by decide) ?_
  exact p_iret C dX7_fuel_30 h)
def fX7_warmth (F : Nat) (S : St) (a1 : Int32) : Option (St × Int32) := if a1 = 0 then (bv (fX7_warmthNow F S) fun v4 => some (S, v4)) else (if a1 = (1) then (bv (fX7_fuel F S) fun v3 => some (S, v3)) else (bq (fX7_finds S (-1000000001)) fun S1 v2 => some (S1, v2)))
set_option maxRecDepth 100000 in
theorem mX7_warmth {Y : YT} {F : Nat} {S : St} {a1 : Int32} {R : St × Int32} (h : fX7_warmth F S a1 = some R) : Mc VM Y yX7_warmth cX7_warmth 2 (some .int) 6 131 [rf Y 0, .int a1] S (some (.int R.2), R.1) :=
  Mc.start [(0, rf Y 0), (1, .int a1)] rfl pnX7 (Nat.le_of_ble_eq_true rfl) (fun X (C : Ok VM Y X RX7 cX7_warmth 2 (some .int)) => by
  unfold fX7_warmth at h
  refine w_iload_n C dX7_warmth_0 rfl 1 rfl ?_
  refine w_if_ne C 11 dX7_warmth_1 (by decide) h (fun h => ?_) (fun h => ?_)
  · refine w_iload_n C dX7_warmth_11 rfl 1 rfl ?_
    refine w_iconst (v := 1) C dX7_warmth_12 (by decide) ?_
    refine w_icmp_ne C 23 dX7_warmth_13 (by decide) h (fun h => ?_) (fun h => ?_)
    · refine w_aload_n C dX7_warmth_23 rfl 0 rfl ?_
      refine w_ldc C dX7_warmth_24 kcX7_54 ?_
      refine w_Vi C dX7_warmth_26 h (fun _ e => mX7_finds e) lnX7_75 mvX7_finds bM0 rfl ⟨Nat.le_of_ble_eq_true rfl, Nat.le_of_ble_eq_true rfl⟩ [] rfl (Nat.le_of_ble_eq_true rfl) (fun S1 v2 h => ?_)
      exact w_iret C dX7_warmth_29 h
    refine w_aload_n C dX7_warmth_16 rfl 0 rfl ?_
    refine p_Vi C dX7_warmth_17 h (fun _ e => mX7_fuel e) lnX7_142 mvX7_fuel bM0 rfl ⟨Nat.le_of_ble_eq_true rfl, Nat.le_of_ble_eq_true rfl⟩ [] rfl (Nat.le_of_ble_eq_true rfl) (fun v3 h => ?_)
    refine w_goto C 29 dX7_warmth_20 (by decide) ?_
    exact w_iret C dX7_warmth_29 h
  refine w_aload_n C dX7_warmth_4 rfl 0 rfl ?_
  refine p_Vi C dX7_warmth_5 h (fun _ e => mX7_warmthNow e) lnX7_139 mvX7_warmthNow bM0 rfl ⟨Nat.le_of_ble_eq_true rfl, Nat.le_of_ble_eq_true rfl⟩ [] rfl (Nat.le_of_ble_eq_true rfl) (fun v4 h => ?_)
  refine w_goto C 29 dX7_warmth_8 (by decide) ?_
  exact w_iret C dX7_warmth_29 h)
def fX7_idle_L9 (F : Nat) (v1 : Int32) : Nat → St → Int32 → Int32 → Option (St × Int32)
  | 0, _, _, _ => none
  | G9 + 1, S2, v3, v4 => ldi S2 1 (0) 216 fun v5 => if v5 ≤ v4 then (some (S2, v3)) else (bv (fX7_isThere S2 v4) fun v6 => pl (fun (S7 : St) (v8 : Int32) => pl (v4 + 1) fun v9 => fX7_idle_L9 F v1 G9 S7 v8 v9) fun J59 => if v6 = 0 then (J59 S2 v3) else (bv (fX7_gets S2 v4 (5) (0)) fun S10 => bv (fX7_fuel F S10) fun v11 => pl (fun (v12 : Int32) => pl ((v3 ||| v12)) fun v13 => bv (fX7_gets S10 v4 (5) (1)) fun S14 => J59 S14 v13) fun J50 => if v11 = v1 then (J50 ((1) <<< (v4 &&& 31))) else (J50 (0))))
def fX7_idle (F : Nat) (S : St) : Option (St × Int32) := bv (fX7_fuel F S) fun v1 => fX7_idle_L9 F v1 F S (0) (0)
set_option maxRecDepth 100000 in
theorem mX7_idle {Y : YT} {F : Nat} {S : St} {R : St × Int32} (h : fX7_idle F S  = some R) : Mc VM Y yX7_idle cX7_idle 4 (some .int) 6 131 [rf Y 0] S (some (.int R.2), R.1) :=
  Mc.start [(0, rf Y 0)] rfl pnX7 (Nat.le_of_ble_eq_true rfl) (fun X (C : Ok VM Y X RX7 cX7_idle 4 (some .int)) => by
  unfold fX7_idle at h
  refine w_aload_n C dX7_idle_0 rfl 0 rfl ?_
  refine p_Vi C dX7_idle_1 h (fun _ e => mX7_fuel e) lnX7_142 mvX7_fuel bM0 rfl ⟨Nat.le_of_ble_eq_true rfl, Nat.le_of_ble_eq_true rfl⟩ [] rfl (Nat.le_of_ble_eq_true rfl) (fun v1 h => ?_)
  refine w_istore_n C dX7_idle_4 rfl (by decide) [(1, .int v1), (0, rf Y 0)] rfl ?_
  refine w_iconst (v := 0) C dX7_idle_5 (by decide) ?_
  refine w_istore_n C dX7_idle_6 rfl (by decide) [(2, .int (0)), (1, .int v1), (0, rf Y 0)] rfl ?_
  refine w_iconst (v := 0) C dX7_idle_7 (by decide) ?_
  refine w_istore_n C dX7_idle_8 rfl (by decide) [(3, .int (0)), (2, .int (0)), (1, .int v1), (0, rf Y 0)] rfl ?_
  have hL9 : ∀ (G9 : Nat) (S2 : St) (v3 : Int32) (v4 : Int32), fX7_idle_L9 F v1 G9 S2 v3 v4 = some R → WS VM Y X 4 6 131 (some (.int R.2), R.1) S2 9 [(0, rf Y 0), (1, .int v1), (2, .int v3), (3, .int v4)] [] := by
    intro G9
    induction G9 with
    | zero => intro S2 v3 v4 h; exact nomatch (show (none : Option (St × Int32)) = some R from h)
    | succ G9 ih =>
      intro S2 v3 v4 h
      rw [fX7_idle_L9] at h
      refine w_iload_n C dX7_idle_9 rfl 3 rfl ?_
      refine w_aload_n C dX7_idle_10 rfl 0 rfl ?_
      refine w_getr C dX7_idle_11 flX7_7 gM0_0 ?_
      refine w_iconst (v := 0) C dX7_idle_14 (by decide) ?_
      refine x_iald C dX7_idle_15 aM1 h (fun v5 h => ?_)
      refine w_icmp_ge C 65 dX7_idle_16 (by decide) h (fun h => ?_) (fun h => ?_)
      · refine w_iload_n C dX7_idle_65 rfl 2 rfl ?_
        exact w_iret C dX7_idle_66 h
      refine w_aload_n C dX7_idle_19 rfl 0 rfl ?_
      refine w_iload_n C dX7_idle_20 rfl 3 rfl ?_
      refine p_Vi C dX7_idle_21 h (fun _ e => mX7_isThere e) lnX7_84 mvX7_isThere bM0 rfl ⟨Nat.le_of_ble_eq_true rfl, Nat.le_of_ble_eq_true rfl⟩ [] rfl (Nat.le_of_ble_eq_true rfl) (fun v6 h => ?_)
      refine w_join (fun J59 => ∀ (S7 : St) (v8 : Int32), J59 S7 v8 = some R → WS VM Y X 4 6 131 (some (.int R.2), R.1) S7 59 [(0, rf Y 0), (1, .int v1), (2, .int v8), (3, .int v4)] []) h ?_ (fun J59 hJ59 h => ?_)
      · intro S7 v8 h
        refine x_iinc C dX7_idle_59 3 rfl 1 (by decide) h (by decide) (fun v9 => [(3, .int v9), (0, rf Y 0), (1, .int v1), (2, .int v8)]) (fun _ => rfl) (fun v9 h => ?_)
        refine w_goto C 9 dX7_idle_62 (by decide) ?_
        exact w_sub [1, 2, 3, 0] rfl (ih _ _ _ h)
      refine w_if_eq C 59 dX7_idle_24 (by decide) h (fun h => ?_) (fun h => ?_)
      · exact w_sub [0, 1, 2, 3] rfl (hJ59 _ _ h)
      refine w_aload_n C dX7_idle_27 rfl 0 rfl ?_
      refine w_iload_n C dX7_idle_28 rfl 3 rfl ?_
      refine w_iconst (v := 5) C dX7_idle_29 (by decide) ?_
      refine w_iconst (v := 0) C dX7_idle_30 (by decide) ?_
      refine w_Vv C dX7_idle_31 h (fun _ e => mX7_gets e) lnX7_59 mvX7_gets bM0 rfl ⟨Nat.le_of_ble_eq_true rfl, Nat.le_of_ble_eq_true rfl⟩ [] rfl (Nat.le_of_ble_eq_true rfl) (fun S10 h => ?_)
      refine w_iload_n C dX7_idle_34 rfl 2 rfl ?_
      refine w_aload_n C dX7_idle_35 rfl 0 rfl ?_
      refine p_Vi C dX7_idle_36 h (fun _ e => mX7_fuel e) lnX7_142 mvX7_fuel bM0 rfl ⟨Nat.le_of_ble_eq_true rfl, Nat.le_of_ble_eq_true rfl⟩ [.int v3] rfl (Nat.le_of_ble_eq_true rfl) (fun v11 h => ?_)
      refine w_iload_n C dX7_idle_39 rfl 1 rfl ?_
      refine w_join (fun J50 => ∀ (v12 : Int32), J50 v12 = some R → WS VM Y X 4 6 131 (some (.int R.2), R.1) S10 50 [(0, rf Y 0), (1, .int v1), (3, .int v4)] [.int v12, .int v3]) h ?_ (fun J50 hJ50 h => ?_)
      · intro v12 h
        refine w_ior C dX7_idle_50 ?_
        refine w_topi h (fun v13 h => ?_)
        refine w_istore_n C dX7_idle_51 rfl (by decide) [(2, .int v13), (0, rf Y 0), (1, .int v1), (3, .int v4)] rfl ?_
        refine w_aload_n C dX7_idle_52 rfl 1 rfl ?_
        refine w_iload_n C dX7_idle_53 rfl 3 rfl ?_
        refine w_iconst (v := 5) C dX7_idle_54 (by decide) ?_
        refine w_iconst (v := 1) C dX7_idle_55 (by decide) ?_
        refine w_Vv C dX7_idle_56 h (fun _ e => mX7_gets e) lnX7_59 mvX7_gets bM0 rfl ⟨Nat.le_of_ble_eq_true rfl, Nat.le_of_ble_eq_true rfl⟩ [] rfl (Nat.le_of_ble_eq_true rfl) (fun S14 h => ?_)
        exact w_sub [1, 2, 0, 3] rfl (hJ59 _ _ h)
      refine w_icmp_ne C 49 dX7_idle_40 (by decide) h (fun h => ?_) (fun h => ?_)
      · refine w_iconst (v := 0) C dX7_idle_49 (by decide) ?_
        exact w_sub [0, 1, 3] rfl (hJ50 _ h)
      refine w_iconst (v := 1) C dX7_idle_43 (by decide) ?_
      refine w_iload_n C dX7_idle_44 rfl 3 rfl ?_
      refine w_ishl C dX7_idle_45 ?_
      refine w_goto C 50 dX7_idle_46 (by decide) ?_
      exact w_sub [0, 1, 3] rfl (hJ50 _ h)
  exact w_sub [3, 2, 1, 0] rfl (hL9 _ _ _ _ h))
def fX7_beast (S : St) (a1 : Int32) : Option (St × Int32) := bv (fX7_isIn S (Int32.toInt64 a1) (1) (999)) fun v1 => if v1 = 0 then (bq (fX7_finds S (-1000000001)) fun S10 v11 => some (S10, v11)) else (ldi S 1 (1) 216 fun v2 => if v2 = (6) then (bq (fX7_finds S (-1000000002)) fun S8 v9 => some (S8, v9)) else (ldi S 1 (1) 216 fun v3 => sti S 1 ((132) + v3) 216 a1 fun S4 => ldi S4 1 (1) 216 fun v5 => sti S4 1 (1) 216 (v5 + (1)) fun S6 => ldi S6 1 (1) 216 fun v7 => some (S6, (v7 - (1)))))
set_option maxRecDepth 100000 in
theorem mX7_beast {Y : YT} {S : St} {a1 : Int32} {R : St × Int32} (h : fX7_beast  S a1 = some R) : Mc VM Y yX7_beast cX7_beast 2 (some .int) 1 25 [rf Y 0, .int a1] S (some (.int R.2), R.1) :=
  Mc.start [(0, rf Y 0), (1, .int a1)] rfl pnX7 (Nat.le_of_ble_eq_true rfl) (fun X (C : Ok VM Y X RX7 cX7_beast 2 (some .int)) => by
  unfold fX7_beast at h
  refine w_iload_n C dX7_beast_0 rfl 1 rfl ?_
  refine w_i2l C dX7_beast_1 ?_
  refine w_lconst (v := 1) C dX7_beast_2 (by decide) ?_
  refine w_ldc2 C dX7_beast_3 klX7_71 ?_
  refine p_Si C dX7_beast_6 h (fun _ e => mX7_isIn e) lnX7_65 msX7_isIn rfl ⟨Nat.le_of_ble_eq_true rfl, Nat.le_of_ble_eq_true rfl⟩ [] rfl (Nat.le_of_ble_eq_true rfl) (fun v1 h => ?_)
  refine w_if_ne C 19 dX7_beast_9 (by decide) h (fun h => ?_) (fun h => ?_)
  · refine w_aload_n C dX7_beast_19 rfl 0 rfl ?_
    refine w_getr C dX7_beast_20 flX7_7 gM0_0 ?_
    refine w_iconst (v := 1) C dX7_beast_23 (by decide) ?_
    refine x_iald C dX7_beast_24 aM1 h (fun v2 h => ?_)
    refine w_bipush (v := 6) C dX7_beast_25 (by decide) ?_
    refine w_icmp_ne C 37 dX7_beast_27 (by decide) h (fun h => ?_) (fun h => ?_)
    · refine w_aload_n C dX7_beast_37 rfl 0 rfl ?_
      refine w_getr C dX7_beast_38 flX7_7 gM0_0 ?_
      refine w_sipush (v := 132) C dX7_beast_41 (by decide) ?_
      refine w_aload_n C dX7_beast_44 rfl 0 rfl ?_
      refine w_getr C dX7_beast_45 flX7_7 gM0_0 ?_
      refine w_iconst (v := 1) C dX7_beast_48 (by decide) ?_
      refine x_iald C dX7_beast_49 aM1 h (fun v3 h => ?_)
      refine w_iadd C dX7_beast_50 ?_
      refine w_iload_n C dX7_beast_51 rfl 1 rfl ?_
      refine x_iast C dX7_beast_52 aM1 h (fun S4 h => ?_)
      refine w_aload_n C dX7_beast_53 rfl 0 rfl ?_
      refine w_getr C dX7_beast_54 flX7_7 gM0_0 ?_
      refine w_iconst (v := 1) C dX7_beast_57 (by decide) ?_
      refine w_dup2 C dX7_beast_58 rfl rfl ?_
      refine x_iald C dX7_beast_59 aM1 h (fun v5 h => ?_)
      refine w_iconst (v := 1) C dX7_beast_60 (by decide) ?_
      refine w_iadd C dX7_beast_61 ?_
      refine x_iast C dX7_beast_62 aM1 h (fun S6 h => ?_)
      refine w_aload_n C dX7_beast_63 rfl 0 rfl ?_
      refine w_getr C dX7_beast_64 flX7_7 gM0_0 ?_
      refine w_iconst (v := 1) C dX7_beast_67 (by decide) ?_
      refine x_iald C dX7_beast_68 aM1 h (fun v7 h => ?_)
      refine w_iconst (v := 1) C dX7_beast_69 (by decide) ?_
      refine w_isub C dX7_beast_70 ?_
      exact w_iret C dX7_beast_71 h
    refine w_aload_n C dX7_beast_30 rfl 0 rfl ?_
    refine w_ldc C dX7_beast_31 kcX7_79 ?_
    refine w_Vi C dX7_beast_33 h (fun _ e => mX7_finds e) lnX7_75 mvX7_finds bM0 rfl ⟨Nat.le_of_ble_eq_true rfl, Nat.le_of_ble_eq_true rfl⟩ [] rfl (Nat.le_of_ble_eq_true rfl) (fun S8 v9 h => ?_)
    exact w_iret C dX7_beast_36 h
  refine w_aload_n C dX7_beast_12 rfl 0 rfl ?_
  refine w_ldc C dX7_beast_13 kcX7_54 ?_
  refine w_Vi C dX7_beast_15 h (fun _ e => mX7_finds e) lnX7_75 mvX7_finds bM0 rfl ⟨Nat.le_of_ble_eq_true rfl, Nat.le_of_ble_eq_true rfl⟩ [] rfl (Nat.le_of_ble_eq_true rfl) (fun S10 v11 h => ?_)
  exact w_iret C dX7_beast_18 h)
def fX7_cap (S : St) (a1 : Int32) : Option (St × Int32) := pl (bq (fX7_finds S (-1000000001)) fun S1 v2 => some (S1, v2)) fun J27 => if a1 < 0 then (J27) else (ldi S 1 (1) 216 fun v3 => if v3 ≤ a1 then (J27) else (ldi S 1 ((132) + a1) 216 fun v4 => some (S, v4)))
set_option maxRecDepth 100000 in
theorem mX7_cap {Y : YT} {S : St} {a1 : Int32} {R : St × Int32} (h : fX7_cap  S a1 = some R) : Mc VM Y yX7_cap cX7_cap 2 (some .int) 1 21 [rf Y 0, .int a1] S (some (.int R.2), R.1) :=
  Mc.start [(0, rf Y 0), (1, .int a1)] rfl pnX7 (Nat.le_of_ble_eq_true rfl) (fun X (C : Ok VM Y X RX7 cX7_cap 2 (some .int)) => by
  unfold fX7_cap at h
  refine w_iload_n C dX7_cap_0 rfl 1 rfl ?_
  refine w_join (fun J27 => J27  = some R → WS VM Y X 2 1 21 (some (.int R.2), R.1) S 27 [(0, rf Y 0)] []) h ?_ (fun J27 hJ27 h => ?_)
  · intro  h
    refine w_aload_n C dX7_cap_27 rfl 0 rfl ?_
    refine w_ldc C dX7_cap_28 kcX7_54 ?_
    refine w_Vi C dX7_cap_30 h (fun _ e => mX7_finds e) lnX7_75 mvX7_finds bM0 rfl ⟨Nat.le_of_ble_eq_true rfl, Nat.le_of_ble_eq_true rfl⟩ [] rfl (Nat.le_of_ble_eq_true rfl) (fun S1 v2 h => ?_)
    exact w_iret C dX7_cap_33 h
  refine w_if_lt C 27 dX7_cap_1 (by decide) h (fun h => ?_) (fun h => ?_)
  · exact w_sub [0] rfl (hJ27  h)
  refine w_iload_n C dX7_cap_4 rfl 1 rfl ?_
  refine w_aload_n C dX7_cap_5 rfl 0 rfl ?_
  refine w_getr C dX7_cap_6 flX7_7 gM0_0 ?_
  refine w_iconst (v := 1) C dX7_cap_9 (by decide) ?_
  refine x_iald C dX7_cap_10 aM1 h (fun v3 h => ?_)
  refine w_icmp_ge C 27 dX7_cap_11 (by decide) h (fun h => ?_) (fun h => ?_)
  · exact w_sub [0] rfl (hJ27  h)
  refine w_aload_n C dX7_cap_14 rfl 0 rfl ?_
  refine w_getr C dX7_cap_15 flX7_7 gM0_0 ?_
  refine w_sipush (v := 132) C dX7_cap_18 (by decide) ?_
  refine w_iload_n C dX7_cap_21 rfl 1 rfl ?_
  refine w_iadd C dX7_cap_22 ?_
  refine x_iald C dX7_cap_23 aM1 h (fun v4 h => ?_)
  refine w_goto C 33 dX7_cap_24 (by decide) ?_
  exact w_iret C dX7_cap_33 h)
def fX7_isLoad_L24 (S : St) (a1 : Int32) : Nat → Int32 → Int32 → Option (Int32)
  | 0, _, _ => none
  | G24 + 1, v2, v3 => ldi S 1 (0) 216 fun v4 => if v4 ≤ v3 then (ok (v2 &&& 1 = v2) (some v2)) else (if v2 = 0 then (ok (v2 &&& 1 = v2) (some v2)) else (pl (fun (v5 : Int32) => pl (v3 + 1) fun v6 => fX7_isLoad_L24 S a1 G24 v5 v6) fun J59 => pl (J59 (1)) fun J54 => if ((a1 >>> (v3 &&& 31)) &&& (1)) = 0 then (J54) else (bv (fX7_isThere S v3) fun v7 => if v7 = 0 then (J59 (0)) else (J54))))
def fX7_isLoad (F : Nat) (S : St) (a1 : Int32) : Option (Int32) := pl (fun (v1 : Int32) => fX7_isLoad_L24 S a1 F v1 (0)) fun J21 => pl (J21 (0)) fun J20 => if a1 < 0 then (J20) else (ldi S 1 (0) 216 fun v8 => if ((1) <<< (v8 &&& 31)) ≤ a1 then (J20) else (J21 (1)))
set_option maxRecDepth 100000 in
theorem mX7_isLoad {Y : YT} {F : Nat} {S : St} {a1 : Int32} {R : Int32} (h : fX7_isLoad F S a1 = some R) : Mc VM Y yX7_isLoad cX7_isLoad 4 (some .boolean) 2 43 [rf Y 0, .int a1] S (some (.int R), S) :=
  Mc.start [(0, rf Y 0), (1, .int a1)] rfl pnX7 (Nat.le_of_ble_eq_true rfl) (fun X (C : Ok VM Y X RX7 cX7_isLoad 4 (some .boolean)) => by
  unfold fX7_isLoad at h
  refine w_iload_n C dX7_isLoad_0 rfl 1 rfl ?_
  refine w_join (fun J21 => ∀ (v1 : Int32), J21 v1 = some R → WS VM Y X 4 2 43 (some (.int R), S) S 21 [(0, rf Y 0), (1, .int a1)] [.int v1]) h ?_ (fun J21 hJ21 h => ?_)
  · intro v1 h
    refine w_istore_n C dX7_isLoad_21 rfl (by decide) [(2, .int v1), (0, rf Y 0), (1, .int a1)] rfl ?_
    refine w_iconst (v := 0) C dX7_isLoad_22 (by decide) ?_
    refine w_istore_n C dX7_isLoad_23 rfl (by decide) [(3, .int (0)), (2, .int v1), (0, rf Y 0), (1, .int a1)] rfl ?_
    have hL24 : ∀ (G24 : Nat) (v2 : Int32) (v3 : Int32), fX7_isLoad_L24 S a1 G24 v2 v3 = some R → WS VM Y X 4 2 43 (some (.int R), S) S 24 [(0, rf Y 0), (1, .int a1), (2, .int v2), (3, .int v3)] [] := by
      intro G24
      induction G24 with
      | zero => intro v2 v3 h; exact nomatch (show (none : Option (Int32)) = some R from h)
      | succ G24 ih =>
        intro v2 v3 h
        rw [fX7_isLoad_L24] at h
        refine w_iload_n C dX7_isLoad_24 rfl 3 rfl ?_
        refine w_aload_n C dX7_isLoad_25 rfl 0 rfl ?_
        refine w_getr C dX7_isLoad_26 flX7_7 gM0_0 ?_
        refine w_iconst (v := 0) C dX7_isLoad_29 (by decide) ?_
        refine x_iald C dX7_isLoad_30 aM1 h (fun v4 h => ?_)
        refine w_icmp_ge C 66 dX7_isLoad_31 (by decide) h (fun h => ?_) (fun h => ?_)
        · refine w_iload_n C dX7_isLoad_66 rfl 2 rfl ?_
          exact p_zret C dX7_isLoad_67 h
        refine w_iload_n C dX7_isLoad_34 rfl 2 rfl ?_
        refine w_if_eq C 66 dX7_isLoad_35 (by decide) h (fun h => ?_) (fun h => ?_)
        · refine w_iload_n C dX7_isLoad_66 rfl 2 rfl ?_
          exact p_zret C dX7_isLoad_67 h
        refine w_iload_n C dX7_isLoad_38 rfl 1 rfl ?_
        refine w_iload_n C dX7_isLoad_39 rfl 3 rfl ?_
        refine w_ishr C dX7_isLoad_40 ?_
        refine w_iconst (v := 1) C dX7_isLoad_41 (by decide) ?_
        refine w_iand C dX7_isLoad_42 ?_
        refine w_join (fun J59 => ∀ (v5 : Int32), J59 v5 = some R → WS VM Y X 4 2 43 (some (.int R), S) S 59 [(0, rf Y 0), (1, .int a1), (3, .int v3)] [.int v5]) h ?_ (fun J59 hJ59 h => ?_)
        · intro v5 h
          refine w_istore_n C dX7_isLoad_59 rfl (by decide) [(2, .int v5), (0, rf Y 0), (1, .int a1), (3, .int v3)] rfl ?_
          refine x_iinc C dX7_isLoad_60 3 rfl 1 (by decide) h (by decide) (fun v6 => [(3, .int v6), (2, .int v5), (0, rf Y 0), (1, .int a1)]) (fun _ => rfl) (fun v6 h => ?_)
          refine w_goto C 24 dX7_isLoad_63 (by decide) ?_
          exact w_sub [2, 3, 1, 0] rfl (ih _ _ h)
        refine w_join (fun J54 => J54  = some R → WS VM Y X 4 2 43 (some (.int R), S) S 54 [(0, rf Y 0), (1, .int a1), (3, .int v3)] []) h ?_ (fun J54 hJ54 h => ?_)
        · intro  h
          refine w_iconst (v := 1) C dX7_isLoad_54 (by decide) ?_
          refine w_goto C 59 dX7_isLoad_55 (by decide) ?_
          exact w_sub [0, 1, 2] rfl (hJ59 _ h)
        refine w_if_eq C 54 dX7_isLoad_43 (by decide) h (fun h => ?_) (fun h => ?_)
        · exact w_sub [0, 1, 3] rfl (hJ54  h)
        refine w_aload_n C dX7_isLoad_46 rfl 0 rfl ?_
        refine w_iload_n C dX7_isLoad_47 rfl 3 rfl ?_
        refine p_Vi C dX7_isLoad_48 h (fun _ e => mX7_isThere e) lnX7_84 mvX7_isThere bM0 rfl ⟨Nat.le_of_ble_eq_true rfl, Nat.le_of_ble_eq_true rfl⟩ [] rfl (Nat.le_of_ble_eq_true rfl) (fun v7 h => ?_)
        refine w_if_eq C 58 dX7_isLoad_51 (by decide) h (fun h => ?_) (fun h => ?_)
        · refine w_iconst (v := 0) C dX7_isLoad_58 (by decide) ?_
          exact w_sub [0, 1, 3] rfl (hJ59 _ h)
        exact w_sub [0, 1, 3] rfl (hJ54  h)
    exact w_sub [2, 3, 1, 0] rfl (hL24 _ _ _ h)
  refine w_join (fun J20 => J20  = some R → WS VM Y X 4 2 43 (some (.int R), S) S 20 [(0, rf Y 0), (1, .int a1)] []) h ?_ (fun J20 hJ20 h => ?_)
  · intro  h
    refine w_iconst (v := 0) C dX7_isLoad_20 (by decide) ?_
    exact w_sub [0, 1] rfl (hJ21 _ h)
  refine w_if_lt C 20 dX7_isLoad_1 (by decide) h (fun h => ?_) (fun h => ?_)
  · exact w_sub [0, 1] rfl (hJ20  h)
  refine w_iload_n C dX7_isLoad_4 rfl 1 rfl ?_
  refine w_iconst (v := 1) C dX7_isLoad_5 (by decide) ?_
  refine w_aload_n C dX7_isLoad_6 rfl 0 rfl ?_
  refine w_getr C dX7_isLoad_7 flX7_7 gM0_0 ?_
  refine w_iconst (v := 0) C dX7_isLoad_10 (by decide) ?_
  refine x_iald C dX7_isLoad_11 aM1 h (fun v8 h => ?_)
  refine w_ishl C dX7_isLoad_12 ?_
  refine w_icmp_ge C 20 dX7_isLoad_13 (by decide) h (fun h => ?_) (fun h => ?_)
  · exact w_sub [0, 1] rfl (hJ20  h)
  refine w_iconst (v := 1) C dX7_isLoad_16 (by decide) ?_
  refine w_goto C 21 dX7_isLoad_17 (by decide) ?_
  exact w_sub [0, 1] rfl (hJ21 _ h))
def fX7_findLoad_L84 (S5 : St) (v6 : Int32) (J130 : Int32 → Option (St × Int32)) : Nat → Int32 → Int32 → Option (St × Int32)
  | 0, _, _ => none
  | G84 + 1, v10, v11 => if (S5.1 0 11) ≤ v11 then (J130 v10) else (pl (fun (v12 : Int32) => pl ((v10 + v12)) fun v13 => pl (v11 + 1) fun v14 => fX7_findLoad_L84 S5 v6 J130 G84 v13 v14) fun J121 => if ((v6 >>> (v11 &&& 31)) &&& (1)) = (1) then (ldi S5 9 v11 10 fun v15 => bv (fX7_has S5 v15 (3)) fun v16 => J121 v16) else (J121 (0)))
def fX7_findLoad_L62 (F : Nat) (v3 : Int32) (J144 : St → Option (St × Int32)) : Nat → St → Int32 → Option (St × Int32)
  | 0, _, _ => none
  | G62 + 1, S5, v6 => if ((1) <<< ((S5.1 0 11) &&& 31)) ≤ v6 then (J144 S5) else (if (10) < v3 then (J144 S5) else (pl (fun (v7 : Int32) => sti S5 10 v6 1024 v7 fun S8 => pl (v6 + 1) fun v9 => fX7_findLoad_L62 F v3 J144 G62 S8 v9) fun J130 => fX7_findLoad_L84 S5 v6 J130 F (0) (0)))
def fX7_findLoad_L9 (a1 : Int32) (J60 : St → Int32 → Option (St × Int32)) : Nat → St → Int32 → Int32 → Option (St × Int32)
  | 0, _, _, _ => none
  | G9 + 1, S17, v18, v19 => ldi S17 1 (0) 216 fun v20 => if v20 ≤ v19 then (J60 S17 v18) else (pl (fun (S21 : St) (v22 : Int32) => pl (v19 + 1) fun v23 => fX7_findLoad_L9 a1 J60 G9 S21 v22 v23) fun J54 => if ((a1 >>> (v19 &&& 31)) &&& (1)) = (1) then (pl (fun (S24 : St) => pl (v18 + 1) fun v25 => J54 S24 v25) fun J51 => if (10) ≤ v18 then (J51 S17) else (sti S17 9 v18 10 v19 fun S26 => pl (si S26 0 11 ((S26.1 0 11) + (1))) fun S27 => J51 S27)) else (J54 S17 v18))
def fX7_findLoad (F : Nat) (S : St) (a1 : Int32) : Option (St × Int32) := pl (si S 0 11 (0)) fun S1 => pl (fun (S2 : St) (v3 : Int32) => pl (fun (S4 : St) => if (10) < v3 then (some (S4, 0)) else (some (S4, 1))) fun J144 => fX7_findLoad_L62 F v3 J144 F S2 (0)) fun J60 => fX7_findLoad_L9 a1 J60 F S1 (0) (0)
set_option maxRecDepth 100000 in
theorem mX7_findLoad {Y : YT} {F : Nat} {S : St} {a1 : Int32} {R : St × Int32} (h : fX7_findLoad F S a1 = some R) : Mc VM Y yX7_findLoad cX7_findLoad 6 (some .boolean) 1 22 [rf Y 0, .int a1] S (some (.int R.2), R.1) :=
  Mc.start [(0, rf Y 0), (1, .int a1)] rfl pnX7 (Nat.le_of_ble_eq_true rfl) (fun X (C : Ok VM Y X RX7 cX7_findLoad 6 (some .boolean)) => by
  unfold fX7_findLoad at h
  refine w_aload_n C dX7_findLoad_0 rfl 0 rfl ?_
  refine w_iconst (v := 0) C dX7_findLoad_1 (by decide) ?_
  refine x_puti C dX7_findLoad_2 fpX7_145 iM0_11 h (fun S1 h => ?_)
  refine w_iconst (v := 0) C dX7_findLoad_5 (by decide) ?_
  refine w_istore_n C dX7_findLoad_6 rfl (by decide) [(2, .int (0)), (0, rf Y 0), (1, .int a1)] rfl ?_
  refine w_iconst (v := 0) C dX7_findLoad_7 (by decide) ?_
  refine w_istore_n C dX7_findLoad_8 rfl (by decide) [(3, .int (0)), (2, .int (0)), (0, rf Y 0), (1, .int a1)] rfl ?_
  refine w_join (fun J60 => ∀ (S2 : St) (v3 : Int32), J60 S2 v3 = some R → WS VM Y X 6 1 22 (some (.int R.2), R.1) S2 60 [(0, rf Y 0), (2, .int v3)] []) h ?_ (fun J60 hJ60 h => ?_)
  · intro S2 v3 h
    refine w_iconst (v := 0) C dX7_findLoad_60 (by decide) ?_
    refine w_istore_n C dX7_findLoad_61 rfl (by decide) [(3, .int (0)), (0, rf Y 0), (2, .int v3)] rfl ?_
    refine w_join (fun J144 => ∀ (S4 : St), J144 S4 = some R → WS VM Y X 6 1 22 (some (.int R.2), R.1) S4 144 [(2, .int v3)] []) h ?_ (fun J144 hJ144 h => ?_)
    · intro S4 h
      refine w_iload_n C dX7_findLoad_144 rfl 0 rfl ?_
      refine w_bipush (v := 10) C dX7_findLoad_145 (by decide) ?_
      refine w_icmp_gt C 154 dX7_findLoad_147 (by decide) h (fun h => ?_) (fun h => ?_)
      · refine w_iconst (v := 0) C dX7_findLoad_154 (by decide) ?_
        exact w_zret0 C dX7_findLoad_155 rfl h
      refine w_iconst (v := 1) C dX7_findLoad_150 (by decide) ?_
      refine w_goto C 155 dX7_findLoad_151 (by decide) ?_
      exact w_zret0 C dX7_findLoad_155 rfl h
    have hL62 : ∀ (G62 : Nat) (S5 : St) (v6 : Int32), fX7_findLoad_L62 F v3 J144 G62 S5 v6 = some R → WS VM Y X 6 1 22 (some (.int R.2), R.1) S5 62 [(0, rf Y 0), (2, .int v3), (3, .int v6)] [] := by
      intro G62
      induction G62 with
      | zero => intro S5 v6 h; exact nomatch (show (none : Option (St × Int32)) = some R from h)
      | succ G62 ih =>
        intro S5 v6 h
        rw [fX7_findLoad_L62] at h
        refine w_iload_n C dX7_findLoad_62 rfl 2 rfl ?_
        refine w_iconst (v := 1) C dX7_findLoad_63 (by decide) ?_
        refine w_aload_n C dX7_findLoad_64 rfl 0 rfl ?_
        refine w_geti C dX7_findLoad_65 flX7_145 iM0_11 ?_
        refine w_ishl C dX7_findLoad_68 ?_
        refine w_icmp_ge C 144 dX7_findLoad_69 (by decide) h (fun h => ?_) (fun h => ?_)
        · exact w_sub [1] rfl (hJ144 _ h)
        refine w_iload_n C dX7_findLoad_72 rfl 1 rfl ?_
        refine w_bipush (v := 10) C dX7_findLoad_73 (by decide) ?_
        refine w_icmp_gt C 144 dX7_findLoad_75 (by decide) h (fun h => ?_) (fun h => ?_)
        · exact w_sub [1] rfl (hJ144 _ h)
        refine w_iconst (v := 0) C dX7_findLoad_78 (by decide) ?_
        refine w_istore C dX7_findLoad_79 (by decide) [(4, .int (0)), (0, rf Y 0), (2, .int v3), (3, .int v6)] rfl ?_
        refine w_iconst (v := 0) C dX7_findLoad_81 (by decide) ?_
        refine w_istore C dX7_findLoad_82 (by decide) [(5, .int (0)), (4, .int (0)), (0, rf Y 0), (2, .int v3), (3, .int v6)] rfl ?_
        refine w_join (fun J130 => ∀ (v7 : Int32), J130 v7 = some R → WS VM Y X 6 1 22 (some (.int R.2), R.1) S5 130 [(0, rf Y 0), (2, .int v3), (3, .int v6), (4, .int v7)] []) h ?_ (fun J130 hJ130 h => ?_)
        · intro v7 h
          refine w_aload_n C dX7_findLoad_130 rfl 0 rfl ?_
          refine w_getr C dX7_findLoad_131 flX7_38 gM0_12 ?_
          refine w_iload_n C dX7_findLoad_134 rfl 2 rfl ?_
          refine w_iload C dX7_findLoad_135 3 rfl ?_
          refine x_iast C dX7_findLoad_137 aM10 h (fun S8 h => ?_)
          refine x_iinc C dX7_findLoad_138 2 rfl 1 (by decide) h (by decide) (fun v9 => [(3, .int v9), (0, rf Y 0), (2, .int v3), (4, .int v7)]) (fun _ => rfl) (fun v9 h => ?_)
          refine w_goto C 62 dX7_findLoad_141 (by decide) ?_
          exact w_sub [1, 2, 0] rfl (ih _ _ h)
        have hL84 : ∀ (G84 : Nat) (v10 : Int32) (v11 : Int32), fX7_findLoad_L84 S5 v6 J130 G84 v10 v11 = some R → WS VM Y X 6 1 22 (some (.int R.2), R.1) S5 84 [(0, rf Y 0), (2, .int v3), (3, .int v6), (4, .int v10), (5, .int v11)] [] := by
          intro G84
          induction G84 with
          | zero => intro v10 v11 h; exact nomatch (show (none : Option (St × Int32)) = some R from h)
          | succ G84 ih =>
            intro v10 v11 h
            rw [fX7_findLoad_L84] at h
            refine w_iload C dX7_findLoad_84 4 rfl ?_
            refine w_aload_n C dX7_findLoad_86 rfl 0 rfl ?_
            refine w_geti C dX7_findLoad_87 flX7_145 iM0_11 ?_
            refine w_icmp_ge C 130 dX7_findLoad_90 (by decide) h (fun h => ?_) (fun h => ?_)
            · exact w_sub [0, 1, 2, 3] rfl (hJ130 _ h)
            refine w_iload C dX7_findLoad_93 3 rfl ?_
            refine w_iload_n C dX7_findLoad_95 rfl 2 rfl ?_
            refine w_iload C dX7_findLoad_96 4 rfl ?_
            refine w_ishr C dX7_findLoad_98 ?_
            refine w_iconst (v := 1) C dX7_findLoad_99 (by decide) ?_
            refine w_iand C dX7_findLoad_100 ?_
            refine w_iconst (v := 1) C dX7_findLoad_101 (by decide) ?_
            refine w_join (fun J121 => ∀ (v12 : Int32), J121 v12 = some R → WS VM Y X 6 1 22 (some (.int R.2), R.1) S5 121 [(0, rf Y 0), (2, .int v3), (3, .int v6), (5, .int v11)] [.int v12, .int v10]) h ?_ (fun J121 hJ121 h => ?_)
            · intro v12 h
              refine w_iadd C dX7_findLoad_121 ?_
              refine w_topi h (fun v13 h => ?_)
              refine w_istore C dX7_findLoad_122 (by decide) [(4, .int v13), (0, rf Y 0), (2, .int v3), (3, .int v6), (5, .int v11)] rfl ?_
              refine x_iinc C dX7_findLoad_124 4 rfl 1 (by decide) h (by decide) (fun v14 => [(5, .int v14), (4, .int v13), (0, rf Y 0), (2, .int v3), (3, .int v6)]) (fun _ => rfl) (fun v14 h => ?_)
              refine w_goto C 84 dX7_findLoad_127 (by decide) ?_
              exact w_sub [2, 3, 4, 1, 0] rfl (ih _ _ h)
            refine w_icmp_ne C 120 dX7_findLoad_102 (by decide) h (fun h => ?_) (fun h => ?_)
            · refine w_iconst (v := 0) C dX7_findLoad_120 (by decide) ?_
              exact w_sub [0, 1, 2, 4] rfl (hJ121 _ h)
            refine w_aload_n C dX7_findLoad_105 rfl 0 rfl ?_
            refine w_aload_n C dX7_findLoad_106 rfl 0 rfl ?_
            refine w_getr C dX7_findLoad_107 flX7_35 gM0_10 ?_
            refine w_iload C dX7_findLoad_110 4 rfl ?_
            refine x_iald C dX7_findLoad_112 aM9 h (fun v15 h => ?_)
            refine w_iconst (v := 3) C dX7_findLoad_113 (by decide) ?_
            refine p_Vi C dX7_findLoad_114 h (fun _ e => mX7_has e) lnX7_55 mvX7_has bM0 rfl ⟨Nat.le_of_ble_eq_true rfl, Nat.le_of_ble_eq_true rfl⟩ [.int v10] rfl (Nat.le_of_ble_eq_true rfl) (fun v16 h => ?_)
            refine w_goto C 121 dX7_findLoad_117 (by decide) ?_
            exact w_sub [0, 1, 2, 4] rfl (hJ121 _ h)
        exact w_sub [2, 3, 4, 1, 0] rfl (hL84 _ _ _ h)
    exact w_sub [1, 2, 0] rfl (hL62 _ _ _ h)
  have hL9 : ∀ (G9 : Nat) (S17 : St) (v18 : Int32) (v19 : Int32), fX7_findLoad_L9 a1 J60 G9 S17 v18 v19 = some R → WS VM Y X 6 1 22 (some (.int R.2), R.1) S17 9 [(0, rf Y 0), (1, .int a1), (2, .int v18), (3, .int v19)] [] := by
    intro G9
    induction G9 with
    | zero => intro S17 v18 v19 h; exact nomatch (show (none : Option (St × Int32)) = some R from h)
    | succ G9 ih =>
      intro S17 v18 v19 h
      rw [fX7_findLoad_L9] at h
      refine w_iload_n C dX7_findLoad_9 rfl 3 rfl ?_
      refine w_aload_n C dX7_findLoad_10 rfl 0 rfl ?_
      refine w_getr C dX7_findLoad_11 flX7_7 gM0_0 ?_
      refine w_iconst (v := 0) C dX7_findLoad_14 (by decide) ?_
      refine x_iald C dX7_findLoad_15 aM1 h (fun v20 h => ?_)
      refine w_icmp_ge C 60 dX7_findLoad_16 (by decide) h (fun h => ?_) (fun h => ?_)
      · exact w_sub [0, 2] rfl (hJ60 _ _ h)
      refine w_iload_n C dX7_findLoad_19 rfl 1 rfl ?_
      refine w_iload_n C dX7_findLoad_20 rfl 3 rfl ?_
      refine w_ishr C dX7_findLoad_21 ?_
      refine w_iconst (v := 1) C dX7_findLoad_22 (by decide) ?_
      refine w_iand C dX7_findLoad_23 ?_
      refine w_iconst (v := 1) C dX7_findLoad_24 (by decide) ?_
      refine w_join (fun J54 => ∀ (S21 : St) (v22 : Int32), J54 S21 v22 = some R → WS VM Y X 6 1 22 (some (.int R.2), R.1) S21 54 [(0, rf Y 0), (1, .int a1), (2, .int v22), (3, .int v19)] []) h ?_ (fun J54 hJ54 h => ?_)
      · intro S21 v22 h
        refine x_iinc C dX7_findLoad_54 3 rfl 1 (by decide) h (by decide) (fun v23 => [(3, .int v23), (0, rf Y 0), (1, .int a1), (2, .int v22)]) (fun _ => rfl) (fun v23 h => ?_)
        refine w_goto C 9 dX7_findLoad_57 (by decide) ?_
        exact w_sub [1, 2, 3, 0] rfl (ih _ _ _ h)
      refine w_icmp_ne C 54 dX7_findLoad_25 (by decide) h (fun h => ?_) (fun h => ?_)
      · exact w_sub [0, 1, 2, 3] rfl (hJ54 _ _ h)
      refine w_iload_n C dX7_findLoad_28 rfl 2 rfl ?_
      refine w_bipush (v := 10) C dX7_findLoad_29 (by decide) ?_
      refine w_join (fun J51 => ∀ (S24 : St), J51 S24 = some R → WS VM Y X 6 1 22 (some (.int R.2), R.1) S24 51 [(0, rf Y 0), (1, .int a1), (2, .int v18), (3, .int v19)] []) h ?_ (fun J51 hJ51 h => ?_)
      · intro S24 h
        refine x_iinc C dX7_findLoad_51 2 rfl 1 (by decide) h (by decide) (fun v25 => [(2, .int v25), (0, rf Y 0), (1, .int a1), (3, .int v19)]) (fun _ => rfl) (fun v25 h => ?_)
        exact w_sub [1, 2, 0, 3] rfl (hJ54 _ _ h)
      refine w_icmp_ge C 51 dX7_findLoad_31 (by decide) h (fun h => ?_) (fun h => ?_)
      · exact w_sub [0, 1, 2, 3] rfl (hJ51 _ h)
      refine w_aload_n C dX7_findLoad_34 rfl 0 rfl ?_
      refine w_getr C dX7_findLoad_35 flX7_35 gM0_10 ?_
      refine w_iload_n C dX7_findLoad_38 rfl 2 rfl ?_
      refine w_iload_n C dX7_findLoad_39 rfl 3 rfl ?_
      refine x_iast C dX7_findLoad_40 aM9 h (fun S26 h => ?_)
      refine w_aload_n C dX7_findLoad_41 rfl 0 rfl ?_
      refine w_dup C dX7_findLoad_42 rfl ?_
      refine w_geti C dX7_findLoad_43 flX7_145 iM0_11 ?_
      refine w_iconst (v := 1) C dX7_findLoad_46 (by decide) ?_
      refine w_iadd C dX7_findLoad_47 ?_
      refine x_puti C dX7_findLoad_48 fpX7_145 iM0_11 h (fun S27 h => ?_)
      exact w_sub [0, 1, 2, 3] rfl (hJ51 _ h)
  exact w_sub [2, 3, 1, 0] rfl (hL9 _ _ _ _ h))
