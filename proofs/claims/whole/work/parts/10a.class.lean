def fX6_within (S : St) (a1 : Int32) (a2 : Int32) (a3 : Int32) : Option (Int32) := if a1 < a2 then (some (0)) else (if a3 < a1 then (some (0)) else (some (1)))
set_option maxRecDepth 100000 in
theorem mX6_within {Y : YT} {S : St} {a1 : Int32} {a2 : Int32} {a3 : Int32} {R : Int32} (h : fX6_within  S a1 a2 a3 = some R) : Mc VX Y yX6_within cX6_within 3 (some .boolean) 0 0 [.int a1, .int a2, .int a3] S (some (.int R), S) :=
  Mc.start [(0, .int a1), (1, .int a2), (2, .int a3)] rfl pnX6 (Nat.le_of_ble_eq_true rfl) (fun X (C : Ok VX Y X RX6 cX6_within 3 (some .boolean)) => by
  unfold fX6_within at h
  refine w_iload_n C dX6_within_0 rfl 0 rfl ?_
  refine w_iload_n C dX6_within_1 rfl 1 rfl ?_
  refine w_icmp_lt C 14 dX6_within_2 (by decide) h (fun h => ?_) (fun h => ?_)
  · refine w_iconst (v := 0) C dX6_within_14 (by decide) ?_
    exact p_zret0 C dX6_within_15 rfl h
  refine w_iload_n C dX6_within_5 rfl 0 rfl ?_
  refine w_iload_n C dX6_within_6 rfl 2 rfl ?_
  refine w_icmp_gt C 14 dX6_within_7 (by decide) h (fun h => ?_) (fun h => ?_)
  · refine w_iconst (v := 0) C dX6_within_14 (by decide) ?_
    exact p_zret0 C dX6_within_15 rfl h
  refine w_iconst (v := 1) C dX6_within_10 (by decide) ?_
  refine w_goto C 15 dX6_within_11 (by decide) ?_
  exact p_zret0 C dX6_within_15 rfl h)
def fX3_isMissing (s : Nat) (S : St) : Option (Int32) := if (S.1 (47 + s) 0) = 0 then (some (1)) else (some (0))
set_option maxRecDepth 100000 in
theorem mX3_isMissing {Y : YT} {s : Nat} {S : St} {R : Int32} (hs : s < 4) (h : fX3_isMissing s S  = some R) : Mc VX Y yX3_isMissing cX3_isMissing 1 (some .boolean) 0 0 [rf Y (47 + s)] S (some (.int R), S) :=
  Mc.start [(0, rf Y (47 + s))] rfl pnX3 (Nat.le_of_ble_eq_true rfl) (fun X (C : Ok VX Y X RX3 cX3_isMissing 1 (some .boolean)) => by
  unfold fX3_isMissing at h
  refine w_aload_n C dX3_isMissing_0 rfl 0 rfl ?_
  refine w_geti C dX3_isMissing_1 flX3_15 (iXso_0 hs) ?_
  refine w_if_ne C 11 dX3_isMissing_4 (by decide) h (fun h => ?_) (fun h => ?_)
  · refine w_iconst (v := 0) C dX3_isMissing_11 (by decide) ?_
    exact p_zret0 C dX3_isMissing_12 rfl h
  refine w_iconst (v := 1) C dX3_isMissing_7 (by decide) ?_
  refine w_goto C 12 dX3_isMissing_8 (by decide) ?_
  exact p_zret0 C dX3_isMissing_12 rfl h)
def fX6_sheetTrouble (S : St) (a1 : Int32) : Option (Int32) := bv (fX6_within S a1 (0) (3)) fun v1 => if v1 = 0 then (some (0)) else (lds a1 fun s2 => bv (fX3_isMissing s2 S) fun v3 => if v3 = 0 then (some (-1)) else (some (5)))
set_option maxRecDepth 100000 in
theorem mX6_sheetTrouble {Y : YT} {S : St} {a1 : Int32} {R : Int32} (h : fX6_sheetTrouble  S a1 = some R) : Mc VX Y yX6_sheetTrouble cX6_sheetTrouble 2 (some .int) 1 22 [rf Y 0, .int a1] S (some (.int R), S) :=
  Mc.start [(0, rf Y 0), (1, .int a1)] rfl pnX6 (Nat.le_of_ble_eq_true rfl) (fun X (C : Ok VX Y X RX6 cX6_sheetTrouble 2 (some .int)) => by
  unfold fX6_sheetTrouble at h
  refine w_iload_n C dX6_sheetTrouble_0 rfl 1 rfl ?_
  refine w_iconst (v := 0) C dX6_sheetTrouble_1 (by decide) ?_
  refine w_iconst (v := 3) C dX6_sheetTrouble_2 (by decide) ?_
  refine p_Si C dX6_sheetTrouble_3 h (fun _ e => mX6_within e) lnX6_67 msX6_within rfl ⟨Nat.le_of_ble_eq_true rfl, Nat.le_of_ble_eq_true rfl⟩ [] rfl (Nat.le_of_ble_eq_true rfl) (fun v1 h => ?_)
  refine w_if_ne C 11 dX6_sheetTrouble_6 (by decide) h (fun h => ?_) (fun h => ?_)
  · refine w_aload_n C dX6_sheetTrouble_11 rfl 0 rfl ?_
    refine w_getr C dX6_sheetTrouble_12 flX6_58 gX0_8 ?_
    refine w_iload_n C dX6_sheetTrouble_15 rfl 1 rfl ?_
    refine x_aald C dX6_sheetTrouble_16 h (fun s2 hs2 h => ?_)
    refine p_Vi C dX6_sheetTrouble_17 h (fun _ e => mX3_isMissing hs2 e) lnX6_276 mvX3_isMissing (bXso hs2) rfl ⟨Nat.le_of_ble_eq_true rfl, Nat.le_of_ble_eq_true rfl⟩ [] rfl (Nat.le_of_ble_eq_true rfl) (fun v3 h => ?_)
    refine w_if_eq C 27 dX6_sheetTrouble_20 (by decide) h (fun h => ?_) (fun h => ?_)
    · refine w_iconst (v := -1) C dX6_sheetTrouble_27 (by decide) ?_
      exact p_iret C dX6_sheetTrouble_28 h
    refine w_iconst (v := 5) C dX6_sheetTrouble_23 (by decide) ?_
    refine w_goto C 28 dX6_sheetTrouble_24 (by decide) ?_
    exact p_iret C dX6_sheetTrouble_28 h
  refine w_iconst (v := 0) C dX6_sheetTrouble_9 (by decide) ?_
  exact p_iret C dX6_sheetTrouble_10 h)
def fX6_isWidth (S : St) (a1 : Int32) : Option (Int32) := if a1 = 0 then (some (1)) else (if a1 = (8) then (some (1)) else (if a1 = (16) then (some (1)) else (if a1 = (64) then (some (1)) else (some (0)))))
set_option maxRecDepth 100000 in
theorem mX6_isWidth {Y : YT} {S : St} {a1 : Int32} {R : Int32} (h : fX6_isWidth  S a1 = some R) : Mc VX Y yX6_isWidth cX6_isWidth 1 (some .boolean) 0 0 [.int a1] S (some (.int R), S) :=
  Mc.start [(0, .int a1)] rfl pnX6 (Nat.le_of_ble_eq_true rfl) (fun X (C : Ok VX Y X RX6 cX6_isWidth 1 (some .boolean)) => by
  unfold fX6_isWidth at h
  refine w_iload_n C dX6_isWidth_0 rfl 0 rfl ?_
  refine w_if_eq C 22 dX6_isWidth_1 (by decide) h (fun h => ?_) (fun h => ?_)
  · refine w_iconst (v := 1) C dX6_isWidth_22 (by decide) ?_
    refine w_goto C 27 dX6_isWidth_23 (by decide) ?_
    exact p_zret0 C dX6_isWidth_27 rfl h
  refine w_iload_n C dX6_isWidth_4 rfl 0 rfl ?_
  refine w_bipush (v := 8) C dX6_isWidth_5 (by decide) ?_
  refine w_icmp_eq C 22 dX6_isWidth_7 (by decide) h (fun h => ?_) (fun h => ?_)
  · refine w_iconst (v := 1) C dX6_isWidth_22 (by decide) ?_
    refine w_goto C 27 dX6_isWidth_23 (by decide) ?_
    exact p_zret0 C dX6_isWidth_27 rfl h
  refine w_iload_n C dX6_isWidth_10 rfl 0 rfl ?_
  refine w_bipush (v := 16) C dX6_isWidth_11 (by decide) ?_
  refine w_icmp_eq C 22 dX6_isWidth_13 (by decide) h (fun h => ?_) (fun h => ?_)
  · refine w_iconst (v := 1) C dX6_isWidth_22 (by decide) ?_
    refine w_goto C 27 dX6_isWidth_23 (by decide) ?_
    exact p_zret0 C dX6_isWidth_27 rfl h
  refine w_iload_n C dX6_isWidth_16 rfl 0 rfl ?_
  refine w_bipush (v := 64) C dX6_isWidth_17 (by decide) ?_
  refine w_icmp_ne C 26 dX6_isWidth_19 (by decide) h (fun h => ?_) (fun h => ?_)
  · refine w_iconst (v := 0) C dX6_isWidth_26 (by decide) ?_
    exact p_zret0 C dX6_isWidth_27 rfl h
  refine w_iconst (v := 1) C dX6_isWidth_22 (by decide) ?_
  refine w_goto C 27 dX6_isWidth_23 (by decide) ?_
  exact p_zret0 C dX6_isWidth_27 rfl h)
def fX6_isOfKind_L4 (a2 : Int32) : Nat → Int32 → Int32 → Option (Int32)
  | 0, _, _ => none
  | G4 + 1, v1, v2 => if (3) ≤ v2 then (some (0)) else (if v1 = a2 then (some (1)) else (ldt tbK v1 7 fun v3 => pl (v2 + 1) fun v4 => fX6_isOfKind_L4 a2 G4 v3 v4))
def fX6_isOfKind (F : Nat) (S : St) (a1 : Int32) (a2 : Int32) : Option (Int32) := fX6_isOfKind_L4 a2 F a1 (0)
set_option maxRecDepth 100000 in
theorem mX6_isOfKind {Y : YT} {F : Nat} {S : St} {a1 : Int32} {a2 : Int32} {R : Int32} (h : fX6_isOfKind F S a1 a2 = some R) : Mc VX Y yX6_isOfKind cX6_isOfKind 4 (some .boolean) 0 0 [.int a1, .int a2] S (some (.int R), S) :=
  Mc.start [(0, .int a1), (1, .int a2)] rfl pnX6 (Nat.le_of_ble_eq_true rfl) (fun X (C : Ok VX Y X RX6 cX6_isOfKind 4 (some .boolean)) => by
  unfold fX6_isOfKind at h
  refine w_iload_n C dX6_isOfKind_0 rfl 0 rfl ?_
  refine w_istore_n C dX6_isOfKind_1 rfl (by decide) [(2, .int a1), (0, .int a1), (1, .int a2)] rfl ?_
  refine w_iconst (v := 0) C dX6_isOfKind_2 (by decide) ?_
  refine w_istore_n C dX6_isOfKind_3 rfl (by decide) [(3, .int (0)), (2, .int a1), (0, .int a1), (1, .int a2)] rfl ?_
  have hL4 : ∀ (G4 : Nat) (v1 : Int32) (v2 : Int32), fX6_isOfKind_L4 a2 G4 v1 v2 = some R → WS VX Y X 4 0 0 (some (.int R), S) S 4 [(1, .int a2), (2, .int v1), (3, .int v2)] [] := by
    intro G4
    induction G4 with
    | zero => intro v1 v2 h; exact nomatch (show (none : Option (Int32)) = some R from h)
    | succ G4 ih =>
      intro v1 v2 h
      rw [fX6_isOfKind_L4] at h
      refine w_iload_n C dX6_isOfKind_4 rfl 2 rfl ?_
      refine w_iconst (v := 3) C dX6_isOfKind_5 (by decide) ?_
      refine w_icmp_ge C 28 dX6_isOfKind_6 (by decide) h (fun h => ?_) (fun h => ?_)
      · refine w_iconst (v := 0) C dX6_isOfKind_28 (by decide) ?_
        exact p_zret0 C dX6_isOfKind_29 rfl h
      refine w_iload_n C dX6_isOfKind_9 rfl 1 rfl ?_
      refine w_iload_n C dX6_isOfKind_10 rfl 0 rfl ?_
      refine w_icmp_ne C 16 dX6_isOfKind_11 (by decide) h (fun h => ?_) (fun h => ?_)
      · refine x_stat0 C dX6_isOfKind_16 fsX6_301 ?_
        refine w_iload_n C dX6_isOfKind_19 rfl 1 rfl ?_
        refine x_tald0 C dX6_isOfKind_20 h (fun v3 h => ?_)
        refine w_istore_n C dX6_isOfKind_21 rfl (by decide) [(2, .int v3), (1, .int a2), (3, .int v2)] rfl ?_
        refine x_iinc C dX6_isOfKind_22 2 rfl 1 (by decide) h (by decide) (fun v4 => [(3, .int v4), (2, .int v3), (1, .int a2)]) (fun _ => rfl) (fun v4 h => ?_)
        refine w_goto C 4 dX6_isOfKind_25 (by decide) ?_
        exact w_sub [2, 1, 0] rfl (ih _ _ h)
      refine w_iconst (v := 1) C dX6_isOfKind_14 (by decide) ?_
      exact p_zret0 C dX6_isOfKind_15 rfl h
  exact w_sub [3, 1, 0] rfl (hL4 _ _ _ h))
def fX6_finding (S : St) (a1 : Int32) : Option (St × Int32) := ldi S 55 a1 7 fun v1 => sti S 55 a1 7 (v1 + (1)) fun S2 => some (S2, ((-1000000001) - a1))
set_option maxRecDepth 100000 in
theorem mX6_finding {Y : YT} {S : St} {a1 : Int32} {R : St × Int32} (h : fX6_finding  S a1 = some R) : Mc VX Y yX6_finding cX6_finding 2 (some .int) 0 0 [rf Y 0, .int a1] S (some (.int R.2), R.1) :=
  Mc.start [(0, rf Y 0), (1, .int a1)] rfl pnX6 (Nat.le_of_ble_eq_true rfl) (fun X (C : Ok VX Y X RX6 cX6_finding 2 (some .int)) => by
  unfold fX6_finding at h
  refine w_aload_n C dX6_finding_0 rfl 0 rfl ?_
  refine w_getr C dX6_finding_1 flX6_63 gX0_9 ?_
  refine w_iload_n C dX6_finding_4 rfl 1 rfl ?_
  refine w_dup2 C dX6_finding_5 rfl rfl ?_
  refine x_iald C dX6_finding_6 aX55 h (fun v1 h => ?_)
  refine w_iconst (v := 1) C dX6_finding_7 (by decide) ?_
  refine w_iadd C dX6_finding_8 ?_
  refine x_iast C dX6_finding_9 aX55 h (fun S2 h => ?_)
  refine w_ldcw C dX6_finding_10 kcX6_300 ?_
  refine w_iload_n C dX6_finding_13 rfl 1 rfl ?_
  refine w_isub C dX6_finding_14 ?_
  exact w_iret C dX6_finding_15 h)
def fX6_status_L31 (S : St) : Nat → Int32 → Int32 → Option (St × Int32)
  | 0, _, _ => none
  | G31 + 1, v2, v3 => if (7) ≤ v3 then (some (S, v2)) else (ldi S 55 v3 7 fun v4 => pl ((v2 + v4)) fun v5 => pl (v3 + 1) fun v6 => fX6_status_L31 S G31 v5 v6)
def fX6_status (F : Nat) (S : St) (a1 : Int32) : Option (St × Int32) := bv (fX6_within S a1 (-1) (6)) fun v1 => if v1 = 0 then (bq (fX6_finding S (0)) fun S8 v9 => some (S8, v9)) else (if a1 < 0 then (fX6_status_L31 S F (0) (0)) else (ldi S 55 a1 7 fun v7 => some (S, v7)))
set_option maxRecDepth 100000 in
theorem mX6_status {Y : YT} {F : Nat} {S : St} {a1 : Int32} {R : St × Int32} (h : fX6_status F S a1 = some R) : Mc VX Y yX6_status cX6_status 4 (some .int) 1 22 [rf Y 0, .int a1] S (some (.int R.2), R.1) :=
  Mc.start [(0, rf Y 0), (1, .int a1)] rfl pnX6 (Nat.le_of_ble_eq_true rfl) (fun X (C : Ok VX Y X RX6 cX6_status 4 (some .int)) => by
  unfold fX6_status at h
  refine w_iload_n C dX6_status_0 rfl 1 rfl ?_
  refine w_iconst (v := -1) C dX6_status_1 (by decide) ?_
  refine w_bipush (v := 6) C dX6_status_2 (by decide) ?_
  refine p_Si C dX6_status_4 h (fun _ e => mX6_within e) lnX6_67 msX6_within rfl ⟨Nat.le_of_ble_eq_true rfl, Nat.le_of_ble_eq_true rfl⟩ [] rfl (Nat.le_of_ble_eq_true rfl) (fun v1 h => ?_)
  refine w_if_ne C 16 dX6_status_7 (by decide) h (fun h => ?_) (fun h => ?_)
  · refine w_iload_n C dX6_status_16 rfl 1 rfl ?_
    refine w_if_lt C 27 dX6_status_17 (by decide) h (fun h => ?_) (fun h => ?_)
    · refine w_iconst (v := 0) C dX6_status_27 (by decide) ?_
      refine w_istore_n C dX6_status_28 rfl (by decide) [(2, .int (0)), (0, rf Y 0), (1, .int a1)] rfl ?_
      refine w_iconst (v := 0) C dX6_status_29 (by decide) ?_
      refine w_istore_n C dX6_status_30 rfl (by decide) [(3, .int (0)), (2, .int (0)), (0, rf Y 0), (1, .int a1)] rfl ?_
      have hL31 : ∀ (G31 : Nat) (v2 : Int32) (v3 : Int32), fX6_status_L31 S G31 v2 v3 = some R → WS VX Y X 4 1 22 (some (.int R.2), R.1) S 31 [(0, rf Y 0), (2, .int v2), (3, .int v3)] [] := by
        intro G31
        induction G31 with
        | zero => intro v2 v3 h; exact nomatch (show (none : Option (St × Int32)) = some R from h)
        | succ G31 ih =>
          intro v2 v3 h
          rw [fX6_status_L31] at h
          refine w_iload_n C dX6_status_31 rfl 2 rfl ?_
          refine w_bipush (v := 7) C dX6_status_32 (by decide) ?_
          refine w_icmp_ge C 52 dX6_status_34 (by decide) h (fun h => ?_) (fun h => ?_)
          · refine w_iload_n C dX6_status_52 rfl 1 rfl ?_
            exact w_iret C dX6_status_53 h
          refine w_iload_n C dX6_status_37 rfl 1 rfl ?_
          refine w_aload_n C dX6_status_38 rfl 0 rfl ?_
          refine w_getr C dX6_status_39 flX6_63 gX0_9 ?_
          refine w_iload_n C dX6_status_42 rfl 2 rfl ?_
          refine x_iald C dX6_status_43 aX55 h (fun v4 h => ?_)
          refine w_iadd C dX6_status_44 ?_
          refine w_topi h (fun v5 h => ?_)
          refine w_istore_n C dX6_status_45 rfl (by decide) [(2, .int v5), (0, rf Y 0), (3, .int v3)] rfl ?_
          refine x_iinc C dX6_status_46 2 rfl 1 (by decide) h (by decide) (fun v6 => [(3, .int v6), (2, .int v5), (0, rf Y 0)]) (fun _ => rfl) (fun v6 h => ?_)
          refine w_goto C 31 dX6_status_49 (by decide) ?_
          exact w_sub [2, 1, 0] rfl (ih _ _ h)
      exact w_sub [2, 1, 0] rfl (hL31 _ _ _ h)
    refine w_aload_n C dX6_status_20 rfl 0 rfl ?_
    refine w_getr C dX6_status_21 flX6_63 gX0_9 ?_
    refine w_iload_n C dX6_status_24 rfl 1 rfl ?_
    refine x_iald C dX6_status_25 aX55 h (fun v7 h => ?_)
    exact w_iret C dX6_status_26 h
  refine w_aload_n C dX6_status_10 rfl 0 rfl ?_
  refine w_iconst (v := 0) C dX6_status_11 (by decide) ?_
  refine w_Vi C dX6_status_12 h (fun _ e => mX6_finding e) lnX6_71 mvX6_finding bX0 rfl ⟨Nat.le_of_ble_eq_true rfl, Nat.le_of_ble_eq_true rfl⟩ [] rfl (Nat.le_of_ble_eq_true rfl) (fun S8 v9 h => ?_)
  exact w_iret C dX6_status_15 h)
def fJ6_bitCount_0f7a4 (S : St) (a1 : Int32) : Option (Int32) := pl ((a1 - ((ushr a1 (1)) &&& (1431655765)))) fun v1 => pl (((v1 &&& (858993459)) + ((ushr v1 (2)) &&& (858993459)))) fun v2 => pl (((v2 + (ushr v2 (4))) &&& (252645135))) fun v3 => pl ((v3 + (ushr v3 (8)))) fun v4 => pl ((v4 + (ushr v4 (16)))) fun v5 => some (v5 &&& (63))
set_option maxRecDepth 100000 in
theorem mJ6_bitCount_0f7a4 {Y : YT} {S : St} {a1 : Int32} {R : Int32} (h : fJ6_bitCount_0f7a4  S a1 = some R) : Mc VX Y yJ6_bitCount_0f7a4 cJ6_bitCount_0f7a4 1 (some .int) 0 0 [.int a1] S (some (.int R), S) :=
  Mc.start [(0, .int a1)] rfl pnJ6 (Nat.le_of_ble_eq_true rfl) (fun X (C : Ok VX Y X RJ6 cJ6_bitCount_0f7a4 1 (some .int)) => by
  unfold fJ6_bitCount_0f7a4 at h
  refine w_iload_n C dJ6_bitCount_0f7a4_0 rfl 0 rfl ?_
  refine w_iload_n C dJ6_bitCount_0f7a4_1 rfl 0 rfl ?_
  refine w_iconst (v := 1) C dJ6_bitCount_0f7a4_2 (by decide) ?_
  refine w_iushr C dJ6_bitCount_0f7a4_3 ?_
  refine w_ldcw C dJ6_bitCount_0f7a4_4 kcJ6_265 ?_
  refine w_iand C dJ6_bitCount_0f7a4_7 ?_
  refine w_isub C dJ6_bitCount_0f7a4_8 ?_
  refine w_topi h (fun v1 h => ?_)
  refine w_istore_n C dJ6_bitCount_0f7a4_9 rfl (by decide) [(0, .int v1)] rfl ?_
  refine w_iload_n C dJ6_bitCount_0f7a4_10 rfl 0 rfl ?_
  refine w_ldcw C dJ6_bitCount_0f7a4_11 kcJ6_266 ?_
  refine w_iand C dJ6_bitCount_0f7a4_14 ?_
  refine w_iload_n C dJ6_bitCount_0f7a4_15 rfl 0 rfl ?_
  refine w_iconst (v := 2) C dJ6_bitCount_0f7a4_16 (by decide) ?_
  refine w_iushr C dJ6_bitCount_0f7a4_17 ?_
  refine w_ldcw C dJ6_bitCount_0f7a4_18 kcJ6_266 ?_
  refine w_iand C dJ6_bitCount_0f7a4_21 ?_
  refine w_iadd C dJ6_bitCount_0f7a4_22 ?_
  refine w_topi h (fun v2 h => ?_)
  refine w_istore_n C dJ6_bitCount_0f7a4_23 rfl (by decide) [(0, .int v2)] rfl ?_
  refine w_iload_n C dJ6_bitCount_0f7a4_24 rfl 0 rfl ?_
  refine w_iload_n C dJ6_bitCount_0f7a4_25 rfl 0 rfl ?_
  refine w_iconst (v := 4) C dJ6_bitCount_0f7a4_26 (by decide) ?_
  refine w_iushr C dJ6_bitCount_0f7a4_27 ?_
  refine w_iadd C dJ6_bitCount_0f7a4_28 ?_
  refine w_ldcw C dJ6_bitCount_0f7a4_29 kcJ6_267 ?_
  refine w_iand C dJ6_bitCount_0f7a4_32 ?_
  refine w_topi h (fun v3 h => ?_)
  refine w_istore_n C dJ6_bitCount_0f7a4_33 rfl (by decide) [(0, .int v3)] rfl ?_
  refine w_iload_n C dJ6_bitCount_0f7a4_34 rfl 0 rfl ?_
  refine w_iload_n C dJ6_bitCount_0f7a4_35 rfl 0 rfl ?_
  refine w_bipush (v := 8) C dJ6_bitCount_0f7a4_36 (by decide) ?_
  refine w_iushr C dJ6_bitCount_0f7a4_38 ?_
  refine w_iadd C dJ6_bitCount_0f7a4_39 ?_
  refine w_topi h (fun v4 h => ?_)
  refine w_istore_n C dJ6_bitCount_0f7a4_40 rfl (by decide) [(0, .int v4)] rfl ?_
  refine w_iload_n C dJ6_bitCount_0f7a4_41 rfl 0 rfl ?_
  refine w_iload_n C dJ6_bitCount_0f7a4_42 rfl 0 rfl ?_
  refine w_bipush (v := 16) C dJ6_bitCount_0f7a4_43 (by decide) ?_
  refine w_iushr C dJ6_bitCount_0f7a4_45 ?_
  refine w_iadd C dJ6_bitCount_0f7a4_46 ?_
  refine w_topi h (fun v5 h => ?_)
  refine w_istore_n C dJ6_bitCount_0f7a4_47 rfl (by decide) [(0, .int v5)] rfl ?_
  refine w_iload_n C dJ6_bitCount_0f7a4_48 rfl 0 rfl ?_
  refine w_bipush (v := 63) C dJ6_bitCount_0f7a4_49 (by decide) ?_
  refine w_iand C dJ6_bitCount_0f7a4_51 ?_
  exact p_iret C dJ6_bitCount_0f7a4_52 h)
def fX4_isThere (b : Nat) (S : St) (a1 : Int32) : Option (Int32) := if (((S.1 b 6) >>> (a1 &&& 31)) &&& (1)) = (1) then (some (1)) else (some (0))
set_option maxRecDepth 100000 in
theorem mX4_isThere_1 {Y : YT} {S : St} {a1 : Int32} {R : Int32} (h : fX4_isThere 1 S a1 = some R) : Mc VX Y yX4_isThere cX4_isThere 2 (some .boolean) 0 0 [rf Y 1, .int a1] S (some (.int R), S) :=
  Mc.start [(0, rf Y 1), (1, .int a1)] rfl pnX4 (Nat.le_of_ble_eq_true rfl) (fun X (C : Ok VX Y X RX4 cX4_isThere 2 (some .boolean)) => by
  unfold fX4_isThere at h
  refine w_aload_n C dX4_isThere_0 rfl 0 rfl ?_
  refine w_geti C dX4_isThere_1 flX4_55 iX1_6 ?_
  refine w_iload_n C dX4_isThere_4 rfl 1 rfl ?_
  refine w_ishr C dX4_isThere_5 ?_
  refine w_iconst (v := 1) C dX4_isThere_6 (by decide) ?_
  refine w_iand C dX4_isThere_7 ?_
  refine w_iconst (v := 1) C dX4_isThere_8 (by decide) ?_
  refine w_icmp_ne C 16 dX4_isThere_9 (by decide) h (fun h => ?_) (fun h => ?_)
  · refine w_iconst (v := 0) C dX4_isThere_16 (by decide) ?_
    exact p_zret0 C dX4_isThere_17 rfl h
  refine w_iconst (v := 1) C dX4_isThere_12 (by decide) ?_
  refine w_goto C 17 dX4_isThere_13 (by decide) ?_
  exact p_zret0 C dX4_isThere_17 rfl h)
def fX4_weightThere_L4 (S : St) (b : Nat) : Nat → Int32 → Int32 → Option (Int32)
  | 0, _, _ => none
  | G4 + 1, v1, v2 => if (S.1 b 0) ≤ v2 then (some v1) else (bv (fX4_isThere b S v2) fun v3 => pl (fun (v4 : Int32) => pl ((v1 + v4)) fun v5 => pl (v2 + 1) fun v6 => fX4_weightThere_L4 S b G4 v5 v6) fun J31 => if v3 = 0 then (J31 (0)) else (ldi S (4 + b) v2 20 fun v7 => J31 v7))
def fX4_weightThere (F : Nat) (b : Nat) (S : St) : Option (Int32) := fX4_weightThere_L4 S b F (0) (0)
set_option maxRecDepth 100000 in
theorem mX4_weightThere_1 {Y : YT} {F : Nat} {S : St} {R : Int32} (h : fX4_weightThere F 1 S  = some R) : Mc VX Y yX4_weightThere cX4_weightThere 3 (some .int) 1 21 [rf Y 1] S (some (.int R), S) :=
  Mc.start [(0, rf Y 1)] rfl pnX4 (Nat.le_of_ble_eq_true rfl) (fun X (C : Ok VX Y X RX4 cX4_weightThere 3 (some .int)) => by
  unfold fX4_weightThere at h
  refine w_iconst (v := 0) C dX4_weightThere_0 (by decide) ?_
  refine w_istore_n C dX4_weightThere_1 rfl (by decide) [(1, .int (0)), (0, rf Y 1)] rfl ?_
  refine w_iconst (v := 0) C dX4_weightThere_2 (by decide) ?_
  refine w_istore_n C dX4_weightThere_3 rfl (by decide) [(2, .int (0)), (1, .int (0)), (0, rf Y 1)] rfl ?_
  have hL4 : ∀ (G4 : Nat) (v1 : Int32) (v2 : Int32), fX4_weightThere_L4 S 1 G4 v1 v2 = some R → WS VX Y X 3 1 21 (some (.int R), S) S 4 [(0, rf Y 1), (1, .int v1), (2, .int v2)] [] := by
    intro G4
    induction G4 with
    | zero => intro v1 v2 h; exact nomatch (show (none : Option (Int32)) = some R from h)
    | succ G4 ih =>
      intro v1 v2 h
      rw [fX4_weightThere_L4] at h
      refine w_iload_n C dX4_weightThere_4 rfl 2 rfl ?_
      refine w_aload_n C dX4_weightThere_5 rfl 0 rfl ?_
      refine w_geti C dX4_weightThere_6 flX4_46 iX1_0 ?_
      refine w_icmp_ge C 39 dX4_weightThere_9 (by decide) h (fun h => ?_) (fun h => ?_)
      · refine w_iload_n C dX4_weightThere_39 rfl 1 rfl ?_
        exact p_iret C dX4_weightThere_40 h
      refine w_iload_n C dX4_weightThere_12 rfl 1 rfl ?_
      refine w_aload_n C dX4_weightThere_13 rfl 0 rfl ?_
      refine w_iload_n C dX4_weightThere_14 rfl 2 rfl ?_
      refine p_Vi C dX4_weightThere_15 h (fun _ e => mX4_isThere_1 e) lnX4_64 mvX4_isThere bX1 rfl ⟨Nat.le_of_ble_eq_true rfl, Nat.le_of_ble_eq_true rfl⟩ [.int v1] rfl (Nat.le_of_ble_eq_true rfl) (fun v3 h => ?_)
      refine w_join (fun J31 => ∀ (v4 : Int32), J31 v4 = some R → WS VX Y X 3 1 21 (some (.int R), S) S 31 [(0, rf Y 1), (2, .int v2)] [.int v4, .int v1]) h ?_ (fun J31 hJ31 h => ?_)
      · intro v4 h
        refine w_iadd C dX4_weightThere_31 ?_
        refine w_topi h (fun v5 h => ?_)
        refine w_istore_n C dX4_weightThere_32 rfl (by decide) [(1, .int v5), (0, rf Y 1), (2, .int v2)] rfl ?_
        refine x_iinc C dX4_weightThere_33 2 rfl 1 (by decide) h (by decide) (fun v6 => [(2, .int v6), (1, .int v5), (0, rf Y 1)]) (fun _ => rfl) (fun v6 h => ?_)
        refine w_goto C 4 dX4_weightThere_36 (by decide) ?_
        exact w_sub [2, 1, 0] rfl (ih _ _ h)
      refine w_if_eq C 30 dX4_weightThere_18 (by decide) h (fun h => ?_) (fun h => ?_)
      · refine w_iconst (v := 0) C dX4_weightThere_30 (by decide) ?_
        exact w_sub [0, 2] rfl (hJ31 _ h)
      refine w_aload_n C dX4_weightThere_21 rfl 0 rfl ?_
      refine w_getr C dX4_weightThere_22 flX4_21 gX1_4 ?_
      refine w_iload_n C dX4_weightThere_25 rfl 2 rfl ?_
      refine x_iald C dX4_weightThere_26 aX5 h (fun v7 h => ?_)
      refine w_goto C 31 dX4_weightThere_27 (by decide) ?_
      exact w_sub [0, 2] rfl (hJ31 _ h)
  exact w_sub [2, 1, 0] rfl (hL4 _ _ _ h))
def fX6_count (F : Nat) (S : St) (a1 : Int32) : Option (St × Int32) := if a1 = 0 then (some (S, (S.1 1 0))) else if a1 = 1 then (bv (fJ6_bitCount_0f7a4 S (S.1 1 6)) fun v1 => some (S, v1)) else if a1 = 2 then (some (S, (S.1 1 9))) else if a1 = 3 then (some (S, (S.1 1 11))) else if a1 = 4 then (some (S, (S.1 44 1))) else if a1 = 5 then (bv (fX4_weightThere F 1 S) fun v2 => some (S, v2)) else if a1 = 6 then (some (S, (S.1 1 8))) else (bq (fX6_finding S (0)) fun S3 v4 => some (S3, v4))
set_option maxRecDepth 100000 in
theorem mX6_count {Y : YT} {F : Nat} {S : St} {a1 : Int32} {R : St × Int32} (h : fX6_count F S a1 = some R) : Mc VX Y yX6_count cX6_count 2 (some .int) 2 43 [rf Y 0, .int a1] S (some (.int R.2), R.1) :=
  Mc.start [(0, rf Y 0), (1, .int a1)] rfl pnX6 (Nat.le_of_ble_eq_true rfl) (fun X (C : Ok VX Y X RX6 cX6_count 2 (some .int)) => by
  unfold fX6_count at h
  refine w_iload_n C dX6_count_0 rfl 1 rfl ?_
  by_cases c0 : a1 = 0
  · have h := ite_t c0 h
    refine w_tabIn C 44 dX6_count_1 c0 rfl (by decide) (by decide) rfl (by decide) ?_
    refine w_aload_n C dX6_count_44 rfl 0 rfl ?_
    refine w_getr C dX6_count_45 flX6_10 gX0_0 ?_
    refine w_geti C dX6_count_48 flX6_75 iX1_0 ?_
    exact w_iret C dX6_count_51 h
  have h := ite_f c0 h
  by_cases c1 : a1 = 1
  · have h := ite_t c1 h
    refine w_tabIn C 52 dX6_count_1 c1 rfl (by decide) (by decide) rfl (by decide) ?_
    refine w_aload_n C dX6_count_52 rfl 0 rfl ?_
    refine w_getr C dX6_count_53 flX6_10 gX0_0 ?_
    refine w_geti C dX6_count_56 flX6_124 iX1_6 ?_
    refine p_Si C dX6_count_59 h (fun _ e => mJ6_bitCount_0f7a4 e) lnX6_191 msJ6_bitCount_0f7a4 rfl ⟨Nat.le_of_ble_eq_true rfl, Nat.le_of_ble_eq_true rfl⟩ [] rfl (Nat.le_of_ble_eq_true rfl) (fun v1 h => ?_)
    exact w_iret C dX6_count_62 h
  have h := ite_f c1 h
  by_cases c2 : a1 = 2
  · have h := ite_t c2 h
    refine w_tabIn C 63 dX6_count_1 c2 rfl (by decide) (by decide) rfl (by decide) ?_
    refine w_aload_n C dX6_count_63 rfl 0 rfl ?_
    refine w_getr C dX6_count_64 flX6_10 gX0_0 ?_
    refine w_geti C dX6_count_67 flX6_179 iX1_9 ?_
    exact w_iret C dX6_count_70 h
  have h := ite_f c2 h
  by_cases c3 : a1 = 3
  · have h := ite_t c3 h
    refine w_tabIn C 71 dX6_count_1 c3 rfl (by decide) (by decide) rfl (by decide) ?_
    refine w_aload_n C dX6_count_71 rfl 0 rfl ?_
    refine w_getr C dX6_count_72 flX6_10 gX0_0 ?_
    refine w_geti C dX6_count_75 flX6_212 iX1_11 ?_
    exact w_iret C dX6_count_78 h
  have h := ite_f c3 h
  by_cases c4 : a1 = 4
  · have h := ite_t c4 h
    refine w_tabIn C 79 dX6_count_1 c4 rfl (by decide) (by decide) rfl (by decide) ?_
    refine w_aload_n C dX6_count_79 rfl 0 rfl ?_
    refine w_getr C dX6_count_80 flX6_52 gX0_7 ?_
    refine w_geti C dX6_count_83 flX6_246 iX44_1 ?_
    exact w_iret C dX6_count_86 h
  have h := ite_f c4 h
  by_cases c5 : a1 = 5
  · have h := ite_t c5 h
    refine w_tabIn C 87 dX6_count_1 c5 rfl (by decide) (by decide) rfl (by decide) ?_
    refine w_aload_n C dX6_count_87 rfl 0 rfl ?_
    refine w_getr C dX6_count_88 flX6_10 gX0_0 ?_
    refine p_Vi C dX6_count_91 h (fun _ e => mX4_weightThere_1 e) lnX6_297 mvX4_weightThere bX1 rfl ⟨Nat.le_of_ble_eq_true rfl, Nat.le_of_ble_eq_true rfl⟩ [] rfl (Nat.le_of_ble_eq_true rfl) (fun v2 h => ?_)
    exact w_iret C dX6_count_94 h
  have h := ite_f c5 h
  by_cases c6 : a1 = 6
  · have h := ite_t c6 h
    refine w_tabIn C 95 dX6_count_1 c6 rfl (by decide) (by decide) rfl (by decide) ?_
    refine w_aload_n C dX6_count_95 rfl 0 rfl ?_
    refine w_getr C dX6_count_96 flX6_10 gX0_0 ?_
    refine w_geti C dX6_count_99 flX6_137 iX1_8 ?_
    exact w_iret C dX6_count_102 h
  have h := ite_f c6 h
  refine w_tabOut C 103 dX6_count_1 (by have n0 := lv_neT c0 (a := 0) rfl; have n1 := lv_neT c1 (a := 1) rfl; have n2 := lv_neT c2 (a := 2) rfl; have n3 := lv_neT c3 (a := 3) rfl; have n4 := lv_neT c4 (a := 4) rfl; have n5 := lv_neT c5 (a := 5) rfl; have n6 := lv_neT c6 (a := 6) rfl; omega) (by decide) ?_
  refine w_aload_n C dX6_count_103 rfl 0 rfl ?_
  refine w_iconst (v := 0) C dX6_count_104 (by decide) ?_
  refine w_Vi C dX6_count_105 h (fun _ e => mX6_finding e) lnX6_71 mvX6_finding bX0 rfl ⟨Nat.le_of_ble_eq_true rfl, Nat.le_of_ble_eq_true rfl⟩ [] rfl (Nat.le_of_ble_eq_true rfl) (fun S3 v4 h => ?_)
  exact w_iret C dX6_count_108 h)
def fX6_tear (S : St) : Option (St × Int32) := pl (fun (v1 : Int32) => putz S 0 3 (0) fun S2 => some (S2, v1)) fun J12 => if (S.1 0 3) = 0 then (J12 (0)) else (J12 (1))
set_option maxRecDepth 100000 in
theorem mX6_tear {Y : YT} {S : St} {R : St × Int32} (h : fX6_tear  S  = some R) : Mc VX Y yX6_tear cX6_tear 2 (some .int) 0 0 [rf Y 0] S (some (.int R.2), R.1) :=
  Mc.start [(0, rf Y 0)] rfl pnX6 (Nat.le_of_ble_eq_true rfl) (fun X (C : Ok VX Y X RX6 cX6_tear 2 (some .int)) => by
  unfold fX6_tear at h
  refine w_aload_n C dX6_tear_0 rfl 0 rfl ?_
  refine w_geti C dX6_tear_1 flX6_22 iX0_3 ?_
  refine w_join (fun J12 => ∀ (v1 : Int32), J12 v1 = some R → WS VX Y X 2 0 0 (some (.int R.2), R.1) S 12 [(0, rf Y 0)] [.int v1]) h ?_ (fun J12 hJ12 h => ?_)
  · intro v1 h
    refine w_istore_n C dX6_tear_12 rfl (by decide) [(1, .int v1), (0, rf Y 0)] rfl ?_
    refine w_aload_n C dX6_tear_13 rfl 1 rfl ?_
    refine w_iconst (v := 0) C dX6_tear_14 (by decide) ?_
    refine x_putz C dX6_tear_15 fpX6_22 iX0_3 h (fun S2 h => ?_)
    refine w_iload_n C dX6_tear_18 rfl 0 rfl ?_
    exact w_iret C dX6_tear_19 h
  refine w_if_eq C 11 dX6_tear_4 (by decide) h (fun h => ?_) (fun h => ?_)
  · refine w_iconst (v := 0) C dX6_tear_11 (by decide) ?_
    exact w_sub [0] rfl (hJ12 _ h)
  refine w_iconst (v := 1) C dX6_tear_7 (by decide) ?_
  refine w_goto C 12 dX6_tear_8 (by decide) ?_
  exact w_sub [0] rfl (hJ12 _ h))
def fX4_takeOver (b : Nat) (b1 : Nat) (S : St) : Option (St) := pl (si S b 0 (S.1 b1 0)) fun S1 => cpi S1 (1 + b1) 20 (1 + b) 20 (0) (0) (20) fun S2 => cpi S2 (2 + b1) 20 (2 + b) 20 (0) (0) (20) fun S3 => cpi S3 (3 + b1) 20 (3 + b) 20 (0) (0) (20) fun S4 => cpi S4 (4 + b1) 20 (4 + b) 20 (0) (0) (20) fun S5 => cpi S5 (5 + b1) 20 (5 + b) 20 (0) (0) (20) fun S6 => pl (si S6 b 6 (S6.1 b1 6)) fun S7 => cpi S7 (6 + b1) 5 (6 + b) 5 (0) (0) (5) fun S8 => pl (si S8 b 8 (S8.1 b1 8)) fun S9 => pl (si S9 b 9 (S9.1 b1 9)) fun S10 => cpi S10 (7 + b1) 6 (7 + b) 6 (0) (0) (6) fun S11 => pl (si S11 b 11 (S11.1 b1 11)) fun S12 => cpi S12 (8 + b1) 6 (8 + b) 6 (0) (0) (6) fun S13 => cpi S13 (9 + b1) 72 (9 + b) 72 (0) (0) (72) fun S14 => cpi S14 (10 + b1) 3 (10 + b) 3 (0) (0) (3) fun S15 => some S15
set_option maxRecDepth 100000 in
theorem mX4_takeOver_1_12 {Y : YT} {S : St} {R : St} (h : fX4_takeOver 1 12 S  = some R) : Mc VX Y yX4_takeOver cX4_takeOver 2 none 1 60 [rf Y 1, rf Y 12] S (none, R) :=
  Mc.start [(0, rf Y 1), (1, rf Y 12)] rfl pnX4 (Nat.le_of_ble_eq_true rfl) (fun X (C : Ok VX Y X RX4 cX4_takeOver 2 none) => by
  unfold fX4_takeOver at h
  refine w_aload_n C dX4_takeOver_0 rfl 0 rfl ?_
  refine w_aload_n C dX4_takeOver_1 rfl 1 rfl ?_
  refine w_geti C dX4_takeOver_2 flX4_46 iX12_0 ?_
  refine x_puti C dX4_takeOver_5 fpX4_46 iX1_0 h (fun S1 h => ?_)
  refine w_aload_n C dX4_takeOver_8 rfl 1 rfl ?_
  refine w_getr C dX4_takeOver_9 flX4_9 gX12_1 ?_
  refine w_iconst (v := 0) C dX4_takeOver_12 (by decide) ?_
  refine w_aload_n C dX4_takeOver_13 rfl 0 rfl ?_
  refine w_getr C dX4_takeOver_14 flX4_9 gX1_1 ?_
  refine w_iconst (v := 0) C dX4_takeOver_17 (by decide) ?_
  refine w_bipush (v := 20) C dX4_takeOver_18 (by decide) ?_
  refine x_copyi C dX4_takeOver_20 acX4_49 aX13 aX2 (Nat.le_of_ble_eq_true rfl) (Nat.le_of_ble_eq_true rfl) h (fun S2 h => ?_)
  refine w_aload_n C dX4_takeOver_23 rfl 1 rfl ?_
  refine w_getr C dX4_takeOver_24 flX4_15 gX12_2 ?_
  refine w_iconst (v := 0) C dX4_takeOver_27 (by decide) ?_
  refine w_aload_n C dX4_takeOver_28 rfl 0 rfl ?_
  refine w_getr C dX4_takeOver_29 flX4_15 gX1_2 ?_
  refine w_iconst (v := 0) C dX4_takeOver_32 (by decide) ?_
  refine w_bipush (v := 20) C dX4_takeOver_33 (by decide) ?_
  refine x_copyi C dX4_takeOver_35 acX4_49 aX14 aX3 (Nat.le_of_ble_eq_true rfl) (Nat.le_of_ble_eq_true rfl) h (fun S3 h => ?_)
  refine w_aload_n C dX4_takeOver_38 rfl 1 rfl ?_
  refine w_getr C dX4_takeOver_39 flX4_18 gX12_3 ?_
  refine w_iconst (v := 0) C dX4_takeOver_42 (by decide) ?_
  refine w_aload_n C dX4_takeOver_43 rfl 0 rfl ?_
  refine w_getr C dX4_takeOver_44 flX4_18 gX1_3 ?_
  refine w_iconst (v := 0) C dX4_takeOver_47 (by decide) ?_
  refine w_bipush (v := 20) C dX4_takeOver_48 (by decide) ?_
  refine x_copyi C dX4_takeOver_50 acX4_49 aX15 aX4 (Nat.le_of_ble_eq_true rfl) (Nat.le_of_ble_eq_true rfl) h (fun S4 h => ?_)
  refine w_aload_n C dX4_takeOver_53 rfl 1 rfl ?_
  refine w_getr C dX4_takeOver_54 flX4_21 gX12_4 ?_
  refine w_iconst (v := 0) C dX4_takeOver_57 (by decide) ?_
  refine w_aload_n C dX4_takeOver_58 rfl 0 rfl ?_
  refine w_getr C dX4_takeOver_59 flX4_21 gX1_4 ?_
  refine w_iconst (v := 0) C dX4_takeOver_62 (by decide) ?_
  refine w_bipush (v := 20) C dX4_takeOver_63 (by decide) ?_
  refine x_copyi C dX4_takeOver_65 acX4_49 aX16 aX5 (Nat.le_of_ble_eq_true rfl) (Nat.le_of_ble_eq_true rfl) h (fun S5 h => ?_)
  refine w_aload_n C dX4_takeOver_68 rfl 1 rfl ?_
  refine w_getr C dX4_takeOver_69 flX4_24 gX12_5 ?_
  refine w_iconst (v := 0) C dX4_takeOver_72 (by decide) ?_
  refine w_aload_n C dX4_takeOver_73 rfl 0 rfl ?_
  refine w_getr C dX4_takeOver_74 flX4_24 gX1_5 ?_
  refine w_iconst (v := 0) C dX4_takeOver_77 (by decide) ?_
  refine w_bipush (v := 20) C dX4_takeOver_78 (by decide) ?_
  refine x_copyi C dX4_takeOver_80 acX4_49 aX17 aX6 (Nat.le_of_ble_eq_true rfl) (Nat.le_of_ble_eq_true rfl) h (fun S6 h => ?_)
  refine w_aload_n C dX4_takeOver_83 rfl 0 rfl ?_
  refine w_aload_n C dX4_takeOver_84 rfl 1 rfl ?_
  refine w_geti C dX4_takeOver_85 flX4_55 iX12_6 ?_
  refine x_puti C dX4_takeOver_88 fpX4_55 iX1_6 h (fun S7 h => ?_)
  refine w_aload_n C dX4_takeOver_91 rfl 1 rfl ?_
  refine w_getr C dX4_takeOver_92 flX4_27 gX12_7 ?_
  refine w_iconst (v := 0) C dX4_takeOver_95 (by decide) ?_
  refine w_aload_n C dX4_takeOver_96 rfl 0 rfl ?_
  refine w_getr C dX4_takeOver_97 flX4_27 gX1_7 ?_
  refine w_iconst (v := 0) C dX4_takeOver_100 (by decide) ?_
  refine w_iconst (v := 5) C dX4_takeOver_101 (by decide) ?_
  refine x_copyi C dX4_takeOver_102 acX4_49 aX18 aX7 (Nat.le_of_ble_eq_true rfl) (Nat.le_of_ble_eq_true rfl) h (fun S8 h => ?_)
  refine w_aload_n C dX4_takeOver_105 rfl 0 rfl ?_
  refine w_aload_n C dX4_takeOver_106 rfl 1 rfl ?_
  refine w_geti C dX4_takeOver_107 flX4_42 iX12_8 ?_
  refine x_puti C dX4_takeOver_110 fpX4_42 iX1_8 h (fun S9 h => ?_)
  refine w_aload_n C dX4_takeOver_113 rfl 0 rfl ?_
  refine w_aload_n C dX4_takeOver_114 rfl 1 rfl ?_
  refine w_geti C dX4_takeOver_115 flX4_58 iX12_9 ?_
  refine x_puti C dX4_takeOver_118 fpX4_58 iX1_9 h (fun S10 h => ?_)
  refine w_aload_n C dX4_takeOver_121 rfl 1 rfl ?_
  refine w_getr C dX4_takeOver_122 flX4_30 gX12_10 ?_
  refine w_iconst (v := 0) C dX4_takeOver_125 (by decide) ?_
  refine w_aload_n C dX4_takeOver_126 rfl 0 rfl ?_
  refine w_getr C dX4_takeOver_127 flX4_30 gX1_10 ?_
  refine w_iconst (v := 0) C dX4_takeOver_130 (by decide) ?_
  refine w_bipush (v := 6) C dX4_takeOver_131 (by decide) ?_
  refine x_copyi C dX4_takeOver_133 acX4_49 aX19 aX8 (Nat.le_of_ble_eq_true rfl) (Nat.le_of_ble_eq_true rfl) h (fun S11 h => ?_)
  refine w_aload_n C dX4_takeOver_136 rfl 0 rfl ?_
  refine w_aload_n C dX4_takeOver_137 rfl 1 rfl ?_
  refine w_geti C dX4_takeOver_138 flX4_61 iX12_11 ?_
  refine x_puti C dX4_takeOver_141 fpX4_61 iX1_11 h (fun S12 h => ?_)
  refine w_aload_n C dX4_takeOver_144 rfl 1 rfl ?_
  refine w_getr C dX4_takeOver_145 flX4_33 gX12_12 ?_
  refine w_iconst (v := 0) C dX4_takeOver_148 (by decide) ?_
  refine w_aload_n C dX4_takeOver_149 rfl 0 rfl ?_
  refine w_getr C dX4_takeOver_150 flX4_33 gX1_12 ?_
  refine w_iconst (v := 0) C dX4_takeOver_153 (by decide) ?_
  refine w_bipush (v := 6) C dX4_takeOver_154 (by decide) ?_
  refine x_copyi C dX4_takeOver_156 acX4_49 aX20 aX9 (Nat.le_of_ble_eq_true rfl) (Nat.le_of_ble_eq_true rfl) h (fun S13 h => ?_)
  refine w_aload_n C dX4_takeOver_159 rfl 1 rfl ?_
  refine w_getr C dX4_takeOver_160 flX4_36 gX12_13 ?_
  refine w_iconst (v := 0) C dX4_takeOver_163 (by decide) ?_
  refine w_aload_n C dX4_takeOver_164 rfl 0 rfl ?_
  refine w_getr C dX4_takeOver_165 flX4_36 gX1_13 ?_
  refine w_iconst (v := 0) C dX4_takeOver_168 (by decide) ?_
  refine w_bipush (v := 72) C dX4_takeOver_169 (by decide) ?_
  refine x_copyi C dX4_takeOver_171 acX4_49 aX21 aX10 (Nat.le_of_ble_eq_true rfl) (Nat.le_of_ble_eq_true rfl) h (fun S14 h => ?_)
  refine w_aload_n C dX4_takeOver_174 rfl 1 rfl ?_
  refine w_getr C dX4_takeOver_175 flX4_39 gX12_14 ?_
  refine w_iconst (v := 0) C dX4_takeOver_178 (by decide) ?_
  refine w_aload_n C dX4_takeOver_179 rfl 0 rfl ?_
  refine w_getr C dX4_takeOver_180 flX4_39 gX1_14 ?_
  refine w_iconst (v := 0) C dX4_takeOver_183 (by decide) ?_
  refine w_iconst (v := 3) C dX4_takeOver_184 (by decide) ?_
  refine x_copyi C dX4_takeOver_185 acX4_49 aX22 aX11 (Nat.le_of_ble_eq_true rfl) (Nat.le_of_ble_eq_true rfl) h (fun S15 h => ?_)
  exact w_vret C dX4_takeOver_188 h)
set_option maxRecDepth 100000 in
theorem mX4_takeOver_1_23 {Y : YT} {S : St} {R : St} (h : fX4_takeOver 1 23 S  = some R) : Mc VX Y yX4_takeOver cX4_takeOver 2 none 1 60 [rf Y 1, rf Y 23] S (none, R) :=
  Mc.start [(0, rf Y 1), (1, rf Y 23)] rfl pnX4 (Nat.le_of_ble_eq_true rfl) (fun X (C : Ok VX Y X RX4 cX4_takeOver 2 none) => by
  unfold fX4_takeOver at h
  refine w_aload_n C dX4_takeOver_0 rfl 0 rfl ?_
  refine w_aload_n C dX4_takeOver_1 rfl 1 rfl ?_
  refine w_geti C dX4_takeOver_2 flX4_46 iX23_0 ?_
  refine x_puti C dX4_takeOver_5 fpX4_46 iX1_0 h (fun S1 h => ?_)
  refine w_aload_n C dX4_takeOver_8 rfl 1 rfl ?_
  refine w_getr C dX4_takeOver_9 flX4_9 gX23_1 ?_
  refine w_iconst (v := 0) C dX4_takeOver_12 (by decide) ?_
  refine w_aload_n C dX4_takeOver_13 rfl 0 rfl ?_
  refine w_getr C dX4_takeOver_14 flX4_9 gX1_1 ?_
  refine w_iconst (v := 0) C dX4_takeOver_17 (by decide) ?_
  refine w_bipush (v := 20) C dX4_takeOver_18 (by decide) ?_
  refine x_copyi C dX4_takeOver_20 acX4_49 aX24 aX2 (Nat.le_of_ble_eq_true rfl) (Nat.le_of_ble_eq_true rfl) h (fun S2 h => ?_)
  refine w_aload_n C dX4_takeOver_23 rfl 1 rfl ?_
  refine w_getr C dX4_takeOver_24 flX4_15 gX23_2 ?_
  refine w_iconst (v := 0) C dX4_takeOver_27 (by decide) ?_
  refine w_aload_n C dX4_takeOver_28 rfl 0 rfl ?_
  refine w_getr C dX4_takeOver_29 flX4_15 gX1_2 ?_
  refine w_iconst (v := 0) C dX4_takeOver_32 (by decide) ?_
  refine w_bipush (v := 20) C dX4_takeOver_33 (by decide) ?_
  refine x_copyi C dX4_takeOver_35 acX4_49 aX25 aX3 (Nat.le_of_ble_eq_true rfl) (Nat.le_of_ble_eq_true rfl) h (fun S3 h => ?_)
  refine w_aload_n C dX4_takeOver_38 rfl 1 rfl ?_
  refine w_getr C dX4_takeOver_39 flX4_18 gX23_3 ?_
  refine w_iconst (v := 0) C dX4_takeOver_42 (by decide) ?_
  refine w_aload_n C dX4_takeOver_43 rfl 0 rfl ?_
  refine w_getr C dX4_takeOver_44 flX4_18 gX1_3 ?_
  refine w_iconst (v := 0) C dX4_takeOver_47 (by decide) ?_
  refine w_bipush (v := 20) C dX4_takeOver_48 (by decide) ?_
  refine x_copyi C dX4_takeOver_50 acX4_49 aX26 aX4 (Nat.le_of_ble_eq_true rfl) (Nat.le_of_ble_eq_true rfl) h (fun S4 h => ?_)
  refine w_aload_n C dX4_takeOver_53 rfl 1 rfl ?_
  refine w_getr C dX4_takeOver_54 flX4_21 gX23_4 ?_
  refine w_iconst (v := 0) C dX4_takeOver_57 (by decide) ?_
  refine w_aload_n C dX4_takeOver_58 rfl 0 rfl ?_
  refine w_getr C dX4_takeOver_59 flX4_21 gX1_4 ?_
  refine w_iconst (v := 0) C dX4_takeOver_62 (by decide) ?_
  refine w_bipush (v := 20) C dX4_takeOver_63 (by decide) ?_
  refine x_copyi C dX4_takeOver_65 acX4_49 aX27 aX5 (Nat.le_of_ble_eq_true rfl) (Nat.le_of_ble_eq_true rfl) h (fun S5 h => ?_)
  refine w_aload_n C dX4_takeOver_68 rfl 1 rfl ?_
  refine w_getr C dX4_takeOver_69 flX4_24 gX23_5 ?_
  refine w_iconst (v := 0) C dX4_takeOver_72 (by decide) ?_
  refine w_aload_n C dX4_takeOver_73 rfl 0 rfl ?_
  refine w_getr C dX4_takeOver_74 flX4_24 gX1_5 ?_
  refine w_iconst (v := 0) C dX4_takeOver_77 (by decide) ?_
  refine w_bipush (v := 20) C dX4_takeOver_78 (by decide) ?_
  refine x_copyi C dX4_takeOver_80 acX4_49 aX28 aX6 (Nat.le_of_ble_eq_true rfl) (Nat.le_of_ble_eq_true rfl) h (fun S6 h => ?_)
  refine w_aload_n C dX4_takeOver_83 rfl 0 rfl ?_
  refine w_aload_n C dX4_takeOver_84 rfl 1 rfl ?_
  refine w_geti C dX4_takeOver_85 flX4_55 iX23_6 ?_
  refine x_puti C dX4_takeOver_88 fpX4_55 iX1_6 h (fun S7 h => ?_)
  refine w_aload_n C dX4_takeOver_91 rfl 1 rfl ?_
  refine w_getr C dX4_takeOver_92 flX4_27 gX23_7 ?_
  refine w_iconst (v := 0) C dX4_takeOver_95 (by decide) ?_
  refine w_aload_n C dX4_takeOver_96 rfl 0 rfl ?_
  refine w_getr C dX4_takeOver_97 flX4_27 gX1_7 ?_
  refine w_iconst (v := 0) C dX4_takeOver_100 (by decide) ?_
  refine w_iconst (v := 5) C dX4_takeOver_101 (by decide) ?_
  refine x_copyi C dX4_takeOver_102 acX4_49 aX29 aX7 (Nat.le_of_ble_eq_true rfl) (Nat.le_of_ble_eq_true rfl) h (fun S8 h => ?_)
  refine w_aload_n C dX4_takeOver_105 rfl 0 rfl ?_
  refine w_aload_n C dX4_takeOver_106 rfl 1 rfl ?_
  refine w_geti C dX4_takeOver_107 flX4_42 iX23_8 ?_
  refine x_puti C dX4_takeOver_110 fpX4_42 iX1_8 h (fun S9 h => ?_)
  refine w_aload_n C dX4_takeOver_113 rfl 0 rfl ?_
  refine w_aload_n C dX4_takeOver_114 rfl 1 rfl ?_
  refine w_geti C dX4_takeOver_115 flX4_58 iX23_9 ?_
  refine x_puti C dX4_takeOver_118 fpX4_58 iX1_9 h (fun S10 h => ?_)
  refine w_aload_n C dX4_takeOver_121 rfl 1 rfl ?_
  refine w_getr C dX4_takeOver_122 flX4_30 gX23_10 ?_
  refine w_iconst (v := 0) C dX4_takeOver_125 (by decide) ?_
  refine w_aload_n C dX4_takeOver_126 rfl 0 rfl ?_
  refine w_getr C dX4_takeOver_127 flX4_30 gX1_10 ?_
  refine w_iconst (v := 0) C dX4_takeOver_130 (by decide) ?_
  refine w_bipush (v := 6) C dX4_takeOver_131 (by decide) ?_
  refine x_copyi C dX4_takeOver_133 acX4_49 aX30 aX8 (Nat.le_of_ble_eq_true rfl) (Nat.le_of_ble_eq_true rfl) h (fun S11 h => ?_)
  refine w_aload_n C dX4_takeOver_136 rfl 0 rfl ?_
  refine w_aload_n C dX4_takeOver_137 rfl 1 rfl ?_
  refine w_geti C dX4_takeOver_138 flX4_61 iX23_11 ?_
  refine x_puti C dX4_takeOver_141 fpX4_61 iX1_11 h (fun S12 h => ?_)
  refine w_aload_n C dX4_takeOver_144 rfl 1 rfl ?_
  refine w_getr C dX4_takeOver_145 flX4_33 gX23_12 ?_
  refine w_iconst (v := 0) C dX4_takeOver_148 (by decide) ?_
  refine w_aload_n C dX4_takeOver_149 rfl 0 rfl ?_
  refine w_getr C dX4_takeOver_150 flX4_33 gX1_12 ?_
  refine w_iconst (v := 0) C dX4_takeOver_153 (by decide) ?_
  refine w_bipush (v := 6) C dX4_takeOver_154 (by decide) ?_
  refine x_copyi C dX4_takeOver_156 acX4_49 aX31 aX9 (Nat.le_of_ble_eq_true rfl) (Nat.le_of_ble_eq_true rfl) h (fun S13 h => ?_)
  refine w_aload_n C dX4_takeOver_159 rfl 1 rfl ?_
  refine w_getr C dX4_takeOver_160 flX4_36 gX23_13 ?_
  refine w_iconst (v := 0) C dX4_takeOver_163 (by decide) ?_
  refine w_aload_n C dX4_takeOver_164 rfl 0 rfl ?_
  refine w_getr C dX4_takeOver_165 flX4_36 gX1_13 ?_
  refine w_iconst (v := 0) C dX4_takeOver_168 (by decide) ?_
  refine w_bipush (v := 72) C dX4_takeOver_169 (by decide) ?_
  refine x_copyi C dX4_takeOver_171 acX4_49 aX32 aX10 (Nat.le_of_ble_eq_true rfl) (Nat.le_of_ble_eq_true rfl) h (fun S14 h => ?_)
  refine w_aload_n C dX4_takeOver_174 rfl 1 rfl ?_
  refine w_getr C dX4_takeOver_175 flX4_39 gX23_14 ?_
  refine w_iconst (v := 0) C dX4_takeOver_178 (by decide) ?_
  refine w_aload_n C dX4_takeOver_179 rfl 0 rfl ?_
  refine w_getr C dX4_takeOver_180 flX4_39 gX1_14 ?_
  refine w_iconst (v := 0) C dX4_takeOver_183 (by decide) ?_
  refine w_iconst (v := 3) C dX4_takeOver_184 (by decide) ?_
  refine x_copyi C dX4_takeOver_185 acX4_49 aX33 aX11 (Nat.le_of_ble_eq_true rfl) (Nat.le_of_ble_eq_true rfl) h (fun S15 h => ?_)
  exact w_vret C dX4_takeOver_188 h)
set_option maxRecDepth 100000 in
theorem mX4_takeOver_12_1 {Y : YT} {S : St} {R : St} (h : fX4_takeOver 12 1 S  = some R) : Mc VX Y yX4_takeOver cX4_takeOver 2 none 1 60 [rf Y 12, rf Y 1] S (none, R) :=
  Mc.start [(0, rf Y 12), (1, rf Y 1)] rfl pnX4 (Nat.le_of_ble_eq_true rfl) (fun X (C : Ok VX Y X RX4 cX4_takeOver 2 none) => by
  unfold fX4_takeOver at h
  refine w_aload_n C dX4_takeOver_0 rfl 0 rfl ?_
  refine w_aload_n C dX4_takeOver_1 rfl 1 rfl ?_
  refine w_geti C dX4_takeOver_2 flX4_46 iX1_0 ?_
  refine x_puti C dX4_takeOver_5 fpX4_46 iX12_0 h (fun S1 h => ?_)
  refine w_aload_n C dX4_takeOver_8 rfl 1 rfl ?_
  refine w_getr C dX4_takeOver_9 flX4_9 gX1_1 ?_
  refine w_iconst (v := 0) C dX4_takeOver_12 (by decide) ?_
  refine w_aload_n C dX4_takeOver_13 rfl 0 rfl ?_
  refine w_getr C dX4_takeOver_14 flX4_9 gX12_1 ?_
  refine w_iconst (v := 0) C dX4_takeOver_17 (by decide) ?_
  refine w_bipush (v := 20) C dX4_takeOver_18 (by decide) ?_
  refine x_copyi C dX4_takeOver_20 acX4_49 aX2 aX13 (Nat.le_of_ble_eq_true rfl) (Nat.le_of_ble_eq_true rfl) h (fun S2 h => ?_)
  refine w_aload_n C dX4_takeOver_23 rfl 1 rfl ?_
  refine w_getr C dX4_takeOver_24 flX4_15 gX1_2 ?_
  refine w_iconst (v := 0) C dX4_takeOver_27 (by decide) ?_
  refine w_aload_n C dX4_takeOver_28 rfl 0 rfl ?_
  refine w_getr C dX4_takeOver_29 flX4_15 gX12_2 ?_
  refine w_iconst (v := 0) C dX4_takeOver_32 (by decide) ?_
  refine w_bipush (v := 20) C dX4_takeOver_33 (by decide) ?_
  refine x_copyi C dX4_takeOver_35 acX4_49 aX3 aX14 (Nat.le_of_ble_eq_true rfl) (Nat.le_of_ble_eq_true rfl) h (fun S3 h => ?_)
  refine w_aload_n C dX4_takeOver_38 rfl 1 rfl ?_
  refine w_getr C dX4_takeOver_39 flX4_18 gX1_3 ?_
  refine w_iconst (v := 0) C dX4_takeOver_42 (by decide) ?_
  refine w_aload_n C dX4_takeOver_43 rfl 0 rfl ?_
  refine w_getr C dX4_takeOver_44 flX4_18 gX12_3 ?_
  refine w_iconst (v := 0) C dX4_takeOver_47 (by decide) ?_
  refine w_bipush (v := 20) C dX4_takeOver_48 (by decide) ?_
  refine x_copyi C dX4_takeOver_50 acX4_49 aX4 aX15 (Nat.le_of_ble_eq_true rfl) (Nat.le_of_ble_eq_true rfl) h (fun S4 h => ?_)
  refine w_aload_n C dX4_takeOver_53 rfl 1 rfl ?_
  refine w_getr C dX4_takeOver_54 flX4_21 gX1_4 ?_
  refine w_iconst (v := 0) C dX4_takeOver_57 (by decide) ?_
  refine w_aload_n C dX4_takeOver_58 rfl 0 rfl ?_
  refine w_getr C dX4_takeOver_59 flX4_21 gX12_4 ?_
  refine w_iconst (v := 0) C dX4_takeOver_62 (by decide) ?_
  refine w_bipush (v := 20) C dX4_takeOver_63 (by decide) ?_
  refine x_copyi C dX4_takeOver_65 acX4_49 aX5 aX16 (Nat.le_of_ble_eq_true rfl) (Nat.le_of_ble_eq_true rfl) h (fun S5 h => ?_)
  refine w_aload_n C dX4_takeOver_68 rfl 1 rfl ?_
  refine w_getr C dX4_takeOver_69 flX4_24 gX1_5 ?_
  refine w_iconst (v := 0) C dX4_takeOver_72 (by decide) ?_
  refine w_aload_n C dX4_takeOver_73 rfl 0 rfl ?_
  refine w_getr C dX4_takeOver_74 flX4_24 gX12_5 ?_
  refine w_iconst (v := 0) C dX4_takeOver_77 (by decide) ?_
  refine w_bipush (v := 20) C dX4_takeOver_78 (by decide) ?_
  refine x_copyi C dX4_takeOver_80 acX4_49 aX6 aX17 (Nat.le_of_ble_eq_true rfl) (Nat.le_of_ble_eq_true rfl) h (fun S6 h => ?_)
  refine w_aload_n C dX4_takeOver_83 rfl 0 rfl ?_
  refine w_aload_n C dX4_takeOver_84 rfl 1 rfl ?_
  refine w_geti C dX4_takeOver_85 flX4_55 iX1_6 ?_
  refine x_puti C dX4_takeOver_88 fpX4_55 iX12_6 h (fun S7 h => ?_)
  refine w_aload_n C dX4_takeOver_91 rfl 1 rfl ?_
  refine w_getr C dX4_takeOver_92 flX4_27 gX1_7 ?_
  refine w_iconst (v := 0) C dX4_takeOver_95 (by decide) ?_
  refine w_aload_n C dX4_takeOver_96 rfl 0 rfl ?_
  refine w_getr C dX4_takeOver_97 flX4_27 gX12_7 ?_
  refine w_iconst (v := 0) C dX4_takeOver_100 (by decide) ?_
  refine w_iconst (v := 5) C dX4_takeOver_101 (by decide) ?_
  refine x_copyi C dX4_takeOver_102 acX4_49 aX7 aX18 (Nat.le_of_ble_eq_true rfl) (Nat.le_of_ble_eq_true rfl) h (fun S8 h => ?_)
  refine w_aload_n C dX4_takeOver_105 rfl 0 rfl ?_
  refine w_aload_n C dX4_takeOver_106 rfl 1 rfl ?_
  refine w_geti C dX4_takeOver_107 flX4_42 iX1_8 ?_
  refine x_puti C dX4_takeOver_110 fpX4_42 iX12_8 h (fun S9 h => ?_)
  refine w_aload_n C dX4_takeOver_113 rfl 0 rfl ?_
  refine w_aload_n C dX4_takeOver_114 rfl 1 rfl ?_
  refine w_geti C dX4_takeOver_115 flX4_58 iX1_9 ?_
  refine x_puti C dX4_takeOver_118 fpX4_58 iX12_9 h (fun S10 h => ?_)
  refine w_aload_n C dX4_takeOver_121 rfl 1 rfl ?_
  refine w_getr C dX4_takeOver_122 flX4_30 gX1_10 ?_
  refine w_iconst (v := 0) C dX4_takeOver_125 (by decide) ?_
  refine w_aload_n C dX4_takeOver_126 rfl 0 rfl ?_
  refine w_getr C dX4_takeOver_127 flX4_30 gX12_10 ?_
  refine w_iconst (v := 0) C dX4_takeOver_130 (by decide) ?_
  refine w_bipush (v := 6) C dX4_takeOver_131 (by decide) ?_
  refine x_copyi C dX4_takeOver_133 acX4_49 aX8 aX19 (Nat.le_of_ble_eq_true rfl) (Nat.le_of_ble_eq_true rfl) h (fun S11 h => ?_)
  refine w_aload_n C dX4_takeOver_136 rfl 0 rfl ?_
  refine w_aload_n C dX4_takeOver_137 rfl 1 rfl ?_
  refine w_geti C dX4_takeOver_138 flX4_61 iX1_11 ?_
  refine x_puti C dX4_takeOver_141 fpX4_61 iX12_11 h (fun S12 h => ?_)
  refine w_aload_n C dX4_takeOver_144 rfl 1 rfl ?_
  refine w_getr C dX4_takeOver_145 flX4_33 gX1_12 ?_
  refine w_iconst (v := 0) C dX4_takeOver_148 (by decide) ?_
  refine w_aload_n C dX4_takeOver_149 rfl 0 rfl ?_
  refine w_getr C dX4_takeOver_150 flX4_33 gX12_12 ?_
  refine w_iconst (v := 0) C dX4_takeOver_153 (by decide) ?_
  refine w_bipush (v := 6) C dX4_takeOver_154 (by decide) ?_
  refine x_copyi C dX4_takeOver_156 acX4_49 aX9 aX20 (Nat.le_of_ble_eq_true rfl) (Nat.le_of_ble_eq_true rfl) h (fun S13 h => ?_)
  refine w_aload_n C dX4_takeOver_159 rfl 1 rfl ?_
  refine w_getr C dX4_takeOver_160 flX4_36 gX1_13 ?_
  refine w_iconst (v := 0) C dX4_takeOver_163 (by decide) ?_
  refine w_aload_n C dX4_takeOver_164 rfl 0 rfl ?_
  refine w_getr C dX4_takeOver_165 flX4_36 gX12_13 ?_
  refine w_iconst (v := 0) C dX4_takeOver_168 (by decide) ?_
  refine w_bipush (v := 72) C dX4_takeOver_169 (by decide) ?_
  refine x_copyi C dX4_takeOver_171 acX4_49 aX10 aX21 (Nat.le_of_ble_eq_true rfl) (Nat.le_of_ble_eq_true rfl) h (fun S14 h => ?_)
  refine w_aload_n C dX4_takeOver_174 rfl 1 rfl ?_
  refine w_getr C dX4_takeOver_175 flX4_39 gX1_14 ?_
  refine w_iconst (v := 0) C dX4_takeOver_178 (by decide) ?_
  refine w_aload_n C dX4_takeOver_179 rfl 0 rfl ?_
  refine w_getr C dX4_takeOver_180 flX4_39 gX12_14 ?_
  refine w_iconst (v := 0) C dX4_takeOver_183 (by decide) ?_
  refine w_iconst (v := 3) C dX4_takeOver_184 (by decide) ?_
  refine x_copyi C dX4_takeOver_185 acX4_49 aX11 aX22 (Nat.le_of_ble_eq_true rfl) (Nat.le_of_ble_eq_true rfl) h (fun S15 h => ?_)
  exact w_vret C dX4_takeOver_188 h)
set_option maxRecDepth 100000 in
theorem mX4_takeOver_23_1 {Y : YT} {S : St} {R : St} (h : fX4_takeOver 23 1 S  = some R) : Mc VX Y yX4_takeOver cX4_takeOver 2 none 1 60 [rf Y 23, rf Y 1] S (none, R) :=
  Mc.start [(0, rf Y 23), (1, rf Y 1)] rfl pnX4 (Nat.le_of_ble_eq_true rfl) (fun X (C : Ok VX Y X RX4 cX4_takeOver 2 none) => by
  unfold fX4_takeOver at h
  refine w_aload_n C dX4_takeOver_0 rfl 0 rfl ?_
  refine w_aload_n C dX4_takeOver_1 rfl 1 rfl ?_
  refine w_geti C dX4_takeOver_2 flX4_46 iX1_0 ?_
  refine x_puti C dX4_takeOver_5 fpX4_46 iX23_0 h (fun S1 h => ?_)
  refine w_aload_n C dX4_takeOver_8 rfl 1 rfl ?_
  refine w_getr C dX4_takeOver_9 flX4_9 gX1_1 ?_
  refine w_iconst (v := 0) C dX4_takeOver_12 (by decide) ?_
  refine w_aload_n C dX4_takeOver_13 rfl 0 rfl ?_
  refine w_getr C dX4_takeOver_14 flX4_9 gX23_1 ?_
  refine w_iconst (v := 0) C dX4_takeOver_17 (by decide) ?_
  refine w_bipush (v := 20) C dX4_takeOver_18 (by decide) ?_
  refine x_copyi C dX4_takeOver_20 acX4_49 aX2 aX24 (Nat.le_of_ble_eq_true rfl) (Nat.le_of_ble_eq_true rfl) h (fun S2 h => ?_)
  refine w_aload_n C dX4_takeOver_23 rfl 1 rfl ?_
  refine w_getr C dX4_takeOver_24 flX4_15 gX1_2 ?_
  refine w_iconst (v := 0) C dX4_takeOver_27 (by decide) ?_
  refine w_aload_n C dX4_takeOver_28 rfl 0 rfl ?_
  refine w_getr C dX4_takeOver_29 flX4_15 gX23_2 ?_
  refine w_iconst (v := 0) C dX4_takeOver_32 (by decide) ?_
  refine w_bipush (v := 20) C dX4_takeOver_33 (by decide) ?_
  refine x_copyi C dX4_takeOver_35 acX4_49 aX3 aX25 (Nat.le_of_ble_eq_true rfl) (Nat.le_of_ble_eq_true rfl) h (fun S3 h => ?_)
  refine w_aload_n C dX4_takeOver_38 rfl 1 rfl ?_
  refine w_getr C dX4_takeOver_39 flX4_18 gX1_3 ?_
  refine w_iconst (v := 0) C dX4_takeOver_42 (by decide) ?_
  refine w_aload_n C dX4_takeOver_43 rfl 0 rfl ?_
  refine w_getr C dX4_takeOver_44 flX4_18 gX23_3 ?_
  refine w_iconst (v := 0) C dX4_takeOver_47 (by decide) ?_
  refine w_bipush (v := 20) C dX4_takeOver_48 (by decide) ?_
  refine x_copyi C dX4_takeOver_50 acX4_49 aX4 aX26 (Nat.le_of_ble_eq_true rfl) (Nat.le_of_ble_eq_true rfl) h (fun S4 h => ?_)
  refine w_aload_n C dX4_takeOver_53 rfl 1 rfl ?_
  refine w_getr C dX4_takeOver_54 flX4_21 gX1_4 ?_
  refine w_iconst (v := 0) C dX4_takeOver_57 (by decide) ?_
  refine w_aload_n C dX4_takeOver_58 rfl 0 rfl ?_
  refine w_getr C dX4_takeOver_59 flX4_21 gX23_4 ?_
  refine w_iconst (v := 0) C dX4_takeOver_62 (by decide) ?_
  refine w_bipush (v := 20) C dX4_takeOver_63 (by decide) ?_
  refine x_copyi C dX4_takeOver_65 acX4_49 aX5 aX27 (Nat.le_of_ble_eq_true rfl) (Nat.le_of_ble_eq_true rfl) h (fun S5 h => ?_)
  refine w_aload_n C dX4_takeOver_68 rfl 1 rfl ?_
  refine w_getr C dX4_takeOver_69 flX4_24 gX1_5 ?_
  refine w_iconst (v := 0) C dX4_takeOver_72 (by decide) ?_
  refine w_aload_n C dX4_takeOver_73 rfl 0 rfl ?_
  refine w_getr C dX4_takeOver_74 flX4_24 gX23_5 ?_
  refine w_iconst (v := 0) C dX4_takeOver_77 (by decide) ?_
  refine w_bipush (v := 20) C dX4_takeOver_78 (by decide) ?_
  refine x_copyi C dX4_takeOver_80 acX4_49 aX6 aX28 (Nat.le_of_ble_eq_true rfl) (Nat.le_of_ble_eq_true rfl) h (fun S6 h => ?_)
  refine w_aload_n C dX4_takeOver_83 rfl 0 rfl ?_
  refine w_aload_n C dX4_takeOver_84 rfl 1 rfl ?_
  refine w_geti C dX4_takeOver_85 flX4_55 iX1_6 ?_
  refine x_puti C dX4_takeOver_88 fpX4_55 iX23_6 h (fun S7 h => ?_)
  refine w_aload_n C dX4_takeOver_91 rfl 1 rfl ?_
  refine w_getr C dX4_takeOver_92 flX4_27 gX1_7 ?_
  refine w_iconst (v := 0) C dX4_takeOver_95 (by decide) ?_
  refine w_aload_n C dX4_takeOver_96 rfl 0 rfl ?_
  refine w_getr C dX4_takeOver_97 flX4_27 gX23_7 ?_
  refine w_iconst (v := 0) C dX4_takeOver_100 (by decide) ?_
  refine w_iconst (v := 5) C dX4_takeOver_101 (by decide) ?_
  refine x_copyi C dX4_takeOver_102 acX4_49 aX7 aX29 (Nat.le_of_ble_eq_true rfl) (Nat.le_of_ble_eq_true rfl) h (fun S8 h => ?_)
  refine w_aload_n C dX4_takeOver_105 rfl 0 rfl ?_
  refine w_aload_n C dX4_takeOver_106 rfl 1 rfl ?_
  refine w_geti C dX4_takeOver_107 flX4_42 iX1_8 ?_
  refine x_puti C dX4_takeOver_110 fpX4_42 iX23_8 h (fun S9 h => ?_)
  refine w_aload_n C dX4_takeOver_113 rfl 0 rfl ?_
  refine w_aload_n C dX4_takeOver_114 rfl 1 rfl ?_
  refine w_geti C dX4_takeOver_115 flX4_58 iX1_9 ?_
  refine x_puti C dX4_takeOver_118 fpX4_58 iX23_9 h (fun S10 h => ?_)
  refine w_aload_n C dX4_takeOver_121 rfl 1 rfl ?_
  refine w_getr C dX4_takeOver_122 flX4_30 gX1_10 ?_
  refine w_iconst (v := 0) C dX4_takeOver_125 (by decide) ?_
  refine w_aload_n C dX4_takeOver_126 rfl 0 rfl ?_
  refine w_getr C dX4_takeOver_127 flX4_30 gX23_10 ?_
  refine w_iconst (v := 0) C dX4_takeOver_130 (by decide) ?_
  refine w_bipush (v := 6) C dX4_takeOver_131 (by decide) ?_
  refine x_copyi C dX4_takeOver_133 acX4_49 aX8 aX30 (Nat.le_of_ble_eq_true rfl) (Nat.le_of_ble_eq_true rfl) h (fun S11 h => ?_)
  refine w_aload_n C dX4_takeOver_136 rfl 0 rfl ?_
  refine w_aload_n C dX4_takeOver_137 rfl 1 rfl ?_
  refine w_geti C dX4_takeOver_138 flX4_61 iX1_11 ?_
  refine x_puti C dX4_takeOver_141 fpX4_61 iX23_11 h (fun S12 h => ?_)
  refine w_aload_n C dX4_takeOver_144 rfl 1 rfl ?_
  refine w_getr C dX4_takeOver_145 flX4_33 gX1_12 ?_
  refine w_iconst (v := 0) C dX4_takeOver_148 (by decide) ?_
  refine w_aload_n C dX4_takeOver_149 rfl 0 rfl ?_
  refine w_getr C dX4_takeOver_150 flX4_33 gX23_12 ?_
  refine w_iconst (v := 0) C dX4_takeOver_153 (by decide) ?_
  refine w_bipush (v := 6) C dX4_takeOver_154 (by decide) ?_
  refine x_copyi C dX4_takeOver_156 acX4_49 aX9 aX31 (Nat.le_of_ble_eq_true rfl) (Nat.le_of_ble_eq_true rfl) h (fun S13 h => ?_)
  refine w_aload_n C dX4_takeOver_159 rfl 1 rfl ?_
  refine w_getr C dX4_takeOver_160 flX4_36 gX1_13 ?_
  refine w_iconst (v := 0) C dX4_takeOver_163 (by decide) ?_
  refine w_aload_n C dX4_takeOver_164 rfl 0 rfl ?_
  refine w_getr C dX4_takeOver_165 flX4_36 gX23_13 ?_
  refine w_iconst (v := 0) C dX4_takeOver_168 (by decide) ?_
  refine w_bipush (v := 72) C dX4_takeOver_169 (by decide) ?_
  refine x_copyi C dX4_takeOver_171 acX4_49 aX10 aX32 (Nat.le_of_ble_eq_true rfl) (Nat.le_of_ble_eq_true rfl) h (fun S14 h => ?_)
  refine w_aload_n C dX4_takeOver_174 rfl 1 rfl ?_
  refine w_getr C dX4_takeOver_175 flX4_39 gX1_14 ?_
  refine w_iconst (v := 0) C dX4_takeOver_178 (by decide) ?_
  refine w_aload_n C dX4_takeOver_179 rfl 0 rfl ?_
  refine w_getr C dX4_takeOver_180 flX4_39 gX23_14 ?_
  refine w_iconst (v := 0) C dX4_takeOver_183 (by decide) ?_
  refine w_iconst (v := 3) C dX4_takeOver_184 (by decide) ?_
  refine x_copyi C dX4_takeOver_185 acX4_49 aX11 aX33 (Nat.le_of_ble_eq_true rfl) (Nat.le_of_ble_eq_true rfl) h (fun S15 h => ?_)
  exact w_vret C dX4_takeOver_188 h)
def fX6_undo (S : St) : Option (St × Int32) := if (S.1 0 3) = 0 then (bq (fX6_finding S (3)) fun S2 v3 => some (S2, v3)) else (bv (fX4_takeOver 1 12 S) fun S1 => some (S1, (S1.1 1 0)))
set_option maxRecDepth 100000 in
theorem mX6_undo {Y : YT} {S : St} {R : St × Int32} (h : fX6_undo  S  = some R) : Mc VX Y yX6_undo cX6_undo 1 (some .int) 2 81 [rf Y 0] S (some (.int R.2), R.1) :=
  Mc.start [(0, rf Y 0)] rfl pnX6 (Nat.le_of_ble_eq_true rfl) (fun X (C : Ok VX Y X RX6 cX6_undo 1 (some .int)) => by
  unfold fX6_undo at h
  refine w_aload_n C dX6_undo_0 rfl 0 rfl ?_
  refine w_geti C dX6_undo_1 flX6_22 iX0_3 ?_
  refine w_if_ne C 13 dX6_undo_4 (by decide) h (fun h => ?_) (fun h => ?_)
  · refine w_aload_n C dX6_undo_13 rfl 0 rfl ?_
    refine w_getr C dX6_undo_14 flX6_10 gX0_0 ?_
    refine w_aload_n C dX6_undo_17 rfl 0 rfl ?_
    refine w_getr C dX6_undo_18 flX6_16 gX0_1 ?_
    refine w_Vv C dX6_undo_21 h (fun _ e => mX4_takeOver_1_12 e) lnX6_252 mvX4_takeOver bX1 rfl ⟨Nat.le_of_ble_eq_true rfl, Nat.le_of_ble_eq_true rfl⟩ [] rfl (Nat.le_of_ble_eq_true rfl) (fun S1 h => ?_)
    refine w_aload_n C dX6_undo_24 rfl 0 rfl ?_
    refine w_getr C dX6_undo_25 flX6_10 gX0_0 ?_
    refine w_geti C dX6_undo_28 flX6_75 iX1_0 ?_
    exact w_iret C dX6_undo_31 h
  refine w_aload_n C dX6_undo_7 rfl 0 rfl ?_
  refine w_iconst (v := 3) C dX6_undo_8 (by decide) ?_
  refine w_Vi C dX6_undo_9 h (fun _ e => mX6_finding e) lnX6_71 mvX6_finding bX0 rfl ⟨Nat.le_of_ble_eq_true rfl, Nat.le_of_ble_eq_true rfl⟩ [] rfl (Nat.le_of_ble_eq_true rfl) (fun S2 v3 h => ?_)
  exact w_iret C dX6_undo_12 h)
def fX6_image (S : St) : Option (St × Int32) := bv (fX4_takeOver 12 1 S) fun S1 => putz S1 0 3 (1) fun S2 => some (S2, 1)
set_option maxRecDepth 100000 in
theorem mX6_image {Y : YT} {S : St} {R : St × Int32} (h : fX6_image  S  = some R) : Mc VX Y yX6_image cX6_image 1 (some .int) 2 81 [rf Y 0] S (some (.int R.2), R.1) :=
  Mc.start [(0, rf Y 0)] rfl pnX6 (Nat.le_of_ble_eq_true rfl) (fun X (C : Ok VX Y X RX6 cX6_image 1 (some .int)) => by
  unfold fX6_image at h
  refine w_aload_n C dX6_image_0 rfl 0 rfl ?_
  refine w_getr C dX6_image_1 flX6_16 gX0_1 ?_
  refine w_aload_n C dX6_image_4 rfl 0 rfl ?_
  refine w_getr C dX6_image_5 flX6_10 gX0_0 ?_
  refine w_Vv C dX6_image_8 h (fun _ e => mX4_takeOver_12_1 e) lnX6_252 mvX4_takeOver bX12 rfl ⟨Nat.le_of_ble_eq_true rfl, Nat.le_of_ble_eq_true rfl⟩ [] rfl (Nat.le_of_ble_eq_true rfl) (fun S1 h => ?_)
  refine w_aload_n C dX6_image_11 rfl 0 rfl ?_
  refine w_iconst (v := 1) C dX6_image_12 (by decide) ?_
  refine x_putz C dX6_image_13 fpX6_22 iX0_3 h (fun S2 h => ?_)
  refine w_iconst (v := 1) C dX6_image_16 (by decide) ?_
  exact w_iret C dX6_image_17 h)
def fX0_asItIs (S : St) : Option (St) := ldi S 7 (0) 5 fun v1 => pl (si S 34 1 v1) fun S2 => ldi S2 7 (1) 5 fun v3 => pl (si S2 34 2 v3) fun S4 => pl (si S4 34 3 (S4.1 1 8)) fun S5 => pl (si S5 34 4 (S5.1 1 6)) fun S6 => some S6
set_option maxRecDepth 100000 in
theorem mX0_asItIs {Y : YT} {S : St} {R : St} (h : fX0_asItIs  S  = some R) : Mc VX Y yX0_asItIs cX0_asItIs 1 none 0 0 [rf Y 34] S (none, R) :=
  Mc.start [(0, rf Y 34)] rfl pnX0 (Nat.le_of_ble_eq_true rfl) (fun X (C : Ok VX Y X RX0 cX0_asItIs 1 none) => by
  unfold fX0_asItIs at h
  refine w_aload_n C dX0_asItIs_0 rfl 0 rfl ?_
  refine w_aload_n C dX0_asItIs_1 rfl 0 rfl ?_
  refine w_getr C dX0_asItIs_2 flX0_18 gX34_0 ?_
  refine w_getr C dX0_asItIs_5 flX0_22 gX1_7 ?_
  refine w_iconst (v := 0) C dX0_asItIs_8 (by decide) ?_
  refine x_iald C dX0_asItIs_9 aX7 h (fun v1 h => ?_)
  refine x_puti C dX0_asItIs_10 fpX0_27 iX34_1 h (fun S2 h => ?_)
  refine w_aload_n C dX0_asItIs_13 rfl 0 rfl ?_
  refine w_aload_n C dX0_asItIs_14 rfl 0 rfl ?_
  refine w_getr C dX0_asItIs_15 flX0_18 gX34_0 ?_
  refine w_getr C dX0_asItIs_18 flX0_22 gX1_7 ?_
  refine w_iconst (v := 1) C dX0_asItIs_21 (by decide) ?_
  refine x_iald C dX0_asItIs_22 aX7 h (fun v3 h => ?_)
  refine x_puti C dX0_asItIs_23 fpX0_31 iX34_2 h (fun S4 h => ?_)
  refine w_aload_n C dX0_asItIs_26 rfl 0 rfl ?_
  refine w_aload_n C dX0_asItIs_27 rfl 0 rfl ?_
  refine w_getr C dX0_asItIs_28 flX0_18 gX34_0 ?_
  refine w_geti C dX0_asItIs_31 flX0_34 iX1_8 ?_
  refine x_puti C dX0_asItIs_34 fpX0_37 iX34_3 h (fun S5 h => ?_)
  refine w_aload_n C dX0_asItIs_37 rfl 0 rfl ?_
  refine w_aload_n C dX0_asItIs_38 rfl 0 rfl ?_
  refine w_getr C dX0_asItIs_39 flX0_18 gX34_0 ?_
  refine w_geti C dX0_asItIs_42 flX0_38 iX1_6 ?_
  refine x_puti C dX0_asItIs_45 fpX0_41 iX34_4 h (fun S6 h => ?_)
  exact w_vret C dX0_asItIs_48 h)
def fJ7_fill_53178_L5 (c : Nat) (len : Nat) (a2 : Int32) (v1 : Int32) : Nat → St → Int32 → Option (St)
  | 0, _, _ => none
  | G5 + 1, S2, v3 => if v1 ≤ v3 then (some S2) else (sti S2 c v3 len a2 fun S4 => pl (v3 + 1) fun v5 => fJ7_fill_53178_L5 c len a2 v1 G5 S4 v5)
def fJ7_fill_53178 (F : Nat) (c : Nat) (len : Nat) (S : St) (a2 : Int32) : Option (St) := pl ((Int32.ofNat len)) fun v1 => fJ7_fill_53178_L5 c len a2 v1 F S (0)
set_option maxRecDepth 100000 in
theorem mJ7_fill_53178_35 {Y : YT} {F : Nat} {S : St} {a2 : Int32} {R : St} (h : fJ7_fill_53178 F 35 8 S a2 = some R) : Mc VX Y yJ7_fill_53178 cJ7_fill_53178 4 none 0 0 [rf Y 35, .int a2] S (none, R) :=
  Mc.start [(0, rf Y 35), (1, .int a2)] rfl pnJ7 (Nat.le_of_ble_eq_true rfl) (fun X (C : Ok VX Y X RJ7 cJ7_fill_53178 4 none) => by
  unfold fJ7_fill_53178 at h
  refine w_iconst (v := 0) C dJ7_fill_53178_0 (by decide) ?_
  refine w_istore_n C dJ7_fill_53178_1 rfl (by decide) [(2, .int (0)), (0, rf Y 35), (1, .int a2)] rfl ?_
  refine w_aload_n C dJ7_fill_53178_2 rfl 1 rfl ?_
  refine x_aleni C dJ7_fill_53178_3 aX35 ?_
  refine w_topi h (fun v1 h => ?_)
  refine w_istore_n C dJ7_fill_53178_4 rfl (by decide) [(3, .int v1), (2, .int (0)), (0, rf Y 35), (1, .int a2)] rfl ?_
  have hL5 : ∀ (G5 : Nat) (S2 : St) (v3 : Int32), fJ7_fill_53178_L5 35 8 a2 v1 G5 S2 v3 = some R → WS VX Y X 4 0 0 (none, R) S2 5 [(0, rf Y 35), (1, .int a2), (2, .int v3), (3, .int v1)] [] := by
    intro G5
    induction G5 with
    | zero => intro S2 v3 h; exact nomatch (show (none : Option (St)) = some R from h)
    | succ G5 ih =>
      intro S2 v3 h
      rw [fJ7_fill_53178_L5] at h
      refine w_iload_n C dJ7_fill_53178_5 rfl 2 rfl ?_
      refine w_iload_n C dJ7_fill_53178_6 rfl 3 rfl ?_
      refine w_icmp_ge C 20 dJ7_fill_53178_7 (by decide) h (fun h => ?_) (fun h => ?_)
      · exact w_vret C dJ7_fill_53178_20 h
      refine w_aload_n C dJ7_fill_53178_10 rfl 0 rfl ?_
      refine w_iload_n C dJ7_fill_53178_11 rfl 2 rfl ?_
      refine w_iload_n C dJ7_fill_53178_12 rfl 1 rfl ?_
      refine x_iast C dJ7_fill_53178_13 aX35 h (fun S4 h => ?_)
      refine x_iinc C dJ7_fill_53178_14 2 rfl 1 (by decide) h (by decide) (fun v5 => [(2, .int v5), (0, rf Y 35), (1, .int a2), (3, .int v1)]) (fun _ => rfl) (fun v5 h => ?_)
      refine w_goto C 5 dJ7_fill_53178_17 (by decide) ?_
      exact w_sub [1, 2, 0, 3] rfl (ih _ _ h)
  exact w_sub [2, 3, 1, 0] rfl (hL5 _ _ _ h))
set_option maxRecDepth 100000 in
theorem mJ7_fill_53178_36 {Y : YT} {F : Nat} {S : St} {a2 : Int32} {R : St} (h : fJ7_fill_53178 F 36 8 S a2 = some R) : Mc VX Y yJ7_fill_53178 cJ7_fill_53178 4 none 0 0 [rf Y 36, .int a2] S (none, R) :=
  Mc.start [(0, rf Y 36), (1, .int a2)] rfl pnJ7 (Nat.le_of_ble_eq_true rfl) (fun X (C : Ok VX Y X RJ7 cJ7_fill_53178 4 none) => by
  unfold fJ7_fill_53178 at h
  refine w_iconst (v := 0) C dJ7_fill_53178_0 (by decide) ?_
  refine w_istore_n C dJ7_fill_53178_1 rfl (by decide) [(2, .int (0)), (0, rf Y 36), (1, .int a2)] rfl ?_
  refine w_aload_n C dJ7_fill_53178_2 rfl 1 rfl ?_
  refine x_aleni C dJ7_fill_53178_3 aX36 ?_
  refine w_topi h (fun v1 h => ?_)
  refine w_istore_n C dJ7_fill_53178_4 rfl (by decide) [(3, .int v1), (2, .int (0)), (0, rf Y 36), (1, .int a2)] rfl ?_
  have hL5 : ∀ (G5 : Nat) (S2 : St) (v3 : Int32), fJ7_fill_53178_L5 36 8 a2 v1 G5 S2 v3 = some R → WS VX Y X 4 0 0 (none, R) S2 5 [(0, rf Y 36), (1, .int a2), (2, .int v3), (3, .int v1)] [] := by
    intro G5
    induction G5 with
    | zero => intro S2 v3 h; exact nomatch (show (none : Option (St)) = some R from h)
    | succ G5 ih =>
      intro S2 v3 h
      rw [fJ7_fill_53178_L5] at h
      refine w_iload_n C dJ7_fill_53178_5 rfl 2 rfl ?_
      refine w_iload_n C dJ7_fill_53178_6 rfl 3 rfl ?_
      refine w_icmp_ge C 20 dJ7_fill_53178_7 (by decide) h (fun h => ?_) (fun h => ?_)
      · exact w_vret C dJ7_fill_53178_20 h
      refine w_aload_n C dJ7_fill_53178_10 rfl 0 rfl ?_
      refine w_iload_n C dJ7_fill_53178_11 rfl 2 rfl ?_
      refine w_iload_n C dJ7_fill_53178_12 rfl 1 rfl ?_
      refine x_iast C dJ7_fill_53178_13 aX36 h (fun S4 h => ?_)
      refine x_iinc C dJ7_fill_53178_14 2 rfl 1 (by decide) h (by decide) (fun v5 => [(2, .int v5), (0, rf Y 36), (1, .int a2), (3, .int v1)]) (fun _ => rfl) (fun v5 h => ?_)
      refine w_goto C 5 dJ7_fill_53178_17 (by decide) ?_
      exact w_sub [1, 2, 0, 3] rfl (ih _ _ h)
  exact w_sub [2, 3, 1, 0] rfl (hL5 _ _ _ h))
set_option maxRecDepth 100000 in
theorem mJ7_fill_53178_40 {Y : YT} {F : Nat} {S : St} {a2 : Int32} {R : St} (h : fJ7_fill_53178 F 40 1024 S a2 = some R) : Mc VX Y yJ7_fill_53178 cJ7_fill_53178 4 none 0 0 [rf Y 40, .int a2] S (none, R) :=
  Mc.start [(0, rf Y 40), (1, .int a2)] rfl pnJ7 (Nat.le_of_ble_eq_true rfl) (fun X (C : Ok VX Y X RJ7 cJ7_fill_53178 4 none) => by
  unfold fJ7_fill_53178 at h
  refine w_iconst (v := 0) C dJ7_fill_53178_0 (by decide) ?_
  refine w_istore_n C dJ7_fill_53178_1 rfl (by decide) [(2, .int (0)), (0, rf Y 40), (1, .int a2)] rfl ?_
  refine w_aload_n C dJ7_fill_53178_2 rfl 1 rfl ?_
  refine x_aleni C dJ7_fill_53178_3 aX40 ?_
  refine w_topi h (fun v1 h => ?_)
  refine w_istore_n C dJ7_fill_53178_4 rfl (by decide) [(3, .int v1), (2, .int (0)), (0, rf Y 40), (1, .int a2)] rfl ?_
  have hL5 : ∀ (G5 : Nat) (S2 : St) (v3 : Int32), fJ7_fill_53178_L5 40 1024 a2 v1 G5 S2 v3 = some R → WS VX Y X 4 0 0 (none, R) S2 5 [(0, rf Y 40), (1, .int a2), (2, .int v3), (3, .int v1)] [] := by
    intro G5
    induction G5 with
    | zero => intro S2 v3 h; exact nomatch (show (none : Option (St)) = some R from h)
    | succ G5 ih =>
      intro S2 v3 h
      rw [fJ7_fill_53178_L5] at h
      refine w_iload_n C dJ7_fill_53178_5 rfl 2 rfl ?_
      refine w_iload_n C dJ7_fill_53178_6 rfl 3 rfl ?_
      refine w_icmp_ge C 20 dJ7_fill_53178_7 (by decide) h (fun h => ?_) (fun h => ?_)
      · exact w_vret C dJ7_fill_53178_20 h
      refine w_aload_n C dJ7_fill_53178_10 rfl 0 rfl ?_
      refine w_iload_n C dJ7_fill_53178_11 rfl 2 rfl ?_
      refine w_iload_n C dJ7_fill_53178_12 rfl 1 rfl ?_
      refine x_iast C dJ7_fill_53178_13 aX40 h (fun S4 h => ?_)
      refine x_iinc C dJ7_fill_53178_14 2 rfl 1 (by decide) h (by decide) (fun v5 => [(2, .int v5), (0, rf Y 40), (1, .int a2), (3, .int v1)]) (fun _ => rfl) (fun v5 h => ?_)
      refine w_goto C 5 dJ7_fill_53178_17 (by decide) ?_
      exact w_sub [1, 2, 0, 3] rfl (ih _ _ h)
  exact w_sub [2, 3, 1, 0] rfl (hL5 _ _ _ h))
def fX0_isHere (S : St) (a1 : Int32) : Option (Int32) := if (((S.1 34 4) >>> (a1 &&& 31)) &&& (1)) = (1) then (some (1)) else (some (0))
set_option maxRecDepth 100000 in
theorem mX0_isHere {Y : YT} {S : St} {a1 : Int32} {R : Int32} (h : fX0_isHere  S a1 = some R) : Mc VX Y yX0_isHere cX0_isHere 2 (some .boolean) 0 0 [rf Y 34, .int a1] S (some (.int R), S) :=
  Mc.start [(0, rf Y 34), (1, .int a1)] rfl pnX0 (Nat.le_of_ble_eq_true rfl) (fun X (C : Ok VX Y X RX0 cX0_isHere 2 (some .boolean)) => by
  unfold fX0_isHere at h
  refine w_aload_n C dX0_isHere_0 rfl 0 rfl ?_
  refine w_geti C dX0_isHere_1 flX0_41 iX34_4 ?_
  refine w_iload_n C dX0_isHere_4 rfl 1 rfl ?_
  refine w_ishr C dX0_isHere_5 ?_
  refine w_iconst (v := 1) C dX0_isHere_6 (by decide) ?_
  refine w_iand C dX0_isHere_7 ?_
  refine w_iconst (v := 1) C dX0_isHere_8 (by decide) ?_
  refine w_icmp_ne C 16 dX0_isHere_9 (by decide) h (fun h => ?_) (fun h => ?_)
  · refine w_iconst (v := 0) C dX0_isHere_16 (by decide) ?_
    exact p_zret0 C dX0_isHere_17 rfl h
  refine w_iconst (v := 1) C dX0_isHere_12 (by decide) ?_
  refine w_goto C 17 dX0_isHere_13 (by decide) ?_
  exact p_zret0 C dX0_isHere_17 rfl h)
def fX0_good (S : St) (a1 : Int32) : Option (Int32) := bv (fX0_isHere S a1) fun v1 => if v1 = 0 then (some (0)) else (ldi S 4 a1 20 fun v2 => ldi S 6 a1 20 fun v3 => some ((v2 * ((100) - v3)) / (100)))
set_option maxRecDepth 100000 in
theorem mX0_good {Y : YT} {S : St} {a1 : Int32} {R : Int32} (h : fX0_good  S a1 = some R) : Mc VX Y yX0_good cX0_good 2 (some .int) 1 21 [rf Y 34, .int a1] S (some (.int R), S) :=
  Mc.start [(0, rf Y 34), (1, .int a1)] rfl pnX0 (Nat.le_of_ble_eq_true rfl) (fun X (C : Ok VX Y X RX0 cX0_good 2 (some .int)) => by
  unfold fX0_good at h
  refine w_aload_n C dX0_good_0 rfl 0 rfl ?_
  refine w_iload_n C dX0_good_1 rfl 1 rfl ?_
  refine p_Vi C dX0_good_2 h (fun _ e => mX0_isHere e) lnX0_44 mvX0_isHere bX34 rfl ⟨Nat.le_of_ble_eq_true rfl, Nat.le_of_ble_eq_true rfl⟩ [] rfl (Nat.le_of_ble_eq_true rfl) (fun v1 h => ?_)
  refine w_if_eq C 36 dX0_good_5 (by decide) h (fun h => ?_) (fun h => ?_)
  · refine w_iconst (v := 0) C dX0_good_36 (by decide) ?_
    exact p_iret C dX0_good_37 h
  refine w_aload_n C dX0_good_8 rfl 0 rfl ?_
  refine w_getr C dX0_good_9 flX0_18 gX34_0 ?_
  refine w_getr C dX0_good_12 flX0_48 gX1_3 ?_
  refine w_iload_n C dX0_good_15 rfl 1 rfl ?_
  refine x_iald C dX0_good_16 aX4 h (fun v2 h => ?_)
  refine w_bipush (v := 100) C dX0_good_17 (by decide) ?_
  refine w_aload_n C dX0_good_19 rfl 0 rfl ?_
  refine w_getr C dX0_good_20 flX0_18 gX34_0 ?_
  refine w_getr C dX0_good_23 flX0_51 gX1_5 ?_
  refine w_iload_n C dX0_good_26 rfl 1 rfl ?_
  refine x_iald C dX0_good_27 aX6 h (fun v3 h => ?_)
  refine w_isub C dX0_good_28 ?_
  refine w_imul C dX0_good_29 ?_
  refine w_bipush (v := 100) C dX0_good_30 (by decide) ?_
  refine w_idiv C dX0_good_32 (by decide) ?_
  refine w_goto C 37 dX0_good_33 (by decide) ?_
  exact p_iret C dX0_good_37 h)
def fX0_pushes (S : St) (a1 : Int32) : Option (Int32) := ldi S 2 a1 20 fun v1 => if v1 = 1 then (bv (fX0_good S a1) fun v2 => if v2 ≤ 0 then (some (0)) else (bv (fX0_good S a1) fun v3 => ldi S 7 (3) 5 fun v4 => some (v3 + (v4 / (4))))) else if v1 = 5 then (bv (fX0_isHere S a1) fun v5 => if v5 = 0 then (some (0)) else (ldi S 3 a1 20 fun v6 => if v6 = (S.1 34 2) then (some (S.1 34 1)) else (some (0)))) else (some (0))
set_option maxRecDepth 100000 in
theorem mX0_pushes {Y : YT} {S : St} {a1 : Int32} {R : Int32} (h : fX0_pushes  S a1 = some R) : Mc VX Y yX0_pushes cX0_pushes 2 (some .int) 2 42 [rf Y 34, .int a1] S (some (.int R), S) :=
  Mc.start [(0, rf Y 34), (1, .int a1)] rfl pnX0 (Nat.le_of_ble_eq_true rfl) (fun X (C : Ok VX Y X RX0 cX0_pushes 2 (some .int)) => by
  unfold fX0_pushes at h
  refine w_aload_n C dX0_pushes_0 rfl 0 rfl ?_
  refine w_getr C dX0_pushes_1 flX0_18 gX34_0 ?_
  refine w_getr C dX0_pushes_4 flX0_54 gX1_1 ?_
  refine w_iload_n C dX0_pushes_7 rfl 1 rfl ?_
  refine x_iald C dX0_pushes_8 aX2 h (fun v1 h => ?_)
  by_cases c1 : v1 = 1
  · have h := ite_t c1 h
    refine w_look (off := 27) C 36 dX0_pushes_9 (by decide) (by first | (rw [c1]; done) | (rw [c1]; rfl)) (by decide) ?_
    refine w_aload_n C dX0_pushes_36 rfl 0 rfl ?_
    refine w_iload_n C dX0_pushes_37 rfl 1 rfl ?_
    refine p_Vi C dX0_pushes_38 h (fun _ e => mX0_good e) lnX0_57 mvX0_good bX34 rfl ⟨Nat.le_of_ble_eq_true rfl, Nat.le_of_ble_eq_true rfl⟩ [] rfl (Nat.le_of_ble_eq_true rfl) (fun v2 h => ?_)
    refine w_if_le C 64 dX0_pushes_41 (by decide) h (fun h => ?_) (fun h => ?_)
    · refine w_iconst (v := 0) C dX0_pushes_64 (by decide) ?_
      exact p_iret C dX0_pushes_65 h
    refine w_aload_n C dX0_pushes_44 rfl 0 rfl ?_
    refine w_iload_n C dX0_pushes_45 rfl 1 rfl ?_
    refine p_Vi C dX0_pushes_46 h (fun _ e => mX0_good e) lnX0_57 mvX0_good bX34 rfl ⟨Nat.le_of_ble_eq_true rfl, Nat.le_of_ble_eq_true rfl⟩ [] rfl (Nat.le_of_ble_eq_true rfl) (fun v3 h => ?_)
    refine w_aload_n C dX0_pushes_49 rfl 0 rfl ?_
    refine w_getr C dX0_pushes_50 flX0_18 gX34_0 ?_
    refine w_getr C dX0_pushes_53 flX0_22 gX1_7 ?_
    refine w_iconst (v := 3) C dX0_pushes_56 (by decide) ?_
    refine x_iald C dX0_pushes_57 aX7 h (fun v4 h => ?_)
    refine w_iconst (v := 4) C dX0_pushes_58 (by decide) ?_
    refine w_idiv C dX0_pushes_59 (by decide) ?_
    refine w_iadd C dX0_pushes_60 ?_
    refine w_goto C 65 dX0_pushes_61 (by decide) ?_
    exact p_iret C dX0_pushes_65 h
  have h := ite_f c1 h
  by_cases c5 : v1 = 5
  · have h := ite_t c5 h
    refine w_look (off := 57) C 66 dX0_pushes_9 (by decide) (by first | (rw [c5]; done) | (rw [c5]; rfl)) (by decide) ?_
    refine w_aload_n C dX0_pushes_66 rfl 0 rfl ?_
    refine w_iload_n C dX0_pushes_67 rfl 1 rfl ?_
    refine p_Vi C dX0_pushes_68 h (fun _ e => mX0_isHere e) lnX0_44 mvX0_isHere bX34 rfl ⟨Nat.le_of_ble_eq_true rfl, Nat.le_of_ble_eq_true rfl⟩ [] rfl (Nat.le_of_ble_eq_true rfl) (fun v5 h => ?_)
    refine w_if_eq C 97 dX0_pushes_71 (by decide) h (fun h => ?_) (fun h => ?_)
    · refine w_iconst (v := 0) C dX0_pushes_97 (by decide) ?_
      exact p_iret C dX0_pushes_98 h
    refine w_aload_n C dX0_pushes_74 rfl 0 rfl ?_
    refine w_getr C dX0_pushes_75 flX0_18 gX34_0 ?_
    refine w_getr C dX0_pushes_78 flX0_61 gX1_2 ?_
    refine w_iload_n C dX0_pushes_81 rfl 1 rfl ?_
    refine x_iald C dX0_pushes_82 aX3 h (fun v6 h => ?_)
    refine w_aload_n C dX0_pushes_83 rfl 0 rfl ?_
    refine w_geti C dX0_pushes_84 flX0_31 iX34_2 ?_
    refine w_icmp_ne C 97 dX0_pushes_87 (by decide) h (fun h => ?_) (fun h => ?_)
    · refine w_iconst (v := 0) C dX0_pushes_97 (by decide) ?_
      exact p_iret C dX0_pushes_98 h
    refine w_aload_n C dX0_pushes_90 rfl 0 rfl ?_
    refine w_geti C dX0_pushes_91 flX0_27 iX34_1 ?_
    refine w_goto C 98 dX0_pushes_94 (by decide) ?_
    exact p_iret C dX0_pushes_98 h
  have h := ite_f c5 h
  refine w_look (off := 90) C 99 dX0_pushes_9 (by decide) (by show Op.lookupswitch.offset [(1, 27), (5, 57)] 90 _ = _; rw [lv_osw c1 (a := 1) rfl, lv_osw c5 (a := 5) rfl]; rfl) (by decide) ?_
  refine w_iconst (v := 0) C dX0_pushes_99 (by decide) ?_
  exact p_iret C dX0_pushes_100 h)
def fX0_drawnHold (S : St) (a1 : Int32) : Option (Int32) := bv (fX0_good S a1) fun v1 => some ((v1 * (S.1 34 3)) / (20))
set_option maxRecDepth 100000 in
theorem mX0_drawnHold {Y : YT} {S : St} {a1 : Int32} {R : Int32} (h : fX0_drawnHold  S a1 = some R) : Mc VX Y yX0_drawnHold cX0_drawnHold 2 (some .int) 2 42 [rf Y 34, .int a1] S (some (.int R), S) :=
  Mc.start [(0, rf Y 34), (1, .int a1)] rfl pnX0 (Nat.le_of_ble_eq_true rfl) (fun X (C : Ok VX Y X RX0 cX0_drawnHold 2 (some .int)) => by
  unfold fX0_drawnHold at h
  refine w_aload_n C dX0_drawnHold_0 rfl 0 rfl ?_
  refine w_iload_n C dX0_drawnHold_1 rfl 1 rfl ?_
  refine p_Vi C dX0_drawnHold_2 h (fun _ e => mX0_good e) lnX0_57 mvX0_good bX34 rfl ⟨Nat.le_of_ble_eq_true rfl, Nat.le_of_ble_eq_true rfl⟩ [] rfl (Nat.le_of_ble_eq_true rfl) (fun v1 h => ?_)
  refine w_aload_n C dX0_drawnHold_5 rfl 0 rfl ?_
  refine w_geti C dX0_drawnHold_6 flX0_37 iX34_3 ?_
  refine w_imul C dX0_drawnHold_9 ?_
  refine w_bipush (v := 20) C dX0_drawnHold_10 (by decide) ?_
  refine w_idiv C dX0_drawnHold_12 (by decide) ?_
  exact p_iret C dX0_drawnHold_13 h)
def fX0_holds (S : St) (a1 : Int32) : Option (Int32) := ldi S 2 a1 20 fun v1 => if v1 = 2 then (bv (fX0_drawnHold S a1) fun v2 => some v2) else if v1 = 3 then (bv (fX0_good S a1) fun v3 => if v3 ≤ 0 then (some (0)) else (ldi S 5 a1 20 fun v4 => some v4)) else if v1 = 4 then (bv (fX0_good S a1) fun v5 => some (v5 / (10))) else if v1 = 5 then (bv (fX0_good S a1) fun v6 => some (v6 / (10))) else if v1 = 6 then (bv (fX0_drawnHold S a1) fun v7 => ldi S 7 (2) 5 fun v8 => bv (fX0_drawnHold S a1) fun v9 => some (v7 - ((v8 * v9) / (10)))) else (some (0))
set_option maxRecDepth 100000 in
theorem mX0_holds {Y : YT} {S : St} {a1 : Int32} {R : Int32} (h : fX0_holds  S a1 = some R) : Mc VX Y yX0_holds cX0_holds 2 (some .int) 3 63 [rf Y 34, .int a1] S (some (.int R), S) :=
  Mc.start [(0, rf Y 34), (1, .int a1)] rfl pnX0 (Nat.le_of_ble_eq_true rfl) (fun X (C : Ok VX Y X RX0 cX0_holds 2 (some .int)) => by
  unfold fX0_holds at h
  refine w_aload_n C dX0_holds_0 rfl 0 rfl ?_
  refine w_getr C dX0_holds_1 flX0_18 gX34_0 ?_
  refine w_getr C dX0_holds_4 flX0_54 gX1_1 ?_
  refine w_iload_n C dX0_holds_7 rfl 1 rfl ?_
  refine x_iald C dX0_holds_8 aX2 h (fun v1 h => ?_)
  by_cases c2 : v1 = 2
  · have h := ite_t c2 h
    refine w_tabIn C 44 dX0_holds_9 c2 rfl (by decide) (by decide) rfl (by decide) ?_
    refine w_aload_n C dX0_holds_44 rfl 0 rfl ?_
    refine w_iload_n C dX0_holds_45 rfl 1 rfl ?_
    refine p_Vi C dX0_holds_46 h (fun _ e => mX0_drawnHold e) lnX0_64 mvX0_drawnHold bX34 rfl ⟨Nat.le_of_ble_eq_true rfl, Nat.le_of_ble_eq_true rfl⟩ [] rfl (Nat.le_of_ble_eq_true rfl) (fun v2 h => ?_)
    exact p_iret C dX0_holds_49 h
  have h := ite_f c2 h
  by_cases c3 : v1 = 3
  · have h := ite_t c3 h
    refine w_tabIn C 75 dX0_holds_9 c3 rfl (by decide) (by decide) rfl (by decide) ?_
    refine w_aload_n C dX0_holds_75 rfl 0 rfl ?_
    refine w_iload_n C dX0_holds_76 rfl 1 rfl ?_
    refine p_Vi C dX0_holds_77 h (fun _ e => mX0_good e) lnX0_57 mvX0_good bX34 rfl ⟨Nat.le_of_ble_eq_true rfl, Nat.le_of_ble_eq_true rfl⟩ [] rfl (Nat.le_of_ble_eq_true rfl) (fun v3 h => ?_)
    refine w_if_le C 95 dX0_holds_80 (by decide) h (fun h => ?_) (fun h => ?_)
    · refine w_iconst (v := 0) C dX0_holds_95 (by decide) ?_
      exact p_iret C dX0_holds_96 h
    refine w_aload_n C dX0_holds_83 rfl 0 rfl ?_
    refine w_getr C dX0_holds_84 flX0_18 gX34_0 ?_
    refine w_getr C dX0_holds_87 flX0_67 gX1_4 ?_
    refine w_iload_n C dX0_holds_90 rfl 1 rfl ?_
    refine x_iald C dX0_holds_91 aX5 h (fun v4 h => ?_)
    refine w_goto C 96 dX0_holds_92 (by decide) ?_
    exact p_iret C dX0_holds_96 h
  have h := ite_f c3 h
  by_cases c4 : v1 = 4
  · have h := ite_t c4 h
    refine w_tabIn C 97 dX0_holds_9 c4 rfl (by decide) (by decide) rfl (by decide) ?_
    refine w_aload_n C dX0_holds_97 rfl 0 rfl ?_
    refine w_iload_n C dX0_holds_98 rfl 1 rfl ?_
    refine p_Vi C dX0_holds_99 h (fun _ e => mX0_good e) lnX0_57 mvX0_good bX34 rfl ⟨Nat.le_of_ble_eq_true rfl, Nat.le_of_ble_eq_true rfl⟩ [] rfl (Nat.le_of_ble_eq_true rfl) (fun v5 h => ?_)
    refine w_bipush (v := 10) C dX0_holds_102 (by decide) ?_
    refine w_idiv C dX0_holds_104 (by decide) ?_
    exact p_iret C dX0_holds_105 h
  have h := ite_f c4 h
  by_cases c5 : v1 = 5
  · have h := ite_t c5 h
    refine w_tabIn C 97 dX0_holds_9 c5 rfl (by decide) (by decide) rfl (by decide) ?_
    refine w_aload_n C dX0_holds_97 rfl 0 rfl ?_
    refine w_iload_n C dX0_holds_98 rfl 1 rfl ?_
    refine p_Vi C dX0_holds_99 h (fun _ e => mX0_good e) lnX0_57 mvX0_good bX34 rfl ⟨Nat.le_of_ble_eq_true rfl, Nat.le_of_ble_eq_true rfl⟩ [] rfl (Nat.le_of_ble_eq_true rfl) (fun v6 h => ?_)
    refine w_bipush (v := 10) C dX0_holds_102 (by decide) ?_
    refine w_idiv C dX0_holds_104 (by decide) ?_
    exact p_iret C dX0_holds_105 h
  have h := ite_f c5 h
  by_cases c6 : v1 = 6
  · have h := ite_t c6 h
    refine w_tabIn C 50 dX0_holds_9 c6 rfl (by decide) (by decide) rfl (by decide) ?_
    refine w_aload_n C dX0_holds_50 rfl 0 rfl ?_
    refine w_iload_n C dX0_holds_51 rfl 1 rfl ?_
    refine p_Vi C dX0_holds_52 h (fun _ e => mX0_drawnHold e) lnX0_64 mvX0_drawnHold bX34 rfl ⟨Nat.le_of_ble_eq_true rfl, Nat.le_of_ble_eq_true rfl⟩ [] rfl (Nat.le_of_ble_eq_true rfl) (fun v7 h => ?_)
    refine w_aload_n C dX0_holds_55 rfl 0 rfl ?_
    refine w_getr C dX0_holds_56 flX0_18 gX34_0 ?_
    refine w_getr C dX0_holds_59 flX0_22 gX1_7 ?_
    refine w_iconst (v := 2) C dX0_holds_62 (by decide) ?_
    refine x_iald C dX0_holds_63 aX7 h (fun v8 h => ?_)
    refine w_aload_n C dX0_holds_64 rfl 0 rfl ?_
    refine w_iload_n C dX0_holds_65 rfl 1 rfl ?_
    refine p_Vi C dX0_holds_66 h (fun _ e => mX0_drawnHold e) lnX0_64 mvX0_drawnHold bX34 rfl ⟨Nat.le_of_ble_eq_true rfl, Nat.le_of_ble_eq_true rfl⟩ [.int v8, .int v7] rfl (Nat.le_of_ble_eq_true rfl) (fun v9 h => ?_)
    refine w_imul C dX0_holds_69 ?_
    refine w_bipush (v := 10) C dX0_holds_70 (by decide) ?_
    refine w_idiv C dX0_holds_72 (by decide) ?_
    refine w_isub C dX0_holds_73 ?_
    exact p_iret C dX0_holds_74 h
  have h := ite_f c6 h
  refine w_tabOut C 106 dX0_holds_9 (by have n2 := lv_neT c2 (a := 2) rfl; have n3 := lv_neT c3 (a := 3) rfl; have n4 := lv_neT c4 (a := 4) rfl; have n5 := lv_neT c5 (a := 5) rfl; have n6 := lv_neT c6 (a := 6) rfl; omega) (by decide) ?_
  refine w_iconst (v := 0) C dX0_holds_106 (by decide) ?_
  exact p_iret C dX0_holds_107 h)
def fX0_gather_L18  : Nat → St → Int32 → Option (St)
  | 0, _, _ => none
  | G18 + 1, S3, v4 => if (S3.1 1 0) ≤ v4 then (some S3) else (ldi S3 3 v4 20 fun v5 => ldi S3 35 v5 8 fun v6 => bv (fX0_pushes S3 v4) fun v7 => sti S3 35 v5 8 (v6 + v7) fun S8 => ldi S8 3 v4 20 fun v9 => ldi S8 36 v9 8 fun v10 => bv (fX0_holds S8 v4) fun v11 => sti S8 36 v9 8 (v10 + v11) fun S12 => pl (v4 + 1) fun v13 => fX0_gather_L18 G18 S12 v13)
def fX0_gather (F : Nat) (S : St) : Option (St) := bv (fJ7_fill_53178 F 35 8 S (0)) fun S1 => bv (fJ7_fill_53178 F 36 8 S1 (0)) fun S2 => fX0_gather_L18 F S2 (0)
set_option maxRecDepth 100000 in
theorem mX0_gather {Y : YT} {F : Nat} {S : St} {R : St} (h : fX0_gather F S  = some R) : Mc VX Y yX0_gather cX0_gather 2 none 4 84 [rf Y 34] S (none, R) :=
  Mc.start [(0, rf Y 34)] rfl pnX0 (Nat.le_of_ble_eq_true rfl) (fun X (C : Ok VX Y X RX0 cX0_gather 2 none) => by
  unfold fX0_gather at h
  refine w_aload_n C dX0_gather_0 rfl 0 rfl ?_
  refine w_getr C dX0_gather_1 flX0_9 gX34_5 ?_
  refine w_iconst (v := 0) C dX0_gather_4 (by decide) ?_
  refine w_Sv C dX0_gather_5 h (fun _ e => mJ7_fill_53178_35 e) lnX0_79 msJ7_fill_53178 rfl ⟨Nat.le_of_ble_eq_true rfl, Nat.le_of_ble_eq_true rfl⟩ [] rfl (Nat.le_of_ble_eq_true rfl) (fun S1 h => ?_)
  refine w_aload_n C dX0_gather_8 rfl 0 rfl ?_
  refine w_getr C dX0_gather_9 flX0_15 gX34_6 ?_
  refine w_iconst (v := 0) C dX0_gather_12 (by decide) ?_
  refine w_Sv C dX0_gather_13 h (fun _ e => mJ7_fill_53178_36 e) lnX0_79 msJ7_fill_53178 rfl ⟨Nat.le_of_ble_eq_true rfl, Nat.le_of_ble_eq_true rfl⟩ [] rfl (Nat.le_of_ble_eq_true rfl) (fun S2 h => ?_)
  refine w_iconst (v := 0) C dX0_gather_16 (by decide) ?_
  refine w_istore_n C dX0_gather_17 rfl (by decide) [(1, .int (0)), (0, rf Y 34)] rfl ?_
  have hL18 : ∀ (G18 : Nat) (S3 : St) (v4 : Int32), fX0_gather_L18 G18 S3 v4 = some R → WS VX Y X 2 4 84 (none, R) S3 18 [(0, rf Y 34), (1, .int v4)] [] := by
    intro G18
    induction G18 with
    | zero => intro S3 v4 h; exact nomatch (show (none : Option (St)) = some R from h)
    | succ G18 ih =>
      intro S3 v4 h
      rw [fX0_gather_L18] at h
      refine w_iload_n C dX0_gather_18 rfl 1 rfl ?_
      refine w_aload_n C dX0_gather_19 rfl 0 rfl ?_
      refine w_getr C dX0_gather_20 flX0_18 gX34_0 ?_
      refine w_geti C dX0_gather_23 flX0_85 iX1_0 ?_
      refine w_icmp_ge C 79 dX0_gather_26 (by decide) h (fun h => ?_) (fun h => ?_)
      · exact w_vret C dX0_gather_79 h
      refine w_aload_n C dX0_gather_29 rfl 0 rfl ?_
      refine w_getr C dX0_gather_30 flX0_9 gX34_5 ?_
      refine w_aload_n C dX0_gather_33 rfl 0 rfl ?_
      refine w_getr C dX0_gather_34 flX0_18 gX34_0 ?_
      refine w_getr C dX0_gather_37 flX0_61 gX1_2 ?_
      refine w_iload_n C dX0_gather_40 rfl 1 rfl ?_
      refine x_iald C dX0_gather_41 aX3 h (fun v5 h => ?_)
      refine w_dup2 C dX0_gather_42 rfl rfl ?_
      refine x_iald C dX0_gather_43 aX35 h (fun v6 h => ?_)
      refine w_aload_n C dX0_gather_44 rfl 0 rfl ?_
      refine w_iload_n C dX0_gather_45 rfl 1 rfl ?_
      refine p_Vi C dX0_gather_46 h (fun _ e => mX0_pushes e) lnX0_88 mvX0_pushes bX34 rfl ⟨Nat.le_of_ble_eq_true rfl, Nat.le_of_ble_eq_true rfl⟩ [.int v6, .int v5, rf Y 35] rfl (Nat.le_of_ble_eq_true rfl) (fun v7 h => ?_)
      refine w_iadd C dX0_gather_49 ?_
      refine x_iast C dX0_gather_50 aX35 h (fun S8 h => ?_)
      refine w_aload_n C dX0_gather_51 rfl 0 rfl ?_
      refine w_getr C dX0_gather_52 flX0_15 gX34_6 ?_
      refine w_aload_n C dX0_gather_55 rfl 0 rfl ?_
      refine w_getr C dX0_gather_56 flX0_18 gX34_0 ?_
      refine w_getr C dX0_gather_59 flX0_61 gX1_2 ?_
      refine w_iload_n C dX0_gather_62 rfl 1 rfl ?_
      refine x_iald C dX0_gather_63 aX3 h (fun v9 h => ?_)
      refine w_dup2 C dX0_gather_64 rfl rfl ?_
      refine x_iald C dX0_gather_65 aX36 h (fun v10 h => ?_)
      refine w_aload_n C dX0_gather_66 rfl 0 rfl ?_
      refine w_iload_n C dX0_gather_67 rfl 1 rfl ?_
      refine p_Vi C dX0_gather_68 h (fun _ e => mX0_holds e) lnX0_91 mvX0_holds bX34 rfl ⟨Nat.le_of_ble_eq_true rfl, Nat.le_of_ble_eq_true rfl⟩ [.int v10, .int v9, rf Y 36] rfl (Nat.le_of_ble_eq_true rfl) (fun v11 h => ?_)
      refine w_iadd C dX0_gather_71 ?_
      refine x_iast C dX0_gather_72 aX36 h (fun S12 h => ?_)
      refine x_iinc C dX0_gather_73 1 rfl 1 (by decide) h (by decide) (fun v13 => [(1, .int v13), (0, rf Y 34)]) (fun _ => rfl) (fun v13 h => ?_)
      refine w_goto C 18 dX0_gather_76 (by decide) ?_
      exact w_sub [1, 0] rfl (ih _ _ h)
  exact w_sub [1, 0] rfl (hL18 _ _ _ h))
def fX0_hold (S : St) (a1 : Int32) : Option (Int32) := ldi S 36 ((a1 + (1)) - (a1 + (1)) / (8) * (8)) 8 fun v1 => ldi S 36 (((a1 + (8)) - (1)) - ((a1 + (8)) - (1)) / (8) * (8)) 8 fun v2 => pl ((v1 + v2)) fun v3 => ldi S 36 a1 8 fun v4 => some (v4 + (v3 / (2)))
set_option maxRecDepth 100000 in
theorem mX0_hold {Y : YT} {S : St} {a1 : Int32} {R : Int32} (h : fX0_hold  S a1 = some R) : Mc VX Y yX0_hold cX0_hold 3 (some .int) 0 0 [rf Y 34, .int a1] S (some (.int R), S) :=
  Mc.start [(0, rf Y 34), (1, .int a1)] rfl pnX0 (Nat.le_of_ble_eq_true rfl) (fun X (C : Ok VX Y X RX0 cX0_hold 3 (some .int)) => by
  unfold fX0_hold at h
  refine w_aload_n C dX0_hold_0 rfl 0 rfl ?_
  refine w_getr C dX0_hold_1 flX0_15 gX34_6 ?_
  refine w_iload_n C dX0_hold_4 rfl 1 rfl ?_
  refine w_iconst (v := 1) C dX0_hold_5 (by decide) ?_
  refine w_iadd C dX0_hold_6 ?_
  refine w_bipush (v := 8) C dX0_hold_7 (by decide) ?_
  refine w_irem C dX0_hold_9 (by decide) ?_
  refine x_iald C dX0_hold_10 aX36 h (fun v1 h => ?_)
  refine w_aload_n C dX0_hold_11 rfl 0 rfl ?_
  refine w_getr C dX0_hold_12 flX0_15 gX34_6 ?_
  refine w_iload_n C dX0_hold_15 rfl 1 rfl ?_
  refine w_bipush (v := 8) C dX0_hold_16 (by decide) ?_
  refine w_iadd C dX0_hold_18 ?_
  refine w_iconst (v := 1) C dX0_hold_19 (by decide) ?_
  refine w_isub C dX0_hold_20 ?_
  refine w_bipush (v := 8) C dX0_hold_21 (by decide) ?_
  refine w_irem C dX0_hold_23 (by decide) ?_
  refine x_iald C dX0_hold_24 aX36 h (fun v2 h => ?_)
  refine w_iadd C dX0_hold_25 ?_
  refine w_topi h (fun v3 h => ?_)
  refine w_istore_n C dX0_hold_26 rfl (by decide) [(2, .int v3), (0, rf Y 34), (1, .int a1)] rfl ?_
  refine w_aload_n C dX0_hold_27 rfl 1 rfl ?_
  refine w_getr C dX0_hold_28 flX0_15 gX34_6 ?_
  refine w_iload_n C dX0_hold_31 rfl 2 rfl ?_
  refine x_iald C dX0_hold_32 aX36 h (fun v4 h => ?_)
  refine w_iload_n C dX0_hold_33 rfl 0 rfl ?_
  refine w_iconst (v := 2) C dX0_hold_34 (by decide) ?_
  refine w_idiv C dX0_hold_35 (by decide) ?_
  refine w_iadd C dX0_hold_36 ?_
  exact p_iret C dX0_hold_37 h)
def fX0_strain (S : St) (a1 : Int32) : Option (Int32) := if a1 = (((S.1 34 2) + (4)) - ((S.1 34 2) + (4)) / (8) * (8)) then (ldi S 35 a1 8 fun v2 => some (v2 + (S.1 34 1))) else (ldi S 35 a1 8 fun v1 => if a1 = (S.1 34 2) then (some (v1 + ((S.1 34 1) / (2)))) else (some (v1 + ((S.1 34 1) / (4)))))
set_option maxRecDepth 100000 in
theorem mX0_strain {Y : YT} {S : St} {a1 : Int32} {R : Int32} (h : fX0_strain  S a1 = some R) : Mc VX Y yX0_strain cX0_strain 2 (some .int) 0 0 [rf Y 34, .int a1] S (some (.int R), S) :=
  Mc.start [(0, rf Y 34), (1, .int a1)] rfl pnX0 (Nat.le_of_ble_eq_true rfl) (fun X (C : Ok VX Y X RX0 cX0_strain 2 (some .int)) => by
  unfold fX0_strain at h
  refine w_iload_n C dX0_strain_0 rfl 1 rfl ?_
  refine w_aload_n C dX0_strain_1 rfl 0 rfl ?_
  refine w_geti C dX0_strain_2 flX0_31 iX34_2 ?_
  refine w_iconst (v := 4) C dX0_strain_5 (by decide) ?_
  refine w_iadd C dX0_strain_6 ?_
  refine w_bipush (v := 8) C dX0_strain_7 (by decide) ?_
  refine w_irem C dX0_strain_9 (by decide) ?_
  refine w_icmp_ne C 25 dX0_strain_10 (by decide) h (fun h => ?_) (fun h => ?_)
  · refine w_aload_n C dX0_strain_25 rfl 0 rfl ?_
    refine w_getr C dX0_strain_26 flX0_9 gX34_5 ?_
    refine w_iload_n C dX0_strain_29 rfl 1 rfl ?_
    refine x_iald C dX0_strain_30 aX35 h (fun v1 h => ?_)
    refine w_iload_n C dX0_strain_31 rfl 1 rfl ?_
    refine w_aload_n C dX0_strain_32 rfl 0 rfl ?_
    refine w_geti C dX0_strain_33 flX0_31 iX34_2 ?_
    refine w_icmp_ne C 48 dX0_strain_36 (by decide) h (fun h => ?_) (fun h => ?_)
    · refine w_aload_n C dX0_strain_48 rfl 0 rfl ?_
      refine w_geti C dX0_strain_49 flX0_27 iX34_1 ?_
      refine w_iconst (v := 4) C dX0_strain_52 (by decide) ?_
      refine w_idiv C dX0_strain_53 (by decide) ?_
      refine w_iadd C dX0_strain_54 ?_
      exact p_iret C dX0_strain_55 h
    refine w_aload_n C dX0_strain_39 rfl 0 rfl ?_
    refine w_geti C dX0_strain_40 flX0_27 iX34_1 ?_
    refine w_iconst (v := 2) C dX0_strain_43 (by decide) ?_
    refine w_idiv C dX0_strain_44 (by decide) ?_
    refine w_goto C 54 dX0_strain_45 (by decide) ?_
    refine w_iadd C dX0_strain_54 ?_
    exact p_iret C dX0_strain_55 h
  refine w_aload_n C dX0_strain_13 rfl 0 rfl ?_
  refine w_getr C dX0_strain_14 flX0_9 gX34_5 ?_
  refine w_iload_n C dX0_strain_17 rfl 1 rfl ?_
  refine x_iald C dX0_strain_18 aX35 h (fun v2 h => ?_)
  refine w_aload_n C dX0_strain_19 rfl 0 rfl ?_
  refine w_geti C dX0_strain_20 flX0_27 iX34_1 ?_
  refine w_iadd C dX0_strain_23 ?_
  exact p_iret C dX0_strain_24 h)
def fX0_spare (S : St) (a1 : Int32) : Option (Int32) := bv (fX0_hold S a1) fun v1 => bv (fX0_strain S a1) fun v2 => some (v1 - v2)
set_option maxRecDepth 100000 in
theorem mX0_spare {Y : YT} {S : St} {a1 : Int32} {R : Int32} (h : fX0_spare  S a1 = some R) : Mc VX Y yX0_spare cX0_spare 2 (some .int) 1 22 [rf Y 34, .int a1] S (some (.int R), S) :=
  Mc.start [(0, rf Y 34), (1, .int a1)] rfl pnX0 (Nat.le_of_ble_eq_true rfl) (fun X (C : Ok VX Y X RX0 cX0_spare 2 (some .int)) => by
  unfold fX0_spare at h
  refine w_aload_n C dX0_spare_0 rfl 0 rfl ?_
  refine w_iload_n C dX0_spare_1 rfl 1 rfl ?_
  refine p_Vi C dX0_spare_2 h (fun _ e => mX0_hold e) lnX0_94 mvX0_hold bX34 rfl ⟨Nat.le_of_ble_eq_true rfl, Nat.le_of_ble_eq_true rfl⟩ [] rfl (Nat.le_of_ble_eq_true rfl) (fun v1 h => ?_)
  refine w_aload_n C dX0_spare_5 rfl 0 rfl ?_
  refine w_iload_n C dX0_spare_6 rfl 1 rfl ?_
  refine p_Vi C dX0_spare_7 h (fun _ e => mX0_strain e) lnX0_97 mvX0_strain bX34 rfl ⟨Nat.le_of_ble_eq_true rfl, Nat.le_of_ble_eq_true rfl⟩ [.int v1] rfl (Nat.le_of_ble_eq_true rfl) (fun v2 h => ?_)
  refine w_isub C dX0_spare_10 ?_
  exact p_iret C dX0_spare_11 h)
def fX6_read_L40 (s2 : Nat) (S4 : St) (J77 : Int32 → Option (St × Int32)) : Nat → Int32 → Option (St × Int32)
  | 0, _ => none
  | G40 + 1, v6 => if (S4.1 (47 + s2) 1) ≤ v6 then (some (S4, 0)) else (if (8) ≤ v6 then (J77 v6) else (ldj S4 (51 + s2) v6 40 fun u7 => bv (fX0_spare S4 v6) fun v8 => if (lg_cmp u7 (Int32.toInt64 v8)) = 0 then (pl (v6 + 1) fun v9 => fX6_read_L40 s2 S4 J77 G40 v9) else (J77 v6)))
def fX6_read (F : Nat) (S : St) (a1 : Int32) : Option (St × Int32) := bv (fX6_sheetTrouble S a1) fun v1 => if v1 < 0 then (lds a1 fun s2 => bv (fX0_asItIs S) fun S3 => bv (fX0_gather F S3) fun S4 => pl (fun (v5 : Int32) => some (S4, ((1) + v5))) fun J77 => fX6_read_L40 s2 S4 J77 F (0)) else (bq (fX6_finding S v1) fun S10 v11 => some (S10, v11))
set_option maxRecDepth 100000 in
theorem mX6_read {Y : YT} {F : Nat} {S : St} {a1 : Int32} {R : St × Int32} (h : fX6_read F S a1 = some R) : Mc VX Y yX6_read cX6_read 5 (some .int) 5 105 [rf Y 0, .int a1] S (some (.int R.2), R.1) :=
  Mc.start [(0, rf Y 0), (1, .int a1)] rfl pnX6 (Nat.le_of_ble_eq_true rfl) (fun X (C : Ok VX Y X RX6 cX6_read 5 (some .int)) => by
  unfold fX6_read at h
  refine w_aload_n C dX6_read_0 rfl 0 rfl ?_
  refine w_iload_n C dX6_read_1 rfl 1 rfl ?_
  refine p_Vi C dX6_read_2 h (fun _ e => mX6_sheetTrouble e) lnX6_265 mvX6_sheetTrouble bX0 rfl ⟨Nat.le_of_ble_eq_true rfl, Nat.le_of_ble_eq_true rfl⟩ [] rfl (Nat.le_of_ble_eq_true rfl) (fun v1 h => ?_)
  refine w_istore_n C dX6_read_5 rfl (by decide) [(2, .int v1), (0, rf Y 0), (1, .int a1)] rfl ?_
  refine w_iload_n C dX6_read_6 rfl 0 rfl ?_
  refine w_if_lt C 16 dX6_read_7 (by decide) h (fun h => ?_) (fun h => ?_)
  · refine w_aload_n C dX6_read_16 rfl 1 rfl ?_
    refine w_getr C dX6_read_17 flX6_58 gX0_8 ?_
    refine w_iload_n C dX6_read_20 rfl 2 rfl ?_
    refine x_aald C dX6_read_21 h (fun s2 hs2 h => ?_)
    refine w_astore_n C dX6_read_22 rfl (by decide) [(3, rf Y (47 + s2)), (2, .int v1), (0, rf Y 0), (1, .int a1)] rfl ?_
    refine w_aload_n C dX6_read_23 rfl 2 rfl ?_
    refine w_getr C dX6_read_24 flX6_31 gX0_4 ?_
    refine w_Vv C dX6_read_27 h (fun _ e => mX0_asItIs e) lnX6_87 mvX0_asItIs bX34 rfl ⟨Nat.le_of_ble_eq_true rfl, Nat.le_of_ble_eq_true rfl⟩ [] rfl (Nat.le_of_ble_eq_true rfl) (fun S3 h => ?_)
    refine w_aload_n C dX6_read_30 rfl 2 rfl ?_
    refine w_getr C dX6_read_31 flX6_31 gX0_4 ?_
    refine w_Vv C dX6_read_34 h (fun _ e => mX0_gather e) lnX6_144 mvX0_gather bX34 rfl ⟨Nat.le_of_ble_eq_true rfl, Nat.le_of_ble_eq_true rfl⟩ [] rfl (Nat.le_of_ble_eq_true rfl) (fun S4 h => ?_)
    refine w_iconst (v := 0) C dX6_read_37 (by decide) ?_
    refine w_istore C dX6_read_38 (by decide) [(4, .int (0)), (3, rf Y (47 + s2)), (2, .int v1), (0, rf Y 0), (1, .int a1)] rfl ?_
    refine w_join (fun J77 => ∀ (v5 : Int32), J77 v5 = some R → WS VX Y X 5 5 105 (some (.int R.2), R.1) S4 77 [(4, .int v5)] []) h ?_ (fun J77 hJ77 h => ?_)
    · intro v5 h
      refine w_iconst (v := 1) C dX6_read_77 (by decide) ?_
      refine w_iload C dX6_read_78 0 rfl ?_
      refine w_iadd C dX6_read_80 ?_
      exact w_iret C dX6_read_81 h
    have hL40 : ∀ (G40 : Nat) (v6 : Int32), fX6_read_L40 s2 S4 J77 G40 v6 = some R → WS VX Y X 5 5 105 (some (.int R.2), R.1) S4 40 [(0, rf Y 0), (3, rf Y (47 + s2)), (4, .int v6)] [] := by
      intro G40
      induction G40 with
      | zero => intro v6 h; exact nomatch (show (none : Option (St × Int32)) = some R from h)
      | succ G40 ih =>
        intro v6 h
        rw [fX6_read_L40] at h
        refine w_iload C dX6_read_40 2 rfl ?_
        refine w_aload_n C dX6_read_42 rfl 1 rfl ?_
        refine w_geti C dX6_read_43 flX6_264 (iXso_1 hs2) ?_
        refine w_icmp_ge C 88 dX6_read_46 (by decide) h (fun h => ?_) (fun h => ?_)
        · refine w_iconst (v := 0) C dX6_read_88 (by decide) ?_
          exact w_iret C dX6_read_89 h
        refine w_iload C dX6_read_49 2 rfl ?_
        refine w_bipush (v := 8) C dX6_read_51 (by decide) ?_
        refine w_icmp_ge C 77 dX6_read_53 (by decide) h (fun h => ?_) (fun h => ?_)
        · exact w_sub [2] rfl (hJ77 _ h)
        refine w_aload_n C dX6_read_56 rfl 1 rfl ?_
        refine w_getr C dX6_read_57 flX6_268 (gXso_2 hs2) ?_
        refine w_iload C dX6_read_60 2 rfl ?_
        refine x_lald C dX6_read_62 (aXsn hs2) h (fun u7 h => ?_)
        refine w_aload_n C dX6_read_63 rfl 0 rfl ?_
        refine w_getr C dX6_read_64 flX6_31 gX0_4 ?_
        refine w_iload C dX6_read_67 2 rfl ?_
        refine p_Vi C dX6_read_69 h (fun _ e => mX0_spare e) lnX6_153 mvX0_spare bX34 rfl ⟨Nat.le_of_ble_eq_true rfl, Nat.le_of_ble_eq_true rfl⟩ [.long u7] rfl (Nat.le_of_ble_eq_true rfl) (fun v8 h => ?_)
        refine w_i2l C dX6_read_72 ?_
        refine w_lcmp C dX6_read_73 ?_
        refine w_if_eq C 82 dX6_read_74 (by decide) h (fun h => ?_) (fun h => ?_)
        · refine x_iinc C dX6_read_82 2 rfl 1 (by decide) h (by decide) (fun v9 => [(4, .int v9), (0, rf Y 0), (3, rf Y (47 + s2))]) (fun _ => rfl) (fun v9 h => ?_)
          refine w_goto C 40 dX6_read_85 (by decide) ?_
          exact w_sub [1, 2, 0] rfl (ih _ h)
        exact w_sub [2] rfl (hJ77 _ h)
    exact w_sub [3, 1, 0] rfl (hL40 _ _ h)
  refine w_aload_n C dX6_read_10 rfl 1 rfl ?_
  refine w_iload_n C dX6_read_11 rfl 0 rfl ?_
  refine w_Vi C dX6_read_12 h (fun _ e => mX6_finding e) lnX6_71 mvX6_finding bX0 rfl ⟨Nat.le_of_ble_eq_true rfl, Nat.le_of_ble_eq_true rfl⟩ [] rfl (Nat.le_of_ble_eq_true rfl) (fun S10 v11 h => ?_)
  exact w_iret C dX6_read_15 h)
def fX4_moveCost (b : Nat) (S : St) (a1 : Int32) (a2 : Int32) : Option (Int32) := ldi S (10 + b) (1) 3 fun v1 => ldi S (8 + b) a1 6 fun v2 => ldi S (8 + b) a2 6 fun v3 => ldi S (10 + b) (2) 3 fun v4 => some ((v1 * (if 0 ≤ (v2 - v3) then (v2 - v3) else 0 - (v2 - v3))) + v4)
set_option maxRecDepth 100000 in
theorem mX4_moveCost_1 {Y : YT} {S : St} {a1 : Int32} {a2 : Int32} {R : Int32} (h : fX4_moveCost 1 S a1 a2 = some R) : Mc VX Y yX4_moveCost cX4_moveCost 3 (some .int) 1 21 [rf Y 1, .int a1, .int a2] S (some (.int R), S) :=
  Mc.start [(0, rf Y 1), (1, .int a1), (2, .int a2)] rfl pnX4 (Nat.le_of_ble_eq_true rfl) (fun X (C : Ok VX Y X RX4 cX4_moveCost 3 (some .int)) => by
  unfold fX4_moveCost at h
  refine w_aload_n C dX4_moveCost_0 rfl 0 rfl ?_
  refine w_getr C dX4_moveCost_1 flX4_39 gX1_14 ?_
  refine w_iconst (v := 1) C dX4_moveCost_4 (by decide) ?_
  refine x_iald C dX4_moveCost_5 aX11 h (fun v1 h => ?_)
  refine w_aload_n C dX4_moveCost_6 rfl 0 rfl ?_
  refine w_getr C dX4_moveCost_7 flX4_33 gX1_12 ?_
  refine w_iload_n C dX4_moveCost_10 rfl 1 rfl ?_
  refine x_iald C dX4_moveCost_11 aX9 h (fun v2 h => ?_)
  refine w_aload_n C dX4_moveCost_12 rfl 0 rfl ?_
  refine w_getr C dX4_moveCost_13 flX4_33 gX1_12 ?_
  refine w_iload_n C dX4_moveCost_16 rfl 2 rfl ?_
  refine x_iald C dX4_moveCost_17 aX9 h (fun v3 h => ?_)
  refine w_isub C dX4_moveCost_18 ?_
  refine x_mabs C dX4_moveCost_19 lnX4_74 (Nat.le_of_ble_eq_true rfl) (Nat.le_of_ble_eq_true rfl) ?_
  refine w_imul C dX4_moveCost_22 ?_
  refine w_aload_n C dX4_moveCost_23 rfl 0 rfl ?_
  refine w_getr C dX4_moveCost_24 flX4_39 gX1_14 ?_
  refine w_iconst (v := 2) C dX4_moveCost_27 (by decide) ?_
  refine x_iald C dX4_moveCost_28 aX11 h (fun v4 h => ?_)
  refine w_iadd C dX4_moveCost_29 ?_
  exact p_iret C dX4_moveCost_30 h)
def fX4_monthCost (b : Nat) (S : St) (a1 : Int32) (a2 : Int32) (a3 : Int32) : Option (Int32) := ldi S (9 + b) ((a1 * (12)) + a2) 72 fun v1 => pl (fun (v2 : Int32) => ldi S (10 + b) (0) 3 fun v3 => some (if (0) < (v3 - v2) then (v3 - v2) else (0))) fun J35 => if a3 = (1) then (pl ((v1 / (2))) fun v4 => J35 v4) else (if a3 ≤ (1) then (J35 v1) else (J35 (0)))
set_option maxRecDepth 100000 in
theorem mX4_monthCost_1 {Y : YT} {S : St} {a1 : Int32} {a2 : Int32} {a3 : Int32} {R : Int32} (h : fX4_monthCost 1 S a1 a2 a3 = some R) : Mc VX Y yX4_monthCost cX4_monthCost 5 (some .int) 1 21 [rf Y 1, .int a1, .int a2, .int a3] S (some (.int R), S) :=
  Mc.start [(0, rf Y 1), (1, .int a1), (2, .int a2), (3, .int a3)] rfl pnX4 (Nat.le_of_ble_eq_true rfl) (fun X (C : Ok VX Y X RX4 cX4_monthCost 5 (some .int)) => by
  unfold fX4_monthCost at h
  refine w_aload_n C dX4_monthCost_0 rfl 0 rfl ?_
  refine w_getr C dX4_monthCost_1 flX4_36 gX1_13 ?_
  refine w_iload_n C dX4_monthCost_4 rfl 1 rfl ?_
  refine w_bipush (v := 12) C dX4_monthCost_5 (by decide) ?_
  refine w_imul C dX4_monthCost_7 ?_
  refine w_iload_n C dX4_monthCost_8 rfl 2 rfl ?_
  refine w_iadd C dX4_monthCost_9 ?_
  refine x_iald C dX4_monthCost_10 aX10 h (fun v1 h => ?_)
  refine w_istore C dX4_monthCost_11 (by decide) [(4, .int v1), (0, rf Y 1), (1, .int a1), (2, .int a2), (3, .int a3)] rfl ?_
  refine w_iload_n C dX4_monthCost_13 rfl 4 rfl ?_
  refine w_iconst (v := 1) C dX4_monthCost_14 (by decide) ?_
  refine w_join (fun J35 => ∀ (v2 : Int32), J35 v2 = some R → WS VX Y X 5 1 21 (some (.int R), S) S 35 [(0, rf Y 1), (4, .int v2)] []) h ?_ (fun J35 hJ35 h => ?_)
  · intro v2 h
    refine w_iconst (v := 0) C dX4_monthCost_35 (by decide) ?_
    refine w_aload_n C dX4_monthCost_36 rfl 0 rfl ?_
    refine w_getr C dX4_monthCost_37 flX4_39 gX1_14 ?_
    refine w_iconst (v := 0) C dX4_monthCost_40 (by decide) ?_
    refine x_iald C dX4_monthCost_41 aX11 h (fun v3 h => ?_)
    refine w_iload C dX4_monthCost_42 1 rfl ?_
    refine w_isub C dX4_monthCost_44 ?_
    refine x_mmax C dX4_monthCost_45 lnX4_68 (Nat.le_of_ble_eq_true rfl) (Nat.le_of_ble_eq_true rfl) ?_
    exact p_iret C dX4_monthCost_48 h
  refine w_icmp_ne C 27 dX4_monthCost_15 (by decide) h (fun h => ?_) (fun h => ?_)
  · refine w_iload_n C dX4_monthCost_27 rfl 4 rfl ?_
    refine w_iconst (v := 1) C dX4_monthCost_28 (by decide) ?_
    refine w_icmp_le C 35 dX4_monthCost_29 (by decide) h (fun h => ?_) (fun h => ?_)
    · exact w_sub [1, 0] rfl (hJ35 _ h)
    refine w_iconst (v := 0) C dX4_monthCost_32 (by decide) ?_
    refine w_istore C dX4_monthCost_33 (by decide) [(4, .int (0)), (0, rf Y 1), (1, .int a1), (2, .int a2), (3, .int a3)] rfl ?_
    exact w_sub [1, 0] rfl (hJ35 _ h)
  refine w_iload C dX4_monthCost_18 0 rfl ?_
  refine w_iconst (v := 2) C dX4_monthCost_20 (by decide) ?_
  refine w_idiv C dX4_monthCost_21 (by decide) ?_
  refine w_topi h (fun v4 h => ?_)
  refine w_istore C dX4_monthCost_22 (by decide) [(4, .int v4), (0, rf Y 1), (1, .int a1), (2, .int a2), (3, .int a3)] rfl ?_
  refine w_goto C 35 dX4_monthCost_24 (by decide) ?_
  exact w_sub [1, 0] rfl (hJ35 _ h))
def fX4_costOfRow_L11 (S : St) (b : Nat) (s : Nat) (a2 : Int32) : Nat → Int32 → Int32 → Int32 → Int32 → Option (Int32)
  | 0, _, _, _, _ => none
  | G11 + 1, v1, v2, v3, v4 => if (S.1 (47 + s) 1) ≤ v4 then (some v1) else (ldj S (51 + s) v4 40 fun u5 => pl ((Int64.toInt32 u5)) fun v6 => pl (fun (v7 : Int32) (v8 : Int32) => bv (fX4_monthCost b S v6 ((a2 + v4) - (a2 + v4) / (12) * (12)) v8) fun v9 => pl ((v7 + v9)) fun v10 => pl (v4 + 1) fun v11 => fX4_costOfRow_L11 S b s a2 G11 v10 v8 v6 v11) fun J74 => if v6 = v3 then (pl ((if (2) < (v2 + (1)) then (2) else (v2 + (1)))) fun v15 => J74 v1 v15) else (pl (fun (v12 : Int32) => pl ((v1 + v12)) fun v13 => J74 v13 (0)) fun J72 => if v3 = (-1) then (J72 (0)) else (bv (fX4_moveCost b S v3 v6) fun v14 => J72 v14)))
def fX4_costOfRow (F : Nat) (b : Nat) (s : Nat) (S : St) (a2 : Int32) : Option (Int32) := fX4_costOfRow_L11 S b s a2 F (0) (0) (-1) (0)
set_option maxRecDepth 100000 in
theorem mX4_costOfRow_1 {Y : YT} {F : Nat} {s : Nat} {S : St} {a2 : Int32} {R : Int32} (hs : s < 4) (h : fX4_costOfRow F 1 s S a2 = some R) : Mc VX Y yX4_costOfRow cX4_costOfRow 8 (some .int) 2 45 [rf Y 1, rf Y (47 + s), .int a2] S (some (.int R), S) :=
  Mc.start [(0, rf Y 1), (1, rf Y (47 + s)), (2, .int a2)] rfl pnX4 (Nat.le_of_ble_eq_true rfl) (fun X (C : Ok VX Y X RX4 cX4_costOfRow 8 (some .int)) => by
  unfold fX4_costOfRow at h
  refine w_iconst (v := 0) C dX4_costOfRow_0 (by decide) ?_
  refine w_istore_n C dX4_costOfRow_1 rfl (by decide) [(3, .int (0)), (0, rf Y 1), (1, rf Y (47 + s)), (2, .int a2)] rfl ?_
  refine w_iconst (v := 0) C dX4_costOfRow_2 (by decide) ?_
  refine w_istore C dX4_costOfRow_3 (by decide) [(4, .int (0)), (3, .int (0)), (0, rf Y 1), (1, rf Y (47 + s)), (2, .int a2)] rfl ?_
  refine w_iconst (v := -1) C dX4_costOfRow_5 (by decide) ?_
  refine w_istore C dX4_costOfRow_6 (by decide) [(5, .int (-1)), (4, .int (0)), (3, .int (0)), (0, rf Y 1), (1, rf Y (47 + s)), (2, .int a2)] rfl ?_
  refine w_iconst (v := 0) C dX4_costOfRow_8 (by decide) ?_
  refine w_istore C dX4_costOfRow_9 (by decide) [(6, .int (0)), (5, .int (-1)), (4, .int (0)), (3, .int (0)), (0, rf Y 1), (1, rf Y (47 + s)), (2, .int a2)] rfl ?_
  have hL11 : ∀ (G11 : Nat) (v1 : Int32) (v2 : Int32) (v3 : Int32) (v4 : Int32), fX4_costOfRow_L11 S 1 s a2 G11 v1 v2 v3 v4 = some R → WS VX Y X 8 2 45 (some (.int R), S) S 11 [(0, rf Y 1), (1, rf Y (47 + s)), (2, .int a2), (3, .int v1), (4, .int v2), (5, .int v3), (6, .int v4)] [] := by
    intro G11
    induction G11 with
    | zero => intro v1 v2 v3 v4 h; exact nomatch (show (none : Option (Int32)) = some R from h)
    | succ G11 ih =>
      intro v1 v2 v3 v4 h
      rw [fX4_costOfRow_L11] at h
      refine w_iload C dX4_costOfRow_11 6 rfl ?_
      refine w_aload_n C dX4_costOfRow_13 rfl 1 rfl ?_
      refine w_geti C dX4_costOfRow_14 flX4_78 (iXso_1 hs) ?_
      refine w_icmp_ge C 102 dX4_costOfRow_17 (by decide) h (fun h => ?_) (fun h => ?_)
      · refine w_iload_n C dX4_costOfRow_102 rfl 3 rfl ?_
        exact p_iret C dX4_costOfRow_103 h
      refine w_aload_n C dX4_costOfRow_20 rfl 1 rfl ?_
      refine w_getr C dX4_costOfRow_21 flX4_83 (gXso_2 hs) ?_
      refine w_iload C dX4_costOfRow_24 6 rfl ?_
      refine x_lald C dX4_costOfRow_26 (aXsn hs) h (fun u5 h => ?_)
      refine w_l2i C dX4_costOfRow_27 ?_
      refine w_topi h (fun v6 h => ?_)
      refine w_istore C dX4_costOfRow_28 (by decide) [(7, .int v6), (0, rf Y 1), (1, rf Y (47 + s)), (2, .int a2), (3, .int v1), (4, .int v2), (5, .int v3), (6, .int v4)] rfl ?_
      refine w_iload C dX4_costOfRow_30 0 rfl ?_
      refine w_iload C dX4_costOfRow_32 6 rfl ?_
      refine w_join (fun J74 => ∀ (v7 : Int32) (v8 : Int32), J74 v7 v8 = some R → WS VX Y X 8 2 45 (some (.int R), S) S 74 [(0, rf Y 1), (1, rf Y (47 + s)), (2, .int a2), (3, .int v7), (4, .int v8), (6, .int v4), (7, .int v6)] []) h ?_ (fun J74 hJ74 h => ?_)
      · intro v7 v8 h
        refine w_iload_n C dX4_costOfRow_74 rfl 3 rfl ?_
        refine w_aload_n C dX4_costOfRow_75 rfl 0 rfl ?_
        refine w_iload C dX4_costOfRow_76 6 rfl ?_
        refine w_iload_n C dX4_costOfRow_78 rfl 2 rfl ?_
        refine w_iload C dX4_costOfRow_79 5 rfl ?_
        refine w_iadd C dX4_costOfRow_81 ?_
        refine w_bipush (v := 12) C dX4_costOfRow_82 (by decide) ?_
        refine w_irem C dX4_costOfRow_84 (by decide) ?_
        refine w_iload C dX4_costOfRow_85 4 rfl ?_
        refine p_Vi C dX4_costOfRow_87 h (fun _ e => mX4_monthCost_1 e) lnX4_93 mvX4_monthCost bX1 rfl ⟨Nat.le_of_ble_eq_true rfl, Nat.le_of_ble_eq_true rfl⟩ [.int v7] rfl (Nat.le_of_ble_eq_true rfl) (fun v9 h => ?_)
        refine w_iadd C dX4_costOfRow_90 ?_
        refine w_topi h (fun v10 h => ?_)
        refine w_istore_n C dX4_costOfRow_91 rfl (by decide) [(3, .int v10), (0, rf Y 1), (1, rf Y (47 + s)), (2, .int a2), (4, .int v8), (6, .int v4), (7, .int v6)] rfl ?_
        refine w_iload C dX4_costOfRow_92 6 rfl ?_
        refine w_istore C dX4_costOfRow_94 (by decide) [(5, .int v6), (3, .int v10), (0, rf Y 1), (1, rf Y (47 + s)), (2, .int a2), (4, .int v8), (6, .int v4), (7, .int v6)] rfl ?_
        refine x_iinc C dX4_costOfRow_96 6 rfl 1 (by decide) h (by decide) (fun v11 => [(6, .int v11), (5, .int v6), (3, .int v10), (0, rf Y 1), (1, rf Y (47 + s)), (2, .int a2), (4, .int v8), (7, .int v6)]) (fun _ => rfl) (fun v11 h => ?_)
        refine w_goto C 11 dX4_costOfRow_99 (by decide) ?_
        exact w_sub [3, 4, 5, 2, 6, 1, 0] rfl (ih _ _ _ _ h)
      refine w_icmp_ne C 50 dX4_costOfRow_34 (by decide) h (fun h => ?_) (fun h => ?_)
      · refine w_iconst (v := 0) C dX4_costOfRow_50 (by decide) ?_
        refine w_istore C dX4_costOfRow_51 (by decide) [(4, .int (0)), (7, .int v6), (0, rf Y 1), (1, rf Y (47 + s)), (2, .int a2), (3, .int v1), (5, .int v3), (6, .int v4)] rfl ?_
        refine w_iload_n C dX4_costOfRow_53 rfl 5 rfl ?_
        refine w_iload C dX4_costOfRow_54 6 rfl ?_
        refine w_iconst (v := -1) C dX4_costOfRow_56 (by decide) ?_
        refine w_join (fun J72 => ∀ (v12 : Int32), J72 v12 = some R → WS VX Y X 8 2 45 (some (.int R), S) S 72 [(0, rf Y 1), (1, rf Y (47 + s)), (2, .int a2), (4, .int (0)), (6, .int v4), (7, .int v6)] [.int v12, .int v1]) h ?_ (fun J72 hJ72 h => ?_)
        · intro v12 h
          refine w_iadd C dX4_costOfRow_72 ?_
          refine w_topi h (fun v13 h => ?_)
          refine w_istore_n C dX4_costOfRow_73 rfl (by decide) [(3, .int v13), (0, rf Y 1), (1, rf Y (47 + s)), (2, .int a2), (4, .int (0)), (6, .int v4), (7, .int v6)] rfl ?_
          exact w_sub [1, 2, 3, 0, 4, 5, 6] rfl (hJ74 _ _ h)
        refine w_icmp_ne C 64 dX4_costOfRow_57 (by decide) h (fun h => ?_) (fun h => ?_)
        · refine w_aload_n C dX4_costOfRow_64 rfl 2 rfl ?_
          refine w_iload C dX4_costOfRow_65 6 rfl ?_
          refine w_iload C dX4_costOfRow_67 1 rfl ?_
          refine p_Vi C dX4_costOfRow_69 h (fun _ e => mX4_moveCost_1 e) lnX4_90 mvX4_moveCost bX1 rfl ⟨Nat.le_of_ble_eq_true rfl, Nat.le_of_ble_eq_true rfl⟩ [.int v1] rfl (Nat.le_of_ble_eq_true rfl) (fun v14 h => ?_)
          exact w_sub [2, 3, 4, 0, 7, 1] rfl (hJ72 _ h)
        refine w_iconst (v := 0) C dX4_costOfRow_60 (by decide) ?_
        refine w_goto C 72 dX4_costOfRow_61 (by decide) ?_
        exact w_sub [2, 3, 4, 0, 7, 1] rfl (hJ72 _ h)
      refine w_iload C dX4_costOfRow_37 5 rfl ?_
      refine w_iconst (v := 1) C dX4_costOfRow_39 (by decide) ?_
      refine w_iadd C dX4_costOfRow_40 ?_
      refine w_iconst (v := 2) C dX4_costOfRow_41 (by decide) ?_
      refine x_mmin C dX4_costOfRow_42 lnX4_87 (Nat.le_of_ble_eq_true rfl) (Nat.le_of_ble_eq_true rfl) ?_
      refine w_topi h (fun v15 h => ?_)
      refine w_istore C dX4_costOfRow_45 (by decide) [(4, .int v15), (7, .int v6), (0, rf Y 1), (1, rf Y (47 + s)), (2, .int a2), (3, .int v1), (5, .int v3), (6, .int v4)] rfl ?_
      refine w_goto C 74 dX4_costOfRow_47 (by decide) ?_
      exact w_sub [2, 3, 4, 5, 0, 7, 1] rfl (hJ74 _ _ h)
  exact w_sub [4, 5, 6, 3, 2, 1, 0] rfl (hL11 _ _ _ _ _ h))
def fX6_costs_L43 (S : St) (s3 : Nat) (J86 : Option (St × Int32)) (J98 : Option (St × Int32)) : Nat → Int32 → Option (St × Int32)
  | 0, _ => none
  | G43 + 1, v7 => if (S.1 (47 + s3) 1) ≤ v7 then (J98) else (ldj S (51 + s3) v7 40 fun u8 => if (lg_cmp u8 (0)) < 0 then (J86) else (ldj S (51 + s3) v7 40 fun u9 => if (lg_cmp u9 (Int32.toInt64 (S.1 1 11))) < 0 then (pl (v7 + 1) fun v10 => fX6_costs_L43 S s3 J86 J98 G43 v10) else (J86)))
def fX6_costs (F : Nat) (S : St) (a1 : Int32) (a2 : Int32) : Option (St × Int32) := bv (fX6_sheetTrouble S a1) fun v1 => if v1 < 0 then (bv (fX6_within S a2 (0) (11)) fun v2 => if v2 = 0 then (bq (fX6_finding S (0)) fun S11 v12 => some (S11, v12)) else (lds a1 fun s3 => pl (bq (fX6_finding S (2)) fun S4 v5 => some (S4, v5)) fun J86 => pl (bv (fX4_costOfRow F 1 s3 S a2) fun v6 => some (S, v6)) fun J98 => fX6_costs_L43 S s3 J86 J98 F (0))) else (bq (fX6_finding S v1) fun S13 v14 => some (S13, v14))
set_option maxRecDepth 100000 in
theorem mX6_costs {Y : YT} {F : Nat} {S : St} {a1 : Int32} {a2 : Int32} {R : St × Int32} (h : fX6_costs F S a1 a2 = some R) : Mc VX Y yX6_costs cX6_costs 6 (some .int) 3 72 [rf Y 0, .int a1, .int a2] S (some (.int R.2), R.1) :=
  Mc.start [(0, rf Y 0), (1, .int a1), (2, .int a2)] rfl pnX6 (Nat.le_of_ble_eq_true rfl) (fun X (C : Ok VX Y X RX6 cX6_costs 6 (some .int)) => by
  unfold fX6_costs at h
  refine w_aload_n C dX6_costs_0 rfl 0 rfl ?_
  refine w_iload_n C dX6_costs_1 rfl 1 rfl ?_
  refine p_Vi C dX6_costs_2 h (fun _ e => mX6_sheetTrouble e) lnX6_265 mvX6_sheetTrouble bX0 rfl ⟨Nat.le_of_ble_eq_true rfl, Nat.le_of_ble_eq_true rfl⟩ [] rfl (Nat.le_of_ble_eq_true rfl) (fun v1 h => ?_)
  refine w_istore_n C dX6_costs_5 rfl (by decide) [(3, .int v1), (0, rf Y 0), (1, .int a1), (2, .int a2)] rfl ?_
  refine w_iload_n C dX6_costs_6 rfl 0 rfl ?_
  refine w_if_lt C 16 dX6_costs_7 (by decide) h (fun h => ?_) (fun h => ?_)
  · refine w_iload_n C dX6_costs_16 rfl 3 rfl ?_
    refine w_iconst (v := 0) C dX6_costs_17 (by decide) ?_
    refine w_bipush (v := 11) C dX6_costs_18 (by decide) ?_
    refine p_Si C dX6_costs_20 h (fun _ e => mX6_within e) lnX6_67 msX6_within rfl ⟨Nat.le_of_ble_eq_true rfl, Nat.le_of_ble_eq_true rfl⟩ [] rfl (Nat.le_of_ble_eq_true rfl) (fun v2 h => ?_)
    refine w_if_ne C 32 dX6_costs_23 (by decide) h (fun h => ?_) (fun h => ?_)
    · refine w_aload_n C dX6_costs_32 rfl 1 rfl ?_
      refine w_getr C dX6_costs_33 flX6_58 gX0_8 ?_
      refine w_iload_n C dX6_costs_36 rfl 2 rfl ?_
      refine x_aald C dX6_costs_37 h (fun s3 hs3 h => ?_)
      refine w_astore C dX6_costs_38 (by decide) [(4, rf Y (47 + s3)), (3, .int v1), (0, rf Y 0), (1, .int a1), (2, .int a2)] rfl ?_
      refine w_iconst (v := 0) C dX6_costs_40 (by decide) ?_
      refine w_istore C dX6_costs_41 (by decide) [(5, .int (0)), (4, rf Y (47 + s3)), (3, .int v1), (0, rf Y 0), (1, .int a1), (2, .int a2)] rfl ?_
      refine w_join (fun J86 => J86  = some R → WS VX Y X 6 3 72 (some (.int R.2), R.1) S 86 [(0, rf Y 0)] []) h ?_ (fun J86 hJ86 h => ?_)
      · intro  h
        refine w_aload_n C dX6_costs_86 rfl 0 rfl ?_
        refine w_iconst (v := 2) C dX6_costs_87 (by decide) ?_
        refine w_Vi C dX6_costs_88 h (fun _ e => mX6_finding e) lnX6_71 mvX6_finding bX0 rfl ⟨Nat.le_of_ble_eq_true rfl, Nat.le_of_ble_eq_true rfl⟩ [] rfl (Nat.le_of_ble_eq_true rfl) (fun S4 v5 h => ?_)
        exact w_iret C dX6_costs_91 h
      refine w_join (fun J98 => J98  = some R → WS VX Y X 6 3 72 (some (.int R.2), R.1) S 98 [(0, rf Y 0), (2, .int a2), (4, rf Y (47 + s3))] []) h ?_ (fun J98 hJ98 h => ?_)
      · intro  h
        refine w_aload_n C dX6_costs_98 rfl 0 rfl ?_
        refine w_getr C dX6_costs_99 flX6_10 gX0_0 ?_
        refine w_aload C dX6_costs_102 2 rfl ?_
        refine w_iload_n C dX6_costs_104 rfl 1 rfl ?_
        refine p_Vi C dX6_costs_105 h (fun _ e => mX4_costOfRow_1 hs3 e) lnX6_293 mvX4_costOfRow bX1 rfl ⟨Nat.le_of_ble_eq_true rfl, Nat.le_of_ble_eq_true rfl⟩ [] rfl (Nat.le_of_ble_eq_true rfl) (fun v6 h => ?_)
        exact w_iret C dX6_costs_108 h
      have hL43 : ∀ (G43 : Nat) (v7 : Int32), fX6_costs_L43 S s3 J86 J98 G43 v7 = some R → WS VX Y X 6 3 72 (some (.int R.2), R.1) S 43 [(0, rf Y 0), (2, .int a2), (4, rf Y (47 + s3)), (5, .int v7)] [] := by
        intro G43
        induction G43 with
        | zero => intro v7 h; exact nomatch (show (none : Option (St × Int32)) = some R from h)
        | succ G43 ih =>
          intro v7 h
          rw [fX6_costs_L43] at h
          refine w_iload C dX6_costs_43 3 rfl ?_
          refine w_aload C dX6_costs_45 2 rfl ?_
          refine w_geti C dX6_costs_47 flX6_264 (iXso_1 hs3) ?_
          refine w_icmp_ge C 98 dX6_costs_50 (by decide) h (fun h => ?_) (fun h => ?_)
          · exact w_sub [0, 1, 2] rfl (hJ98  h)
          refine w_aload C dX6_costs_53 2 rfl ?_
          refine w_getr C dX6_costs_55 flX6_268 (gXso_2 hs3) ?_
          refine w_iload C dX6_costs_58 3 rfl ?_
          refine x_lald C dX6_costs_60 (aXsn hs3) h (fun u8 h => ?_)
          refine w_lconst (v := 0) C dX6_costs_61 (by decide) ?_
          refine w_lcmp C dX6_costs_62 ?_
          refine w_if_lt C 86 dX6_costs_63 (by decide) h (fun h => ?_) (fun h => ?_)
          · exact w_sub [0] rfl (hJ86  h)
          refine w_aload C dX6_costs_66 2 rfl ?_
          refine w_getr C dX6_costs_68 flX6_268 (gXso_2 hs3) ?_
          refine w_iload C dX6_costs_71 3 rfl ?_
          refine x_lald C dX6_costs_73 (aXsn hs3) h (fun u9 h => ?_)
          refine w_aload_n C dX6_costs_74 rfl 0 rfl ?_
          refine w_getr C dX6_costs_75 flX6_10 gX0_0 ?_
          refine w_geti C dX6_costs_78 flX6_212 iX1_11 ?_
          refine w_i2l C dX6_costs_81 ?_
          refine w_lcmp C dX6_costs_82 ?_
          refine w_if_lt C 92 dX6_costs_83 (by decide) h (fun h => ?_) (fun h => ?_)
          · refine x_iinc C dX6_costs_92 3 rfl 1 (by decide) h (by decide) (fun v10 => [(5, .int v10), (0, rf Y 0), (2, .int a2), (4, rf Y (47 + s3))]) (fun _ => rfl) (fun v10 h => ?_)
            refine w_goto C 43 dX6_costs_95 (by decide) ?_
            exact w_sub [1, 2, 3, 0] rfl (ih _ h)
          exact w_sub [0] rfl (hJ86  h)
      exact w_sub [3, 5, 1, 0] rfl (hL43 _ _ h)
    refine w_aload_n C dX6_costs_26 rfl 1 rfl ?_
    refine w_iconst (v := 0) C dX6_costs_27 (by decide) ?_
    refine w_Vi C dX6_costs_28 h (fun _ e => mX6_finding e) lnX6_71 mvX6_finding bX0 rfl ⟨Nat.le_of_ble_eq_true rfl, Nat.le_of_ble_eq_true rfl⟩ [] rfl (Nat.le_of_ble_eq_true rfl) (fun S11 v12 h => ?_)
    exact w_iret C dX6_costs_31 h
  refine w_aload_n C dX6_costs_10 rfl 1 rfl ?_
  refine w_iload_n C dX6_costs_11 rfl 0 rfl ?_
  refine w_Vi C dX6_costs_12 h (fun _ e => mX6_finding e) lnX6_71 mvX6_finding bX0 rfl ⟨Nat.le_of_ble_eq_true rfl, Nat.le_of_ble_eq_true rfl⟩ [] rfl (Nat.le_of_ble_eq_true rfl) (fun S13 v14 h => ?_)
  exact w_iret C dX6_costs_15 h)
