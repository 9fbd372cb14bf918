def fX7_beasts_L112 (v15 : Int32) (v19 : Int32) (J176 : St → Option (St × Int32)) : Nat → St → Int32 → Option (St × Int32)
  | 0, _, _ => none
  | G112 + 1, S22, v23 => if v23 ≤ 0 then (J176 S22) else (ldi S22 11 v19 1024 fun v24 => if v24 = 0 then (ldi S22 10 v23 1024 fun v25 => pl (fun (v26 : Int32) => sti S22 11 v19 1024 (v26 &&& 1) fun S27 => pl (((v23 - (1)) &&& v19)) fun v28 => fX7_beasts_L112 v15 v19 J176 G112 S27 v28) fun J163 => pl (J163 (0)) fun J162 => if v15 < v25 then (J162) else (ldi S22 11 (v19 ^^^ v23) 1024 fun v29 => if v29 = 0 then (J162) else (J163 (1)))) else (J176 S22))
def fX7_beasts_L103 (F : Nat) (v15 : Int32) (J182 : St → Option (St × Int32)) : Nat → St → Int32 → Option (St × Int32)
  | 0, _, _ => none
  | G103 + 1, S18, v19 => if v19 ≤ 0 then (J182 S18) else (pl (fun (S20 : St) => pl (v19 + (-1)) fun v21 => fX7_beasts_L103 F v15 J182 G103 S20 v21) fun J176 => fX7_beasts_L112 v15 v19 J176 F S18 v19)
def fX7_beasts_L69 (F : Nat) (v4 : Int32) (J188 : St → Int32 → Option (St × Int32)) : Nat → St → Int32 → Option (St × Int32)
  | 0, _, _ => none
  | G69 + 1, S11, v12 => ldi S11 11 v4 1024 fun v13 => if v13 = 0 then (ldi S11 1 (1) 216 fun v14 => if v14 ≤ v12 then (J188 S11 v12) else (ldi S11 1 ((132) + v12) 216 fun v15 => pl (fun (S16 : St) => pl (v12 + 1) fun v17 => fX7_beasts_L69 F v4 J188 G69 S16 v17) fun J182 => fX7_beasts_L103 F v15 J182 F S11 v4)) else (J188 S11 v12)
def fX7_beasts_L41 (v4 : Int32) (J67 : St → Option (St × Int32)) : Nat → St → Int32 → Option (St × Int32)
  | 0, _, _ => none
  | G41 + 1, S30, v31 => if v4 < v31 then (J67 S30) else (pl (fun (v32 : Int32) => sti S30 11 v31 1024 (v32 &&& 1) fun S33 => pl (v31 + 1) fun v34 => fX7_beasts_L41 v4 J67 G41 S33 v34) fun J60 => if v31 = 0 then (J60 (1)) else (J60 (0)))
def fX7_beasts (F : Nat) (S : St) (a1 : Int32) : Option (St × Int32) := bv (fX7_isLoad F S a1) fun v1 => if v1 = 0 then (bq (fX7_finds S (-1000000001)) fun S37 v38 => some (S37, v38)) else (bq (fX7_findLoad F S a1) fun S2 v3 => if v3 = 0 then (bq (fX7_finds S2 (-1000000007)) fun S35 v36 => some (S35, v36)) else (pl ((((1) <<< ((S2.1 0 11) &&& 31)) - (1))) fun v4 => pl (fun (S5 : St) => pl (fun (S6 : St) (v7 : Int32) => ldi S6 11 v4 1024 fun v8 => if v8 = 0 then (bq (fX7_finds S6 (-1000000004)) fun S9 v10 => some (S9, v10)) else (some (S6, v7))) fun J188 => fX7_beasts_L69 F v4 J188 F S5 (0)) fun J67 => fX7_beasts_L41 v4 J67 F S2 (0)))
set_option maxRecDepth 100000 in
theorem mX7_beasts {Y : YT} {F : Nat} {S : St} {a1 : Int32} {R : St × Int32} (h : fX7_beasts F S a1 = some R) : Mc VM Y yX7_beasts cX7_beasts 7 (some .int) 3 66 [rf Y 0, .int a1] S (some (.int R.2), R.1) :=
  Mc.start [(0, rf Y 0), (1, .int a1)] rfl pnX7 (Nat.le_of_ble_eq_true rfl) (fun X (C : Ok VM Y X RX7 cX7_beasts 7 (some .int)) => by
  unfold fX7_beasts at h
  refine w_aload_n C dX7_beasts_0 rfl 0 rfl ?_
  refine w_iload_n C dX7_beasts_1 rfl 1 rfl ?_
  refine p_Vi C dX7_beasts_2 h (fun _ e => mX7_isLoad e) lnX7_149 mvX7_isLoad bM0 rfl ⟨Nat.le_of_ble_eq_true rfl, Nat.le_of_ble_eq_true rfl⟩ [] rfl (Nat.le_of_ble_eq_true rfl) (fun v1 h => ?_)
  refine w_if_ne C 15 dX7_beasts_5 (by decide) h (fun h => ?_) (fun h => ?_)
  · refine w_aload_n C dX7_beasts_15 rfl 0 rfl ?_
    refine w_iload_n C dX7_beasts_16 rfl 1 rfl ?_
    refine w_Vi C dX7_beasts_17 h (fun _ e => mX7_findLoad e) lnX7_152 mvX7_findLoad bM0 rfl ⟨Nat.le_of_ble_eq_true rfl, Nat.le_of_ble_eq_true rfl⟩ [] rfl (Nat.le_of_ble_eq_true rfl) (fun S2 v3 h => ?_)
    refine w_if_ne C 30 dX7_beasts_20 (by decide) h (fun h => ?_) (fun h => ?_)
    · refine w_iconst (v := 1) C dX7_beasts_30 (by decide) ?_
      refine w_aload_n C dX7_beasts_31 rfl 0 rfl ?_
      refine w_geti C dX7_beasts_32 flX7_145 iM0_11 ?_
      refine w_ishl C dX7_beasts_35 ?_
      refine w_iconst (v := 1) C dX7_beasts_36 (by decide) ?_
      refine w_isub C dX7_beasts_37 ?_
      refine w_topi h (fun v4 h => ?_)
      refine w_istore_n C dX7_beasts_38 rfl (by decide) [(2, .int v4), (0, rf Y 0), (1, .int a1)] rfl ?_
      refine w_iconst (v := 0) C dX7_beasts_39 (by decide) ?_
      refine w_istore_n C dX7_beasts_40 rfl (by decide) [(3, .int (0)), (2, .int v4), (0, rf Y 0), (1, .int a1)] rfl ?_
      refine w_join (fun J67 => ∀ (S5 : St), J67 S5 = some R → WS VM Y X 7 3 66 (some (.int R.2), R.1) S5 67 [(0, rf Y 0), (2, .int v4)] []) h ?_ (fun J67 hJ67 h => ?_)
      · intro S5 h
        refine w_iconst (v := 0) C dX7_beasts_67 (by decide) ?_
        refine w_istore_n C dX7_beasts_68 rfl (by decide) [(3, .int (0)), (0, rf Y 0), (2, .int v4)] rfl ?_
        refine w_join (fun J188 => ∀ (S6 : St) (v7 : Int32), J188 S6 v7 = some R → WS VM Y X 7 3 66 (some (.int R.2), R.1) S6 188 [(0, rf Y 0), (2, .int v4), (3, .int v7)] []) h ?_ (fun J188 hJ188 h => ?_)
        · intro S6 v7 h
          refine w_aload_n C dX7_beasts_188 rfl 0 rfl ?_
          refine w_getr C dX7_beasts_189 flX7_41 gM0_13 ?_
          refine w_iload_n C dX7_beasts_192 rfl 1 rfl ?_
          refine x_zald C dX7_beasts_193 aM11 h (fun v8 h => ?_)
          refine w_if_eq C 201 dX7_beasts_194 (by decide) h (fun h => ?_) (fun h => ?_)
          · refine w_aload_n C dX7_beasts_201 rfl 0 rfl ?_
            refine w_ldc C dX7_beasts_202 kcX7_138 ?_
            refine w_Vi C dX7_beasts_204 h (fun _ e => mX7_finds e) lnX7_75 mvX7_finds bM0 rfl ⟨Nat.le_of_ble_eq_true rfl, Nat.le_of_ble_eq_true rfl⟩ [] rfl (Nat.le_of_ble_eq_true rfl) (fun S9 v10 h => ?_)
            exact w_iret C dX7_beasts_207 h
          refine w_iload_n C dX7_beasts_197 rfl 2 rfl ?_
          refine w_goto C 207 dX7_beasts_198 (by decide) ?_
          exact w_iret C dX7_beasts_207 h
        have hL69 : ∀ (G69 : Nat) (S11 : St) (v12 : Int32), fX7_beasts_L69 F v4 J188 G69 S11 v12 = some R → WS VM Y X 7 3 66 (some (.int R.2), R.1) S11 69 [(0, rf Y 0), (2, .int v4), (3, .int v12)] [] := by
          intro G69
          induction G69 with
          | zero => intro S11 v12 h; exact nomatch (show (none : Option (St × Int32)) = some R from h)
          | succ G69 ih =>
            intro S11 v12 h
            rw [fX7_beasts_L69] at h
            refine w_aload_n C dX7_beasts_69 rfl 0 rfl ?_
            refine w_getr C dX7_beasts_70 flX7_41 gM0_13 ?_
            refine w_iload_n C dX7_beasts_73 rfl 1 rfl ?_
            refine x_zald C dX7_beasts_74 aM11 h (fun v13 h => ?_)
            refine w_if_ne C 188 dX7_beasts_75 (by decide) h (fun h => ?_) (fun h => ?_)
            · exact w_sub [0, 1, 2] rfl (hJ188 _ _ h)
            refine w_iload_n C dX7_beasts_78 rfl 2 rfl ?_
            refine w_aload_n C dX7_beasts_79 rfl 0 rfl ?_
            refine w_getr C dX7_beasts_80 flX7_7 gM0_0 ?_
            refine w_iconst (v := 1) C dX7_beasts_83 (by decide) ?_
            refine x_iald C dX7_beasts_84 aM1 h (fun v14 h => ?_)
            refine w_icmp_ge C 188 dX7_beasts_85 (by decide) h (fun h => ?_) (fun h => ?_)
            · exact w_sub [0, 1, 2] rfl (hJ188 _ _ h)
            refine w_aload_n C dX7_beasts_88 rfl 0 rfl ?_
            refine w_getr C dX7_beasts_89 flX7_7 gM0_0 ?_
            refine w_sipush (v := 132) C dX7_beasts_92 (by decide) ?_
            refine w_iload_n C dX7_beasts_95 rfl 2 rfl ?_
            refine w_iadd C dX7_beasts_96 ?_
            refine x_iald C dX7_beasts_97 aM1 h (fun v15 h => ?_)
            refine w_istore C dX7_beasts_98 (by decide) [(4, .int v15), (0, rf Y 0), (2, .int v4), (3, .int v12)] rfl ?_
            refine w_iload_n C dX7_beasts_100 rfl 2 rfl ?_
            refine w_istore C dX7_beasts_101 (by decide) [(5, .int v4), (4, .int v15), (0, rf Y 0), (2, .int v4), (3, .int v12)] rfl ?_
            refine w_join (fun J182 => ∀ (S16 : St), J182 S16 = some R → WS VM Y X 7 3 66 (some (.int R.2), R.1) S16 182 [(0, rf Y 0), (2, .int v4), (3, .int v12)] []) h ?_ (fun J182 hJ182 h => ?_)
            · intro S16 h
              refine x_iinc C dX7_beasts_182 2 rfl 1 (by decide) h (by decide) (fun v17 => [(3, .int v17), (0, rf Y 0), (2, .int v4)]) (fun _ => rfl) (fun v17 h => ?_)
              refine w_goto C 69 dX7_beasts_185 (by decide) ?_
              exact w_sub [1, 2, 0] rfl (ih _ _ h)
            have hL103 : ∀ (G103 : Nat) (S18 : St) (v19 : Int32), fX7_beasts_L103 F v15 J182 G103 S18 v19 = some R → WS VM Y X 7 3 66 (some (.int R.2), R.1) S18 103 [(0, rf Y 0), (2, .int v4), (3, .int v12), (4, .int v15), (5, .int v19)] [] := by
              intro G103
              induction G103 with
              | zero => intro S18 v19 h; exact nomatch (show (none : Option (St × Int32)) = some R from h)
              | succ G103 ih =>
                intro S18 v19 h
                rw [fX7_beasts_L103] at h
                refine w_iload C dX7_beasts_103 4 rfl ?_
                refine w_if_le C 182 dX7_beasts_105 (by decide) h (fun h => ?_) (fun h => ?_)
                · exact w_sub [0, 1, 2] rfl (hJ182 _ h)
                refine w_iload C dX7_beasts_108 4 rfl ?_
                refine w_istore C dX7_beasts_110 (by decide) [(6, .int v19), (0, rf Y 0), (2, .int v4), (3, .int v12), (4, .int v15), (5, .int v19)] rfl ?_
                refine w_join (fun J176 => ∀ (S20 : St), J176 S20 = some R → WS VM Y X 7 3 66 (some (.int R.2), R.1) S20 176 [(0, rf Y 0), (2, .int v4), (3, .int v12), (4, .int v15), (5, .int v19)] []) h ?_ (fun J176 hJ176 h => ?_)
                · intro S20 h
                  refine x_iinc C dX7_beasts_176 4 rfl (-1) (by decide) h (by decide) (fun v21 => [(5, .int v21), (0, rf Y 0), (2, .int v4), (3, .int v12), (4, .int v15)]) (fun _ => rfl) (fun v21 h => ?_)
                  refine w_goto C 103 dX7_beasts_179 (by decide) ?_
                  exact w_sub [1, 2, 3, 4, 0] rfl (ih _ _ h)
                have hL112 : ∀ (G112 : Nat) (S22 : St) (v23 : Int32), fX7_beasts_L112 v15 v19 J176 G112 S22 v23 = some R → WS VM Y X 7 3 66 (some (.int R.2), R.1) S22 112 [(0, rf Y 0), (2, .int v4), (3, .int v12), (4, .int v15), (5, .int v19), (6, .int v23)] [] := by
                  intro G112
                  induction G112 with
                  | zero => intro S22 v23 h; exact nomatch (show (none : Option (St × Int32)) = some R from h)
                  | succ G112 ih =>
                    intro S22 v23 h
                    rw [fX7_beasts_L112] at h
                    refine w_iload C dX7_beasts_112 5 rfl ?_
                    refine w_if_le C 176 dX7_beasts_114 (by decide) h (fun h => ?_) (fun h => ?_)
                    · exact w_sub [0, 1, 2, 3, 4] rfl (hJ176 _ h)
                    refine w_aload_n C dX7_beasts_117 rfl 0 rfl ?_
                    refine w_getr C dX7_beasts_118 flX7_41 gM0_13 ?_
                    refine w_iload C dX7_beasts_121 4 rfl ?_
                    refine x_zald C dX7_beasts_123 aM11 h (fun v24 h => ?_)
                    refine w_if_ne C 176 dX7_beasts_124 (by decide) h (fun h => ?_) (fun h => ?_)
                    · exact w_sub [0, 1, 2, 3, 4] rfl (hJ176 _ h)
                    refine w_aload_n C dX7_beasts_127 rfl 0 rfl ?_
                    refine w_getr C dX7_beasts_128 flX7_41 gM0_13 ?_
                    refine w_iload C dX7_beasts_131 4 rfl ?_
                    refine w_aload_n C dX7_beasts_133 rfl 0 rfl ?_
                    refine w_getr C dX7_beasts_134 flX7_38 gM0_12 ?_
                    refine w_iload C dX7_beasts_137 5 rfl ?_
                    refine x_iald C dX7_beasts_139 aM10 h (fun v25 h => ?_)
                    refine w_iload C dX7_beasts_140 3 rfl ?_
                    refine w_join (fun J163 => ∀ (v26 : Int32), J163 v26 = some R → WS VM Y X 7 3 66 (some (.int R.2), R.1) S22 163 [(0, rf Y 0), (2, .int v4), (3, .int v12), (4, .int v15), (5, .int v19), (6, .int v23)] [.int v26, .int v19, rf Y 11]) h ?_ (fun J163 hJ163 h => ?_)
                    · intro v26 h
                      refine x_zast C dX7_beasts_163 aM11 h (fun S27 h => ?_)
                      refine w_iload C dX7_beasts_164 5 rfl ?_
                      refine w_iconst (v := 1) C dX7_beasts_166 (by decide) ?_
                      refine w_isub C dX7_beasts_167 ?_
                      refine w_iload C dX7_beasts_168 4 rfl ?_
                      refine w_iand C dX7_beasts_170 ?_
                      refine w_topi h (fun v28 h => ?_)
                      refine w_istore C dX7_beasts_171 (by decide) [(6, .int v28), (0, rf Y 0), (2, .int v4), (3, .int v12), (4, .int v15), (5, .int v19)] rfl ?_
                      refine w_goto C 112 dX7_beasts_173 (by decide) ?_
                      exact w_sub [1, 2, 3, 4, 5, 0] rfl (ih _ _ h)
                    refine w_join (fun J162 => J162  = some R → WS VM Y X 7 3 66 (some (.int R.2), R.1) S22 162 [(0, rf Y 0), (2, .int v4), (3, .int v12), (4, .int v15), (5, .int v19), (6, .int v23)] [.int v19, rf Y 11]) h ?_ (fun J162 hJ162 h => ?_)
                    · intro  h
                      refine w_iconst (v := 0) C dX7_beasts_162 (by decide) ?_
                      exact w_sub [0, 1, 2, 3, 4, 5] rfl (hJ163 _ h)
                    refine w_icmp_gt C 162 dX7_beasts_142 (by decide) h (fun h => ?_) (fun h => ?_)
                    · exact w_sub [0, 1, 2, 3, 4, 5] rfl (hJ162  h)
                    refine w_aload_n C dX7_beasts_145 rfl 0 rfl ?_
                    refine w_getr C dX7_beasts_146 flX7_41 gM0_13 ?_
                    refine w_iload C dX7_beasts_149 4 rfl ?_
                    refine w_iload C dX7_beasts_151 5 rfl ?_
                    refine w_ixor C dX7_beasts_153 ?_
                    refine x_zald C dX7_beasts_154 aM11 h (fun v29 h => ?_)
                    refine w_if_eq C 162 dX7_beasts_155 (by decide) h (fun h => ?_) (fun h => ?_)
                    · exact w_sub [0, 1, 2, 3, 4, 5] rfl (hJ162  h)
                    refine w_iconst (v := 1) C dX7_beasts_158 (by decide) ?_
                    refine w_goto C 163 dX7_beasts_159 (by decide) ?_
                    exact w_sub [0, 1, 2, 3, 4, 5] rfl (hJ163 _ h)
                exact w_sub [1, 2, 3, 4, 5, 0] rfl (hL112 _ _ _ h)
            exact w_sub [2, 3, 4, 1, 0] rfl (hL103 _ _ _ h)
        exact w_sub [1, 2, 0] rfl (hL69 _ _ _ h)
      have hL41 : ∀ (G41 : Nat) (S30 : St) (v31 : Int32), fX7_beasts_L41 v4 J67 G41 S30 v31 = some R → WS VM Y X 7 3 66 (some (.int R.2), R.1) S30 41 [(0, rf Y 0), (2, .int v4), (3, .int v31)] [] := by
        intro G41
        induction G41 with
        | zero => intro S30 v31 h; exact nomatch (show (none : Option (St × Int32)) = some R from h)
        | succ G41 ih =>
          intro S30 v31 h
          rw [fX7_beasts_L41] at h
          refine w_iload_n C dX7_beasts_41 rfl 2 rfl ?_
          refine w_iload_n C dX7_beasts_42 rfl 1 rfl ?_
          refine w_icmp_gt C 67 dX7_beasts_43 (by decide) h (fun h => ?_) (fun h => ?_)
          · exact w_sub [0, 1] rfl (hJ67 _ h)
          refine w_aload_n C dX7_beasts_46 rfl 0 rfl ?_
          refine w_getr C dX7_beasts_47 flX7_41 gM0_13 ?_
          refine w_iload_n C dX7_beasts_50 rfl 2 rfl ?_
          refine w_iload_n C dX7_beasts_51 rfl 2 rfl ?_
          refine w_join (fun J60 => ∀ (v32 : Int32), J60 v32 = some R → WS VM Y X 7 3 66 (some (.int R.2), R.1) S30 60 [(0, rf Y 0), (2, .int v4), (3, .int v31)] [.int v32, .int v31, rf Y 11]) h ?_ (fun J60 hJ60 h => ?_)
          · intro v32 h
            refine x_zast C dX7_beasts_60 aM11 h (fun S33 h => ?_)
            refine x_iinc C dX7_beasts_61 2 rfl 1 (by decide) h (by decide) (fun v34 => [(3, .int v34), (0, rf Y 0), (2, .int v4)]) (fun _ => rfl) (fun v34 h => ?_)
            refine w_goto C 41 dX7_beasts_64 (by decide) ?_
            exact w_sub [1, 2, 0] rfl (ih _ _ h)
          refine w_if_ne C 59 dX7_beasts_52 (by decide) h (fun h => ?_) (fun h => ?_)
          · refine w_iconst (v := 0) C dX7_beasts_59 (by decide) ?_
            exact w_sub [0, 1, 2] rfl (hJ60 _ h)
          refine w_iconst (v := 1) C dX7_beasts_55 (by decide) ?_
          refine w_goto C 60 dX7_beasts_56 (by decide) ?_
          exact w_sub [0, 1, 2] rfl (hJ60 _ h)
      exact w_sub [2, 1, 0] rfl (hL41 _ _ _ h)
    refine w_aload_n C dX7_beasts_23 rfl 0 rfl ?_
    refine w_ldc C dX7_beasts_24 kcX7_155 ?_
    refine w_Vi C dX7_beasts_26 h (fun _ e => mX7_finds e) lnX7_75 mvX7_finds bM0 rfl ⟨Nat.le_of_ble_eq_true rfl, Nat.le_of_ble_eq_true rfl⟩ [] rfl (Nat.le_of_ble_eq_true rfl) (fun S35 v36 h => ?_)
    exact w_iret C dX7_beasts_29 h
  refine w_aload_n C dX7_beasts_8 rfl 0 rfl ?_
  refine w_ldc C dX7_beasts_9 kcX7_54 ?_
  refine w_Vi C dX7_beasts_11 h (fun _ e => mX7_finds e) lnX7_75 mvX7_finds bM0 rfl ⟨Nat.le_of_ble_eq_true rfl, Nat.le_of_ble_eq_true rfl⟩ [] rfl (Nat.le_of_ble_eq_true rfl) (fun S37 v38 h => ?_)
  exact w_iret C dX7_beasts_14 h)
def fX7_even_L119 (S5 : St) (v8 : Int32) (J163 : Int32 → Option (St × Int32)) : Nat → Int32 → Int32 → Option (St × Int32)
  | 0, _, _ => none
  | G119 + 1, v11, v12 => if (S5.1 0 11) ≤ v12 then (J163 v11) else (pl (fun (v13 : Int32) => pl ((v11 ||| v13)) fun v14 => pl (v12 + 1) fun v15 => fX7_even_L119 S5 v8 J163 G119 v14 v15) fun J154 => if ((v8 >>> (v12 &&& 31)) &&& (1)) = (1) then (ldi S5 9 v12 10 fun v16 => J154 ((1) <<< (v16 &&& 31))) else (J154 (0)))
def fX7_even_L58 (S5 : St) (v7 : Int32) (J113 : Int32 → Int32 → Option (St × Int32)) : Nat → Int32 → Int32 → Int32 → Option (St × Int32)
  | 0, _, _, _ => none
  | G58 + 1, v17, v18, v19 => if v7 < v19 then (J113 v17 v18) else (ldi S5 10 v7 1024 fun v20 => ldi S5 10 v19 1024 fun v21 => pl ((v20 - ((2) * v21))) fun v22 => pl (fun (v23 : Int32) (v24 : Int32) => pl (v19 + 1) fun v25 => fX7_even_L58 S5 v7 J113 G58 v23 v24 v25) fun J107 => if v22 < 0 then (J107 v17 v18) else (pl (J107 v19 v22) fun J99 => if v17 < 0 then (J99) else (if v18 ≤ v22 then (J107 v17 v18) else (J99))))
def fX7_even (F : Nat) (S : St) (a1 : Int32) (a2 : Int32) : Option (St × Int32) := bv (fX7_isLoad F S a1) fun v1 => pl (bq (fX7_finds S (-1000000001)) fun S2 v3 => some (S2, v3)) fun J18 => if v1 = 0 then (J18) else (bv (fX7_isIn S (Int32.toInt64 a2) (0) (1)) fun v4 => if v4 = 0 then (J18) else (bq (fX7_findLoad F S a1) fun S5 v6 => if v6 = 0 then (bq (fX7_finds S5 (-1000000007)) fun S26 v27 => some (S26, v27)) else (pl ((((1) <<< ((S5.1 0 11) &&& 31)) - (1))) fun v7 => pl (fun (v8 : Int32) (v9 : Int32) => pl (fun (v10 : Int32) => if a2 = 0 then (some (S5, v9)) else (some (S5, v10))) fun J163 => fX7_even_L119 S5 v8 J163 F (0) (0)) fun J113 => fX7_even_L58 S5 v7 J113 F (-1) (0) (0))))
set_option maxRecDepth 100000 in
theorem mX7_even {Y : YT} {F : Nat} {S : St} {a1 : Int32} {a2 : Int32} {R : St × Int32} (h : fX7_even F S a1 a2 = some R) : Mc VM Y yX7_even cX7_even 8 (some .int) 3 66 [rf Y 0, .int a1, .int a2] S (some (.int R.2), R.1) :=
  Mc.start [(0, rf Y 0), (1, .int a1), (2, .int a2)] rfl pnX7 (Nat.le_of_ble_eq_true rfl) (fun X (C : Ok VM Y X RX7 cX7_even 8 (some .int)) => by
  unfold fX7_even at h
  refine w_aload_n C dX7_even_0 rfl 0 rfl ?_
  refine w_iload_n C dX7_even_1 rfl 1 rfl ?_
  refine p_Vi C dX7_even_2 h (fun _ e => mX7_isLoad e) lnX7_149 mvX7_isLoad bM0 rfl ⟨Nat.le_of_ble_eq_true rfl, Nat.le_of_ble_eq_true rfl⟩ [] rfl (Nat.le_of_ble_eq_true rfl) (fun v1 h => ?_)
  refine w_join (fun J18 => J18  = some R → WS VM Y X 8 3 66 (some (.int R.2), R.1) S 18 [(0, rf Y 0)] []) h ?_ (fun J18 hJ18 h => ?_)
  · intro  h
    refine w_aload_n C dX7_even_18 rfl 0 rfl ?_
    refine w_ldc C dX7_even_19 kcX7_54 ?_
    refine w_Vi C dX7_even_21 h (fun _ e => mX7_finds e) lnX7_75 mvX7_finds bM0 rfl ⟨Nat.le_of_ble_eq_true rfl, Nat.le_of_ble_eq_true rfl⟩ [] rfl (Nat.le_of_ble_eq_true rfl) (fun S2 v3 h => ?_)
    exact w_iret C dX7_even_24 h
  refine w_if_eq C 18 dX7_even_5 (by decide) h (fun h => ?_) (fun h => ?_)
  · exact w_sub [0] rfl (hJ18  h)
  refine w_iload_n C dX7_even_8 rfl 2 rfl ?_
  refine w_i2l C dX7_even_9 ?_
  refine w_lconst (v := 0) C dX7_even_10 (by decide) ?_
  refine w_lconst (v := 1) C dX7_even_11 (by decide) ?_
  refine p_Si C dX7_even_12 h (fun _ e => mX7_isIn e) lnX7_65 msX7_isIn rfl ⟨Nat.le_of_ble_eq_true rfl, Nat.le_of_ble_eq_true rfl⟩ [] rfl (Nat.le_of_ble_eq_true rfl) (fun v4 h => ?_)
  refine w_if_ne C 25 dX7_even_15 (by decide) h (fun h => ?_) (fun h => ?_)
  · refine w_aload_n C dX7_even_25 rfl 0 rfl ?_
    refine w_iload_n C dX7_even_26 rfl 1 rfl ?_
    refine w_Vi C dX7_even_27 h (fun _ e => mX7_findLoad e) lnX7_152 mvX7_findLoad bM0 rfl ⟨Nat.le_of_ble_eq_true rfl, Nat.le_of_ble_eq_true rfl⟩ [] rfl (Nat.le_of_ble_eq_true rfl) (fun S5 v6 h => ?_)
    refine w_if_ne C 40 dX7_even_30 (by decide) h (fun h => ?_) (fun h => ?_)
    · refine w_iconst (v := 1) C dX7_even_40 (by decide) ?_
      refine w_aload_n C dX7_even_41 rfl 0 rfl ?_
      refine w_geti C dX7_even_42 flX7_145 iM0_11 ?_
      refine w_ishl C dX7_even_45 ?_
      refine w_iconst (v := 1) C dX7_even_46 (by decide) ?_
      refine w_isub C dX7_even_47 ?_
      refine w_topi h (fun v7 h => ?_)
      refine w_istore_n C dX7_even_48 rfl (by decide) [(3, .int v7), (0, rf Y 0), (1, .int a1), (2, .int a2)] rfl ?_
      refine w_iconst (v := -1) C dX7_even_49 (by decide) ?_
      refine w_istore C dX7_even_50 (by decide) [(4, .int (-1)), (3, .int v7), (0, rf Y 0), (1, .int a1), (2, .int a2)] rfl ?_
      refine w_iconst (v := 0) C dX7_even_52 (by decide) ?_
      refine w_istore C dX7_even_53 (by decide) [(5, .int (0)), (4, .int (-1)), (3, .int v7), (0, rf Y 0), (1, .int a1), (2, .int a2)] rfl ?_
      refine w_iconst (v := 0) C dX7_even_55 (by decide) ?_
      refine w_istore C dX7_even_56 (by decide) [(6, .int (0)), (5, .int (0)), (4, .int (-1)), (3, .int v7), (0, rf Y 0), (1, .int a1), (2, .int a2)] rfl ?_
      refine w_join (fun J113 => ∀ (v8 : Int32) (v9 : Int32), J113 v8 v9 = some R → WS VM Y X 8 3 66 (some (.int R.2), R.1) S5 113 [(0, rf Y 0), (2, .int a2), (4, .int v8), (5, .int v9)] []) h ?_ (fun J113 hJ113 h => ?_)
      · intro v8 v9 h
        refine w_iconst (v := 0) C dX7_even_113 (by decide) ?_
        refine w_istore C dX7_even_114 (by decide) [(6, .int (0)), (0, rf Y 0), (2, .int a2), (4, .int v8), (5, .int v9)] rfl ?_
        refine w_iconst (v := 0) C dX7_even_116 (by decide) ?_
        refine w_istore C dX7_even_117 (by decide) [(7, .int (0)), (6, .int (0)), (0, rf Y 0), (2, .int a2), (4, .int v8), (5, .int v9)] rfl ?_
        refine w_join (fun J163 => ∀ (v10 : Int32), J163 v10 = some R → WS VM Y X 8 3 66 (some (.int R.2), R.1) S5 163 [(2, .int a2), (5, .int v9), (6, .int v10)] []) h ?_ (fun J163 hJ163 h => ?_)
        · intro v10 h
          refine w_iload_n C dX7_even_163 rfl 0 rfl ?_
          refine w_if_ne C 172 dX7_even_164 (by decide) h (fun h => ?_) (fun h => ?_)
          · refine w_iload C dX7_even_172 2 rfl ?_
            exact w_iret C dX7_even_174 h
          refine w_iload C dX7_even_167 1 rfl ?_
          refine w_goto C 174 dX7_even_169 (by decide) ?_
          exact w_iret C dX7_even_174 h
        have hL119 : ∀ (G119 : Nat) (v11 : Int32) (v12 : Int32), fX7_even_L119 S5 v8 J163 G119 v11 v12 = some R → WS VM Y X 8 3 66 (some (.int R.2), R.1) S5 119 [(0, rf Y 0), (2, .int a2), (4, .int v8), (5, .int v9), (6, .int v11), (7, .int v12)] [] := by
          intro G119
          induction G119 with
          | zero => intro v11 v12 h; exact nomatch (show (none : Option (St × Int32)) = some R from h)
          | succ G119 ih =>
            intro v11 v12 h
            rw [fX7_even_L119] at h
            refine w_iload C dX7_even_119 5 rfl ?_
            refine w_aload_n C dX7_even_121 rfl 0 rfl ?_
            refine w_geti C dX7_even_122 flX7_145 iM0_11 ?_
            refine w_icmp_ge C 163 dX7_even_125 (by decide) h (fun h => ?_) (fun h => ?_)
            · exact w_sub [1, 3, 4] rfl (hJ163 _ h)
            refine w_iload C dX7_even_128 4 rfl ?_
            refine w_iload C dX7_even_130 2 rfl ?_
            refine w_iload C dX7_even_132 5 rfl ?_
            refine w_ishr C dX7_even_134 ?_
            refine w_iconst (v := 1) C dX7_even_135 (by decide) ?_
            refine w_iand C dX7_even_136 ?_
            refine w_iconst (v := 1) C dX7_even_137 (by decide) ?_
            refine w_join (fun J154 => ∀ (v13 : Int32), J154 v13 = some R → WS VM Y X 8 3 66 (some (.int R.2), R.1) S5 154 [(0, rf Y 0), (2, .int a2), (4, .int v8), (5, .int v9), (7, .int v12)] [.int v13, .int v11]) h ?_ (fun J154 hJ154 h => ?_)
            · intro v13 h
              refine w_ior C dX7_even_154 ?_
              refine w_topi h (fun v14 h => ?_)
              refine w_istore C dX7_even_155 (by decide) [(6, .int v14), (0, rf Y 0), (2, .int a2), (4, .int v8), (5, .int v9), (7, .int v12)] rfl ?_
              refine x_iinc C dX7_even_157 5 rfl 1 (by decide) h (by decide) (fun v15 => [(7, .int v15), (6, .int v14), (0, rf Y 0), (2, .int a2), (4, .int v8), (5, .int v9)]) (fun _ => rfl) (fun v15 h => ?_)
              refine w_goto C 119 dX7_even_160 (by decide) ?_
              exact w_sub [2, 3, 4, 5, 1, 0] rfl (ih _ _ h)
            refine w_icmp_ne C 153 dX7_even_138 (by decide) h (fun h => ?_) (fun h => ?_)
            · refine w_iconst (v := 0) C dX7_even_153 (by decide) ?_
              exact w_sub [0, 1, 2, 3, 5] rfl (hJ154 _ h)
            refine w_iconst (v := 1) C dX7_even_141 (by decide) ?_
            refine w_aload_n C dX7_even_142 rfl 0 rfl ?_
            refine w_getr C dX7_even_143 flX7_35 gM0_10 ?_
            refine w_iload C dX7_even_146 5 rfl ?_
            refine x_iald C dX7_even_148 aM9 h (fun v16 h => ?_)
            refine w_ishl C dX7_even_149 ?_
            refine w_goto C 154 dX7_even_150 (by decide) ?_
            exact w_sub [0, 1, 2, 3, 5] rfl (hJ154 _ h)
        exact w_sub [2, 3, 4, 5, 1, 0] rfl (hL119 _ _ _ h)
      have hL58 : ∀ (G58 : Nat) (v17 : Int32) (v18 : Int32) (v19 : Int32), fX7_even_L58 S5 v7 J113 G58 v17 v18 v19 = some R → WS VM Y X 8 3 66 (some (.int R.2), R.1) S5 58 [(0, rf Y 0), (2, .int a2), (3, .int v7), (4, .int v17), (5, .int v18), (6, .int v19)] [] := by
        intro G58
        induction G58 with
        | zero => intro v17 v18 v19 h; exact nomatch (show (none : Option (St × Int32)) = some R from h)
        | succ G58 ih =>
          intro v17 v18 v19 h
          rw [fX7_even_L58] at h
          refine w_iload C dX7_even_58 5 rfl ?_
          refine w_iload_n C dX7_even_60 rfl 2 rfl ?_
          refine w_icmp_gt C 113 dX7_even_61 (by decide) h (fun h => ?_) (fun h => ?_)
          · exact w_sub [0, 1, 3, 4] rfl (hJ113 _ _ h)
          refine w_aload_n C dX7_even_64 rfl 0 rfl ?_
          refine w_getr C dX7_even_65 flX7_38 gM0_12 ?_
          refine w_iload_n C dX7_even_68 rfl 2 rfl ?_
          refine x_iald C dX7_even_69 aM10 h (fun v20 h => ?_)
          refine w_iconst (v := 2) C dX7_even_70 (by decide) ?_
          refine w_aload_n C dX7_even_71 rfl 0 rfl ?_
          refine w_getr C dX7_even_72 flX7_38 gM0_12 ?_
          refine w_iload C dX7_even_75 5 rfl ?_
          refine x_iald C dX7_even_77 aM10 h (fun v21 h => ?_)
          refine w_imul C dX7_even_78 ?_
          refine w_isub C dX7_even_79 ?_
          refine w_topi h (fun v22 h => ?_)
          refine w_istore C dX7_even_80 (by decide) [(7, .int v22), (0, rf Y 0), (2, .int a2), (3, .int v7), (4, .int v17), (5, .int v18), (6, .int v19)] rfl ?_
          refine w_iload C dX7_even_82 0 rfl ?_
          refine w_join (fun J107 => ∀ (v23 : Int32) (v24 : Int32), J107 v23 v24 = some R → WS VM Y X 8 3 66 (some (.int R.2), R.1) S5 107 [(0, rf Y 0), (2, .int a2), (3, .int v7), (4, .int v23), (5, .int v24), (6, .int v19)] []) h ?_ (fun J107 hJ107 h => ?_)
          · intro v23 v24 h
            refine x_iinc C dX7_even_107 5 rfl 1 (by decide) h (by decide) (fun v25 => [(6, .int v25), (0, rf Y 0), (2, .int a2), (3, .int v7), (4, .int v23), (5, .int v24)]) (fun _ => rfl) (fun v25 h => ?_)
            refine w_goto C 58 dX7_even_110 (by decide) ?_
            exact w_sub [1, 2, 3, 4, 5, 0] rfl (ih _ _ _ h)
          refine w_if_lt C 107 dX7_even_84 (by decide) h (fun h => ?_) (fun h => ?_)
          · exact w_sub [1, 2, 3, 4, 5, 6] rfl (hJ107 _ _ h)
          refine w_iload C dX7_even_87 4 rfl ?_
          refine w_join (fun J99 => J99  = some R → WS VM Y X 8 3 66 (some (.int R.2), R.1) S5 99 [(0, rf Y 0), (2, .int a2), (3, .int v7), (6, .int v19), (7, .int v22)] []) h ?_ (fun J99 hJ99 h => ?_)
          · intro  h
            refine w_iload C dX7_even_99 3 rfl ?_
            refine w_istore C dX7_even_101 (by decide) [(4, .int v19), (0, rf Y 0), (2, .int a2), (3, .int v7), (6, .int v19), (7, .int v22)] rfl ?_
            refine w_iload C dX7_even_103 5 rfl ?_
            refine w_istore C dX7_even_105 (by decide) [(5, .int v22), (4, .int v19), (0, rf Y 0), (2, .int a2), (3, .int v7), (6, .int v19), (7, .int v22)] rfl ?_
            exact w_sub [2, 3, 4, 1, 0, 5] rfl (hJ107 _ _ h)
          refine w_if_lt C 99 dX7_even_89 (by decide) h (fun h => ?_) (fun h => ?_)
          · exact w_sub [1, 2, 3, 6, 0] rfl (hJ99  h)
          refine w_iload C dX7_even_92 0 rfl ?_
          refine w_iload C dX7_even_94 5 rfl ?_
          refine w_icmp_ge C 107 dX7_even_96 (by decide) h (fun h => ?_) (fun h => ?_)
          · exact w_sub [1, 2, 3, 4, 5, 6] rfl (hJ107 _ _ h)
          exact w_sub [1, 2, 3, 6, 0] rfl (hJ99  h)
      exact w_sub [4, 6, 3, 2, 1, 0] rfl (hL58 _ _ _ _ h)
    refine w_aload_n C dX7_even_33 rfl 0 rfl ?_
    refine w_ldc C dX7_even_34 kcX7_155 ?_
    refine w_Vi C dX7_even_36 h (fun _ e => mX7_finds e) lnX7_75 mvX7_finds bM0 rfl ⟨Nat.le_of_ble_eq_true rfl, Nat.le_of_ble_eq_true rfl⟩ [] rfl (Nat.le_of_ble_eq_true rfl) (fun S26 v27 h => ?_)
    exact w_iret C dX7_even_39 h
  exact w_sub [0] rfl (hJ18  h))
def fX7_isCamp (S : St) (a1 : Int64) : Option (Int32) := if (lg_cmp a1 (0)) < 0 then (some (0)) else (ldi S 1 (2) 216 fun v1 => if 0 ≤ (lg_cmp a1 (Int32.toInt64 v1)) then (some (0)) else (some (1)))
set_option maxRecDepth 100000 in
theorem mX7_isCamp {Y : YT} {S : St} {a1 : Int64} {R : Int32} (h : fX7_isCamp  S a1 = some R) : Mc VM Y yX7_isCamp cX7_isCamp 3 (some .boolean) 0 0 [rf Y 0, .long a1] S (some (.int R), S) :=
  Mc.start [(0, rf Y 0), (1, .long a1)] rfl pnX7 (Nat.le_of_ble_eq_true rfl) (fun X (C : Ok VM Y X RX7 cX7_isCamp 3 (some .boolean)) => by
  unfold fX7_isCamp at h
  refine w_lload_n C dX7_isCamp_0 rfl 1 rfl ?_
  refine w_lconst (v := 0) C dX7_isCamp_1 (by decide) ?_
  refine w_lcmp C dX7_isCamp_2 ?_
  refine w_if_lt C 22 dX7_isCamp_3 (by decide) h (fun h => ?_) (fun h => ?_)
  · refine w_iconst (v := 0) C dX7_isCamp_22 (by decide) ?_
    exact p_zret0 C dX7_isCamp_23 rfl h
  refine w_lload_n C dX7_isCamp_6 rfl 1 rfl ?_
  refine w_aload_n C dX7_isCamp_7 rfl 0 rfl ?_
  refine w_getr C dX7_isCamp_8 flX7_7 gM0_0 ?_
  refine w_iconst (v := 2) C dX7_isCamp_11 (by decide) ?_
  refine x_iald C dX7_isCamp_12 aM1 h (fun v1 h => ?_)
  refine w_i2l C dX7_isCamp_13 ?_
  refine w_lcmp C dX7_isCamp_14 ?_
  refine w_if_ge C 22 dX7_isCamp_15 (by decide) h (fun h => ?_) (fun h => ?_)
  · refine w_iconst (v := 0) C dX7_isCamp_22 (by decide) ?_
    exact p_zret0 C dX7_isCamp_23 rfl h
  refine w_iconst (v := 1) C dX7_isCamp_18 (by decide) ?_
  refine w_goto C 23 dX7_isCamp_19 (by decide) ?_
  exact p_zret0 C dX7_isCamp_23 rfl h)
def fX7_comesCamp_L16 (v2 : Int32) (J37 : St → Option (St)) : Nat → St → Int32 → Option (St)
  | 0, _, _ => none
  | G16 + 1, S7, v8 => if (12) ≤ v8 then (J37 S7) else (sti S7 1 (v2 + v8) 216 (0) fun S9 => pl (v8 + 1) fun v10 => fX7_comesCamp_L16 v2 J37 G16 S9 v10)
def fX7_comesCamp (F : Nat) (S : St) (a1 : Int32) : Option (St) := ldi S 1 (2) 216 fun v1 => pl (((138) + ((13) * v1))) fun v2 => pl (fun (S3 : St) => sti S3 1 (v2 + (12)) 216 a1 fun S4 => ldi S4 1 (2) 216 fun v5 => sti S4 1 (2) 216 (v5 + (1)) fun S6 => some S6) fun J37 => fX7_comesCamp_L16 v2 J37 F S (0)
set_option maxRecDepth 100000 in
theorem mX7_comesCamp {Y : YT} {F : Nat} {S : St} {a1 : Int32} {R : St} (h : fX7_comesCamp F S a1 = some R) : Mc VM Y yX7_comesCamp cX7_comesCamp 4 none 0 0 [rf Y 0, .int a1] S (none, R) :=
  Mc.start [(0, rf Y 0), (1, .int a1)] rfl pnX7 (Nat.le_of_ble_eq_true rfl) (fun X (C : Ok VM Y X RX7 cX7_comesCamp 4 none) => by
  unfold fX7_comesCamp at h
  refine w_sipush (v := 138) C dX7_comesCamp_0 (by decide) ?_
  refine w_bipush (v := 13) C dX7_comesCamp_3 (by decide) ?_
  refine w_aload_n C dX7_comesCamp_5 rfl 0 rfl ?_
  refine w_getr C dX7_comesCamp_6 flX7_7 gM0_0 ?_
  refine w_iconst (v := 2) C dX7_comesCamp_9 (by decide) ?_
  refine x_iald C dX7_comesCamp_10 aM1 h (fun v1 h => ?_)
  refine w_imul C dX7_comesCamp_11 ?_
  refine w_iadd C dX7_comesCamp_12 ?_
  refine w_topi h (fun v2 h => ?_)
  refine w_istore_n C dX7_comesCamp_13 rfl (by decide) [(2, .int v2), (0, rf Y 0), (1, .int a1)] rfl ?_
  refine w_iconst (v := 0) C dX7_comesCamp_14 (by decide) ?_
  refine w_istore_n C dX7_comesCamp_15 rfl (by decide) [(3, .int (0)), (2, .int v2), (0, rf Y 0), (1, .int a1)] rfl ?_
  refine w_join (fun J37 => ∀ (S3 : St), J37 S3 = some R → WS VM Y X 4 0 0 (none, R) S3 37 [(0, rf Y 0), (1, .int a1), (2, .int v2)] []) h ?_ (fun J37 hJ37 h => ?_)
  · intro S3 h
    refine w_aload_n C dX7_comesCamp_37 rfl 0 rfl ?_
    refine w_getr C dX7_comesCamp_38 flX7_7 gM0_0 ?_
    refine w_iload_n C dX7_comesCamp_41 rfl 2 rfl ?_
    refine w_bipush (v := 12) C dX7_comesCamp_42 (by decide) ?_
    refine w_iadd C dX7_comesCamp_44 ?_
    refine w_iload_n C dX7_comesCamp_45 rfl 1 rfl ?_
    refine x_iast C dX7_comesCamp_46 aM1 h (fun S4 h => ?_)
    refine w_aload_n C dX7_comesCamp_47 rfl 0 rfl ?_
    refine w_getr C dX7_comesCamp_48 flX7_7 gM0_0 ?_
    refine w_iconst (v := 2) C dX7_comesCamp_51 (by decide) ?_
    refine w_dup2 C dX7_comesCamp_52 rfl rfl ?_
    refine x_iald C dX7_comesCamp_53 aM1 h (fun v5 h => ?_)
    refine w_iconst (v := 1) C dX7_comesCamp_54 (by decide) ?_
    refine w_iadd C dX7_comesCamp_55 ?_
    refine x_iast C dX7_comesCamp_56 aM1 h (fun S6 h => ?_)
    exact w_vret C dX7_comesCamp_57 h
  have hL16 : ∀ (G16 : Nat) (S7 : St) (v8 : Int32), fX7_comesCamp_L16 v2 J37 G16 S7 v8 = some R → WS VM Y X 4 0 0 (none, R) S7 16 [(0, rf Y 0), (1, .int a1), (2, .int v2), (3, .int v8)] [] := by
    intro G16
    induction G16 with
    | zero => intro S7 v8 h; exact nomatch (show (none : Option (St)) = some R from h)
    | succ G16 ih =>
      intro S7 v8 h
      rw [fX7_comesCamp_L16] at h
      refine w_iload_n C dX7_comesCamp_16 rfl 3 rfl ?_
      refine w_bipush (v := 12) C dX7_comesCamp_17 (by decide) ?_
      refine w_icmp_ge C 37 dX7_comesCamp_19 (by decide) h (fun h => ?_) (fun h => ?_)
      · exact w_sub [0, 1, 2] rfl (hJ37 _ h)
      refine w_aload_n C dX7_comesCamp_22 rfl 0 rfl ?_
      refine w_getr C dX7_comesCamp_23 flX7_7 gM0_0 ?_
      refine w_iload_n C dX7_comesCamp_26 rfl 2 rfl ?_
      refine w_iload_n C dX7_comesCamp_27 rfl 3 rfl ?_
      refine w_iadd C dX7_comesCamp_28 ?_
      refine w_iconst (v := 0) C dX7_comesCamp_29 (by decide) ?_
      refine x_iast C dX7_comesCamp_30 aM1 h (fun S9 h => ?_)
      refine x_iinc C dX7_comesCamp_31 3 rfl 1 (by decide) h (by decide) (fun v10 => [(3, .int v10), (0, rf Y 0), (1, .int a1), (2, .int v2)]) (fun _ => rfl) (fun v10 h => ?_)
      refine w_goto C 16 dX7_comesCamp_34 (by decide) ?_
      exact w_sub [1, 2, 3, 0] rfl (ih _ _ h)
  exact w_sub [2, 3, 1, 0] rfl (hL16 _ _ _ h))
def fX7_camp (F : Nat) (S : St) (a1 : Int32) : Option (St × Int32) := bv (fX7_isIn S (Int32.toInt64 a1) (0) (99)) fun v1 => if v1 = 0 then (bq (fX7_finds S (-1000000001)) fun S7 v8 => some (S7, v8)) else (ldi S 1 (2) 216 fun v2 => if v2 = (6) then (bq (fX7_finds S (-1000000002)) fun S5 v6 => some (S5, v6)) else (bv (fX7_comesCamp F S a1) fun S3 => ldi S3 1 (2) 216 fun v4 => some (S3, (v4 - (1)))))
set_option maxRecDepth 100000 in
theorem mX7_camp {Y : YT} {F : Nat} {S : St} {a1 : Int32} {R : St × Int32} (h : fX7_camp F S a1 = some R) : Mc VM Y yX7_camp cX7_camp 2 (some .int) 1 25 [rf Y 0, .int a1] S (some (.int R.2), R.1) :=
  Mc.start [(0, rf Y 0), (1, .int a1)] rfl pnX7 (Nat.le_of_ble_eq_true rfl) (fun X (C : Ok VM Y X RX7 cX7_camp 2 (some .int)) => by
  unfold fX7_camp at h
  refine w_iload_n C dX7_camp_0 rfl 1 rfl ?_
  refine w_i2l C dX7_camp_1 ?_
  refine w_lconst (v := 0) C dX7_camp_2 (by decide) ?_
  refine w_ldc2 C dX7_camp_3 klX7_73 ?_
  refine p_Si C dX7_camp_6 h (fun _ e => mX7_isIn e) lnX7_65 msX7_isIn rfl ⟨Nat.le_of_ble_eq_true rfl, Nat.le_of_ble_eq_true rfl⟩ [] rfl (Nat.le_of_ble_eq_true rfl) (fun v1 h => ?_)
  refine w_if_ne C 19 dX7_camp_9 (by decide) h (fun h => ?_) (fun h => ?_)
  · refine w_aload_n C dX7_camp_19 rfl 0 rfl ?_
    refine w_getr C dX7_camp_20 flX7_7 gM0_0 ?_
    refine w_iconst (v := 2) C dX7_camp_23 (by decide) ?_
    refine x_iald C dX7_camp_24 aM1 h (fun v2 h => ?_)
    refine w_bipush (v := 6) C dX7_camp_25 (by decide) ?_
    refine w_icmp_ne C 37 dX7_camp_27 (by decide) h (fun h => ?_) (fun h => ?_)
    · refine w_aload_n C dX7_camp_37 rfl 0 rfl ?_
      refine w_iload_n C dX7_camp_38 rfl 1 rfl ?_
      refine w_Vv C dX7_camp_39 h (fun _ e => mX7_comesCamp e) lnX7_156 mvX7_comesCamp bM0 rfl ⟨Nat.le_of_ble_eq_true rfl, Nat.le_of_ble_eq_true rfl⟩ [] rfl (Nat.le_of_ble_eq_true rfl) (fun S3 h => ?_)
      refine w_aload_n C dX7_camp_42 rfl 0 rfl ?_
      refine w_getr C dX7_camp_43 flX7_7 gM0_0 ?_
      refine w_iconst (v := 2) C dX7_camp_46 (by decide) ?_
      refine x_iald C dX7_camp_47 aM1 h (fun v4 h => ?_)
      refine w_iconst (v := 1) C dX7_camp_48 (by decide) ?_
      refine w_isub C dX7_camp_49 ?_
      exact w_iret C dX7_camp_50 h
    refine w_aload_n C dX7_camp_30 rfl 0 rfl ?_
    refine w_ldc C dX7_camp_31 kcX7_79 ?_
    refine w_Vi C dX7_camp_33 h (fun _ e => mX7_finds e) lnX7_75 mvX7_finds bM0 rfl ⟨Nat.le_of_ble_eq_true rfl, Nat.le_of_ble_eq_true rfl⟩ [] rfl (Nat.le_of_ble_eq_true rfl) (fun S5 v6 h => ?_)
    exact w_iret C dX7_camp_36 h
  refine w_aload_n C dX7_camp_12 rfl 0 rfl ?_
  refine w_ldc C dX7_camp_13 kcX7_54 ?_
  refine w_Vi C dX7_camp_15 h (fun _ e => mX7_finds e) lnX7_75 mvX7_finds bM0 rfl ⟨Nat.le_of_ble_eq_true rfl, Nat.le_of_ble_eq_true rfl⟩ [] rfl (Nat.le_of_ble_eq_true rfl) (fun S7 v8 h => ?_)
  exact w_iret C dX7_camp_18 h)
def fX7_grass (S : St) (a1 : Int32) (a2 : Int32) (a3 : Int32) : Option (St × Int32) := bv (fX7_isCamp S (Int32.toInt64 a1)) fun v1 => pl (bq (fX7_finds S (-1000000001)) fun S2 v3 => some (S2, v3)) fun J33 => if v1 = 0 then (J33) else (bv (fX7_isIn S (Int32.toInt64 a2) (0) (11)) fun v4 => if v4 = 0 then (J33) else (bv (fX7_isIn S (Int32.toInt64 a3) (0) (999)) fun v5 => if v5 = 0 then (J33) else (bq (fX7_becomes S (((138) + ((13) * a1)) + a2) a3) fun S6 v7 => some (S6, v7))))
set_option maxRecDepth 100000 in
theorem mX7_grass {Y : YT} {S : St} {a1 : Int32} {a2 : Int32} {a3 : Int32} {R : St × Int32} (h : fX7_grass  S a1 a2 a3 = some R) : Mc VM Y yX7_grass cX7_grass 4 (some .int) 1 25 [rf Y 0, .int a1, .int a2, .int a3] S (some (.int R.2), R.1) :=
  Mc.start [(0, rf Y 0), (1, .int a1), (2, .int a2), (3, .int a3)] rfl pnX7 (Nat.le_of_ble_eq_true rfl) (fun X (C : Ok VM Y X RX7 cX7_grass 4 (some .int)) => by
  unfold fX7_grass at h
  refine w_aload_n C dX7_grass_0 rfl 0 rfl ?_
  refine w_iload_n C dX7_grass_1 rfl 1 rfl ?_
  refine w_i2l C dX7_grass_2 ?_
  refine p_Vi C dX7_grass_3 h (fun _ e => mX7_isCamp e) lnX7_160 mvX7_isCamp bM0 rfl ⟨Nat.le_of_ble_eq_true rfl, Nat.le_of_ble_eq_true rfl⟩ [] rfl (Nat.le_of_ble_eq_true rfl) (fun v1 h => ?_)
  refine w_join (fun J33 => J33  = some R → WS VM Y X 4 1 25 (some (.int R.2), R.1) S 33 [(0, rf Y 0)] []) h ?_ (fun J33 hJ33 h => ?_)
  · intro  h
    refine w_aload_n C dX7_grass_33 rfl 0 rfl ?_
    refine w_ldc C dX7_grass_34 kcX7_54 ?_
    refine w_Vi C dX7_grass_36 h (fun _ e => mX7_finds e) lnX7_75 mvX7_finds bM0 rfl ⟨Nat.le_of_ble_eq_true rfl, Nat.le_of_ble_eq_true rfl⟩ [] rfl (Nat.le_of_ble_eq_true rfl) (fun S2 v3 h => ?_)
    exact w_iret C dX7_grass_39 h
  refine w_if_eq C 33 dX7_grass_6 (by decide) h (fun h => ?_) (fun h => ?_)
  · exact w_sub [0] rfl (hJ33  h)
  refine w_iload_n C dX7_grass_9 rfl 2 rfl ?_
  refine w_i2l C dX7_grass_10 ?_
  refine w_lconst (v := 0) C dX7_grass_11 (by decide) ?_
  refine w_ldc2 C dX7_grass_12 klX7_164 ?_
  refine p_Si C dX7_grass_15 h (fun _ e => mX7_isIn e) lnX7_65 msX7_isIn rfl ⟨Nat.le_of_ble_eq_true rfl, Nat.le_of_ble_eq_true rfl⟩ [] rfl (Nat.le_of_ble_eq_true rfl) (fun v4 h => ?_)
  refine w_if_eq C 33 dX7_grass_18 (by decide) h (fun h => ?_) (fun h => ?_)
  · exact w_sub [0] rfl (hJ33  h)
  refine w_iload_n C dX7_grass_21 rfl 3 rfl ?_
  refine w_i2l C dX7_grass_22 ?_
  refine w_lconst (v := 0) C dX7_grass_23 (by decide) ?_
  refine w_ldc2 C dX7_grass_24 klX7_71 ?_
  refine p_Si C dX7_grass_27 h (fun _ e => mX7_isIn e) lnX7_65 msX7_isIn rfl ⟨Nat.le_of_ble_eq_true rfl, Nat.le_of_ble_eq_true rfl⟩ [] rfl (Nat.le_of_ble_eq_true rfl) (fun v5 h => ?_)
  refine w_if_ne C 40 dX7_grass_30 (by decide) h (fun h => ?_) (fun h => ?_)
  · refine w_aload_n C dX7_grass_40 rfl 0 rfl ?_
    refine w_sipush (v := 138) C dX7_grass_41 (by decide) ?_
    refine w_bipush (v := 13) C dX7_grass_44 (by decide) ?_
    refine w_iload_n C dX7_grass_46 rfl 1 rfl ?_
    refine w_imul C dX7_grass_47 ?_
    refine w_iadd C dX7_grass_48 ?_
    refine w_iload_n C dX7_grass_49 rfl 2 rfl ?_
    refine w_iadd C dX7_grass_50 ?_
    refine w_iload_n C dX7_grass_51 rfl 3 rfl ?_
    refine w_Vi C dX7_grass_52 h (fun _ e => mX7_becomes e) lnX7_109 mvX7_becomes bM0 rfl ⟨Nat.le_of_ble_eq_true rfl, Nat.le_of_ble_eq_true rfl⟩ [] rfl (Nat.le_of_ble_eq_true rfl) (fun S6 v7 h => ?_)
    exact w_iret C dX7_grass_55 h
  exact w_sub [0] rfl (hJ33  h))
def fX7_campOf (S : St) (a1 : Int32) (a2 : Int32) : Option (St × Int32) := bv (fX7_isCamp S (Int32.toInt64 a1)) fun v1 => pl (bq (fX7_finds S (-1000000001)) fun S2 v3 => some (S2, v3)) fun J39 => if v1 = 0 then (J39) else (bv (fX7_isIn S (Int32.toInt64 a2) (0) (12)) fun v4 => if v4 = 0 then (J39) else (ldi S 1 (((138) + ((13) * a1)) + a2) 216 fun v5 => some (S, v5)))
set_option maxRecDepth 100000 in
theorem mX7_campOf {Y : YT} {S : St} {a1 : Int32} {a2 : Int32} {R : St × Int32} (h : fX7_campOf  S a1 a2 = some R) : Mc VM Y yX7_campOf cX7_campOf 3 (some .int) 1 25 [rf Y 0, .int a1, .int a2] S (some (.int R.2), R.1) :=
  Mc.start [(0, rf Y 0), (1, .int a1), (2, .int a2)] rfl pnX7 (Nat.le_of_ble_eq_true rfl) (fun X (C : Ok VM Y X RX7 cX7_campOf 3 (some .int)) => by
  unfold fX7_campOf at h
  refine w_aload_n C dX7_campOf_0 rfl 0 rfl ?_
  refine w_iload_n C dX7_campOf_1 rfl 1 rfl ?_
  refine w_i2l C dX7_campOf_2 ?_
  refine p_Vi C dX7_campOf_3 h (fun _ e => mX7_isCamp e) lnX7_160 mvX7_isCamp bM0 rfl ⟨Nat.le_of_ble_eq_true rfl, Nat.le_of_ble_eq_true rfl⟩ [] rfl (Nat.le_of_ble_eq_true rfl) (fun v1 h => ?_)
  refine w_join (fun J39 => J39  = some R → WS VM Y X 3 1 25 (some (.int R.2), R.1) S 39 [(0, rf Y 0)] []) h ?_ (fun J39 hJ39 h => ?_)
  · intro  h
    refine w_aload_n C dX7_campOf_39 rfl 0 rfl ?_
    refine w_ldc C dX7_campOf_40 kcX7_54 ?_
    refine w_Vi C dX7_campOf_42 h (fun _ e => mX7_finds e) lnX7_75 mvX7_finds bM0 rfl ⟨Nat.le_of_ble_eq_true rfl, Nat.le_of_ble_eq_true rfl⟩ [] rfl (Nat.le_of_ble_eq_true rfl) (fun S2 v3 h => ?_)
    exact w_iret C dX7_campOf_45 h
  refine w_if_eq C 39 dX7_campOf_6 (by decide) h (fun h => ?_) (fun h => ?_)
  · exact w_sub [0] rfl (hJ39  h)
  refine w_iload_n C dX7_campOf_9 rfl 2 rfl ?_
  refine w_i2l C dX7_campOf_10 ?_
  refine w_lconst (v := 0) C dX7_campOf_11 (by decide) ?_
  refine w_ldc2 C dX7_campOf_12 klX7_166 ?_
  refine p_Si C dX7_campOf_15 h (fun _ e => mX7_isIn e) lnX7_65 msX7_isIn rfl ⟨Nat.le_of_ble_eq_true rfl, Nat.le_of_ble_eq_true rfl⟩ [] rfl (Nat.le_of_ble_eq_true rfl) (fun v4 h => ?_)
  refine w_if_eq C 39 dX7_campOf_18 (by decide) h (fun h => ?_) (fun h => ?_)
  · exact w_sub [0] rfl (hJ39  h)
  refine w_aload_n C dX7_campOf_21 rfl 0 rfl ?_
  refine w_getr C dX7_campOf_22 flX7_7 gM0_0 ?_
  refine w_sipush (v := 138) C dX7_campOf_25 (by decide) ?_
  refine w_bipush (v := 13) C dX7_campOf_28 (by decide) ?_
  refine w_iload_n C dX7_campOf_30 rfl 1 rfl ?_
  refine w_imul C dX7_campOf_31 ?_
  refine w_iadd C dX7_campOf_32 ?_
  refine w_iload_n C dX7_campOf_33 rfl 2 rfl ?_
  refine w_iadd C dX7_campOf_34 ?_
  refine x_iald C dX7_campOf_35 aM1 h (fun v5 h => ?_)
  refine w_goto C 45 dX7_campOf_36 (by decide) ?_
  exact w_iret C dX7_campOf_45 h)
def fX7_herd (S : St) (a1 : Int32) (a2 : Int32) : Option (St × Int32) := bv (fX7_isIn S (Int32.toInt64 a1) (0) (2)) fun v1 => pl (bq (fX7_finds S (-1000000001)) fun S2 v3 => some (S2, v3)) fun J47 => if v1 = 0 then (J47) else (pl (fun (u4 : Int64) (u5 : Int64) => bv (fX7_isIn S u4 (0) u5) fun v6 => if v6 = 0 then (J47) else (bq (fX7_becomes S ((9) + a1) a2) fun S7 v8 => some (S7, v8))) fun J29 => if a1 = (1) then (J29 (Int32.toInt64 a2) (99)) else (J29 (Int32.toInt64 a2) (999)))
set_option maxRecDepth 100000 in
theorem mX7_herd {Y : YT} {S : St} {a1 : Int32} {a2 : Int32} {R : St × Int32} (h : fX7_herd  S a1 a2 = some R) : Mc VM Y yX7_herd cX7_herd 3 (some .int) 1 25 [rf Y 0, .int a1, .int a2] S (some (.int R.2), R.1) :=
  Mc.start [(0, rf Y 0), (1, .int a1), (2, .int a2)] rfl pnX7 (Nat.le_of_ble_eq_true rfl) (fun X (C : Ok VM Y X RX7 cX7_herd 3 (some .int)) => by
  unfold fX7_herd at h
  refine w_iload_n C dX7_herd_0 rfl 1 rfl ?_
  refine w_i2l C dX7_herd_1 ?_
  refine w_lconst (v := 0) C dX7_herd_2 (by decide) ?_
  refine w_ldc2 C dX7_herd_3 klX7_105 ?_
  refine p_Si C dX7_herd_6 h (fun _ e => mX7_isIn e) lnX7_65 msX7_isIn rfl ⟨Nat.le_of_ble_eq_true rfl, Nat.le_of_ble_eq_true rfl⟩ [] rfl (Nat.le_of_ble_eq_true rfl) (fun v1 h => ?_)
  refine w_join (fun J47 => J47  = some R → WS VM Y X 3 1 25 (some (.int R.2), R.1) S 47 [(0, rf Y 0)] []) h ?_ (fun J47 hJ47 h => ?_)
  · intro  h
    refine w_aload_n C dX7_herd_47 rfl 0 rfl ?_
    refine w_ldc C dX7_herd_48 kcX7_54 ?_
    refine w_Vi C dX7_herd_50 h (fun _ e => mX7_finds e) lnX7_75 mvX7_finds bM0 rfl ⟨Nat.le_of_ble_eq_true rfl, Nat.le_of_ble_eq_true rfl⟩ [] rfl (Nat.le_of_ble_eq_true rfl) (fun S2 v3 h => ?_)
    exact w_iret C dX7_herd_53 h
  refine w_if_eq C 47 dX7_herd_9 (by decide) h (fun h => ?_) (fun h => ?_)
  · exact w_sub [0] rfl (hJ47  h)
  refine w_iload_n C dX7_herd_12 rfl 2 rfl ?_
  refine w_i2l C dX7_herd_13 ?_
  refine w_lconst (v := 0) C dX7_herd_14 (by decide) ?_
  refine w_iload_n C dX7_herd_15 rfl 1 rfl ?_
  refine w_iconst (v := 1) C dX7_herd_16 (by decide) ?_
  refine w_join (fun J29 => ∀ (u4 : Int64) (u5 : Int64), J29 u4 u5 = some R → WS VM Y X 3 1 25 (some (.int R.2), R.1) S 29 [(0, rf Y 0), (1, .int a1), (2, .int a2)] [.long u5, .long (0), .long u4]) h ?_ (fun J29 hJ29 h => ?_)
  · intro u4 u5 h
    refine p_Si C dX7_herd_29 h (fun _ e => mX7_isIn e) lnX7_65 msX7_isIn rfl ⟨Nat.le_of_ble_eq_true rfl, Nat.le_of_ble_eq_true rfl⟩ [] rfl (Nat.le_of_ble_eq_true rfl) (fun v6 h => ?_)
    refine w_if_eq C 47 dX7_herd_32 (by decide) h (fun h => ?_) (fun h => ?_)
    · exact w_sub [0] rfl (hJ47  h)
    refine w_aload_n C dX7_herd_35 rfl 0 rfl ?_
    refine w_bipush (v := 9) C dX7_herd_36 (by decide) ?_
    refine w_iload_n C dX7_herd_38 rfl 1 rfl ?_
    refine w_iadd C dX7_herd_39 ?_
    refine w_iload_n C dX7_herd_40 rfl 2 rfl ?_
    refine w_Vi C dX7_herd_41 h (fun _ e => mX7_becomes e) lnX7_109 mvX7_becomes bM0 rfl ⟨Nat.le_of_ble_eq_true rfl, Nat.le_of_ble_eq_true rfl⟩ [] rfl (Nat.le_of_ble_eq_true rfl) (fun S7 v8 h => ?_)
    refine w_goto C 53 dX7_herd_44 (by decide) ?_
    exact w_iret C dX7_herd_53 h
  refine w_icmp_ne C 26 dX7_herd_17 (by decide) h (fun h => ?_) (fun h => ?_)
  · refine w_ldc2 C dX7_herd_26 klX7_71 ?_
    exact w_sub [0, 1, 2] rfl (hJ29 _ _ h)
  refine w_ldc2 C dX7_herd_20 klX7_73 ?_
  refine w_goto C 29 dX7_herd_23 (by decide) ?_
  exact w_sub [0, 1, 2] rfl (hJ29 _ _ h))
def fX7_moveCost (S : St) (a1 : Int32) (a2 : Int32) : Option (Int32) := ldi S 1 (((138) + ((13) * a1)) + (12)) 216 fun v1 => ldi S 1 (((138) + ((13) * a2)) + (12)) 216 fun v2 => pl ((v1 - v2)) fun v3 => ldi S 1 (10) 216 fun v4 => pl (fun (v5 : Int32) => ldi S 1 (11) 216 fun v6 => some ((v4 * v5) + v6)) fun J51 => if 0 ≤ v3 then (J51 v3) else (J51 (-v3))
set_option maxRecDepth 100000 in
theorem mX7_moveCost {Y : YT} {S : St} {a1 : Int32} {a2 : Int32} {R : Int32} (h : fX7_moveCost  S a1 a2 = some R) : Mc VM Y yX7_moveCost cX7_moveCost 4 (some .int) 0 0 [rf Y 0, .int a1, .int a2] S (some (.int R), S) :=
  Mc.start [(0, rf Y 0), (1, .int a1), (2, .int a2)] rfl pnX7 (Nat.le_of_ble_eq_true rfl) (fun X (C : Ok VM Y X RX7 cX7_moveCost 4 (some .int)) => by
  unfold fX7_moveCost at h
  refine w_aload_n C dX7_moveCost_0 rfl 0 rfl ?_
  refine w_getr C dX7_moveCost_1 flX7_7 gM0_0 ?_
  refine w_sipush (v := 138) C dX7_moveCost_4 (by decide) ?_
  refine w_bipush (v := 13) C dX7_moveCost_7 (by decide) ?_
  refine w_iload_n C dX7_moveCost_9 rfl 1 rfl ?_
  refine w_imul C dX7_moveCost_10 ?_
  refine w_iadd C dX7_moveCost_11 ?_
  refine w_bipush (v := 12) C dX7_moveCost_12 (by decide) ?_
  refine w_iadd C dX7_moveCost_14 ?_
  refine x_iald C dX7_moveCost_15 aM1 h (fun v1 h => ?_)
  refine w_aload_n C dX7_moveCost_16 rfl 0 rfl ?_
  refine w_getr C dX7_moveCost_17 flX7_7 gM0_0 ?_
  refine w_sipush (v := 138) C dX7_moveCost_20 (by decide) ?_
  refine w_bipush (v := 13) C dX7_moveCost_23 (by decide) ?_
  refine w_iload_n C dX7_moveCost_25 rfl 2 rfl ?_
  refine w_imul C dX7_moveCost_26 ?_
  refine w_iadd C dX7_moveCost_27 ?_
  refine w_bipush (v := 12) C dX7_moveCost_28 (by decide) ?_
  refine w_iadd C dX7_moveCost_30 ?_
  refine x_iald C dX7_moveCost_31 aM1 h (fun v2 h => ?_)
  refine w_isub C dX7_moveCost_32 ?_
  refine w_topi h (fun v3 h => ?_)
  refine w_istore_n C dX7_moveCost_33 rfl (by decide) [(3, .int v3), (0, rf Y 0), (1, .int a1), (2, .int a2)] rfl ?_
  refine w_aload_n C dX7_moveCost_34 rfl 1 rfl ?_
  refine w_getr C dX7_moveCost_35 flX7_7 gM0_0 ?_
  refine w_bipush (v := 10) C dX7_moveCost_38 (by decide) ?_
  refine x_iald C dX7_moveCost_40 aM1 h (fun v4 h => ?_)
  refine w_iload_n C dX7_moveCost_41 rfl 0 rfl ?_
  refine w_join (fun J51 => ∀ (v5 : Int32), J51 v5 = some R → WS VM Y X 4 0 0 (some (.int R), S) S 51 [(0, rf Y 0)] [.int v5, .int v4]) h ?_ (fun J51 hJ51 h => ?_)
  · intro v5 h
    refine w_imul C dX7_moveCost_51 ?_
    refine w_aload_n C dX7_moveCost_52 rfl 0 rfl ?_
    refine w_getr C dX7_moveCost_53 flX7_7 gM0_0 ?_
    refine w_bipush (v := 11) C dX7_moveCost_56 (by decide) ?_
    refine x_iald C dX7_moveCost_58 aM1 h (fun v6 h => ?_)
    refine w_iadd C dX7_moveCost_59 ?_
    exact p_iret C dX7_moveCost_60 h
  refine w_if_ge C 50 dX7_moveCost_42 (by decide) h (fun h => ?_) (fun h => ?_)
  · refine w_iload_n C dX7_moveCost_50 rfl 0 rfl ?_
    exact w_sub [1] rfl (hJ51 _ h)
  refine w_iload_n C dX7_moveCost_45 rfl 0 rfl ?_
  refine w_ineg C dX7_moveCost_46 ?_
  refine w_goto C 51 dX7_moveCost_47 (by decide) ?_
  exact w_sub [1] rfl (hJ51 _ h))
def fX7_monthCost (S : St) (a1 : Int32) (a2 : Int32) (a3 : Int32) : Option (Int32) := ldi S 1 (((138) + ((13) * a1)) + (a2 - a2 / (12) * (12))) 216 fun v1 => ldi S 1 (9) 216 fun v2 => pl (fun (v3 : Int32) => pl ((v2 - v3)) fun v4 => if 0 ≤ v4 then (some v4) else (some (0))) fun J50 => if a3 = (1) then (J50 v1) else (if a3 = (2) then (J50 (v1 / (2))) else (J50 (0)))
set_option maxRecDepth 100000 in
theorem mX7_monthCost {Y : YT} {S : St} {a1 : Int32} {a2 : Int32} {a3 : Int32} {R : Int32} (h : fX7_monthCost  S a1 a2 a3 = some R) : Mc VM Y yX7_monthCost cX7_monthCost 6 (some .int) 0 0 [rf Y 0, .int a1, .int a2, .int a3] S (some (.int R), S) :=
  Mc.start [(0, rf Y 0), (1, .int a1), (2, .int a2), (3, .int a3)] rfl pnX7 (Nat.le_of_ble_eq_true rfl) (fun X (C : Ok VM Y X RX7 cX7_monthCost 6 (some .int)) => by
  unfold fX7_monthCost at h
  refine w_aload_n C dX7_monthCost_0 rfl 0 rfl ?_
  refine w_getr C dX7_monthCost_1 flX7_7 gM0_0 ?_
  refine w_sipush (v := 138) C dX7_monthCost_4 (by decide) ?_
  refine w_bipush (v := 13) C dX7_monthCost_7 (by decide) ?_
  refine w_iload_n C dX7_monthCost_9 rfl 1 rfl ?_
  refine w_imul C dX7_monthCost_10 ?_
  refine w_iadd C dX7_monthCost_11 ?_
  refine w_iload_n C dX7_monthCost_12 rfl 2 rfl ?_
  refine w_bipush (v := 12) C dX7_monthCost_13 (by decide) ?_
  refine w_irem C dX7_monthCost_15 (by decide) ?_
  refine w_iadd C dX7_monthCost_16 ?_
  refine x_iald C dX7_monthCost_17 aM1 h (fun v1 h => ?_)
  refine w_istore C dX7_monthCost_18 (by decide) [(4, .int v1), (0, rf Y 0), (1, .int a1), (2, .int a2), (3, .int a3)] rfl ?_
  refine w_aload_n C dX7_monthCost_20 rfl 1 rfl ?_
  refine w_getr C dX7_monthCost_21 flX7_7 gM0_0 ?_
  refine w_bipush (v := 9) C dX7_monthCost_24 (by decide) ?_
  refine x_iald C dX7_monthCost_26 aM1 h (fun v2 h => ?_)
  refine w_iload_n C dX7_monthCost_27 rfl 4 rfl ?_
  refine w_iconst (v := 1) C dX7_monthCost_28 (by decide) ?_
  refine w_join (fun J50 => ∀ (v3 : Int32), J50 v3 = some R → WS VM Y X 6 0 0 (some (.int R), S) S 50 [] [.int v3, .int v2]) h ?_ (fun J50 hJ50 h => ?_)
  · intro v3 h
    refine w_isub C dX7_monthCost_50 ?_
    refine w_topi h (fun v4 h => ?_)
    refine w_istore C dX7_monthCost_51 (by decide) [(5, .int v4)] rfl ?_
    refine w_iload C dX7_monthCost_53 0 rfl ?_
    refine w_if_ge C 62 dX7_monthCost_55 (by decide) h (fun h => ?_) (fun h => ?_)
    · refine w_iload C dX7_monthCost_62 0 rfl ?_
      exact p_iret C dX7_monthCost_64 h
    refine w_iconst (v := 0) C dX7_monthCost_58 (by decide) ?_
    refine w_goto C 64 dX7_monthCost_59 (by decide) ?_
    exact p_iret C dX7_monthCost_64 h
  refine w_icmp_ne C 37 dX7_monthCost_29 (by decide) h (fun h => ?_) (fun h => ?_)
  · refine w_iload_n C dX7_monthCost_37 rfl 4 rfl ?_
    refine w_iconst (v := 2) C dX7_monthCost_38 (by decide) ?_
    refine w_icmp_ne C 49 dX7_monthCost_39 (by decide) h (fun h => ?_) (fun h => ?_)
    · refine w_iconst (v := 0) C dX7_monthCost_49 (by decide) ?_
      exact w_sub [] rfl (hJ50 _ h)
    refine w_iload C dX7_monthCost_42 0 rfl ?_
    refine w_iconst (v := 2) C dX7_monthCost_44 (by decide) ?_
    refine w_idiv C dX7_monthCost_45 (by decide) ?_
    refine w_goto C 50 dX7_monthCost_46 (by decide) ?_
    exact w_sub [] rfl (hJ50 _ h)
  refine w_iload C dX7_monthCost_32 0 rfl ?_
  refine w_goto C 50 dX7_monthCost_34 (by decide) ?_
  exact w_sub [] rfl (hJ50 _ h))
def fX7_placeOf (S : St) (a1 : Int32) (a2 : Int32) (a3 : Int32) : Option (Int32) := some (((((18) * a1) + ((3) * a2)) + a3) - (1))
set_option maxRecDepth 100000 in
theorem mX7_placeOf {Y : YT} {S : St} {a1 : Int32} {a2 : Int32} {a3 : Int32} {R : Int32} (h : fX7_placeOf  S a1 a2 a3 = some R) : Mc VM Y yX7_placeOf cX7_placeOf 3 (some .int) 0 0 [.int a1, .int a2, .int a3] S (some (.int R), S) :=
  Mc.start [(0, .int a1), (1, .int a2), (2, .int a3)] rfl pnX7 (Nat.le_of_ble_eq_true rfl) (fun X (C : Ok VM Y X RX7 cX7_placeOf 3 (some .int)) => by
  unfold fX7_placeOf at h
  refine w_bipush (v := 18) C dX7_placeOf_0 (by decide) ?_
  refine w_iload_n C dX7_placeOf_2 rfl 0 rfl ?_
  refine w_imul C dX7_placeOf_3 ?_
  refine w_iconst (v := 3) C dX7_placeOf_4 (by decide) ?_
  refine w_iload_n C dX7_placeOf_5 rfl 1 rfl ?_
  refine w_imul C dX7_placeOf_6 ?_
  refine w_iadd C dX7_placeOf_7 ?_
  refine w_iload_n C dX7_placeOf_8 rfl 2 rfl ?_
  refine w_iadd C dX7_placeOf_9 ?_
  refine w_iconst (v := 1) C dX7_placeOf_10 (by decide) ?_
  refine w_isub C dX7_placeOf_11 ?_
  exact p_iret C dX7_placeOf_12 h)
def fX7_costNext (S : St) (a1 : Int32) (a2 : Int32) (a3 : Int32) (a4 : Int32) : Option (Int32) := if a2 = a4 then (pl (fun (v4 : Int32) => bv (fX7_placeOf S a1 a4 v4) fun v5 => ldi S 12 v5 450 fun v6 => some v6) fun J25 => if (3) ≤ a3 then (J25 (3)) else (J25 (a3 + (1)))) else (bv (fX7_placeOf S a1 a4 (1)) fun v1 => ldi S 12 v1 450 fun v2 => if 0 ≤ a2 then (bv (fX7_moveCost S a2 a4) fun v3 => some (v2 + v3)) else (some (v2 + (0))))
set_option maxRecDepth 100000 in
theorem mX7_costNext {Y : YT} {S : St} {a1 : Int32} {a2 : Int32} {a3 : Int32} {a4 : Int32} {R : Int32} (h : fX7_costNext  S a1 a2 a3 a4 = some R) : Mc VM Y yX7_costNext cX7_costNext 5 (some .int) 1 23 [rf Y 0, .int a1, .int a2, .int a3, .int a4] S (some (.int R), S) :=
  Mc.start [(0, rf Y 0), (1, .int a1), (2, .int a2), (3, .int a3), (4, .int a4)] rfl pnX7 (Nat.le_of_ble_eq_true rfl) (fun X (C : Ok VM Y X RX7 cX7_costNext 5 (some .int)) => by
  unfold fX7_costNext at h
  refine w_iload_n C dX7_costNext_0 rfl 2 rfl ?_
  refine w_iload C dX7_costNext_1 4 rfl ?_
  refine w_icmp_ne C 30 dX7_costNext_3 (by decide) h (fun h => ?_) (fun h => ?_)
  · refine w_aload_n C dX7_costNext_30 rfl 0 rfl ?_
    refine w_getr C dX7_costNext_31 flX7_45 gM0_14 ?_
    refine w_iload_n C dX7_costNext_34 rfl 1 rfl ?_
    refine w_iload C dX7_costNext_35 4 rfl ?_
    refine w_iconst (v := 1) C dX7_costNext_37 (by decide) ?_
    refine p_Si C dX7_costNext_38 h (fun _ e => mX7_placeOf e) lnX7_168 msX7_placeOf rfl ⟨Nat.le_of_ble_eq_true rfl, Nat.le_of_ble_eq_true rfl⟩ [rf Y 12] rfl (Nat.le_of_ble_eq_true rfl) (fun v1 h => ?_)
    refine x_iald C dX7_costNext_41 aM12 h (fun v2 h => ?_)
    refine w_iload_n C dX7_costNext_42 rfl 2 rfl ?_
    refine w_if_ge C 50 dX7_costNext_43 (by decide) h (fun h => ?_) (fun h => ?_)
    · refine w_aload_n C dX7_costNext_50 rfl 0 rfl ?_
      refine w_iload_n C dX7_costNext_51 rfl 2 rfl ?_
      refine w_iload C dX7_costNext_52 4 rfl ?_
      refine p_Vi C dX7_costNext_54 h (fun _ e => mX7_moveCost e) lnX7_172 mvX7_moveCost bM0 rfl ⟨Nat.le_of_ble_eq_true rfl, Nat.le_of_ble_eq_true rfl⟩ [.int v2] rfl (Nat.le_of_ble_eq_true rfl) (fun v3 h => ?_)
      refine w_iadd C dX7_costNext_57 ?_
      exact p_iret C dX7_costNext_58 h
    refine w_iconst (v := 0) C dX7_costNext_46 (by decide) ?_
    refine w_goto C 57 dX7_costNext_47 (by decide) ?_
    refine w_iadd C dX7_costNext_57 ?_
    exact p_iret C dX7_costNext_58 h
  refine w_aload_n C dX7_costNext_6 rfl 0 rfl ?_
  refine w_getr C dX7_costNext_7 flX7_45 gM0_14 ?_
  refine w_iload_n C dX7_costNext_10 rfl 1 rfl ?_
  refine w_iload C dX7_costNext_11 4 rfl ?_
  refine w_iload_n C dX7_costNext_13 rfl 3 rfl ?_
  refine w_iconst (v := 3) C dX7_costNext_14 (by decide) ?_
  refine w_join (fun J25 => ∀ (v4 : Int32), J25 v4 = some R → WS VM Y X 5 1 23 (some (.int R), S) S 25 [] [.int v4, .int a4, .int a1, rf Y 12]) h ?_ (fun J25 hJ25 h => ?_)
  · intro v4 h
    refine p_Si C dX7_costNext_25 h (fun _ e => mX7_placeOf e) lnX7_168 msX7_placeOf rfl ⟨Nat.le_of_ble_eq_true rfl, Nat.le_of_ble_eq_true rfl⟩ [rf Y 12] rfl (Nat.le_of_ble_eq_true rfl) (fun v5 h => ?_)
    refine x_iald C dX7_costNext_28 aM12 h (fun v6 h => ?_)
    exact p_iret C dX7_costNext_29 h
  refine w_icmp_ge C 24 dX7_costNext_15 (by decide) h (fun h => ?_) (fun h => ?_)
  · refine w_iconst (v := 3) C dX7_costNext_24 (by decide) ?_
    exact w_sub [] rfl (hJ25 _ h)
  refine w_iload_n C dX7_costNext_18 rfl 3 rfl ?_
  refine w_iconst (v := 1) C dX7_costNext_19 (by decide) ?_
  refine w_iadd C dX7_costNext_20 ?_
  refine w_goto C 25 dX7_costNext_21 (by decide) ?_
  exact w_sub [] rfl (hJ25 _ h))
def fX7_nextCamp_L6 (S : St) (a1 : Int32) (a2 : Int32) (a3 : Int32) : Nat → Int32 → Int32 → Option (Int32)
  | 0, _, _ => none
  | G6 + 1, v1, v2 => ldi S 1 (2) 216 fun v3 => if v3 ≤ v2 then (some v1) else (bv (fX7_costNext S a1 a2 a3 v2) fun v4 => bv (fX7_costNext S a1 a2 a3 v1) fun v5 => pl (fun (v6 : Int32) => pl (v2 + 1) fun v7 => fX7_nextCamp_L6 S a1 a2 a3 G6 v6 v7) fun J45 => if v5 ≤ v4 then (J45 v1) else (J45 v2))
def fX7_nextCamp (F : Nat) (S : St) (a1 : Int32) (a2 : Int32) (a3 : Int32) : Option (Int32) := fX7_nextCamp_L6 S a1 a2 a3 F (0) (1)
set_option maxRecDepth 100000 in
theorem mX7_nextCamp {Y : YT} {F : Nat} {S : St} {a1 : Int32} {a2 : Int32} {a3 : Int32} {R : Int32} (h : fX7_nextCamp F S a1 a2 a3 = some R) : Mc VM Y yX7_nextCamp cX7_nextCamp 6 (some .int) 2 47 [rf Y 0, .int a1, .int a2, .int a3] S (some (.int R), S) :=
  Mc.start [(0, rf Y 0), (1, .int a1), (2, .int a2), (3, .int a3)] rfl pnX7 (Nat.le_of_ble_eq_true rfl) (fun X (C : Ok VM Y X RX7 cX7_nextCamp 6 (some .int)) => by
  unfold fX7_nextCamp at h
  refine w_iconst (v := 0) C dX7_nextCamp_0 (by decide) ?_
  refine w_istore C dX7_nextCamp_1 (by decide) [(4, .int (0)), (0, rf Y 0), (1, .int a1), (2, .int a2), (3, .int a3)] rfl ?_
  refine w_iconst (v := 1) C dX7_nextCamp_3 (by decide) ?_
  refine w_istore C dX7_nextCamp_4 (by decide) [(5, .int (1)), (4, .int (0)), (0, rf Y 0), (1, .int a1), (2, .int a2), (3, .int a3)] rfl ?_
  have hL6 : ∀ (G6 : Nat) (v1 : Int32) (v2 : Int32), fX7_nextCamp_L6 S a1 a2 a3 G6 v1 v2 = some R → WS VM Y X 6 2 47 (some (.int R), S) S 6 [(0, rf Y 0), (1, .int a1), (2, .int a2), (3, .int a3), (4, .int v1), (5, .int v2)] [] := by
    intro G6
    induction G6 with
    | zero => intro v1 v2 h; exact nomatch (show (none : Option (Int32)) = some R from h)
    | succ G6 ih =>
      intro v1 v2 h
      rw [fX7_nextCamp_L6] at h
      refine w_iload C dX7_nextCamp_6 5 rfl ?_
      refine w_aload_n C dX7_nextCamp_8 rfl 0 rfl ?_
      refine w_getr C dX7_nextCamp_9 flX7_7 gM0_0 ?_
      refine w_iconst (v := 2) C dX7_nextCamp_12 (by decide) ?_
      refine x_iald C dX7_nextCamp_13 aM1 h (fun v3 h => ?_)
      refine w_icmp_ge C 53 dX7_nextCamp_14 (by decide) h (fun h => ?_) (fun h => ?_)
      · refine w_iload C dX7_nextCamp_53 4 rfl ?_
        exact p_iret C dX7_nextCamp_55 h
      refine w_aload_n C dX7_nextCamp_17 rfl 0 rfl ?_
      refine w_iload_n C dX7_nextCamp_18 rfl 1 rfl ?_
      refine w_iload_n C dX7_nextCamp_19 rfl 2 rfl ?_
      refine w_iload_n C dX7_nextCamp_20 rfl 3 rfl ?_
      refine w_iload C dX7_nextCamp_21 5 rfl ?_
      refine p_Vi C dX7_nextCamp_23 h (fun _ e => mX7_costNext e) lnX7_175 mvX7_costNext bM0 rfl ⟨Nat.le_of_ble_eq_true rfl, Nat.le_of_ble_eq_true rfl⟩ [] rfl (Nat.le_of_ble_eq_true rfl) (fun v4 h => ?_)
      refine w_aload_n C dX7_nextCamp_26 rfl 0 rfl ?_
      refine w_iload_n C dX7_nextCamp_27 rfl 1 rfl ?_
      refine w_iload_n C dX7_nextCamp_28 rfl 2 rfl ?_
      refine w_iload_n C dX7_nextCamp_29 rfl 3 rfl ?_
      refine w_iload C dX7_nextCamp_30 4 rfl ?_
      refine p_Vi C dX7_nextCamp_32 h (fun _ e => mX7_costNext e) lnX7_175 mvX7_costNext bM0 rfl ⟨Nat.le_of_ble_eq_true rfl, Nat.le_of_ble_eq_true rfl⟩ [.int v4] rfl (Nat.le_of_ble_eq_true rfl) (fun v5 h => ?_)
      refine w_join (fun J45 => ∀ (v6 : Int32), J45 v6 = some R → WS VM Y X 6 2 47 (some (.int R), S) S 45 [(0, rf Y 0), (1, .int a1), (2, .int a2), (3, .int a3), (5, .int v2)] [.int v6]) h ?_ (fun J45 hJ45 h => ?_)
      · intro v6 h
        refine w_istore C dX7_nextCamp_45 (by decide) [(4, .int v6), (0, rf Y 0), (1, .int a1), (2, .int a2), (3, .int a3), (5, .int v2)] rfl ?_
        refine x_iinc C dX7_nextCamp_47 5 rfl 1 (by decide) h (by decide) (fun v7 => [(5, .int v7), (4, .int v6), (0, rf Y 0), (1, .int a1), (2, .int a2), (3, .int a3)]) (fun _ => rfl) (fun v7 h => ?_)
        refine w_goto C 6 dX7_nextCamp_50 (by decide) ?_
        exact w_sub [2, 3, 4, 5, 1, 0] rfl (ih _ _ h)
      refine w_icmp_ge C 43 dX7_nextCamp_35 (by decide) h (fun h => ?_) (fun h => ?_)
      · refine w_iload C dX7_nextCamp_43 4 rfl ?_
        exact w_sub [0, 1, 2, 3, 5] rfl (hJ45 _ h)
      refine w_iload C dX7_nextCamp_38 5 rfl ?_
      refine w_goto C 45 dX7_nextCamp_40 (by decide) ?_
      exact w_sub [0, 1, 2, 3, 5] rfl (hJ45 _ h)
  exact w_sub [2, 3, 4, 5, 1, 0] rfl (hL6 _ _ _ h))
def fX7_findYear_L119 (F : Nat) (a2 : Int32) (J179 : St → Option (St × Int32)) : Nat → St → Int32 → Int32 → Int32 → Option (St × Int32)
  | 0, _, _, _, _ => none
  | G119 + 1, S7, v8, v9, v10 => if a2 ≤ v10 then (J179 S7) else (bv (fX7_nextCamp F S7 v10 v8 v9) fun v11 => pl (fun (v12 : Int32) => sti S7 13 v10 24 v11 fun S13 => pl (v10 + 1) fun v14 => fX7_findYear_L119 F a2 J179 G119 S13 v11 v12 v14) fun J160 => if v11 = v8 then (if (3) ≤ v9 then (J160 (3)) else (J160 (v9 + (1)))) else (J160 (1)))
def fX7_findYear_L25 (F : Nat) (a1 : Int32) (a2 : Int32) (v16 : Int32) (v20 : Int32) (J99 : St → Option (St × Int32)) : Nat → St → Int32 → Option (St × Int32)
  | 0, _, _ => none
  | G25 + 1, S24, v25 => if (4) ≤ v25 then (J99 S24) else (pl (fun (v26 : Int32) => bv (fX7_placeOf S24 v16 v20 v25) fun v27 => bv (fX7_monthCost S24 v20 (a1 + v16) v25) fun v28 => sti S24 12 v27 450 (v28 + v26) fun S29 => pl (v25 + 1) fun v30 => fX7_findYear_L25 F a1 a2 v16 v20 J99 G25 S29 v30) fun J64 => if v16 = (a2 - (1)) then (J64 (0)) else (bv (fX7_nextCamp F S24 (v16 + (1)) v20 v25) fun v31 => bv (fX7_costNext S24 (v16 + (1)) v20 v25 v31) fun v32 => J64 v32))
def fX7_findYear_L11 (F : Nat) (a1 : Int32) (a2 : Int32) (v16 : Int32) (J105 : St → Option (St × Int32)) : Nat → St → Int32 → Option (St × Int32)
  | 0, _, _ => none
  | G11 + 1, S19, v20 => ldi S19 1 (2) 216 fun v21 => if v21 ≤ v20 then (J105 S19) else (pl (fun (S22 : St) => pl (v20 + 1) fun v23 => fX7_findYear_L11 F a1 a2 v16 J105 G11 S22 v23) fun J99 => fX7_findYear_L25 F a1 a2 v16 v20 J99 F S19 (1))
def fX7_findYear_L4 (F : Nat) (a1 : Int32) (a2 : Int32) (J111 : St → Option (St × Int32)) : Nat → St → Int32 → Option (St × Int32)
  | 0, _, _ => none
  | G4 + 1, S15, v16 => if v16 < 0 then (J111 S15) else (pl (fun (S17 : St) => pl (v16 + (-1)) fun v18 => fX7_findYear_L4 F a1 a2 J111 G4 S17 v18) fun J105 => fX7_findYear_L11 F a1 a2 v16 J105 F S15 (0))
def fX7_findYear (F : Nat) (S : St) (a1 : Int32) (a2 : Int32) : Option (St × Int32) := pl ((a2 - (1))) fun v1 => pl (fun (S2 : St) => pl (fun (S3 : St) => ldi S3 13 (0) 24 fun v4 => bv (fX7_placeOf S3 (0) v4 (1)) fun v5 => ldi S3 12 v5 450 fun v6 => some (S3, v6)) fun J179 => fX7_findYear_L119 F a2 J179 F S2 (-1) (0) (0)) fun J111 => fX7_findYear_L4 F a1 a2 J111 F S v1
set_option maxRecDepth 100000 in
theorem mX7_findYear {Y : YT} {F : Nat} {S : St} {a1 : Int32} {a2 : Int32} {R : St × Int32} (h : fX7_findYear F S a1 a2 = some R) : Mc VM Y yX7_findYear cX7_findYear 7 (some .int) 3 72 [rf Y 0, .int a1, .int a2] S (some (.int R.2), R.1) :=
  Mc.start [(0, rf Y 0), (1, .int a1), (2, .int a2)] rfl pnX7 (Nat.le_of_ble_eq_true rfl) (fun X (C : Ok VM Y X RX7 cX7_findYear 7 (some .int)) => by
  unfold fX7_findYear at h
  refine w_iload_n C dX7_findYear_0 rfl 2 rfl ?_
  refine w_iconst (v := 1) C dX7_findYear_1 (by decide) ?_
  refine w_isub C dX7_findYear_2 ?_
  refine w_topi h (fun v1 h => ?_)
  refine w_istore_n C dX7_findYear_3 rfl (by decide) [(3, .int v1), (0, rf Y 0), (1, .int a1), (2, .int a2)] rfl ?_
  refine w_join (fun J111 => ∀ (S2 : St), J111 S2 = some R → WS VM Y X 7 3 72 (some (.int R.2), R.1) S2 111 [(0, rf Y 0), (2, .int a2)] []) h ?_ (fun J111 hJ111 h => ?_)
  · intro S2 h
    refine w_iconst (v := -1) C dX7_findYear_111 (by decide) ?_
    refine w_istore_n C dX7_findYear_112 rfl (by decide) [(3, .int (-1)), (0, rf Y 0), (2, .int a2)] rfl ?_
    refine w_iconst (v := 0) C dX7_findYear_113 (by decide) ?_
    refine w_istore C dX7_findYear_114 (by decide) [(4, .int (0)), (3, .int (-1)), (0, rf Y 0), (2, .int a2)] rfl ?_
    refine w_iconst (v := 0) C dX7_findYear_116 (by decide) ?_
    refine w_istore C dX7_findYear_117 (by decide) [(5, .int (0)), (4, .int (0)), (3, .int (-1)), (0, rf Y 0), (2, .int a2)] rfl ?_
    refine w_join (fun J179 => ∀ (S3 : St), J179 S3 = some R → WS VM Y X 7 3 72 (some (.int R.2), R.1) S3 179 [(0, rf Y 0)] []) h ?_ (fun J179 hJ179 h => ?_)
    · intro S3 h
      refine w_aload_n C dX7_findYear_179 rfl 0 rfl ?_
      refine w_getr C dX7_findYear_180 flX7_45 gM0_14 ?_
      refine w_iconst (v := 0) C dX7_findYear_183 (by decide) ?_
      refine w_aload_n C dX7_findYear_184 rfl 0 rfl ?_
      refine w_getr C dX7_findYear_185 flX7_48 gM0_15 ?_
      refine w_iconst (v := 0) C dX7_findYear_188 (by decide) ?_
      refine x_iald C dX7_findYear_189 aM13 h (fun v4 h => ?_)
      refine w_iconst (v := 1) C dX7_findYear_190 (by decide) ?_
      refine p_Si C dX7_findYear_191 h (fun _ e => mX7_placeOf e) lnX7_168 msX7_placeOf rfl ⟨Nat.le_of_ble_eq_true rfl, Nat.le_of_ble_eq_true rfl⟩ [rf Y 12] rfl (Nat.le_of_ble_eq_true rfl) (fun v5 h => ?_)
      refine x_iald C dX7_findYear_194 aM12 h (fun v6 h => ?_)
      exact w_iret C dX7_findYear_195 h
    have hL119 : ∀ (G119 : Nat) (S7 : St) (v8 : Int32) (v9 : Int32) (v10 : Int32), fX7_findYear_L119 F a2 J179 G119 S7 v8 v9 v10 = some R → WS VM Y X 7 3 72 (some (.int R.2), R.1) S7 119 [(0, rf Y 0), (2, .int a2), (3, .int v8), (4, .int v9), (5, .int v10)] [] := by
      intro G119
      induction G119 with
      | zero => intro S7 v8 v9 v10 h; exact nomatch (show (none : Option (St × Int32)) = some R from h)
      | succ G119 ih =>
        intro S7 v8 v9 v10 h
        rw [fX7_findYear_L119] at h
        refine w_iload C dX7_findYear_119 4 rfl ?_
        refine w_iload_n C dX7_findYear_121 rfl 1 rfl ?_
        refine w_icmp_ge C 179 dX7_findYear_122 (by decide) h (fun h => ?_) (fun h => ?_)
        · exact w_sub [0] rfl (hJ179 _ h)
        refine w_aload_n C dX7_findYear_125 rfl 0 rfl ?_
        refine w_iload C dX7_findYear_126 4 rfl ?_
        refine w_iload_n C dX7_findYear_128 rfl 2 rfl ?_
        refine w_iload C dX7_findYear_129 3 rfl ?_
        refine p_Vi C dX7_findYear_131 h (fun _ e => mX7_nextCamp e) lnX7_179 mvX7_nextCamp bM0 rfl ⟨Nat.le_of_ble_eq_true rfl, Nat.le_of_ble_eq_true rfl⟩ [] rfl (Nat.le_of_ble_eq_true rfl) (fun v11 h => ?_)
        refine w_istore C dX7_findYear_134 (by decide) [(6, .int v11), (0, rf Y 0), (2, .int a2), (3, .int v8), (4, .int v9), (5, .int v10)] rfl ?_
        refine w_iload C dX7_findYear_136 0 rfl ?_
        refine w_iload_n C dX7_findYear_138 rfl 3 rfl ?_
        refine w_join (fun J160 => ∀ (v12 : Int32), J160 v12 = some R → WS VM Y X 7 3 72 (some (.int R.2), R.1) S7 160 [(0, rf Y 0), (2, .int a2), (5, .int v10), (6, .int v11)] [.int v12]) h ?_ (fun J160 hJ160 h => ?_)
        · intro v12 h
          refine w_istore C dX7_findYear_160 (by decide) [(4, .int v12), (0, rf Y 0), (2, .int a2), (5, .int v10), (6, .int v11)] rfl ?_
          refine w_iload C dX7_findYear_162 4 rfl ?_
          refine w_istore_n C dX7_findYear_164 rfl (by decide) [(3, .int v11), (4, .int v12), (0, rf Y 0), (2, .int a2), (5, .int v10), (6, .int v11)] rfl ?_
          refine w_aload_n C dX7_findYear_165 rfl 2 rfl ?_
          refine w_getr C dX7_findYear_166 flX7_48 gM0_15 ?_
          refine w_iload C dX7_findYear_169 4 rfl ?_
          refine w_iload_n C dX7_findYear_171 rfl 0 rfl ?_
          refine x_iast C dX7_findYear_172 aM13 h (fun S13 h => ?_)
          refine x_iinc C dX7_findYear_173 4 rfl 1 (by decide) h (by decide) (fun v14 => [(5, .int v14), (3, .int v11), (4, .int v12), (0, rf Y 0), (2, .int a2), (6, .int v11)]) (fun _ => rfl) (fun v14 h => ?_)
          refine w_goto C 119 dX7_findYear_176 (by decide) ?_
          exact w_sub [3, 4, 1, 2, 0] rfl (ih _ _ _ _ h)
        refine w_icmp_eq C 146 dX7_findYear_139 (by decide) h (fun h => ?_) (fun h => ?_)
        · refine w_iload C dX7_findYear_146 4 rfl ?_
          refine w_iconst (v := 3) C dX7_findYear_148 (by decide) ?_
          refine w_icmp_ge C 159 dX7_findYear_149 (by decide) h (fun h => ?_) (fun h => ?_)
          · refine w_iconst (v := 3) C dX7_findYear_159 (by decide) ?_
            exact w_sub [1, 2, 5, 0] rfl (hJ160 _ h)
          refine w_iload C dX7_findYear_152 4 rfl ?_
          refine w_iconst (v := 1) C dX7_findYear_154 (by decide) ?_
          refine w_iadd C dX7_findYear_155 ?_
          refine w_goto C 160 dX7_findYear_156 (by decide) ?_
          exact w_sub [1, 2, 5, 0] rfl (hJ160 _ h)
        refine w_iconst (v := 1) C dX7_findYear_142 (by decide) ?_
        refine w_goto C 160 dX7_findYear_143 (by decide) ?_
        exact w_sub [1, 2, 5, 0] rfl (hJ160 _ h)
    exact w_sub [3, 4, 2, 1, 0] rfl (hL119 _ _ _ _ _ h)
  have hL4 : ∀ (G4 : Nat) (S15 : St) (v16 : Int32), fX7_findYear_L4 F a1 a2 J111 G4 S15 v16 = some R → WS VM Y X 7 3 72 (some (.int R.2), R.1) S15 4 [(0, rf Y 0), (1, .int a1), (2, .int a2), (3, .int v16)] [] := by
    intro G4
    induction G4 with
    | zero => intro S15 v16 h; exact nomatch (show (none : Option (St × Int32)) = some R from h)
    | succ G4 ih =>
      intro S15 v16 h
      rw [fX7_findYear_L4] at h
      refine w_iload_n C dX7_findYear_4 rfl 3 rfl ?_
      refine w_if_lt C 111 dX7_findYear_5 (by decide) h (fun h => ?_) (fun h => ?_)
      · exact w_sub [0, 2] rfl (hJ111 _ h)
      refine w_iconst (v := 0) C dX7_findYear_8 (by decide) ?_
      refine w_istore C dX7_findYear_9 (by decide) [(4, .int (0)), (0, rf Y 0), (1, .int a1), (2, .int a2), (3, .int v16)] rfl ?_
      refine w_join (fun J105 => ∀ (S17 : St), J105 S17 = some R → WS VM Y X 7 3 72 (some (.int R.2), R.1) S17 105 [(0, rf Y 0), (1, .int a1), (2, .int a2), (3, .int v16)] []) h ?_ (fun J105 hJ105 h => ?_)
      · intro S17 h
        refine x_iinc C dX7_findYear_105 3 rfl (-1) (by decide) h (by decide) (fun v18 => [(3, .int v18), (0, rf Y 0), (1, .int a1), (2, .int a2)]) (fun _ => rfl) (fun v18 h => ?_)
        refine w_goto C 4 dX7_findYear_108 (by decide) ?_
        exact w_sub [1, 2, 3, 0] rfl (ih _ _ h)
      have hL11 : ∀ (G11 : Nat) (S19 : St) (v20 : Int32), fX7_findYear_L11 F a1 a2 v16 J105 G11 S19 v20 = some R → WS VM Y X 7 3 72 (some (.int R.2), R.1) S19 11 [(0, rf Y 0), (1, .int a1), (2, .int a2), (3, .int v16), (4, .int v20)] [] := by
        intro G11
        induction G11 with
        | zero => intro S19 v20 h; exact nomatch (show (none : Option (St × Int32)) = some R from h)
        | succ G11 ih =>
          intro S19 v20 h
          rw [fX7_findYear_L11] at h
          refine w_iload C dX7_findYear_11 4 rfl ?_
          refine w_aload_n C dX7_findYear_13 rfl 0 rfl ?_
          refine w_getr C dX7_findYear_14 flX7_7 gM0_0 ?_
          refine w_iconst (v := 2) C dX7_findYear_17 (by decide) ?_
          refine x_iald C dX7_findYear_18 aM1 h (fun v21 h => ?_)
          refine w_icmp_ge C 105 dX7_findYear_19 (by decide) h (fun h => ?_) (fun h => ?_)
          · exact w_sub [0, 1, 2, 3] rfl (hJ105 _ h)
          refine w_iconst (v := 1) C dX7_findYear_22 (by decide) ?_
          refine w_istore C dX7_findYear_23 (by decide) [(5, .int (1)), (0, rf Y 0), (1, .int a1), (2, .int a2), (3, .int v16), (4, .int v20)] rfl ?_
          refine w_join (fun J99 => ∀ (S22 : St), J99 S22 = some R → WS VM Y X 7 3 72 (some (.int R.2), R.1) S22 99 [(0, rf Y 0), (1, .int a1), (2, .int a2), (3, .int v16), (4, .int v20)] []) h ?_ (fun J99 hJ99 h => ?_)
          · intro S22 h
            refine x_iinc C dX7_findYear_99 4 rfl 1 (by decide) h (by decide) (fun v23 => [(4, .int v23), (0, rf Y 0), (1, .int a1), (2, .int a2), (3, .int v16)]) (fun _ => rfl) (fun v23 h => ?_)
            refine w_goto C 11 dX7_findYear_102 (by decide) ?_
            exact w_sub [1, 2, 3, 4, 0] rfl (ih _ _ h)
          have hL25 : ∀ (G25 : Nat) (S24 : St) (v25 : Int32), fX7_findYear_L25 F a1 a2 v16 v20 J99 G25 S24 v25 = some R → WS VM Y X 7 3 72 (some (.int R.2), R.1) S24 25 [(0, rf Y 0), (1, .int a1), (2, .int a2), (3, .int v16), (4, .int v20), (5, .int v25)] [] := by
            intro G25
            induction G25 with
            | zero => intro S24 v25 h; exact nomatch (show (none : Option (St × Int32)) = some R from h)
            | succ G25 ih =>
              intro S24 v25 h
              rw [fX7_findYear_L25] at h
              refine w_iload C dX7_findYear_25 5 rfl ?_
              refine w_iconst (v := 4) C dX7_findYear_27 (by decide) ?_
              refine w_icmp_ge C 99 dX7_findYear_28 (by decide) h (fun h => ?_) (fun h => ?_)
              · exact w_sub [0, 1, 2, 3, 4] rfl (hJ99 _ h)
              refine w_iload_n C dX7_findYear_31 rfl 3 rfl ?_
              refine w_iload_n C dX7_findYear_32 rfl 2 rfl ?_
              refine w_iconst (v := 1) C dX7_findYear_33 (by decide) ?_
              refine w_isub C dX7_findYear_34 ?_
              refine w_join (fun J64 => ∀ (v26 : Int32), J64 v26 = some R → WS VM Y X 7 3 72 (some (.int R.2), R.1) S24 64 [(0, rf Y 0), (1, .int a1), (2, .int a2), (3, .int v16), (4, .int v20), (5, .int v25)] [.int v26]) h ?_ (fun J64 hJ64 h => ?_)
              · intro v26 h
                refine w_istore C dX7_findYear_64 (by decide) [(6, .int v26), (0, rf Y 0), (1, .int a1), (2, .int a2), (3, .int v16), (4, .int v20), (5, .int v25)] rfl ?_
                refine w_aload_n C dX7_findYear_66 rfl 1 rfl ?_
                refine w_getr C dX7_findYear_67 flX7_45 gM0_14 ?_
                refine w_iload_n C dX7_findYear_70 rfl 4 rfl ?_
                refine w_iload C dX7_findYear_71 5 rfl ?_
                refine w_iload C dX7_findYear_73 6 rfl ?_
                refine p_Si C dX7_findYear_75 h (fun _ e => mX7_placeOf e) lnX7_168 msX7_placeOf rfl ⟨Nat.le_of_ble_eq_true rfl, Nat.le_of_ble_eq_true rfl⟩ [rf Y 12] rfl (Nat.le_of_ble_eq_true rfl) (fun v27 h => ?_)
                refine w_aload_n C dX7_findYear_78 rfl 1 rfl ?_
                refine w_iload C dX7_findYear_79 5 rfl ?_
                refine w_iload_n C dX7_findYear_81 rfl 2 rfl ?_
                refine w_iload_n C dX7_findYear_82 rfl 4 rfl ?_
                refine w_iadd C dX7_findYear_83 ?_
                refine w_iload C dX7_findYear_84 6 rfl ?_
                refine p_Vi C dX7_findYear_86 h (fun _ e => mX7_monthCost e) lnX7_182 mvX7_monthCost bM0 rfl ⟨Nat.le_of_ble_eq_true rfl, Nat.le_of_ble_eq_true rfl⟩ [.int v27, rf Y 12] rfl (Nat.le_of_ble_eq_true rfl) (fun v28 h => ?_)
                refine w_iload C dX7_findYear_89 0 rfl ?_
                refine w_iadd C dX7_findYear_91 ?_
                refine x_iast C dX7_findYear_92 aM12 h (fun S29 h => ?_)
                refine x_iinc C dX7_findYear_93 6 rfl 1 (by decide) h (by decide) (fun v30 => [(5, .int v30), (6, .int v26), (0, rf Y 0), (1, .int a1), (2, .int a2), (3, .int v16), (4, .int v20)]) (fun _ => rfl) (fun v30 h => ?_)
                refine w_goto C 25 dX7_findYear_96 (by decide) ?_
                exact w_sub [2, 3, 4, 5, 6, 0] rfl (ih _ _ h)
              refine w_icmp_ne C 42 dX7_findYear_35 (by decide) h (fun h => ?_) (fun h => ?_)
              · refine w_aload_n C dX7_findYear_42 rfl 0 rfl ?_
                refine w_iload_n C dX7_findYear_43 rfl 3 rfl ?_
                refine w_iconst (v := 1) C dX7_findYear_44 (by decide) ?_
                refine w_iadd C dX7_findYear_45 ?_
                refine w_iload C dX7_findYear_46 4 rfl ?_
                refine w_iload C dX7_findYear_48 5 rfl ?_
                refine w_aload_n C dX7_findYear_50 rfl 0 rfl ?_
                refine w_iload_n C dX7_findYear_51 rfl 3 rfl ?_
                refine w_iconst (v := 1) C dX7_findYear_52 (by decide) ?_
                refine w_iadd C dX7_findYear_53 ?_
                refine w_iload C dX7_findYear_54 4 rfl ?_
                refine w_iload C dX7_findYear_56 5 rfl ?_
                refine p_Vi C dX7_findYear_58 h (fun _ e => mX7_nextCamp e) lnX7_179 mvX7_nextCamp bM0 rfl ⟨Nat.le_of_ble_eq_true rfl, Nat.le_of_ble_eq_true rfl⟩ [.int v25, .int v20, .int (v16 + (1)), rf Y 0] rfl (Nat.le_of_ble_eq_true rfl) (fun v31 h => ?_)
                refine p_Vi C dX7_findYear_61 h (fun _ e => mX7_costNext e) lnX7_175 mvX7_costNext bM0 rfl ⟨Nat.le_of_ble_eq_true rfl, Nat.le_of_ble_eq_true rfl⟩ [] rfl (Nat.le_of_ble_eq_true rfl) (fun v32 h => ?_)
                exact w_sub [0, 1, 2, 3, 4, 5] rfl (hJ64 _ h)
              refine w_iconst (v := 0) C dX7_findYear_38 (by decide) ?_
              refine w_goto C 64 dX7_findYear_39 (by decide) ?_
              exact w_sub [0, 1, 2, 3, 4, 5] rfl (hJ64 _ h)
          exact w_sub [1, 2, 3, 4, 5, 0] rfl (hL25 _ _ _ h)
      exact w_sub [1, 2, 3, 4, 0] rfl (hL11 _ _ _ h)
  exact w_sub [1, 2, 3, 0] rfl (hL4 _ _ _ h))
def fX7_year (F : Nat) (S : St) (a1 : Int32) (a2 : Int32) (a3 : Int32) : Option (St × Int32) := bv (fX7_isIn S (Int32.toInt64 a1) (0) (11)) fun v1 => pl (bq (fX7_finds S (-1000000001)) fun S2 v3 => some (S2, v3)) fun J39 => if v1 = 0 then (J39) else (bv (fX7_isIn S (Int32.toInt64 a2) (1) (24)) fun v4 => if v4 = 0 then (J39) else (bv (fX7_isIn S (Int32.toInt64 a3) (-1) (Int32.toInt64 (a2 - (1)))) fun v5 => if v5 = 0 then (J39) else (ldi S 1 (2) 216 fun v6 => if v6 = 0 then (bq (fX7_finds S (-1000000004)) fun S10 v11 => some (S10, v11)) else (bq (fX7_findYear F S a1 a2) fun S7 v8 => if 0 ≤ a3 then (ldi S7 13 a3 24 fun v9 => some (S7, v9)) else (some (S7, v8))))))
set_option maxRecDepth 100000 in
theorem mX7_year {Y : YT} {F : Nat} {S : St} {a1 : Int32} {a2 : Int32} {a3 : Int32} {R : St × Int32} (h : fX7_year F S a1 a2 a3 = some R) : Mc VM Y yX7_year cX7_year 5 (some .int) 4 98 [rf Y 0, .int a1, .int a2, .int a3] S (some (.int R.2), R.1) :=
  Mc.start [(0, rf Y 0), (1, .int a1), (2, .int a2), (3, .int a3)] rfl pnX7 (Nat.le_of_ble_eq_true rfl) (fun X (C : Ok VM Y X RX7 cX7_year 5 (some .int)) => by
  unfold fX7_year at h
  refine w_iload_n C dX7_year_0 rfl 1 rfl ?_
  refine w_i2l C dX7_year_1 ?_
  refine w_lconst (v := 0) C dX7_year_2 (by decide) ?_
  refine w_ldc2 C dX7_year_3 klX7_164 ?_
  refine p_Si C dX7_year_6 h (fun _ e => mX7_isIn e) lnX7_65 msX7_isIn rfl ⟨Nat.le_of_ble_eq_true rfl, Nat.le_of_ble_eq_true rfl⟩ [] rfl (Nat.le_of_ble_eq_true rfl) (fun v1 h => ?_)
  refine w_join (fun J39 => J39  = some R → WS VM Y X 5 4 98 (some (.int R.2), R.1) S 39 [(0, rf Y 0)] []) h ?_ (fun J39 hJ39 h => ?_)
  · intro  h
    refine w_aload_n C dX7_year_39 rfl 0 rfl ?_
    refine w_ldc C dX7_year_40 kcX7_54 ?_
    refine w_Vi C dX7_year_42 h (fun _ e => mX7_finds e) lnX7_75 mvX7_finds bM0 rfl ⟨Nat.le_of_ble_eq_true rfl, Nat.le_of_ble_eq_true rfl⟩ [] rfl (Nat.le_of_ble_eq_true rfl) (fun S2 v3 h => ?_)
    exact w_iret C dX7_year_45 h
  refine w_if_eq C 39 dX7_year_9 (by decide) h (fun h => ?_) (fun h => ?_)
  · exact w_sub [0] rfl (hJ39  h)
  refine w_iload_n C dX7_year_12 rfl 2 rfl ?_
  refine w_i2l C dX7_year_13 ?_
  refine w_lconst (v := 1) C dX7_year_14 (by decide) ?_
  refine w_ldc2 C dX7_year_15 klX7_185 ?_
  refine p_Si C dX7_year_18 h (fun _ e => mX7_isIn e) lnX7_65 msX7_isIn rfl ⟨Nat.le_of_ble_eq_true rfl, Nat.le_of_ble_eq_true rfl⟩ [] rfl (Nat.le_of_ble_eq_true rfl) (fun v4 h => ?_)
  refine w_if_eq C 39 dX7_year_21 (by decide) h (fun h => ?_) (fun h => ?_)
  · exact w_sub [0] rfl (hJ39  h)
  refine w_iload_n C dX7_year_24 rfl 3 rfl ?_
  refine w_i2l C dX7_year_25 ?_
  refine w_ldc2 C dX7_year_26 klX7_187 ?_
  refine w_iload_n C dX7_year_29 rfl 2 rfl ?_
  refine w_iconst (v := 1) C dX7_year_30 (by decide) ?_
  refine w_isub C dX7_year_31 ?_
  refine w_i2l C dX7_year_32 ?_
  refine p_Si C dX7_year_33 h (fun _ e => mX7_isIn e) lnX7_65 msX7_isIn rfl ⟨Nat.le_of_ble_eq_true rfl, Nat.le_of_ble_eq_true rfl⟩ [] rfl (Nat.le_of_ble_eq_true rfl) (fun v5 h => ?_)
  refine w_if_ne C 46 dX7_year_36 (by decide) h (fun h => ?_) (fun h => ?_)
  · refine w_aload_n C dX7_year_46 rfl 0 rfl ?_
    refine w_getr C dX7_year_47 flX7_7 gM0_0 ?_
    refine w_iconst (v := 2) C dX7_year_50 (by decide) ?_
    refine x_iald C dX7_year_51 aM1 h (fun v6 h => ?_)
    refine w_if_ne C 62 dX7_year_52 (by decide) h (fun h => ?_) (fun h => ?_)
    · refine w_aload_n C dX7_year_62 rfl 0 rfl ?_
      refine w_iload_n C dX7_year_63 rfl 1 rfl ?_
      refine w_iload_n C dX7_year_64 rfl 2 rfl ?_
      refine w_Vi C dX7_year_65 h (fun _ e => mX7_findYear e) lnX7_189 mvX7_findYear bM0 rfl ⟨Nat.le_of_ble_eq_true rfl, Nat.le_of_ble_eq_true rfl⟩ [] rfl (Nat.le_of_ble_eq_true rfl) (fun S7 v8 h => ?_)
      refine w_istore C dX7_year_68 (by decide) [(4, .int v8), (0, rf Y 0), (1, .int a1), (2, .int a2), (3, .int a3)] rfl ?_
      refine w_iload_n C dX7_year_70 rfl 4 rfl ?_
      refine w_if_ge C 79 dX7_year_71 (by decide) h (fun h => ?_) (fun h => ?_)
      · refine w_aload_n C dX7_year_79 rfl 1 rfl ?_
        refine w_getr C dX7_year_80 flX7_48 gM0_15 ?_
        refine w_iload_n C dX7_year_83 rfl 4 rfl ?_
        refine x_iald C dX7_year_84 aM13 h (fun v9 h => ?_)
        exact w_iret C dX7_year_85 h
      refine w_iload C dX7_year_74 0 rfl ?_
      refine w_goto C 85 dX7_year_76 (by decide) ?_
      exact w_iret C dX7_year_85 h
    refine w_aload_n C dX7_year_55 rfl 0 rfl ?_
    refine w_ldc C dX7_year_56 kcX7_138 ?_
    refine w_Vi C dX7_year_58 h (fun _ e => mX7_finds e) lnX7_75 mvX7_finds bM0 rfl ⟨Nat.le_of_ble_eq_true rfl, Nat.le_of_ble_eq_true rfl⟩ [] rfl (Nat.le_of_ble_eq_true rfl) (fun S10 v11 h => ?_)
    exact w_iret C dX7_year_61 h
  exact w_sub [0] rfl (hJ39  h))
def fX7_moves_L60 (a2 : Int32) (S6 : St) : Nat → Int32 → Int32 → Option (St × Int32)
  | 0, _, _ => none
  | G60 + 1, v8, v9 => if a2 ≤ v9 then (some (S6, v8)) else (ldi S6 13 v9 24 fun v10 => ldi S6 13 (v9 - (1)) 24 fun v11 => pl (fun (v12 : Int32) => pl ((v8 + v12)) fun v13 => pl (v9 + 1) fun v14 => fX7_moves_L60 a2 S6 G60 v13 v14) fun J92 => if v10 = v11 then (J92 (0)) else (J92 (1)))
def fX7_moves (F : Nat) (S : St) (a1 : Int32) (a2 : Int32) : Option (St × Int32) := bv (fX7_isIn S (Int32.toInt64 a1) (0) (11)) fun v1 => pl (bq (fX7_finds S (-1000000001)) fun S2 v3 => some (S2, v3)) fun J24 => if v1 = 0 then (J24) else (bv (fX7_isIn S (Int32.toInt64 a2) (1) (24)) fun v4 => if v4 = 0 then (J24) else (ldi S 1 (2) 216 fun v5 => if v5 = 0 then (bq (fX7_finds S (-1000000004)) fun S15 v16 => some (S15, v16)) else (bq (fX7_findYear F S a1 a2) fun S6 v7 => fX7_moves_L60 a2 S6 F (0) (1))))
set_option maxRecDepth 100000 in
theorem mX7_moves {Y : YT} {F : Nat} {S : St} {a1 : Int32} {a2 : Int32} {R : St × Int32} (h : fX7_moves F S a1 a2 = some R) : Mc VM Y yX7_moves cX7_moves 6 (some .int) 4 98 [rf Y 0, .int a1, .int a2] S (some (.int R.2), R.1) :=
  Mc.start [(0, rf Y 0), (1, .int a1), (2, .int a2)] rfl pnX7 (Nat.le_of_ble_eq_true rfl) (fun X (C : Ok VM Y X RX7 cX7_moves 6 (some .int)) => by
  unfold fX7_moves at h
  refine w_iload_n C dX7_moves_0 rfl 1 rfl ?_
  refine w_i2l C dX7_moves_1 ?_
  refine w_lconst (v := 0) C dX7_moves_2 (by decide) ?_
  refine w_ldc2 C dX7_moves_3 klX7_164 ?_
  refine p_Si C dX7_moves_6 h (fun _ e => mX7_isIn e) lnX7_65 msX7_isIn rfl ⟨Nat.le_of_ble_eq_true rfl, Nat.le_of_ble_eq_true rfl⟩ [] rfl (Nat.le_of_ble_eq_true rfl) (fun v1 h => ?_)
  refine w_join (fun J24 => J24  = some R → WS VM Y X 6 4 98 (some (.int R.2), R.1) S 24 [(0, rf Y 0)] []) h ?_ (fun J24 hJ24 h => ?_)
  · intro  h
    refine w_aload_n C dX7_moves_24 rfl 0 rfl ?_
    refine w_ldc C dX7_moves_25 kcX7_54 ?_
    refine w_Vi C dX7_moves_27 h (fun _ e => mX7_finds e) lnX7_75 mvX7_finds bM0 rfl ⟨Nat.le_of_ble_eq_true rfl, Nat.le_of_ble_eq_true rfl⟩ [] rfl (Nat.le_of_ble_eq_true rfl) (fun S2 v3 h => ?_)
    exact w_iret C dX7_moves_30 h
  refine w_if_eq C 24 dX7_moves_9 (by decide) h (fun h => ?_) (fun h => ?_)
  · exact w_sub [0] rfl (hJ24  h)
  refine w_iload_n C dX7_moves_12 rfl 2 rfl ?_
  refine w_i2l C dX7_moves_13 ?_
  refine w_lconst (v := 1) C dX7_moves_14 (by decide) ?_
  refine w_ldc2 C dX7_moves_15 klX7_185 ?_
  refine p_Si C dX7_moves_18 h (fun _ e => mX7_isIn e) lnX7_65 msX7_isIn rfl ⟨Nat.le_of_ble_eq_true rfl, Nat.le_of_ble_eq_true rfl⟩ [] rfl (Nat.le_of_ble_eq_true rfl) (fun v4 h => ?_)
  refine w_if_ne C 31 dX7_moves_21 (by decide) h (fun h => ?_) (fun h => ?_)
  · refine w_aload_n C dX7_moves_31 rfl 0 rfl ?_
    refine w_getr C dX7_moves_32 flX7_7 gM0_0 ?_
    refine w_iconst (v := 2) C dX7_moves_35 (by decide) ?_
    refine x_iald C dX7_moves_36 aM1 h (fun v5 h => ?_)
    refine w_if_ne C 47 dX7_moves_37 (by decide) h (fun h => ?_) (fun h => ?_)
    · refine w_aload_n C dX7_moves_47 rfl 0 rfl ?_
      refine w_iload_n C dX7_moves_48 rfl 1 rfl ?_
      refine w_iload_n C dX7_moves_49 rfl 2 rfl ?_
      refine w_Vi C dX7_moves_50 h (fun _ e => mX7_findYear e) lnX7_189 mvX7_findYear bM0 rfl ⟨Nat.le_of_ble_eq_true rfl, Nat.le_of_ble_eq_true rfl⟩ [] rfl (Nat.le_of_ble_eq_true rfl) (fun S6 v7 h => ?_)
      refine w_istore_n C dX7_moves_53 rfl (by decide) [(3, .int v7), (0, rf Y 0), (1, .int a1), (2, .int a2)] rfl ?_
      refine w_iconst (v := 0) C dX7_moves_54 (by decide) ?_
      refine w_istore C dX7_moves_55 (by decide) [(4, .int (0)), (3, .int v7), (0, rf Y 0), (1, .int a1), (2, .int a2)] rfl ?_
      refine w_iconst (v := 1) C dX7_moves_57 (by decide) ?_
      refine w_istore C dX7_moves_58 (by decide) [(5, .int (1)), (4, .int (0)), (3, .int v7), (0, rf Y 0), (1, .int a1), (2, .int a2)] rfl ?_
      have hL60 : ∀ (G60 : Nat) (v8 : Int32) (v9 : Int32), fX7_moves_L60 a2 S6 G60 v8 v9 = some R → WS VM Y X 6 4 98 (some (.int R.2), R.1) S6 60 [(0, rf Y 0), (2, .int a2), (4, .int v8), (5, .int v9)] [] := by
        intro G60
        induction G60 with
        | zero => intro v8 v9 h; exact nomatch (show (none : Option (St × Int32)) = some R from h)
        | succ G60 ih =>
          intro v8 v9 h
          rw [fX7_moves_L60] at h
          refine w_iload C dX7_moves_60 3 rfl ?_
          refine w_iload_n C dX7_moves_62 rfl 1 rfl ?_
          refine w_icmp_ge C 101 dX7_moves_63 (by decide) h (fun h => ?_) (fun h => ?_)
          · refine w_iload C dX7_moves_101 2 rfl ?_
            exact w_iret C dX7_moves_103 h
          refine w_iload C dX7_moves_66 2 rfl ?_
          refine w_aload_n C dX7_moves_68 rfl 0 rfl ?_
          refine w_getr C dX7_moves_69 flX7_48 gM0_15 ?_
          refine w_iload C dX7_moves_72 3 rfl ?_
          refine x_iald C dX7_moves_74 aM13 h (fun v10 h => ?_)
          refine w_aload_n C dX7_moves_75 rfl 0 rfl ?_
          refine w_getr C dX7_moves_76 flX7_48 gM0_15 ?_
          refine w_iload C dX7_moves_79 3 rfl ?_
          refine w_iconst (v := 1) C dX7_moves_81 (by decide) ?_
          refine w_isub C dX7_moves_82 ?_
          refine x_iald C dX7_moves_83 aM13 h (fun v11 h => ?_)
          refine w_join (fun J92 => ∀ (v12 : Int32), J92 v12 = some R → WS VM Y X 6 4 98 (some (.int R.2), R.1) S6 92 [(0, rf Y 0), (2, .int a2), (5, .int v9)] [.int v12, .int v8]) h ?_ (fun J92 hJ92 h => ?_)
          · intro v12 h
            refine w_iadd C dX7_moves_92 ?_
            refine w_topi h (fun v13 h => ?_)
            refine w_istore C dX7_moves_93 (by decide) [(4, .int v13), (0, rf Y 0), (2, .int a2), (5, .int v9)] rfl ?_
            refine x_iinc C dX7_moves_95 3 rfl 1 (by decide) h (by decide) (fun v14 => [(5, .int v14), (4, .int v13), (0, rf Y 0), (2, .int a2)]) (fun _ => rfl) (fun v14 h => ?_)
            refine w_goto C 60 dX7_moves_98 (by decide) ?_
            exact w_sub [2, 3, 1, 0] rfl (ih _ _ h)
          refine w_icmp_eq C 91 dX7_moves_84 (by decide) h (fun h => ?_) (fun h => ?_)
          · refine w_iconst (v := 0) C dX7_moves_91 (by decide) ?_
            exact w_sub [0, 1, 3] rfl (hJ92 _ h)
          refine w_iconst (v := 1) C dX7_moves_87 (by decide) ?_
          refine w_goto C 92 dX7_moves_88 (by decide) ?_
          exact w_sub [0, 1, 3] rfl (hJ92 _ h)
      exact w_sub [3, 5, 1, 0] rfl (hL60 _ _ _ h)
    refine w_aload_n C dX7_moves_40 rfl 0 rfl ?_
    refine w_ldc C dX7_moves_41 kcX7_138 ?_
    refine w_Vi C dX7_moves_43 h (fun _ e => mX7_finds e) lnX7_75 mvX7_finds bM0 rfl ⟨Nat.le_of_ble_eq_true rfl, Nat.le_of_ble_eq_true rfl⟩ [] rfl (Nat.le_of_ble_eq_true rfl) (fun S15 v16 h => ?_)
    exact w_iret C dX7_moves_46 h
  exact w_sub [0] rfl (hJ24  h))
def fX7_feed_L41 (a1 : Int32) : Nat → St → Int32 → Option (St × Int32)
  | 0, _, _ => none
  | G41 + 1, S3, v4 => if v4 < 0 then (some (S3, (S3.1 0 6))) else (sti S3 5 (S3.1 0 6) 120 ((a1 >>> (((8) * v4) &&& 31)) &&& (255)) fun S5 => pl (si S5 0 6 ((S5.1 0 6) + (1))) fun S6 => pl (v4 + (-1)) fun v7 => fX7_feed_L41 a1 G41 S6 v7)
def fX7_feed (F : Nat) (S : St) (a1 : Int32) (a2 : Int32) : Option (St × Int32) := bv (fX7_isIn S (Int32.toInt64 a2) (1) (4)) fun v1 => if v1 = 0 then (bq (fX7_finds S (-1000000001)) fun S10 v11 => some (S10, v11)) else (if ((S.1 0 6) + a2) ≤ (120) then (pl ((a2 - (1))) fun v2 => fX7_feed_L41 a1 F S v2) else (bq (fX7_finds S (-1000000002)) fun S8 v9 => some (S8, v9)))
set_option maxRecDepth 100000 in
theorem mX7_feed {Y : YT} {F : Nat} {S : St} {a1 : Int32} {a2 : Int32} {R : St × Int32} (h : fX7_feed F S a1 a2 = some R) : Mc VM Y yX7_feed cX7_feed 4 (some .int) 1 25 [rf Y 0, .int a1, .int a2] S (some (.int R.2), R.1) :=
  Mc.start [(0, rf Y 0), (1, .int a1), (2, .int a2)] rfl pnX7 (Nat.le_of_ble_eq_true rfl) (fun X (C : Ok VM Y X RX7 cX7_feed 4 (some .int)) => by
  unfold fX7_feed at h
  refine w_iload_n C dX7_feed_0 rfl 2 rfl ?_
  refine w_i2l C dX7_feed_1 ?_
  refine w_lconst (v := 1) C dX7_feed_2 (by decide) ?_
  refine w_ldc2 C dX7_feed_3 klX7_107 ?_
  refine p_Si C dX7_feed_6 h (fun _ e => mX7_isIn e) lnX7_65 msX7_isIn rfl ⟨Nat.le_of_ble_eq_true rfl, Nat.le_of_ble_eq_true rfl⟩ [] rfl (Nat.le_of_ble_eq_true rfl) (fun v1 h => ?_)
  refine w_if_ne C 19 dX7_feed_9 (by decide) h (fun h => ?_) (fun h => ?_)
  · refine w_aload_n C dX7_feed_19 rfl 0 rfl ?_
    refine w_geti C dX7_feed_20 flX7_192 iM0_6 ?_
    refine w_iload_n C dX7_feed_23 rfl 2 rfl ?_
    refine w_iadd C dX7_feed_24 ?_
    refine w_bipush (v := 120) C dX7_feed_25 (by decide) ?_
    refine w_icmp_le C 37 dX7_feed_27 (by decide) h (fun h => ?_) (fun h => ?_)
    · refine w_iload_n C dX7_feed_37 rfl 2 rfl ?_
      refine w_iconst (v := 1) C dX7_feed_38 (by decide) ?_
      refine w_isub C dX7_feed_39 ?_
      refine w_topi h (fun v2 h => ?_)
      refine w_istore_n C dX7_feed_40 rfl (by decide) [(3, .int v2), (0, rf Y 0), (1, .int a1), (2, .int a2)] rfl ?_
      have hL41 : ∀ (G41 : Nat) (S3 : St) (v4 : Int32), fX7_feed_L41 a1 G41 S3 v4 = some R → WS VM Y X 4 1 25 (some (.int R.2), R.1) S3 41 [(0, rf Y 0), (1, .int a1), (3, .int v4)] [] := by
        intro G41
        induction G41 with
        | zero => intro S3 v4 h; exact nomatch (show (none : Option (St × Int32)) = some R from h)
        | succ G41 ih =>
          intro S3 v4 h
          rw [fX7_feed_L41] at h
          refine w_iload_n C dX7_feed_41 rfl 2 rfl ?_
          refine w_if_lt C 80 dX7_feed_42 (by decide) h (fun h => ?_) (fun h => ?_)
          · refine w_aload_n C dX7_feed_80 rfl 0 rfl ?_
            refine w_geti C dX7_feed_81 flX7_192 iM0_6 ?_
            exact w_iret C dX7_feed_84 h
          refine w_aload_n C dX7_feed_45 rfl 0 rfl ?_
          refine w_getr C dX7_feed_46 flX7_22 gM0_5 ?_
          refine w_aload_n C dX7_feed_49 rfl 0 rfl ?_
          refine w_geti C dX7_feed_50 flX7_192 iM0_6 ?_
          refine w_iload_n C dX7_feed_53 rfl 1 rfl ?_
          refine w_bipush (v := 8) C dX7_feed_54 (by decide) ?_
          refine w_iload_n C dX7_feed_56 rfl 2 rfl ?_
          refine w_imul C dX7_feed_57 ?_
          refine w_ishr C dX7_feed_58 ?_
          refine w_sipush (v := 255) C dX7_feed_59 (by decide) ?_
          refine w_iand C dX7_feed_62 ?_
          refine x_iast C dX7_feed_63 aM5 h (fun S5 h => ?_)
          refine w_aload_n C dX7_feed_64 rfl 0 rfl ?_
          refine w_dup C dX7_feed_65 rfl ?_
          refine w_geti C dX7_feed_66 flX7_192 iM0_6 ?_
          refine w_iconst (v := 1) C dX7_feed_69 (by decide) ?_
          refine w_iadd C dX7_feed_70 ?_
          refine x_puti C dX7_feed_71 fpX7_192 iM0_6 h (fun S6 h => ?_)
          refine x_iinc C dX7_feed_74 2 rfl (-1) (by decide) h (by decide) (fun v7 => [(3, .int v7), (0, rf Y 0), (1, .int a1)]) (fun _ => rfl) (fun v7 h => ?_)
          refine w_goto C 41 dX7_feed_77 (by decide) ?_
          exact w_sub [1, 2, 0] rfl (ih _ _ h)
      exact w_sub [1, 2, 0] rfl (hL41 _ _ _ h)
    refine w_aload_n C dX7_feed_30 rfl 0 rfl ?_
    refine w_ldc C dX7_feed_31 kcX7_79 ?_
    refine w_Vi C dX7_feed_33 h (fun _ e => mX7_finds e) lnX7_75 mvX7_finds bM0 rfl ⟨Nat.le_of_ble_eq_true rfl, Nat.le_of_ble_eq_true rfl⟩ [] rfl (Nat.le_of_ble_eq_true rfl) (fun S8 v9 h => ?_)
    exact w_iret C dX7_feed_36 h
  refine w_aload_n C dX7_feed_12 rfl 0 rfl ?_
  refine w_ldc C dX7_feed_13 kcX7_54 ?_
  refine w_Vi C dX7_feed_15 h (fun _ e => mX7_finds e) lnX7_75 mvX7_finds bM0 rfl ⟨Nat.le_of_ble_eq_true rfl, Nat.le_of_ble_eq_true rfl⟩ [] rfl (Nat.le_of_ble_eq_true rfl) (fun S10 v11 h => ?_)
  exact w_iret C dX7_feed_18 h)
def fX7_wipe (S : St) : Option (St × Int32) := pl ((S.1 0 6)) fun v1 => pl (si S 0 6 (0)) fun S2 => some (S2, v1)
set_option maxRecDepth 100000 in
theorem mX7_wipe {Y : YT} {S : St} {R : St × Int32} (h : fX7_wipe  S  = some R) : Mc VM Y yX7_wipe cX7_wipe 2 (some .int) 0 0 [rf Y 0] S (some (.int R.2), R.1) :=
  Mc.start [(0, rf Y 0)] rfl pnX7 (Nat.le_of_ble_eq_true rfl) (fun X (C : Ok VM Y X RX7 cX7_wipe 2 (some .int)) => by
  unfold fX7_wipe at h
  refine w_aload_n C dX7_wipe_0 rfl 0 rfl ?_
  refine w_geti C dX7_wipe_1 flX7_192 iM0_6 ?_
  refine w_topi h (fun v1 h => ?_)
  refine w_istore_n C dX7_wipe_4 rfl (by decide) [(1, .int v1), (0, rf Y 0)] rfl ?_
  refine w_aload_n C dX7_wipe_5 rfl 1 rfl ?_
  refine w_iconst (v := 0) C dX7_wipe_6 (by decide) ?_
  refine x_puti C dX7_wipe_7 fpX7_192 iM0_6 h (fun S2 h => ?_)
  refine w_iload_n C dX7_wipe_10 rfl 0 rfl ?_
  exact w_iret C dX7_wipe_11 h)
def fX7_byteAt (S : St) (a1 : Int32) : Option (Int32) := if (S.1 0 6) ≤ a1 then (some (-1)) else (ldi S 5 a1 120 fun v1 => some v1)
set_option maxRecDepth 100000 in
theorem mX7_byteAt {Y : YT} {S : St} {a1 : Int32} {R : Int32} (h : fX7_byteAt  S a1 = some R) : Mc VM Y yX7_byteAt cX7_byteAt 2 (some .int) 0 0 [rf Y 0, .int a1] S (some (.int R), S) :=
  Mc.start [(0, rf Y 0), (1, .int a1)] rfl pnX7 (Nat.le_of_ble_eq_true rfl) (fun X (C : Ok VM Y X RX7 cX7_byteAt 2 (some .int)) => by
  unfold fX7_byteAt at h
  refine w_iload_n C dX7_byteAt_0 rfl 1 rfl ?_
  refine w_aload_n C dX7_byteAt_1 rfl 0 rfl ?_
  refine w_geti C dX7_byteAt_2 flX7_192 iM0_6 ?_
  refine w_icmp_ge C 17 dX7_byteAt_5 (by decide) h (fun h => ?_) (fun h => ?_)
  · refine w_iconst (v := -1) C dX7_byteAt_17 (by decide) ?_
    exact p_iret C dX7_byteAt_18 h
  refine w_aload_n C dX7_byteAt_8 rfl 0 rfl ?_
  refine w_getr C dX7_byteAt_9 flX7_22 gM0_5 ?_
  refine w_iload_n C dX7_byteAt_12 rfl 1 rfl ?_
  refine x_iald C dX7_byteAt_13 aM5 h (fun v1 h => ?_)
  refine w_goto C 18 dX7_byteAt_14 (by decide) ?_
  exact p_iret C dX7_byteAt_18 h)
def fX7_wordHere_L12 (S : St) : Nat → Int32 → Int32 → Int32 → Int32 → Option (Int32)
  | 0, _, _, _, _ => none
  | G12 + 1, v2, v3, v4, v5 => if (70) ≤ v5 then (some (-1)) else (ldi S 14 v5 70 fun v6 => pl (fun (v7 : Int32) (v8 : Int32) (v9 : Int32) => pl (v5 + 1) fun v10 => fX7_wordHere_L12 S G12 v7 v8 v9 v10) fun J92 => if v6 = 0 then (pl (pl (v2 + 1) fun v15 => pl ((S.1 0 16)) fun v16 => J92 v15 v16 (1)) fun J43 => if v4 = 0 then (J43) else (if v3 = (S.1 0 17) then (some v2) else (J43))) else (pl (fun (v11 : Int32) => pl (v3 + 1) fun v12 => J92 v2 v12 v11) fun J88 => pl (J88 (0)) fun J87 => if v4 = 0 then (J87) else (if (S.1 0 17) ≤ v3 then (J87) else (bv (fX7_byteAt S v3) fun v13 => ldi S 14 v5 70 fun v14 => if v13 = v14 then (J88 (1)) else (J87)))))
def fX7_wordHere (F : Nat) (S : St) : Option (Int32) := pl ((S.1 0 16)) fun v1 => fX7_wordHere_L12 S F (0) v1 (1) (0)
set_option maxRecDepth 100000 in
theorem mX7_wordHere {Y : YT} {F : Nat} {S : St} {R : Int32} (h : fX7_wordHere F S  = some R) : Mc VM Y yX7_wordHere cX7_wordHere 5 (some .int) 1 21 [rf Y 0] S (some (.int R), S) :=
  Mc.start [(0, rf Y 0)] rfl pnX7 (Nat.le_of_ble_eq_true rfl) (fun X (C : Ok VM Y X RX7 cX7_wordHere 5 (some .int)) => by
  unfold fX7_wordHere at h
  refine w_iconst (v := 0) C dX7_wordHere_0 (by decide) ?_
  refine w_istore_n C dX7_wordHere_1 rfl (by decide) [(1, .int (0)), (0, rf Y 0)] rfl ?_
  refine w_aload_n C dX7_wordHere_2 rfl 1 rfl ?_
  refine w_geti C dX7_wordHere_3 flX7_195 iM0_16 ?_
  refine w_topi h (fun v1 h => ?_)
  refine w_istore_n C dX7_wordHere_6 rfl (by decide) [(2, .int v1), (1, .int (0)), (0, rf Y 0)] rfl ?_
  refine w_iconst (v := 1) C dX7_wordHere_7 (by decide) ?_
  refine w_istore_n C dX7_wordHere_8 rfl (by decide) [(3, .int (1)), (2, .int v1), (1, .int (0)), (0, rf Y 0)] rfl ?_
  refine w_iconst (v := 0) C dX7_wordHere_9 (by decide) ?_
  refine w_istore C dX7_wordHere_10 (by decide) [(4, .int (0)), (3, .int (1)), (2, .int v1), (1, .int (0)), (0, rf Y 0)] rfl ?_
  have hL12 : ∀ (G12 : Nat) (v2 : Int32) (v3 : Int32) (v4 : Int32) (v5 : Int32), fX7_wordHere_L12 S G12 v2 v3 v4 v5 = some R → WS VM Y X 5 1 21 (some (.int R), S) S 12 [(0, rf Y 0), (1, .int v2), (2, .int v3), (3, .int v4), (4, .int v5)] [] := by
    intro G12
    induction G12 with
    | zero => intro v2 v3 v4 v5 h; exact nomatch (show (none : Option (Int32)) = some R from h)
    | succ G12 ih =>
      intro v2 v3 v4 v5 h
      rw [fX7_wordHere_L12] at h
      refine w_iload C dX7_wordHere_12 4 rfl ?_
      refine w_bipush (v := 70) C dX7_wordHere_14 (by decide) ?_
      refine w_icmp_ge C 98 dX7_wordHere_16 (by decide) h (fun h => ?_) (fun h => ?_)
      · refine w_iconst (v := -1) C dX7_wordHere_98 (by decide) ?_
        exact p_iret C dX7_wordHere_99 h
      refine w_aload_n C dX7_wordHere_19 rfl 0 rfl ?_
      refine w_getr C dX7_wordHere_20 flX7_51 gM0_21 ?_
      refine w_iload C dX7_wordHere_23 4 rfl ?_
      refine x_iald C dX7_wordHere_25 aM14 h (fun v6 h => ?_)
      refine w_join (fun J92 => ∀ (v7 : Int32) (v8 : Int32) (v9 : Int32), J92 v7 v8 v9 = some R → WS VM Y X 5 1 21 (some (.int R), S) S 92 [(0, rf Y 0), (1, .int v7), (2, .int v8), (3, .int v9), (4, .int v5)] []) h ?_ (fun J92 hJ92 h => ?_)
      · intro v7 v8 v9 h
        refine x_iinc C dX7_wordHere_92 4 rfl 1 (by decide) h (by decide) (fun v10 => [(4, .int v10), (0, rf Y 0), (1, .int v7), (2, .int v8), (3, .int v9)]) (fun _ => rfl) (fun v10 h => ?_)
        refine w_goto C 12 dX7_wordHere_95 (by decide) ?_
        exact w_sub [1, 2, 3, 4, 0] rfl (ih _ _ _ _ h)
      refine w_if_ne C 56 dX7_wordHere_26 (by decide) h (fun h => ?_) (fun h => ?_)
      · refine w_iload_n C dX7_wordHere_56 rfl 3 rfl ?_
        refine w_join (fun J88 => ∀ (v11 : Int32), J88 v11 = some R → WS VM Y X 5 1 21 (some (.int R), S) S 88 [(0, rf Y 0), (1, .int v2), (2, .int v3), (4, .int v5)] [.int v11]) h ?_ (fun J88 hJ88 h => ?_)
        · intro v11 h
          refine w_istore_n C dX7_wordHere_88 rfl (by decide) [(3, .int v11), (0, rf Y 0), (1, .int v2), (2, .int v3), (4, .int v5)] rfl ?_
          refine x_iinc C dX7_wordHere_89 3 rfl 1 (by decide) h (by decide) (fun v12 => [(2, .int v12), (3, .int v11), (0, rf Y 0), (1, .int v2), (4, .int v5)]) (fun _ => rfl) (fun v12 h => ?_)
          exact w_sub [2, 3, 0, 1, 4] rfl (hJ92 _ _ _ h)
        refine w_join (fun J87 => J87  = some R → WS VM Y X 5 1 21 (some (.int R), S) S 87 [(0, rf Y 0), (1, .int v2), (2, .int v3), (4, .int v5)] []) h ?_ (fun J87 hJ87 h => ?_)
        · intro  h
          refine w_iconst (v := 0) C dX7_wordHere_87 (by decide) ?_
          exact w_sub [0, 1, 2, 3] rfl (hJ88 _ h)
        refine w_if_eq C 87 dX7_wordHere_57 (by decide) h (fun h => ?_) (fun h => ?_)
        · exact w_sub [0, 1, 2, 4] rfl (hJ87  h)
        refine w_iload_n C dX7_wordHere_60 rfl 2 rfl ?_
        refine w_aload_n C dX7_wordHere_61 rfl 0 rfl ?_
        refine w_geti C dX7_wordHere_62 flX7_198 iM0_17 ?_
        refine w_icmp_ge C 87 dX7_wordHere_65 (by decide) h (fun h => ?_) (fun h => ?_)
        · exact w_sub [0, 1, 2, 4] rfl (hJ87  h)
        refine w_aload_n C dX7_wordHere_68 rfl 0 rfl ?_
        refine w_iload_n C dX7_wordHere_69 rfl 2 rfl ?_
        refine p_Vi C dX7_wordHere_70 h (fun _ e => mX7_byteAt e) lnX7_201 mvX7_byteAt bM0 rfl ⟨Nat.le_of_ble_eq_true rfl, Nat.le_of_ble_eq_true rfl⟩ [] rfl (Nat.le_of_ble_eq_true rfl) (fun v13 h => ?_)
        refine w_aload_n C dX7_wordHere_73 rfl 0 rfl ?_
        refine w_getr C dX7_wordHere_74 flX7_51 gM0_21 ?_
        refine w_iload C dX7_wordHere_77 4 rfl ?_
        refine x_iald C dX7_wordHere_79 aM14 h (fun v14 h => ?_)
        refine w_icmp_ne C 87 dX7_wordHere_80 (by decide) h (fun h => ?_) (fun h => ?_)
        · exact w_sub [0, 1, 2, 4] rfl (hJ87  h)
        refine w_iconst (v := 1) C dX7_wordHere_83 (by decide) ?_
        refine w_goto C 88 dX7_wordHere_84 (by decide) ?_
        exact w_sub [0, 1, 2, 4] rfl (hJ88 _ h)
      refine w_iload_n C dX7_wordHere_29 rfl 3 rfl ?_
      refine w_join (fun J43 => J43  = some R → WS VM Y X 5 1 21 (some (.int R), S) S 43 [(0, rf Y 0), (1, .int v2), (4, .int v5)] []) h ?_ (fun J43 hJ43 h => ?_)
      · intro  h
        refine x_iinc C dX7_wordHere_43 1 rfl 1 (by decide) h (by decide) (fun v15 => [(1, .int v15), (0, rf Y 0), (4, .int v5)]) (fun _ => rfl) (fun v15 h => ?_)
        refine w_aload_n C dX7_wordHere_46 rfl 1 rfl ?_
        refine w_geti C dX7_wordHere_47 flX7_195 iM0_16 ?_
        refine w_topi h (fun v16 h => ?_)
        refine w_istore_n C dX7_wordHere_50 rfl (by decide) [(2, .int v16), (1, .int v15), (0, rf Y 0), (4, .int v5)] rfl ?_
        refine w_iconst (v := 1) C dX7_wordHere_51 (by decide) ?_
        refine w_istore_n C dX7_wordHere_52 rfl (by decide) [(3, .int (1)), (2, .int v16), (1, .int v15), (0, rf Y 0), (4, .int v5)] rfl ?_
        refine w_goto C 92 dX7_wordHere_53 (by decide) ?_
        exact w_sub [3, 2, 1, 0, 4] rfl (hJ92 _ _ _ h)
      refine w_if_eq C 43 dX7_wordHere_30 (by decide) h (fun h => ?_) (fun h => ?_)
      · exact w_sub [0, 1, 4] rfl (hJ43  h)
      refine w_iload_n C dX7_wordHere_33 rfl 2 rfl ?_
      refine w_aload_n C dX7_wordHere_34 rfl 0 rfl ?_
      refine w_geti C dX7_wordHere_35 flX7_198 iM0_17 ?_
      refine w_icmp_ne C 43 dX7_wordHere_38 (by decide) h (fun h => ?_) (fun h => ?_)
      · exact w_sub [0, 1, 4] rfl (hJ43  h)
      refine w_iload_n C dX7_wordHere_41 rfl 1 rfl ?_
      exact p_iret C dX7_wordHere_42 h
  exact w_sub [4, 3, 2, 1, 0] rfl (hL12 _ _ _ _ _ h))
def fX7_goesOn_L149 (J223 : St → Option (St)) : Nat → St → Option (St)
  | 0, _ => none
  | G149 + 1, S13 => bv (fX7_byteAt S13 (S13.1 0 17)) fun v14 => bv (fX7_isIn S13 (Int32.toInt64 v14) (48) (57)) fun v15 => if v15 = 0 then (J223 S13) else (pl (fun (v16 : Int32) => pl (si S13 0 19 v16) fun S17 => pl (si S17 0 17 ((S17.1 0 17) + (1))) fun S18 => fX7_goesOn_L149 J223 G149 S18) fun J207 => if (S13.1 0 19) ≤ (999) then (bv (fX7_byteAt S13 (S13.1 0 17)) fun v19 => J207 ((((10) * (S13.1 0 19)) + v19) - (48))) else (J207 (S13.1 0 19)))
def fX7_goesOn_L69 (J103 : St → Option (St)) : Nat → St → Option (St)
  | 0, _ => none
  | G69 + 1, S25 => bv (fX7_byteAt S25 (S25.1 0 17)) fun v26 => bv (fX7_isIn S25 (Int32.toInt64 v26) (97) (122)) fun v27 => if v27 = 0 then (J103 S25) else (pl (si S25 0 17 ((S25.1 0 17) + (1))) fun S28 => fX7_goesOn_L69 J103 G69 S28)
def fX7_goesOn_L0 (J26 : St → Option (St)) : Nat → St → Option (St)
  | 0, _ => none
  | G0 + 1, S30 => bv (fX7_byteAt S30 (S30.1 0 17)) fun v31 => if v31 = (32) then (pl (si S30 0 17 ((S30.1 0 17) + (1))) fun S32 => fX7_goesOn_L0 J26 G0 S32) else (J26 S30)
def fX7_goesOn (F : Nat) (S : St) : Option (St) := pl (fun (S1 : St) => pl (si S1 0 16 (S1.1 0 17)) fun S2 => bv (fX7_byteAt S2 (S2.1 0 17)) fun v3 => if 0 ≤ v3 then (bv (fX7_isIn S2 (Int32.toInt64 v3) (97) (122)) fun v4 => if v4 = 0 then (bv (fX7_isIn S2 (Int32.toInt64 v3) (48) (57)) fun v5 => if v5 = 0 then (pl (si S2 0 17 ((S2.1 0 17) + (1))) fun S6 => if v3 = (44) then (pl (si S6 0 18 (3)) fun S8 => some S8) else (pl (si S6 0 18 (4)) fun S7 => some S7)) else (pl (si S2 0 19 (0)) fun S9 => pl (fun (S10 : St) => if (S10.1 0 19) ≤ (999) then (pl (si S10 0 18 (2)) fun S11 => some S11) else (pl (si S10 0 18 (4)) fun S12 => some S12)) fun J223 => fX7_goesOn_L149 J223 F S9)) else (pl (fun (S20 : St) => bv (fX7_wordHere F S20) fun v21 => pl (si S20 0 19 v21) fun S22 => if 0 ≤ (S22.1 0 19) then (pl (si S22 0 18 (1)) fun S23 => some S23) else (pl (si S22 0 18 (4)) fun S24 => some S24)) fun J103 => fX7_goesOn_L69 J103 F S2)) else (pl (si S2 0 18 (0)) fun S29 => some S29)) fun J26 => fX7_goesOn_L0 J26 F S
set_option maxRecDepth 100000 in
theorem mX7_goesOn {Y : YT} {F : Nat} {S : St} {R : St} (h : fX7_goesOn F S  = some R) : Mc VM Y yX7_goesOn cX7_goesOn 2 none 2 45 [rf Y 0] S (none, R) :=
  Mc.start [(0, rf Y 0)] rfl pnX7 (Nat.le_of_ble_eq_true rfl) (fun X (C : Ok VM Y X RX7 cX7_goesOn 2 none) => by
  unfold fX7_goesOn at h
  refine w_join (fun J26 => ∀ (S1 : St), J26 S1 = some R → WS VM Y X 2 2 45 (none, R) S1 26 [(0, rf Y 0)] []) h ?_ (fun J26 hJ26 h => ?_)
  · intro S1 h
    refine w_aload_n C dX7_goesOn_26 rfl 0 rfl ?_
    refine w_aload_n C dX7_goesOn_27 rfl 0 rfl ?_
    refine w_geti C dX7_goesOn_28 flX7_198 iM0_17 ?_
    refine x_puti C dX7_goesOn_31 fpX7_195 iM0_16 h (fun S2 h => ?_)
    refine w_aload_n C dX7_goesOn_34 rfl 0 rfl ?_
    refine w_aload_n C dX7_goesOn_35 rfl 0 rfl ?_
    refine w_geti C dX7_goesOn_36 flX7_198 iM0_17 ?_
    refine p_Vi C dX7_goesOn_39 h (fun _ e => mX7_byteAt e) lnX7_201 mvX7_byteAt bM0 rfl ⟨Nat.le_of_ble_eq_true rfl, Nat.le_of_ble_eq_true rfl⟩ [] rfl (Nat.le_of_ble_eq_true rfl) (fun v3 h => ?_)
    refine w_istore_n C dX7_goesOn_42 rfl (by decide) [(1, .int v3), (0, rf Y 0)] rfl ?_
    refine w_iload_n C dX7_goesOn_43 rfl 0 rfl ?_
    refine w_if_ge C 55 dX7_goesOn_44 (by decide) h (fun h => ?_) (fun h => ?_)
    · refine w_iload_n C dX7_goesOn_55 rfl 0 rfl ?_
      refine w_i2l C dX7_goesOn_56 ?_
      refine w_ldc2 C dX7_goesOn_57 klX7_207 ?_
      refine w_ldc2 C dX7_goesOn_60 klX7_209 ?_
      refine p_Si C dX7_goesOn_63 h (fun _ e => mX7_isIn e) lnX7_65 msX7_isIn rfl ⟨Nat.le_of_ble_eq_true rfl, Nat.le_of_ble_eq_true rfl⟩ [] rfl (Nat.le_of_ble_eq_true rfl) (fun v4 h => ?_)
      refine w_if_eq C 130 dX7_goesOn_66 (by decide) h (fun h => ?_) (fun h => ?_)
      · refine w_iload_n C dX7_goesOn_130 rfl 0 rfl ?_
        refine w_i2l C dX7_goesOn_131 ?_
        refine w_ldc2 C dX7_goesOn_132 klX7_217 ?_
        refine w_ldc2 C dX7_goesOn_135 klX7_219 ?_
        refine p_Si C dX7_goesOn_138 h (fun _ e => mX7_isIn e) lnX7_65 msX7_isIn rfl ⟨Nat.le_of_ble_eq_true rfl, Nat.le_of_ble_eq_true rfl⟩ [] rfl (Nat.le_of_ble_eq_true rfl) (fun v5 h => ?_)
        refine w_if_eq C 245 dX7_goesOn_141 (by decide) h (fun h => ?_) (fun h => ?_)
        · refine w_aload_n C dX7_goesOn_245 rfl 1 rfl ?_
          refine w_dup C dX7_goesOn_246 rfl ?_
          refine w_geti C dX7_goesOn_247 flX7_198 iM0_17 ?_
          refine w_iconst (v := 1) C dX7_goesOn_250 (by decide) ?_
          refine w_iadd C dX7_goesOn_251 ?_
          refine x_puti C dX7_goesOn_252 fpX7_198 iM0_17 h (fun S6 h => ?_)
          refine w_aload_n C dX7_goesOn_255 rfl 1 rfl ?_
          refine w_iload_n C dX7_goesOn_256 rfl 0 rfl ?_
          refine w_bipush (v := 44) C dX7_goesOn_257 (by decide) ?_
          refine w_icmp_ne C 266 dX7_goesOn_259 (by decide) h (fun h => ?_) (fun h => ?_)
          · refine w_iconst (v := 4) C dX7_goesOn_266 (by decide) ?_
            refine x_puti C dX7_goesOn_267 fpX7_204 iM0_18 h (fun S7 h => ?_)
            exact w_vret C dX7_goesOn_270 h
          refine w_iconst (v := 3) C dX7_goesOn_262 (by decide) ?_
          refine w_goto C 267 dX7_goesOn_263 (by decide) ?_
          refine x_puti C dX7_goesOn_267 fpX7_204 iM0_18 h (fun S8 h => ?_)
          exact w_vret C dX7_goesOn_270 h
        refine w_aload_n C dX7_goesOn_144 rfl 1 rfl ?_
        refine w_iconst (v := 0) C dX7_goesOn_145 (by decide) ?_
        refine x_puti C dX7_goesOn_146 fpX7_214 iM0_19 h (fun S9 h => ?_)
        refine w_join (fun J223 => ∀ (S10 : St), J223 S10 = some R → WS VM Y X 2 2 45 (none, R) S10 223 [(0, rf Y 0)] []) h ?_ (fun J223 hJ223 h => ?_)
        · intro S10 h
          refine w_aload_n C dX7_goesOn_223 rfl 0 rfl ?_
          refine w_aload_n C dX7_goesOn_224 rfl 0 rfl ?_
          refine w_geti C dX7_goesOn_225 flX7_214 iM0_19 ?_
          refine w_sipush (v := 999) C dX7_goesOn_228 (by decide) ?_
          refine w_icmp_le C 238 dX7_goesOn_231 (by decide) h (fun h => ?_) (fun h => ?_)
          · refine w_iconst (v := 2) C dX7_goesOn_238 (by decide) ?_
            refine x_puti C dX7_goesOn_239 fpX7_204 iM0_18 h (fun S11 h => ?_)
            refine w_goto C 270 dX7_goesOn_242 (by decide) ?_
            exact w_vret C dX7_goesOn_270 h
          refine w_iconst (v := 4) C dX7_goesOn_234 (by decide) ?_
          refine w_goto C 239 dX7_goesOn_235 (by decide) ?_
          refine x_puti C dX7_goesOn_239 fpX7_204 iM0_18 h (fun S12 h => ?_)
          refine w_goto C 270 dX7_goesOn_242 (by decide) ?_
          exact w_vret C dX7_goesOn_270 h
        have hL149 : ∀ (G149 : Nat) (S13 : St), fX7_goesOn_L149 J223 G149 S13 = some R → WS VM Y X 2 2 45 (none, R) S13 149 [(0, rf Y 0)] [] := by
          intro G149
          induction G149 with
          | zero => intro S13 h; exact nomatch (show (none : Option (St)) = some R from h)
          | succ G149 ih =>
            intro S13 h
            rw [fX7_goesOn_L149] at h
            refine w_aload_n C dX7_goesOn_149 rfl 0 rfl ?_
            refine w_aload_n C dX7_goesOn_150 rfl 0 rfl ?_
            refine w_geti C dX7_goesOn_151 flX7_198 iM0_17 ?_
            refine p_Vi C dX7_goesOn_154 h (fun _ e => mX7_byteAt e) lnX7_201 mvX7_byteAt bM0 rfl ⟨Nat.le_of_ble_eq_true rfl, Nat.le_of_ble_eq_true rfl⟩ [] rfl (Nat.le_of_ble_eq_true rfl) (fun v14 h => ?_)
            refine w_i2l C dX7_goesOn_157 ?_
            refine w_ldc2 C dX7_goesOn_158 klX7_217 ?_
            refine w_ldc2 C dX7_goesOn_161 klX7_219 ?_
            refine p_Si C dX7_goesOn_164 h (fun _ e => mX7_isIn e) lnX7_65 msX7_isIn rfl ⟨Nat.le_of_ble_eq_true rfl, Nat.le_of_ble_eq_true rfl⟩ [] rfl (Nat.le_of_ble_eq_true rfl) (fun v15 h => ?_)
            refine w_if_eq C 223 dX7_goesOn_167 (by decide) h (fun h => ?_) (fun h => ?_)
            · exact w_sub [0] rfl (hJ223 _ h)
            refine w_aload_n C dX7_goesOn_170 rfl 0 rfl ?_
            refine w_aload_n C dX7_goesOn_171 rfl 0 rfl ?_
            refine w_geti C dX7_goesOn_172 flX7_214 iM0_19 ?_
            refine w_sipush (v := 999) C dX7_goesOn_175 (by decide) ?_
            refine w_join (fun J207 => ∀ (v16 : Int32), J207 v16 = some R → WS VM Y X 2 2 45 (none, R) S13 207 [(0, rf Y 0)] [.int v16, rf Y 0]) h ?_ (fun J207 hJ207 h => ?_)
            · intro v16 h
              refine x_puti C dX7_goesOn_207 fpX7_214 iM0_19 h (fun S17 h => ?_)
              refine w_aload_n C dX7_goesOn_210 rfl 0 rfl ?_
              refine w_dup C dX7_goesOn_211 rfl ?_
              refine w_geti C dX7_goesOn_212 flX7_198 iM0_17 ?_
              refine w_iconst (v := 1) C dX7_goesOn_215 (by decide) ?_
              refine w_iadd C dX7_goesOn_216 ?_
              refine x_puti C dX7_goesOn_217 fpX7_198 iM0_17 h (fun S18 h => ?_)
              refine w_goto C 149 dX7_goesOn_220 (by decide) ?_
              exact w_sub [0] rfl (ih _ h)
            refine w_icmp_le C 188 dX7_goesOn_178 (by decide) h (fun h => ?_) (fun h => ?_)
            · refine w_bipush (v := 10) C dX7_goesOn_188 (by decide) ?_
              refine w_aload_n C dX7_goesOn_190 rfl 0 rfl ?_
              refine w_geti C dX7_goesOn_191 flX7_214 iM0_19 ?_
              refine w_imul C dX7_goesOn_194 ?_
              refine w_aload_n C dX7_goesOn_195 rfl 0 rfl ?_
              refine w_aload_n C dX7_goesOn_196 rfl 0 rfl ?_
              refine w_geti C dX7_goesOn_197 flX7_198 iM0_17 ?_
              refine p_Vi C dX7_goesOn_200 h (fun _ e => mX7_byteAt e) lnX7_201 mvX7_byteAt bM0 rfl ⟨Nat.le_of_ble_eq_true rfl, Nat.le_of_ble_eq_true rfl⟩ [.int ((10) * (S13.1 0 19)), rf Y 0] rfl (Nat.le_of_ble_eq_true rfl) (fun v19 h => ?_)
              refine w_iadd C dX7_goesOn_203 ?_
              refine w_bipush (v := 48) C dX7_goesOn_204 (by decide) ?_
              refine w_isub C dX7_goesOn_206 ?_
              exact w_sub [0] rfl (hJ207 _ h)
            refine w_aload_n C dX7_goesOn_181 rfl 0 rfl ?_
            refine w_geti C dX7_goesOn_182 flX7_214 iM0_19 ?_
            refine w_goto C 207 dX7_goesOn_185 (by decide) ?_
            exact w_sub [0] rfl (hJ207 _ h)
        exact w_sub [1] rfl (hL149 _ _ h)
      refine w_join (fun J103 => ∀ (S20 : St), J103 S20 = some R → WS VM Y X 2 2 45 (none, R) S20 103 [(0, rf Y 0)] []) h ?_ (fun J103 hJ103 h => ?_)
      · intro S20 h
        refine w_aload_n C dX7_goesOn_103 rfl 0 rfl ?_
        refine w_aload_n C dX7_goesOn_104 rfl 0 rfl ?_
        refine p_Vi C dX7_goesOn_105 h (fun _ e => mX7_wordHere e) lnX7_211 mvX7_wordHere bM0 rfl ⟨Nat.le_of_ble_eq_true rfl, Nat.le_of_ble_eq_true rfl⟩ [rf Y 0] rfl (Nat.le_of_ble_eq_true rfl) (fun v21 h => ?_)
        refine x_puti C dX7_goesOn_108 fpX7_214 iM0_19 h (fun S22 h => ?_)
        refine w_aload_n C dX7_goesOn_111 rfl 0 rfl ?_
        refine w_aload_n C dX7_goesOn_112 rfl 0 rfl ?_
        refine w_geti C dX7_goesOn_113 flX7_214 iM0_19 ?_
        refine w_if_ge C 123 dX7_goesOn_116 (by decide) h (fun h => ?_) (fun h => ?_)
        · refine w_iconst (v := 1) C dX7_goesOn_123 (by decide) ?_
          refine x_puti C dX7_goesOn_124 fpX7_204 iM0_18 h (fun S23 h => ?_)
          refine w_goto C 270 dX7_goesOn_127 (by decide) ?_
          exact w_vret C dX7_goesOn_270 h
        refine w_iconst (v := 4) C dX7_goesOn_119 (by decide) ?_
        refine w_goto C 124 dX7_goesOn_120 (by decide) ?_
        refine x_puti C dX7_goesOn_124 fpX7_204 iM0_18 h (fun S24 h => ?_)
        refine w_goto C 270 dX7_goesOn_127 (by decide) ?_
        exact w_vret C dX7_goesOn_270 h
      have hL69 : ∀ (G69 : Nat) (S25 : St), fX7_goesOn_L69 J103 G69 S25 = some R → WS VM Y X 2 2 45 (none, R) S25 69 [(0, rf Y 0)] [] := by
        intro G69
        induction G69 with
        | zero => intro S25 h; exact nomatch (show (none : Option (St)) = some R from h)
        | succ G69 ih =>
          intro S25 h
          rw [fX7_goesOn_L69] at h
          refine w_aload_n C dX7_goesOn_69 rfl 0 rfl ?_
          refine w_aload_n C dX7_goesOn_70 rfl 0 rfl ?_
          refine w_geti C dX7_goesOn_71 flX7_198 iM0_17 ?_
          refine p_Vi C dX7_goesOn_74 h (fun _ e => mX7_byteAt e) lnX7_201 mvX7_byteAt bM0 rfl ⟨Nat.le_of_ble_eq_true rfl, Nat.le_of_ble_eq_true rfl⟩ [] rfl (Nat.le_of_ble_eq_true rfl) (fun v26 h => ?_)
          refine w_i2l C dX7_goesOn_77 ?_
          refine w_ldc2 C dX7_goesOn_78 klX7_207 ?_
          refine w_ldc2 C dX7_goesOn_81 klX7_209 ?_
          refine p_Si C dX7_goesOn_84 h (fun _ e => mX7_isIn e) lnX7_65 msX7_isIn rfl ⟨Nat.le_of_ble_eq_true rfl, Nat.le_of_ble_eq_true rfl⟩ [] rfl (Nat.le_of_ble_eq_true rfl) (fun v27 h => ?_)
          refine w_if_eq C 103 dX7_goesOn_87 (by decide) h (fun h => ?_) (fun h => ?_)
          · exact w_sub [0] rfl (hJ103 _ h)
          refine w_aload_n C dX7_goesOn_90 rfl 0 rfl ?_
          refine w_dup C dX7_goesOn_91 rfl ?_
          refine w_geti C dX7_goesOn_92 flX7_198 iM0_17 ?_
          refine w_iconst (v := 1) C dX7_goesOn_95 (by decide) ?_
          refine w_iadd C dX7_goesOn_96 ?_
          refine x_puti C dX7_goesOn_97 fpX7_198 iM0_17 h (fun S28 h => ?_)
          refine w_goto C 69 dX7_goesOn_100 (by decide) ?_
          exact w_sub [0] rfl (ih _ h)
      exact w_sub [1] rfl (hL69 _ _ h)
    refine w_aload_n C dX7_goesOn_47 rfl 1 rfl ?_
    refine w_iconst (v := 0) C dX7_goesOn_48 (by decide) ?_
    refine x_puti C dX7_goesOn_49 fpX7_204 iM0_18 h (fun S29 h => ?_)
    refine w_goto C 270 dX7_goesOn_52 (by decide) ?_
    exact w_vret C dX7_goesOn_270 h
  have hL0 : ∀ (G0 : Nat) (S30 : St), fX7_goesOn_L0 J26 G0 S30 = some R → WS VM Y X 2 2 45 (none, R) S30 0 [(0, rf Y 0)] [] := by
    intro G0
    induction G0 with
    | zero => intro S30 h; exact nomatch (show (none : Option (St)) = some R from h)
    | succ G0 ih =>
      intro S30 h
      rw [fX7_goesOn_L0] at h
      refine w_aload_n C dX7_goesOn_0 rfl 0 rfl ?_
      refine w_aload_n C dX7_goesOn_1 rfl 0 rfl ?_
      refine w_geti C dX7_goesOn_2 flX7_198 iM0_17 ?_
      refine p_Vi C dX7_goesOn_5 h (fun _ e => mX7_byteAt e) lnX7_201 mvX7_byteAt bM0 rfl ⟨Nat.le_of_ble_eq_true rfl, Nat.le_of_ble_eq_true rfl⟩ [] rfl (Nat.le_of_ble_eq_true rfl) (fun v31 h => ?_)
      refine w_bipush (v := 32) C dX7_goesOn_8 (by decide) ?_
      refine w_icmp_ne C 26 dX7_goesOn_10 (by decide) h (fun h => ?_) (fun h => ?_)
      · exact w_sub [0] rfl (hJ26 _ h)
      refine w_aload_n C dX7_goesOn_13 rfl 0 rfl ?_
      refine w_dup C dX7_goesOn_14 rfl ?_
      refine w_geti C dX7_goesOn_15 flX7_198 iM0_17 ?_
      refine w_iconst (v := 1) C dX7_goesOn_18 (by decide) ?_
      refine w_iadd C dX7_goesOn_19 ?_
      refine x_puti C dX7_goesOn_20 fpX7_198 iM0_17 h (fun S32 h => ?_)
      refine w_goto C 0 dX7_goesOn_23 (by decide) ?_
      exact w_sub [0] rfl (ih _ h)
  exact w_sub [0] rfl (hL0 _ _ h))
def fX7_takes (F : Nat) (S : St) (a1 : Int32) : Option (St × Int32) := pl (fun (v1 : Int32) => if v1 = 0 then (ok (v1 &&& 1 = v1) (some (S, v1))) else (bv (fX7_goesOn F S) fun S2 => ok (v1 &&& 1 = v1) (some (S2, v1)))) fun J28 => pl (J28 (0)) fun J27 => if (S.1 0 20) = 0 then (if (S.1 0 18) = (1) then (if (S.1 0 19) = a1 then (J28 (1)) else (J27)) else (J27)) else (J27)
set_option maxRecDepth 100000 in
theorem mX7_takes {Y : YT} {F : Nat} {S : St} {a1 : Int32} {R : St × Int32} (h : fX7_takes F S a1 = some R) : Mc VM Y yX7_takes cX7_takes 3 (some .boolean) 3 66 [rf Y 0, .int a1] S (some (.int R.2), R.1) :=
  Mc.start [(0, rf Y 0), (1, .int a1)] rfl pnX7 (Nat.le_of_ble_eq_true rfl) (fun X (C : Ok VM Y X RX7 cX7_takes 3 (some .boolean)) => by
  unfold fX7_takes at h
  refine w_aload_n C dX7_takes_0 rfl 0 rfl ?_
  refine w_geti C dX7_takes_1 flX7_221 iM0_20 ?_
  refine w_join (fun J28 => ∀ (v1 : Int32), J28 v1 = some R → WS VM Y X 3 3 66 (some (.int R.2), R.1) S 28 [(0, rf Y 0)] [.int v1]) h ?_ (fun J28 hJ28 h => ?_)
  · intro v1 h
    refine w_istore_n C dX7_takes_28 rfl (by decide) [(2, .int v1), (0, rf Y 0)] rfl ?_
    refine w_iload_n C dX7_takes_29 rfl 0 rfl ?_
    refine w_if_eq C 37 dX7_takes_30 (by decide) h (fun h => ?_) (fun h => ?_)
    · refine w_iload_n C dX7_takes_37 rfl 0 rfl ?_
      exact w_zret C dX7_takes_38 h
    refine w_aload_n C dX7_takes_33 rfl 1 rfl ?_
    refine w_Vv C dX7_takes_34 h (fun _ e => mX7_goesOn e) lnX7_225 mvX7_goesOn bM0 rfl ⟨Nat.le_of_ble_eq_true rfl, Nat.le_of_ble_eq_true rfl⟩ [] rfl (Nat.le_of_ble_eq_true rfl) (fun S2 h => ?_)
    refine w_iload_n C dX7_takes_37 rfl 0 rfl ?_
    exact w_zret C dX7_takes_38 h
  refine w_join (fun J27 => J27  = some R → WS VM Y X 3 3 66 (some (.int R.2), R.1) S 27 [(0, rf Y 0)] []) h ?_ (fun J27 hJ27 h => ?_)
  · intro  h
    refine w_iconst (v := 0) C dX7_takes_27 (by decide) ?_
    exact w_sub [0] rfl (hJ28 _ h)
  refine w_if_ne C 27 dX7_takes_4 (by decide) h (fun h => ?_) (fun h => ?_)
  · exact w_sub [0] rfl (hJ27  h)
  refine w_aload_n C dX7_takes_7 rfl 0 rfl ?_
  refine w_geti C dX7_takes_8 flX7_204 iM0_18 ?_
  refine w_iconst (v := 1) C dX7_takes_11 (by decide) ?_
  refine w_icmp_ne C 27 dX7_takes_12 (by decide) h (fun h => ?_) (fun h => ?_)
  · exact w_sub [0] rfl (hJ27  h)
  refine w_aload_n C dX7_takes_15 rfl 0 rfl ?_
  refine w_geti C dX7_takes_16 flX7_214 iM0_19 ?_
  refine w_iload_n C dX7_takes_19 rfl 1 rfl ?_
  refine w_icmp_ne C 27 dX7_takes_20 (by decide) h (fun h => ?_) (fun h => ?_)
  · exact w_sub [0] rfl (hJ27  h)
  refine w_iconst (v := 1) C dX7_takes_23 (by decide) ?_
  refine w_goto C 28 dX7_takes_24 (by decide) ?_
  exact w_sub [0] rfl (hJ28 _ h))
def fX7_number (F : Nat) (S : St) (a1 : Int32) (a2 : Int32) : Option (St × Int32) := pl (putz S 0 20 (1) fun S1 => some (S1, 0)) fun J30 => if (S.1 0 20) = 0 then (if (S.1 0 18) = (2) then (bv (fX7_isIn S (Int32.toInt64 (S.1 0 19)) (Int32.toInt64 a1) (Int32.toInt64 a2)) fun v2 => if v2 = 0 then (J30) else (pl ((S.1 0 19)) fun v3 => bv (fX7_goesOn F S) fun S4 => some (S4, v3))) else (J30)) else (J30)
set_option maxRecDepth 100000 in
theorem mX7_number {Y : YT} {F : Nat} {S : St} {a1 : Int32} {a2 : Int32} {R : St × Int32} (h : fX7_number F S a1 a2 = some R) : Mc VM Y yX7_number cX7_number 4 (some .int) 3 66 [rf Y 0, .int a1, .int a2] S (some (.int R.2), R.1) :=
  Mc.start [(0, rf Y 0), (1, .int a1), (2, .int a2)] rfl pnX7 (Nat.le_of_ble_eq_true rfl) (fun X (C : Ok VM Y X RX7 cX7_number 4 (some .int)) => by
  unfold fX7_number at h
  refine w_aload_n C dX7_number_0 rfl 0 rfl ?_
  refine w_geti C dX7_number_1 flX7_221 iM0_20 ?_
  refine w_join (fun J30 => J30  = some R → WS VM Y X 4 3 66 (some (.int R.2), R.1) S 30 [(0, rf Y 0)] []) h ?_ (fun J30 hJ30 h => ?_)
  · intro  h
    refine w_aload_n C dX7_number_30 rfl 0 rfl ?_
    refine w_iconst (v := 1) C dX7_number_31 (by decide) ?_
    refine x_putz C dX7_number_32 fpX7_221 iM0_20 h (fun S1 h => ?_)
    refine w_iconst (v := 0) C dX7_number_35 (by decide) ?_
    exact w_iret C dX7_number_36 h
  refine w_if_ne C 30 dX7_number_4 (by decide) h (fun h => ?_) (fun h => ?_)
  · exact w_sub [0] rfl (hJ30  h)
  refine w_aload_n C dX7_number_7 rfl 0 rfl ?_
  refine w_geti C dX7_number_8 flX7_204 iM0_18 ?_
  refine w_iconst (v := 2) C dX7_number_11 (by decide) ?_
  refine w_icmp_ne C 30 dX7_number_12 (by decide) h (fun h => ?_) (fun h => ?_)
  · exact w_sub [0] rfl (hJ30  h)
  refine w_aload_n C dX7_number_15 rfl 0 rfl ?_
  refine w_geti C dX7_number_16 flX7_214 iM0_19 ?_
  refine w_i2l C dX7_number_19 ?_
  refine w_iload_n C dX7_number_20 rfl 1 rfl ?_
  refine w_i2l C dX7_number_21 ?_
  refine w_iload_n C dX7_number_22 rfl 2 rfl ?_
  refine w_i2l C dX7_number_23 ?_
  refine p_Si C dX7_number_24 h (fun _ e => mX7_isIn e) lnX7_65 msX7_isIn rfl ⟨Nat.le_of_ble_eq_true rfl, Nat.le_of_ble_eq_true rfl⟩ [] rfl (Nat.le_of_ble_eq_true rfl) (fun v2 h => ?_)
  refine w_if_ne C 37 dX7_number_27 (by decide) h (fun h => ?_) (fun h => ?_)
  · refine w_aload_n C dX7_number_37 rfl 0 rfl ?_
    refine w_geti C dX7_number_38 flX7_214 iM0_19 ?_
    refine w_topi h (fun v3 h => ?_)
    refine w_istore_n C dX7_number_41 rfl (by decide) [(3, .int v3), (0, rf Y 0), (1, .int a1), (2, .int a2)] rfl ?_
    refine w_aload_n C dX7_number_42 rfl 1 rfl ?_
    refine w_Vv C dX7_number_43 h (fun _ e => mX7_goesOn e) lnX7_225 mvX7_goesOn bM0 rfl ⟨Nat.le_of_ble_eq_true rfl, Nat.le_of_ble_eq_true rfl⟩ [] rfl (Nat.le_of_ble_eq_true rfl) (fun S4 h => ?_)
    refine w_iload_n C dX7_number_46 rfl 0 rfl ?_
    exact w_iret C dX7_number_47 h
  exact w_sub [0] rfl (hJ30  h))
def fX7_partItem (F : Nat) (S : St) (a1 : Int32) : Option (St) := ldi S 1 (0) 216 fun v1 => pl (fun (v2 : Int32) => putz S 0 20 v2 fun S3 => if (S3.1 0 20) = 0 then (bv (fX7_goesOn F S3) fun S4 => bq (fX7_number F S4 (0) (7)) fun S5 v6 => bq (fX7_number F S5 (1) (999)) fun S7 v8 => bq (fX7_takes F S7 (10)) fun S9 v10 => pl (fun (S11 : St) (v12 : Int32) => bq (fX7_takes F S11 (11)) fun S13 v14 => pl (fun (S15 : St) (v16 : Int32) => if (S15.1 0 20) = 0 then (bv (fX7_comes S15 a1 v6 v8 v12 v16) fun S17 => some S17) else (some S15)) fun J90 => if v14 = 0 then (J90 S13 (0)) else (bq (fX7_number F S13 (0) (99)) fun S18 v19 => J90 S18 v19)) fun J68 => if v10 = 0 then (J68 S9 (0)) else (bq (fX7_number F S9 (0) (99)) fun S20 v21 => J68 S20 v21)) else (some S3)) fun J17 => if v1 = (20) then (J17 (1)) else (J17 (0))
set_option maxRecDepth 100000 in
theorem mX7_partItem {Y : YT} {F : Nat} {S : St} {a1 : Int32} {R : St} (h : fX7_partItem F S a1 = some R) : Mc VM Y yX7_partItem cX7_partItem 6 none 4 89 [rf Y 0, .int a1] S (none, R) :=
  Mc.start [(0, rf Y 0), (1, .int a1)] rfl pnX7 (Nat.le_of_ble_eq_true rfl) (fun X (C : Ok VM Y X RX7 cX7_partItem 6 none) => by
  unfold fX7_partItem at h
  refine w_aload_n C dX7_partItem_0 rfl 0 rfl ?_
  refine w_aload_n C dX7_partItem_1 rfl 0 rfl ?_
  refine w_getr C dX7_partItem_2 flX7_7 gM0_0 ?_
  refine w_iconst (v := 0) C dX7_partItem_5 (by decide) ?_
  refine x_iald C dX7_partItem_6 aM1 h (fun v1 h => ?_)
  refine w_bipush (v := 20) C dX7_partItem_7 (by decide) ?_
  refine w_join (fun J17 => ∀ (v2 : Int32), J17 v2 = some R → WS VM Y X 6 4 89 (none, R) S 17 [(0, rf Y 0), (1, .int a1)] [.int v2, rf Y 0]) h ?_ (fun J17 hJ17 h => ?_)
  · intro v2 h
    refine x_putz C dX7_partItem_17 fpX7_221 iM0_20 h (fun S3 h => ?_)
    refine w_aload_n C dX7_partItem_20 rfl 0 rfl ?_
    refine w_geti C dX7_partItem_21 flX7_221 iM0_20 ?_
    refine w_if_ne C 110 dX7_partItem_24 (by decide) h (fun h => ?_) (fun h => ?_)
    · exact w_vret C dX7_partItem_110 h
    refine w_aload_n C dX7_partItem_27 rfl 0 rfl ?_
    refine w_Vv C dX7_partItem_28 h (fun _ e => mX7_goesOn e) lnX7_225 mvX7_goesOn bM0 rfl ⟨Nat.le_of_ble_eq_true rfl, Nat.le_of_ble_eq_true rfl⟩ [] rfl (Nat.le_of_ble_eq_true rfl) (fun S4 h => ?_)
    refine w_aload_n C dX7_partItem_31 rfl 0 rfl ?_
    refine w_iconst (v := 0) C dX7_partItem_32 (by decide) ?_
    refine w_bipush (v := 7) C dX7_partItem_33 (by decide) ?_
    refine w_Vi C dX7_partItem_35 h (fun _ e => mX7_number e) lnX7_228 mvX7_number bM0 rfl ⟨Nat.le_of_ble_eq_true rfl, Nat.le_of_ble_eq_true rfl⟩ [] rfl (Nat.le_of_ble_eq_true rfl) (fun S5 v6 h => ?_)
    refine w_istore_n C dX7_partItem_38 rfl (by decide) [(2, .int v6), (0, rf Y 0), (1, .int a1)] rfl ?_
    refine w_aload_n C dX7_partItem_39 rfl 1 rfl ?_
    refine w_iconst (v := 1) C dX7_partItem_40 (by decide) ?_
    refine w_sipush (v := 999) C dX7_partItem_41 (by decide) ?_
    refine w_Vi C dX7_partItem_44 h (fun _ e => mX7_number e) lnX7_228 mvX7_number bM0 rfl ⟨Nat.le_of_ble_eq_true rfl, Nat.le_of_ble_eq_true rfl⟩ [] rfl (Nat.le_of_ble_eq_true rfl) (fun S7 v8 h => ?_)
    refine w_istore_n C dX7_partItem_47 rfl (by decide) [(3, .int v8), (2, .int v6), (0, rf Y 0), (1, .int a1)] rfl ?_
    refine w_aload_n C dX7_partItem_48 rfl 2 rfl ?_
    refine w_bipush (v := 10) C dX7_partItem_49 (by decide) ?_
    refine w_Vi C dX7_partItem_51 h (fun _ e => mX7_takes e) lnX7_231 mvX7_takes bM0 rfl ⟨Nat.le_of_ble_eq_true rfl, Nat.le_of_ble_eq_true rfl⟩ [] rfl (Nat.le_of_ble_eq_true rfl) (fun S9 v10 h => ?_)
    refine w_join (fun J68 => ∀ (S11 : St) (v12 : Int32), J68 S11 v12 = some R → WS VM Y X 6 4 89 (none, R) S11 68 [(0, rf Y 0), (1, .int a1), (2, .int v6), (3, .int v8)] [.int v12]) h ?_ (fun J68 hJ68 h => ?_)
    · intro S11 v12 h
      refine w_istore C dX7_partItem_68 (by decide) [(4, .int v12), (0, rf Y 0), (1, .int a1), (2, .int v6), (3, .int v8)] rfl ?_
      refine w_aload_n C dX7_partItem_70 rfl 1 rfl ?_
      refine w_bipush (v := 11) C dX7_partItem_71 (by decide) ?_
      refine w_Vi C dX7_partItem_73 h (fun _ e => mX7_takes e) lnX7_231 mvX7_takes bM0 rfl ⟨Nat.le_of_ble_eq_true rfl, Nat.le_of_ble_eq_true rfl⟩ [] rfl (Nat.le_of_ble_eq_true rfl) (fun S13 v14 h => ?_)
      refine w_join (fun J90 => ∀ (S15 : St) (v16 : Int32), J90 S15 v16 = some R → WS VM Y X 6 4 89 (none, R) S15 90 [(0, rf Y 0), (1, .int a1), (2, .int v6), (3, .int v8), (4, .int v12)] [.int v16]) h ?_ (fun J90 hJ90 h => ?_)
      · intro S15 v16 h
        refine w_istore C dX7_partItem_90 (by decide) [(5, .int v16), (0, rf Y 0), (1, .int a1), (2, .int v6), (3, .int v8), (4, .int v12)] rfl ?_
        refine w_aload_n C dX7_partItem_92 rfl 1 rfl ?_
        refine w_geti C dX7_partItem_93 flX7_221 iM0_20 ?_
        refine w_if_ne C 110 dX7_partItem_96 (by decide) h (fun h => ?_) (fun h => ?_)
        · exact w_vret C dX7_partItem_110 h
        refine w_aload_n C dX7_partItem_99 rfl 1 rfl ?_
        refine w_iload_n C dX7_partItem_100 rfl 2 rfl ?_
        refine w_iload_n C dX7_partItem_101 rfl 3 rfl ?_
        refine w_iload_n C dX7_partItem_102 rfl 4 rfl ?_
        refine w_iload C dX7_partItem_103 5 rfl ?_
        refine w_iload C dX7_partItem_105 0 rfl ?_
        refine w_Vv C dX7_partItem_107 h (fun _ e => mX7_comes e) lnX7_80 mvX7_comes bM0 rfl ⟨Nat.le_of_ble_eq_true rfl, Nat.le_of_ble_eq_true rfl⟩ [] rfl (Nat.le_of_ble_eq_true rfl) (fun S17 h => ?_)
        exact w_vret C dX7_partItem_110 h
      refine w_if_eq C 89 dX7_partItem_76 (by decide) h (fun h => ?_) (fun h => ?_)
      · refine w_iconst (v := 0) C dX7_partItem_89 (by decide) ?_
        exact w_sub [1, 2, 3, 4, 0] rfl (hJ90 _ _ h)
      refine w_aload_n C dX7_partItem_79 rfl 1 rfl ?_
      refine w_iconst (v := 0) C dX7_partItem_80 (by decide) ?_
      refine w_bipush (v := 99) C dX7_partItem_81 (by decide) ?_
      refine w_Vi C dX7_partItem_83 h (fun _ e => mX7_number e) lnX7_228 mvX7_number bM0 rfl ⟨Nat.le_of_ble_eq_true rfl, Nat.le_of_ble_eq_true rfl⟩ [] rfl (Nat.le_of_ble_eq_true rfl) (fun S18 v19 h => ?_)
      refine w_goto C 90 dX7_partItem_86 (by decide) ?_
      exact w_sub [1, 2, 3, 4, 0] rfl (hJ90 _ _ h)
    refine w_if_eq C 67 dX7_partItem_54 (by decide) h (fun h => ?_) (fun h => ?_)
    · refine w_iconst (v := 0) C dX7_partItem_67 (by decide) ?_
      exact w_sub [2, 3, 1, 0] rfl (hJ68 _ _ h)
    refine w_aload_n C dX7_partItem_57 rfl 2 rfl ?_
    refine w_iconst (v := 0) C dX7_partItem_58 (by decide) ?_
    refine w_bipush (v := 99) C dX7_partItem_59 (by decide) ?_
    refine w_Vi C dX7_partItem_61 h (fun _ e => mX7_number e) lnX7_228 mvX7_number bM0 rfl ⟨Nat.le_of_ble_eq_true rfl, Nat.le_of_ble_eq_true rfl⟩ [] rfl (Nat.le_of_ble_eq_true rfl) (fun S20 v21 h => ?_)
    refine w_goto C 68 dX7_partItem_64 (by decide) ?_
    exact w_sub [2, 3, 1, 0] rfl (hJ68 _ _ h)
  refine w_icmp_ne C 16 dX7_partItem_9 (by decide) h (fun h => ?_) (fun h => ?_)
  · refine w_iconst (v := 0) C dX7_partItem_16 (by decide) ?_
    exact w_sub [0, 1] rfl (hJ17 _ h)
  refine w_iconst (v := 1) C dX7_partItem_12 (by decide) ?_
  refine w_goto C 17 dX7_partItem_13 (by decide) ?_
  exact w_sub [0, 1] rfl (hJ17 _ h))
def fX7_campItem_L60 (F : Nat) : Nat → St → Int32 → Int32 → Option (St)
  | 0, _, _, _ => none
  | G60 + 1, S10, v11, v12 => if (12) ≤ v12 then (some S10) else (if v11 = 0 then (some S10) else (ldi S10 1 (2) 216 fun v13 => bq (fX7_number F S10 (0) (999)) fun S14 v15 => sti S14 1 (((138) + ((13) * (v13 - (1)))) + v12) 216 v15 fun S16 => pl (fun (v17 : Int32) => pl (v12 + 1) fun v18 => fX7_campItem_L60 F G60 S16 v17 v18) fun J120 => pl (J120 (0)) fun J119 => if (S16.1 0 20) = 0 then (if (S16.1 0 18) = (2) then (J120 (1)) else (J119)) else (J119)))
def fX7_campItem (F : Nat) (S : St) : Option (St) := ldi S 1 (2) 216 fun v1 => pl (fun (v2 : Int32) => putz S 0 20 v2 fun S3 => if (S3.1 0 20) = 0 then (bv (fX7_goesOn F S3) fun S4 => bq (fX7_number F S4 (0) (99)) fun S5 v6 => if (S5.1 0 20) = 0 then (bv (fX7_comesCamp F S5 v6) fun S7 => bq (fX7_takes F S7 (12)) fun S8 v9 => fX7_campItem_L60 F F S8 v9 (0)) else (some S5)) else (some S3)) fun J17 => if v1 = (6) then (J17 (1)) else (J17 (0))
set_option maxRecDepth 100000 in
theorem mX7_campItem {Y : YT} {F : Nat} {S : St} {R : St} (h : fX7_campItem F S  = some R) : Mc VM Y yX7_campItem cX7_campItem 4 none 4 89 [rf Y 0] S (none, R) :=
  Mc.start [(0, rf Y 0)] rfl pnX7 (Nat.le_of_ble_eq_true rfl) (fun X (C : Ok VM Y X RX7 cX7_campItem 4 none) => by
  unfold fX7_campItem at h
  refine w_aload_n C dX7_campItem_0 rfl 0 rfl ?_
  refine w_aload_n C dX7_campItem_1 rfl 0 rfl ?_
  refine w_getr C dX7_campItem_2 flX7_7 gM0_0 ?_
  refine w_iconst (v := 2) C dX7_campItem_5 (by decide) ?_
  refine x_iald C dX7_campItem_6 aM1 h (fun v1 h => ?_)
  refine w_bipush (v := 6) C dX7_campItem_7 (by decide) ?_
  refine w_join (fun J17 => ∀ (v2 : Int32), J17 v2 = some R → WS VM Y X 4 4 89 (none, R) S 17 [(0, rf Y 0)] [.int v2, rf Y 0]) h ?_ (fun J17 hJ17 h => ?_)
  · intro v2 h
    refine x_putz C dX7_campItem_17 fpX7_221 iM0_20 h (fun S3 h => ?_)
    refine w_aload_n C dX7_campItem_20 rfl 0 rfl ?_
    refine w_geti C dX7_campItem_21 flX7_221 iM0_20 ?_
    refine w_if_ne C 127 dX7_campItem_24 (by decide) h (fun h => ?_) (fun h => ?_)
    · exact w_vret C dX7_campItem_127 h
    refine w_aload_n C dX7_campItem_27 rfl 0 rfl ?_
    refine w_Vv C dX7_campItem_28 h (fun _ e => mX7_goesOn e) lnX7_225 mvX7_goesOn bM0 rfl ⟨Nat.le_of_ble_eq_true rfl, Nat.le_of_ble_eq_true rfl⟩ [] rfl (Nat.le_of_ble_eq_true rfl) (fun S4 h => ?_)
    refine w_aload_n C dX7_campItem_31 rfl 0 rfl ?_
    refine w_iconst (v := 0) C dX7_campItem_32 (by decide) ?_
    refine w_bipush (v := 99) C dX7_campItem_33 (by decide) ?_
    refine w_Vi C dX7_campItem_35 h (fun _ e => mX7_number e) lnX7_228 mvX7_number bM0 rfl ⟨Nat.le_of_ble_eq_true rfl, Nat.le_of_ble_eq_true rfl⟩ [] rfl (Nat.le_of_ble_eq_true rfl) (fun S5 v6 h => ?_)
    refine w_istore_n C dX7_campItem_38 rfl (by decide) [(1, .int v6), (0, rf Y 0)] rfl ?_
    refine w_aload_n C dX7_campItem_39 rfl 1 rfl ?_
    refine w_geti C dX7_campItem_40 flX7_221 iM0_20 ?_
    refine w_if_ne C 127 dX7_campItem_43 (by decide) h (fun h => ?_) (fun h => ?_)
    · exact w_vret C dX7_campItem_127 h
    refine w_aload_n C dX7_campItem_46 rfl 1 rfl ?_
    refine w_iload_n C dX7_campItem_47 rfl 0 rfl ?_
    refine w_Vv C dX7_campItem_48 h (fun _ e => mX7_comesCamp e) lnX7_156 mvX7_comesCamp bM0 rfl ⟨Nat.le_of_ble_eq_true rfl, Nat.le_of_ble_eq_true rfl⟩ [] rfl (Nat.le_of_ble_eq_true rfl) (fun S7 h => ?_)
    refine w_aload_n C dX7_campItem_51 rfl 1 rfl ?_
    refine w_bipush (v := 12) C dX7_campItem_52 (by decide) ?_
    refine w_Vi C dX7_campItem_54 h (fun _ e => mX7_takes e) lnX7_231 mvX7_takes bM0 rfl ⟨Nat.le_of_ble_eq_true rfl, Nat.le_of_ble_eq_true rfl⟩ [] rfl (Nat.le_of_ble_eq_true rfl) (fun S8 v9 h => ?_)
    refine w_istore_n C dX7_campItem_57 rfl (by decide) [(2, .int v9), (1, .int v6), (0, rf Y 0)] rfl ?_
    refine w_iconst (v := 0) C dX7_campItem_58 (by decide) ?_
    refine w_istore_n C dX7_campItem_59 rfl (by decide) [(3, .int (0)), (2, .int v9), (1, .int v6), (0, rf Y 0)] rfl ?_
    have hL60 : ∀ (G60 : Nat) (S10 : St) (v11 : Int32) (v12 : Int32), fX7_campItem_L60 F G60 S10 v11 v12 = some R → WS VM Y X 4 4 89 (none, R) S10 60 [(0, rf Y 0), (2, .int v11), (3, .int v12)] [] := by
      intro G60
      induction G60 with
      | zero => intro S10 v11 v12 h; exact nomatch (show (none : Option (St)) = some R from h)
      | succ G60 ih =>
        intro S10 v11 v12 h
        rw [fX7_campItem_L60] at h
        refine w_iload_n C dX7_campItem_60 rfl 2 rfl ?_
        refine w_bipush (v := 12) C dX7_campItem_61 (by decide) ?_
        refine w_icmp_ge C 127 dX7_campItem_63 (by decide) h (fun h => ?_) (fun h => ?_)
        · exact w_vret C dX7_campItem_127 h
        refine w_iload_n C dX7_campItem_66 rfl 1 rfl ?_
        refine w_if_eq C 127 dX7_campItem_67 (by decide) h (fun h => ?_) (fun h => ?_)
        · exact w_vret C dX7_campItem_127 h
        refine w_aload_n C dX7_campItem_70 rfl 0 rfl ?_
        refine w_getr C dX7_campItem_71 flX7_7 gM0_0 ?_
        refine w_sipush (v := 138) C dX7_campItem_74 (by decide) ?_
        refine w_bipush (v := 13) C dX7_campItem_77 (by decide) ?_
        refine w_aload_n C dX7_campItem_79 rfl 0 rfl ?_
        refine w_getr C dX7_campItem_80 flX7_7 gM0_0 ?_
        refine w_iconst (v := 2) C dX7_campItem_83 (by decide) ?_
        refine x_iald C dX7_campItem_84 aM1 h (fun v13 h => ?_)
        refine w_iconst (v := 1) C dX7_campItem_85 (by decide) ?_
        refine w_isub C dX7_campItem_86 ?_
        refine w_imul C dX7_campItem_87 ?_
        refine w_iadd C dX7_campItem_88 ?_
        refine w_iload_n C dX7_campItem_89 rfl 2 rfl ?_
        refine w_iadd C dX7_campItem_90 ?_
        refine w_aload_n C dX7_campItem_91 rfl 0 rfl ?_
        refine w_iconst (v := 0) C dX7_campItem_92 (by decide) ?_
        refine w_sipush (v := 999) C dX7_campItem_93 (by decide) ?_
        refine w_Vi C dX7_campItem_96 h (fun _ e => mX7_number e) lnX7_228 mvX7_number bM0 rfl ⟨Nat.le_of_ble_eq_true rfl, Nat.le_of_ble_eq_true rfl⟩ [.int (((138) + ((13) * (v13 - (1)))) + v12), rf Y 1] rfl (Nat.le_of_ble_eq_true rfl) (fun S14 v15 h => ?_)
        refine x_iast C dX7_campItem_99 aM1 h (fun S16 h => ?_)
        refine w_aload_n C dX7_campItem_100 rfl 0 rfl ?_
        refine w_geti C dX7_campItem_101 flX7_221 iM0_20 ?_
        refine w_join (fun J120 => ∀ (v17 : Int32), J120 v17 = some R → WS VM Y X 4 4 89 (none, R) S16 120 [(0, rf Y 0), (3, .int v12)] [.int v17]) h ?_ (fun J120 hJ120 h => ?_)
        · intro v17 h
          refine w_istore_n C dX7_campItem_120 rfl (by decide) [(2, .int v17), (0, rf Y 0), (3, .int v12)] rfl ?_
          refine x_iinc C dX7_campItem_121 2 rfl 1 (by decide) h (by decide) (fun v18 => [(3, .int v18), (2, .int v17), (0, rf Y 0)]) (fun _ => rfl) (fun v18 h => ?_)
          refine w_goto C 60 dX7_campItem_124 (by decide) ?_
          exact w_sub [2, 1, 0] rfl (ih _ _ _ h)
        refine w_join (fun J119 => J119  = some R → WS VM Y X 4 4 89 (none, R) S16 119 [(0, rf Y 0), (3, .int v12)] []) h ?_ (fun J119 hJ119 h => ?_)
        · intro  h
          refine w_iconst (v := 0) C dX7_campItem_119 (by decide) ?_
          exact w_sub [0, 1] rfl (hJ120 _ h)
        refine w_if_ne C 119 dX7_campItem_104 (by decide) h (fun h => ?_) (fun h => ?_)
        · exact w_sub [0, 2] rfl (hJ119  h)
        refine w_aload_n C dX7_campItem_107 rfl 0 rfl ?_
        refine w_geti C dX7_campItem_108 flX7_204 iM0_18 ?_
        refine w_iconst (v := 2) C dX7_campItem_111 (by decide) ?_
        refine w_icmp_ne C 119 dX7_campItem_112 (by decide) h (fun h => ?_) (fun h => ?_)
        · exact w_sub [0, 2] rfl (hJ119  h)
        refine w_iconst (v := 1) C dX7_campItem_115 (by decide) ?_
        refine w_goto C 120 dX7_campItem_116 (by decide) ?_
        exact w_sub [0, 2] rfl (hJ120 _ h)
    exact w_sub [3, 1, 0] rfl (hL60 _ _ _ _ h)
  refine w_icmp_ne C 16 dX7_campItem_9 (by decide) h (fun h => ?_) (fun h => ?_)
  · refine w_iconst (v := 0) C dX7_campItem_16 (by decide) ?_
    exact w_sub [0] rfl (hJ17 _ h)
  refine w_iconst (v := 1) C dX7_campItem_12 (by decide) ?_
  refine w_goto C 17 dX7_campItem_13 (by decide) ?_
  exact w_sub [0] rfl (hJ17 _ h))
def fX7_beastItem (F : Nat) (S : St) : Option (St) := ldi S 1 (1) 216 fun v1 => pl (fun (v2 : Int32) => putz S 0 20 v2 fun S3 => if (S3.1 0 20) = 0 then (bv (fX7_goesOn F S3) fun S4 => ldi S4 1 (1) 216 fun v5 => bq (fX7_number F S4 (1) (999)) fun S6 v7 => sti S6 1 ((132) + v5) 216 v7 fun S8 => ldi S8 1 (1) 216 fun v9 => sti S8 1 (1) 216 (v9 + (1)) fun S10 => some S10) else (some S3)) fun J17 => if v1 = (6) then (J17 (1)) else (J17 (0))
set_option maxRecDepth 100000 in
theorem mX7_beastItem {Y : YT} {F : Nat} {S : St} {R : St} (h : fX7_beastItem F S  = some R) : Mc VM Y yX7_beastItem cX7_beastItem 1 none 4 89 [rf Y 0] S (none, R) :=
  Mc.start [(0, rf Y 0)] rfl pnX7 (Nat.le_of_ble_eq_true rfl) (fun X (C : Ok VM Y X RX7 cX7_beastItem 1 none) => by
  unfold fX7_beastItem at h
  refine w_aload_n C dX7_beastItem_0 rfl 0 rfl ?_
  refine w_aload_n C dX7_beastItem_1 rfl 0 rfl ?_
  refine w_getr C dX7_beastItem_2 flX7_7 gM0_0 ?_
  refine w_iconst (v := 1) C dX7_beastItem_5 (by decide) ?_
  refine x_iald C dX7_beastItem_6 aM1 h (fun v1 h => ?_)
  refine w_bipush (v := 6) C dX7_beastItem_7 (by decide) ?_
  refine w_join (fun J17 => ∀ (v2 : Int32), J17 v2 = some R → WS VM Y X 1 4 89 (none, R) S 17 [(0, rf Y 0)] [.int v2, rf Y 0]) h ?_ (fun J17 hJ17 h => ?_)
  · intro v2 h
    refine x_putz C dX7_beastItem_17 fpX7_221 iM0_20 h (fun S3 h => ?_)
    refine w_aload_n C dX7_beastItem_20 rfl 0 rfl ?_
    refine w_geti C dX7_beastItem_21 flX7_221 iM0_20 ?_
    refine w_if_ne C 64 dX7_beastItem_24 (by decide) h (fun h => ?_) (fun h => ?_)
    · exact w_vret C dX7_beastItem_64 h
    refine w_aload_n C dX7_beastItem_27 rfl 0 rfl ?_
    refine w_Vv C dX7_beastItem_28 h (fun _ e => mX7_goesOn e) lnX7_225 mvX7_goesOn bM0 rfl ⟨Nat.le_of_ble_eq_true rfl, Nat.le_of_ble_eq_true rfl⟩ [] rfl (Nat.le_of_ble_eq_true rfl) (fun S4 h => ?_)
    refine w_aload_n C dX7_beastItem_31 rfl 0 rfl ?_
    refine w_getr C dX7_beastItem_32 flX7_7 gM0_0 ?_
    refine w_sipush (v := 132) C dX7_beastItem_35 (by decide) ?_
    refine w_aload_n C dX7_beastItem_38 rfl 0 rfl ?_
    refine w_getr C dX7_beastItem_39 flX7_7 gM0_0 ?_
    refine w_iconst (v := 1) C dX7_beastItem_42 (by decide) ?_
    refine x_iald C dX7_beastItem_43 aM1 h (fun v5 h => ?_)
    refine w_iadd C dX7_beastItem_44 ?_
    refine w_aload_n C dX7_beastItem_45 rfl 0 rfl ?_
    refine w_iconst (v := 1) C dX7_beastItem_46 (by decide) ?_
    refine w_sipush (v := 999) C dX7_beastItem_47 (by decide) ?_
    refine w_Vi C dX7_beastItem_50 h (fun _ e => mX7_number e) lnX7_228 mvX7_number bM0 rfl ⟨Nat.le_of_ble_eq_true rfl, Nat.le_of_ble_eq_true rfl⟩ [.int ((132) + v5), rf Y 1] rfl (Nat.le_of_ble_eq_true rfl) (fun S6 v7 h => ?_)
    refine x_iast C dX7_beastItem_53 aM1 h (fun S8 h => ?_)
    refine w_aload_n C dX7_beastItem_54 rfl 0 rfl ?_
    refine w_getr C dX7_beastItem_55 flX7_7 gM0_0 ?_
    refine w_iconst (v := 1) C dX7_beastItem_58 (by decide) ?_
    refine w_dup2 C dX7_beastItem_59 rfl rfl ?_
    refine x_iald C dX7_beastItem_60 aM1 h (fun v9 h => ?_)
    refine w_iconst (v := 1) C dX7_beastItem_61 (by decide) ?_
    refine w_iadd C dX7_beastItem_62 ?_
    refine x_iast C dX7_beastItem_63 aM1 h (fun S10 h => ?_)
    exact w_vret C dX7_beastItem_64 h
  refine w_icmp_ne C 16 dX7_beastItem_9 (by decide) h (fun h => ?_) (fun h => ?_)
  · refine w_iconst (v := 0) C dX7_beastItem_16 (by decide) ?_
    exact w_sub [0] rfl (hJ17 _ h)
  refine w_iconst (v := 1) C dX7_beastItem_12 (by decide) ?_
  refine w_goto C 17 dX7_beastItem_13 (by decide) ?_
  exact w_sub [0] rfl (hJ17 _ h))
def fX7_item (F : Nat) (S : St) : Option (St) := pl (fun (v1 : Int32) => pl (putz S 0 20 (1) fun S2 => some S2) fun J27 => if v1 < 0 then (J27) else (if v1 ≤ (9) then (if (7) ≤ v1 then (if v1 = (7) then (bv (fX7_campItem F S) fun S8 => some S8) else (if v1 = (8) then (bv (fX7_beastItem F S) fun S7 => some S7) else (bv (fX7_goesOn F S) fun S3 => bq (fX7_number F S3 (0) (99)) fun S4 v5 => sti S4 1 (8) 216 v5 fun S6 => some S6))) else (bv (fX7_partItem F S v1) fun S9 => some S9)) else (J27))) fun J16 => if (S.1 0 18) = (1) then (J16 (S.1 0 19)) else (J16 (-1))
set_option maxRecDepth 100000 in
theorem mX7_item {Y : YT} {F : Nat} {S : St} {R : St} (h : fX7_item F S  = some R) : Mc VM Y yX7_item cX7_item 2 none 5 114 [rf Y 0] S (none, R) :=
  Mc.start [(0, rf Y 0)] rfl pnX7 (Nat.le_of_ble_eq_true rfl) (fun X (C : Ok VM Y X RX7 cX7_item 2 none) => by
  unfold fX7_item at h
  refine w_aload_n C dX7_item_0 rfl 0 rfl ?_
  refine w_geti C dX7_item_1 flX7_204 iM0_18 ?_
  refine w_iconst (v := 1) C dX7_item_4 (by decide) ?_
  refine w_join (fun J16 => ∀ (v1 : Int32), J16 v1 = some R → WS VM Y X 2 5 114 (none, R) S 16 [(0, rf Y 0)] [.int v1]) h ?_ (fun J16 hJ16 h => ?_)
  · intro v1 h
    refine w_istore_n C dX7_item_16 rfl (by decide) [(1, .int v1), (0, rf Y 0)] rfl ?_
    refine w_iload_n C dX7_item_17 rfl 0 rfl ?_
    refine w_join (fun J27 => J27  = some R → WS VM Y X 2 5 114 (none, R) S 27 [(0, rf Y 0)] []) h ?_ (fun J27 hJ27 h => ?_)
    · intro  h
      refine w_aload_n C dX7_item_27 rfl 0 rfl ?_
      refine w_iconst (v := 1) C dX7_item_28 (by decide) ?_
      refine x_putz C dX7_item_29 fpX7_221 iM0_20 h (fun S2 h => ?_)
      refine w_goto C 93 dX7_item_32 (by decide) ?_
      exact w_vret C dX7_item_93 h
    refine w_if_lt C 27 dX7_item_18 (by decide) h (fun h => ?_) (fun h => ?_)
    · exact w_sub [1] rfl (hJ27  h)
    refine w_iload_n C dX7_item_21 rfl 0 rfl ?_
    refine w_bipush (v := 9) C dX7_item_22 (by decide) ?_
    refine w_icmp_le C 35 dX7_item_24 (by decide) h (fun h => ?_) (fun h => ?_)
    · refine w_iload_n C dX7_item_35 rfl 0 rfl ?_
      refine w_bipush (v := 7) C dX7_item_36 (by decide) ?_
      refine w_icmp_ge C 49 dX7_item_38 (by decide) h (fun h => ?_) (fun h => ?_)
      · refine w_iload_n C dX7_item_49 rfl 0 rfl ?_
        refine w_bipush (v := 7) C dX7_item_50 (by decide) ?_
        refine w_icmp_ne C 62 dX7_item_52 (by decide) h (fun h => ?_) (fun h => ?_)
        · refine w_iload_n C dX7_item_62 rfl 0 rfl ?_
          refine w_bipush (v := 8) C dX7_item_63 (by decide) ?_
          refine w_icmp_ne C 75 dX7_item_65 (by decide) h (fun h => ?_) (fun h => ?_)
          · refine w_aload_n C dX7_item_75 rfl 1 rfl ?_
            refine w_Vv C dX7_item_76 h (fun _ e => mX7_goesOn e) lnX7_225 mvX7_goesOn bM0 rfl ⟨Nat.le_of_ble_eq_true rfl, Nat.le_of_ble_eq_true rfl⟩ [] rfl (Nat.le_of_ble_eq_true rfl) (fun S3 h => ?_)
            refine w_aload_n C dX7_item_79 rfl 1 rfl ?_
            refine w_getr C dX7_item_80 flX7_7 gM0_0 ?_
            refine w_bipush (v := 8) C dX7_item_83 (by decide) ?_
            refine w_aload_n C dX7_item_85 rfl 1 rfl ?_
            refine w_iconst (v := 0) C dX7_item_86 (by decide) ?_
            refine w_bipush (v := 99) C dX7_item_87 (by decide) ?_
            refine w_Vi C dX7_item_89 h (fun _ e => mX7_number e) lnX7_228 mvX7_number bM0 rfl ⟨Nat.le_of_ble_eq_true rfl, Nat.le_of_ble_eq_true rfl⟩ [.int (8), rf Y 1] rfl (Nat.le_of_ble_eq_true rfl) (fun S4 v5 h => ?_)
            refine x_iast C dX7_item_92 aM1 h (fun S6 h => ?_)
            exact w_vret C dX7_item_93 h
          refine w_aload_n C dX7_item_68 rfl 1 rfl ?_
          refine w_Vv C dX7_item_69 h (fun _ e => mX7_beastItem e) lnX7_240 mvX7_beastItem bM0 rfl ⟨Nat.le_of_ble_eq_true rfl, Nat.le_of_ble_eq_true rfl⟩ [] rfl (Nat.le_of_ble_eq_true rfl) (fun S7 h => ?_)
          refine w_goto C 93 dX7_item_72 (by decide) ?_
          exact w_vret C dX7_item_93 h
        refine w_aload_n C dX7_item_55 rfl 1 rfl ?_
        refine w_Vv C dX7_item_56 h (fun _ e => mX7_campItem e) lnX7_237 mvX7_campItem bM0 rfl ⟨Nat.le_of_ble_eq_true rfl, Nat.le_of_ble_eq_true rfl⟩ [] rfl (Nat.le_of_ble_eq_true rfl) (fun S8 h => ?_)
        refine w_goto C 93 dX7_item_59 (by decide) ?_
        exact w_vret C dX7_item_93 h
      refine w_aload_n C dX7_item_41 rfl 1 rfl ?_
      refine w_iload_n C dX7_item_42 rfl 0 rfl ?_
      refine w_Vv C dX7_item_43 h (fun _ e => mX7_partItem e) lnX7_234 mvX7_partItem bM0 rfl ⟨Nat.le_of_ble_eq_true rfl, Nat.le_of_ble_eq_true rfl⟩ [] rfl (Nat.le_of_ble_eq_true rfl) (fun S9 h => ?_)
      refine w_goto C 93 dX7_item_46 (by decide) ?_
      exact w_vret C dX7_item_93 h
    exact w_sub [1] rfl (hJ27  h)
  refine w_icmp_ne C 15 dX7_item_5 (by decide) h (fun h => ?_) (fun h => ?_)
  · refine w_iconst (v := -1) C dX7_item_15 (by decide) ?_
    exact w_sub [0] rfl (hJ16 _ h)
  refine w_aload_n C dX7_item_8 rfl 0 rfl ?_
  refine w_geti C dX7_item_9 flX7_214 iM0_19 ?_
  refine w_goto C 16 dX7_item_12 (by decide) ?_
  exact w_sub [0] rfl (hJ16 _ h))
def fX7_house_L115 (J140 : St → Option (St × Int32)) : Nat → St → Int32 → Option (St × Int32)
  | 0, _, _ => none
  | G115 + 1, S12, v13 => if (216) ≤ v13 then (J140 S12) else (ldi S12 3 v13 216 fun v14 => sti S12 1 v13 216 v14 fun S15 => pl (v13 + 1) fun v16 => fX7_house_L115 J140 G115 S15 v16)
def fX7_house_L47 (F : Nat) (J76 : St → Int32 → Option (St × Int32)) : Nat → St → Int32 → Option (St × Int32)
  | 0, _, _ => none
  | G47 + 1, S17, v18 => if (S17.1 0 20) = 0 then (if (S17.1 0 18) = (3) then (bv (fX7_goesOn F S17) fun S19 => bv (fX7_item F S19) fun S20 => pl (v18 + 1) fun v21 => fX7_house_L47 F J76 G47 S20 v21) else (J76 S17 v18)) else (J76 S17 v18)
def fX7_house_L2 (J27 : St → Option (St × Int32)) : Nat → St → Int32 → Option (St × Int32)
  | 0, _, _ => none
  | G2 + 1, S22, v23 => if (216) ≤ v23 then (J27 S22) else (ldi S22 1 v23 216 fun v24 => sti S22 3 v23 216 v24 fun S25 => pl (v23 + 1) fun v26 => fX7_house_L2 J27 G2 S25 v26)
def fX7_house (F : Nat) (S : St) : Option (St × Int32) := pl (fun (S1 : St) => pl (si S1 0 17 (0)) fun S2 => putz S2 0 20 (0) fun S3 => bv (fX7_goesOn F S3) fun S4 => bv (fX7_item F S4) fun S5 => pl (fun (S6 : St) (v7 : Int32) => pl (fun (v8 : Int32) => putz S6 0 20 v8 fun S9 => pl (si S9 0 6 (0)) fun S10 => if (S10.1 0 20) = 0 then (some (S10, v7)) else (pl (fun (S11 : St) => some (S11, ((-1) - (S11.1 0 16)))) fun J140 => fX7_house_L115 J140 F S10 (0))) fun J96 => pl (J96 (1)) fun J91 => if (S6.1 0 20) = 0 then (if (S6.1 0 18) = 0 then (J96 (0)) else (J91)) else (J91)) fun J76 => fX7_house_L47 F J76 F S5 (1)) fun J27 => fX7_house_L2 J27 F S (0)
set_option maxRecDepth 100000 in
theorem mX7_house {Y : YT} {F : Nat} {S : St} {R : St × Int32} (h : fX7_house F S  = some R) : Mc VM Y yX7_house cX7_house 3 (some .int) 6 135 [rf Y 0] S (some (.int R.2), R.1) :=
  Mc.start [(0, rf Y 0)] rfl pnX7 (Nat.le_of_ble_eq_true rfl) (fun X (C : Ok VM Y X RX7 cX7_house 3 (some .int)) => by
  unfold fX7_house at h
  refine w_iconst (v := 0) C dX7_house_0 (by decide) ?_
  refine w_istore_n C dX7_house_1 rfl (by decide) [(1, .int (0)), (0, rf Y 0)] rfl ?_
  refine w_join (fun J27 => ∀ (S1 : St), J27 S1 = some R → WS VM Y X 3 6 135 (some (.int R.2), R.1) S1 27 [(0, rf Y 0)] []) h ?_ (fun J27 hJ27 h => ?_)
  · intro S1 h
    refine w_aload_n C dX7_house_27 rfl 0 rfl ?_
    refine w_iconst (v := 0) C dX7_house_28 (by decide) ?_
    refine x_puti C dX7_house_29 fpX7_198 iM0_17 h (fun S2 h => ?_)
    refine w_aload_n C dX7_house_32 rfl 0 rfl ?_
    refine w_iconst (v := 0) C dX7_house_33 (by decide) ?_
    refine x_putz C dX7_house_34 fpX7_221 iM0_20 h (fun S3 h => ?_)
    refine w_aload_n C dX7_house_37 rfl 0 rfl ?_
    refine w_Vv C dX7_house_38 h (fun _ e => mX7_goesOn e) lnX7_225 mvX7_goesOn bM0 rfl ⟨Nat.le_of_ble_eq_true rfl, Nat.le_of_ble_eq_true rfl⟩ [] rfl (Nat.le_of_ble_eq_true rfl) (fun S4 h => ?_)
    refine w_aload_n C dX7_house_41 rfl 0 rfl ?_
    refine w_Vv C dX7_house_42 h (fun _ e => mX7_item e) lnX7_243 mvX7_item bM0 rfl ⟨Nat.le_of_ble_eq_true rfl, Nat.le_of_ble_eq_true rfl⟩ [] rfl (Nat.le_of_ble_eq_true rfl) (fun S5 h => ?_)
    refine w_iconst (v := 1) C dX7_house_45 (by decide) ?_
    refine w_istore_n C dX7_house_46 rfl (by decide) [(1, .int (1)), (0, rf Y 0)] rfl ?_
    refine w_join (fun J76 => ∀ (S6 : St) (v7 : Int32), J76 S6 v7 = some R → WS VM Y X 3 6 135 (some (.int R.2), R.1) S6 76 [(0, rf Y 0), (1, .int v7)] []) h ?_ (fun J76 hJ76 h => ?_)
    · intro S6 v7 h
      refine w_aload_n C dX7_house_76 rfl 0 rfl ?_
      refine w_aload_n C dX7_house_77 rfl 0 rfl ?_
      refine w_geti C dX7_house_78 flX7_221 iM0_20 ?_
      refine w_join (fun J96 => ∀ (v8 : Int32), J96 v8 = some R → WS VM Y X 3 6 135 (some (.int R.2), R.1) S6 96 [(0, rf Y 0), (1, .int v7)] [.int v8, rf Y 0]) h ?_ (fun J96 hJ96 h => ?_)
      · intro v8 h
        refine x_putz C dX7_house_96 fpX7_221 iM0_20 h (fun S9 h => ?_)
        refine w_aload_n C dX7_house_99 rfl 0 rfl ?_
        refine w_iconst (v := 0) C dX7_house_100 (by decide) ?_
        refine x_puti C dX7_house_101 fpX7_192 iM0_6 h (fun S10 h => ?_)
        refine w_aload_n C dX7_house_104 rfl 0 rfl ?_
        refine w_geti C dX7_house_105 flX7_221 iM0_20 ?_
        refine w_if_ne C 113 dX7_house_108 (by decide) h (fun h => ?_) (fun h => ?_)
        · refine w_iconst (v := 0) C dX7_house_113 (by decide) ?_
          refine w_istore_n C dX7_house_114 rfl (by decide) [(2, .int (0)), (0, rf Y 0), (1, .int v7)] rfl ?_
          refine w_join (fun J140 => ∀ (S11 : St), J140 S11 = some R → WS VM Y X 3 6 135 (some (.int R.2), R.1) S11 140 [(0, rf Y 0)] []) h ?_ (fun J140 hJ140 h => ?_)
          · intro S11 h
            refine w_iconst (v := -1) C dX7_house_140 (by decide) ?_
            refine w_aload_n C dX7_house_141 rfl 0 rfl ?_
            refine w_geti C dX7_house_142 flX7_195 iM0_16 ?_
            refine w_isub C dX7_house_145 ?_
            exact w_iret C dX7_house_146 h
          have hL115 : ∀ (G115 : Nat) (S12 : St) (v13 : Int32), fX7_house_L115 J140 G115 S12 v13 = some R → WS VM Y X 3 6 135 (some (.int R.2), R.1) S12 115 [(0, rf Y 0), (2, .int v13)] [] := by
            intro G115
            induction G115 with
            | zero => intro S12 v13 h; exact nomatch (show (none : Option (St × Int32)) = some R from h)
            | succ G115 ih =>
              intro S12 v13 h
              rw [fX7_house_L115] at h
              refine w_iload_n C dX7_house_115 rfl 1 rfl ?_
              refine w_sipush (v := 216) C dX7_house_116 (by decide) ?_
              refine w_icmp_ge C 140 dX7_house_119 (by decide) h (fun h => ?_) (fun h => ?_)
              · exact w_sub [0] rfl (hJ140 _ h)
              refine w_aload_n C dX7_house_122 rfl 0 rfl ?_
              refine w_getr C dX7_house_123 flX7_7 gM0_0 ?_
              refine w_iload_n C dX7_house_126 rfl 1 rfl ?_
              refine w_aload_n C dX7_house_127 rfl 0 rfl ?_
              refine w_getr C dX7_house_128 flX7_16 gM0_2 ?_
              refine w_iload_n C dX7_house_131 rfl 1 rfl ?_
              refine x_iald C dX7_house_132 aM3 h (fun v14 h => ?_)
              refine x_iast C dX7_house_133 aM1 h (fun S15 h => ?_)
              refine x_iinc C dX7_house_134 1 rfl 1 (by decide) h (by decide) (fun v16 => [(2, .int v16), (0, rf Y 0)]) (fun _ => rfl) (fun v16 h => ?_)
              refine w_goto C 115 dX7_house_137 (by decide) ?_
              exact w_sub [1, 0] rfl (ih _ _ h)
          exact w_sub [1, 0] rfl (hL115 _ _ _ h)
        refine w_iload_n C dX7_house_111 rfl 1 rfl ?_
        exact w_iret C dX7_house_112 h
      refine w_join (fun J91 => J91  = some R → WS VM Y X 3 6 135 (some (.int R.2), R.1) S6 91 [(0, rf Y 0), (1, .int v7)] [rf Y 0]) h ?_ (fun J91 hJ91 h => ?_)
      · intro  h
        refine w_iconst (v := 1) C dX7_house_91 (by decide) ?_
        refine w_goto C 96 dX7_house_92 (by decide) ?_
        exact w_sub [0, 1] rfl (hJ96 _ h)
      refine w_if_ne C 91 dX7_house_81 (by decide) h (fun h => ?_) (fun h => ?_)
      · exact w_sub [0, 1] rfl (hJ91  h)
      refine w_aload_n C dX7_house_84 rfl 0 rfl ?_
      refine w_geti C dX7_house_85 flX7_204 iM0_18 ?_
      refine w_if_eq C 95 dX7_house_88 (by decide) h (fun h => ?_) (fun h => ?_)
      · refine w_iconst (v := 0) C dX7_house_95 (by decide) ?_
        exact w_sub [0, 1] rfl (hJ96 _ h)
      exact w_sub [0, 1] rfl (hJ91  h)
    have hL47 : ∀ (G47 : Nat) (S17 : St) (v18 : Int32), fX7_house_L47 F J76 G47 S17 v18 = some R → WS VM Y X 3 6 135 (some (.int R.2), R.1) S17 47 [(0, rf Y 0), (1, .int v18)] [] := by
      intro G47
      induction G47 with
      | zero => intro S17 v18 h; exact nomatch (show (none : Option (St × Int32)) = some R from h)
      | succ G47 ih =>
        intro S17 v18 h
        rw [fX7_house_L47] at h
        refine w_aload_n C dX7_house_47 rfl 0 rfl ?_
        refine w_geti C dX7_house_48 flX7_221 iM0_20 ?_
        refine w_if_ne C 76 dX7_house_51 (by decide) h (fun h => ?_) (fun h => ?_)
        · exact w_sub [0, 1] rfl (hJ76 _ _ h)
        refine w_aload_n C dX7_house_54 rfl 0 rfl ?_
        refine w_geti C dX7_house_55 flX7_204 iM0_18 ?_
        refine w_iconst (v := 3) C dX7_house_58 (by decide) ?_
        refine w_icmp_ne C 76 dX7_house_59 (by decide) h (fun h => ?_) (fun h => ?_)
        · exact w_sub [0, 1] rfl (hJ76 _ _ h)
        refine w_aload_n C dX7_house_62 rfl 0 rfl ?_
        refine w_Vv C dX7_house_63 h (fun _ e => mX7_goesOn e) lnX7_225 mvX7_goesOn bM0 rfl ⟨Nat.le_of_ble_eq_true rfl, Nat.le_of_ble_eq_true rfl⟩ [] rfl (Nat.le_of_ble_eq_true rfl) (fun S19 h => ?_)
        refine w_aload_n C dX7_house_66 rfl 0 rfl ?_
        refine w_Vv C dX7_house_67 h (fun _ e => mX7_item e) lnX7_243 mvX7_item bM0 rfl ⟨Nat.le_of_ble_eq_true rfl, Nat.le_of_ble_eq_true rfl⟩ [] rfl (Nat.le_of_ble_eq_true rfl) (fun S20 h => ?_)
        refine x_iinc C dX7_house_70 1 rfl 1 (by decide) h (by decide) (fun v21 => [(1, .int v21), (0, rf Y 0)]) (fun _ => rfl) (fun v21 h => ?_)
        refine w_goto C 47 dX7_house_73 (by decide) ?_
        exact w_sub [1, 0] rfl (ih _ _ h)
    exact w_sub [1, 0] rfl (hL47 _ _ _ h)
  have hL2 : ∀ (G2 : Nat) (S22 : St) (v23 : Int32), fX7_house_L2 J27 G2 S22 v23 = some R → WS VM Y X 3 6 135 (some (.int R.2), R.1) S22 2 [(0, rf Y 0), (1, .int v23)] [] := by
    intro G2
    induction G2 with
    | zero => intro S22 v23 h; exact nomatch (show (none : Option (St × Int32)) = some R from h)
    | succ G2 ih =>
      intro S22 v23 h
      rw [fX7_house_L2] at h
      refine w_iload_n C dX7_house_2 rfl 1 rfl ?_
      refine w_sipush (v := 216) C dX7_house_3 (by decide) ?_
      refine w_icmp_ge C 27 dX7_house_6 (by decide) h (fun h => ?_) (fun h => ?_)
      · exact w_sub [0] rfl (hJ27 _ h)
      refine w_aload_n C dX7_house_9 rfl 0 rfl ?_
      refine w_getr C dX7_house_10 flX7_16 gM0_2 ?_
      refine w_iload_n C dX7_house_13 rfl 1 rfl ?_
      refine w_aload_n C dX7_house_14 rfl 0 rfl ?_
      refine w_getr C dX7_house_15 flX7_7 gM0_0 ?_
      refine w_iload_n C dX7_house_18 rfl 1 rfl ?_
      refine x_iald C dX7_house_19 aM1 h (fun v24 h => ?_)
      refine x_iast C dX7_house_20 aM3 h (fun S25 h => ?_)
      refine x_iinc C dX7_house_21 1 rfl 1 (by decide) h (by decide) (fun v26 => [(1, .int v26), (0, rf Y 0)]) (fun _ => rfl) (fun v26 h => ?_)
      refine w_goto C 2 dX7_house_24 (by decide) ?_
      exact w_sub [1, 0] rfl (ih _ _ h)
  exact w_sub [1, 0] rfl (hL2 _ _ _ h))
def fX7_isSheet (S : St) (a1 : Int32) : Option (Int32) := if a1 < 0 then (some (0)) else (if (4) ≤ a1 then (some (0)) else (some (1)))
set_option maxRecDepth 100000 in
theorem mX7_isSheet {Y : YT} {S : St} {a1 : Int32} {R : Int32} (h : fX7_isSheet  S a1 = some R) : Mc VM Y yX7_isSheet cX7_isSheet 1 (some .boolean) 0 0 [.int a1] S (some (.int R), S) :=
  Mc.start [(0, .int a1)] rfl pnX7 (Nat.le_of_ble_eq_true rfl) (fun X (C : Ok VM Y X RX7 cX7_isSheet 1 (some .boolean)) => by
  unfold fX7_isSheet at h
  refine w_iload_n C dX7_isSheet_0 rfl 0 rfl ?_
  refine w_if_lt C 13 dX7_isSheet_1 (by decide) h (fun h => ?_) (fun h => ?_)
  · refine w_iconst (v := 0) C dX7_isSheet_13 (by decide) ?_
    exact p_zret0 C dX7_isSheet_14 rfl h
  refine w_iload_n C dX7_isSheet_4 rfl 0 rfl ?_
  refine w_iconst (v := 4) C dX7_isSheet_5 (by decide) ?_
  refine w_icmp_ge C 13 dX7_isSheet_6 (by decide) h (fun h => ?_) (fun h => ?_)
  · refine w_iconst (v := 0) C dX7_isSheet_13 (by decide) ?_
    exact p_zret0 C dX7_isSheet_14 rfl h
  refine w_iconst (v := 1) C dX7_isSheet_9 (by decide) ?_
  refine w_goto C 14 dX7_isSheet_10 (by decide) ?_
  exact p_zret0 C dX7_isSheet_14 rfl h)
def fX7_narrow (S : St) (a1 : Int32) (a2 : Int64) : Option (Int64) := if a1 = (8) then (some (Int32.toInt64 ((Int32.toInt8 (Int64.toInt32 a2)).toInt32))) else (if a1 = (16) then (some (Int32.toInt64 ((Int32.toInt16 (Int64.toInt32 a2)).toInt32))) else (some a2))
set_option maxRecDepth 100000 in
theorem mX7_narrow {Y : YT} {S : St} {a1 : Int32} {a2 : Int64} {R : Int64} (h : fX7_narrow  S a1 a2 = some R) : Mc VM Y yX7_narrow cX7_narrow 3 (some .long) 0 0 [.int a1, .long a2] S (some (.long R), S) :=
  Mc.start [(0, .int a1), (1, .long a2)] rfl pnX7 (Nat.le_of_ble_eq_true rfl) (fun X (C : Ok VM Y X RX7 cX7_narrow 3 (some .long)) => by
  unfold fX7_narrow at h
  refine w_iload_n C dX7_narrow_0 rfl 0 rfl ?_
  refine w_bipush (v := 8) C dX7_narrow_1 (by decide) ?_
  refine w_icmp_ne C 13 dX7_narrow_3 (by decide) h (fun h => ?_) (fun h => ?_)
  · refine w_iload_n C dX7_narrow_13 rfl 0 rfl ?_
    refine w_bipush (v := 16) C dX7_narrow_14 (by decide) ?_
    refine w_icmp_ne C 26 dX7_narrow_16 (by decide) h (fun h => ?_) (fun h => ?_)
    · refine w_lload_n C dX7_narrow_26 rfl 1 rfl ?_
      exact p_lret C dX7_narrow_27 h
    refine w_lload_n C dX7_narrow_19 rfl 1 rfl ?_
    refine w_l2i C dX7_narrow_20 ?_
    refine w_i2s C dX7_narrow_21 ?_
    refine w_i2l C dX7_narrow_22 ?_
    refine w_goto C 27 dX7_narrow_23 (by decide) ?_
    exact p_lret C dX7_narrow_27 h
  refine w_lload_n C dX7_narrow_6 rfl 1 rfl ?_
  refine w_l2i C dX7_narrow_7 ?_
  refine w_i2b C dX7_narrow_8 ?_
  refine w_i2l C dX7_narrow_9 ?_
  refine w_goto C 27 dX7_narrow_10 (by decide) ?_
  exact p_lret C dX7_narrow_27 h)
def fX7_sheet_L93 (a1 : Int32) (J119 : St → Option (St × Int32)) : Nat → St → Int32 → Option (St × Int32)
  | 0, _, _ => none
  | G93 + 1, S10, v11 => if (40) ≤ v11 then (J119 S10) else (stj S10 8 (((40) * a1) + v11) 160 (0) fun S12 => pl (v11 + 1) fun v13 => fX7_sheet_L93 a1 J119 G93 S12 v13)
def fX7_sheet (F : Nat) (S : St) (a1 : Int32) (a2 : Int32) (a3 : Int32) : Option (St × Int32) := bv (fX7_isSheet S a1) fun v1 => pl (bq (fX7_finds S (-1000000001)) fun S2 v3 => some (S2, v3)) fun J29 => if v1 = 0 then (J29) else (pl (if 0 ≤ a3 then (if a3 ≤ (40) then (pl (fun (v4 : Int32) => sti S 6 a1 4 v4 fun S5 => pl (fun (v6 : Int32) => sti S5 7 a1 4 v6 fun S7 => pl (fun (S8 : St) => ldi S8 7 a1 4 fun v9 => some (S8, v9)) fun J119 => fX7_sheet_L93 a1 J119 F S7 (0)) fun J89 => if a2 = 0 then (J89 (0)) else (J89 a3)) fun J74 => if a2 = 0 then (J74 (-1)) else (J74 a2)) else (bq (fX7_finds S (-1000000001)) fun S14 v15 => some (S14, v15))) else (bq (fX7_finds S (-1000000007)) fun S16 v17 => some (S16, v17))) fun J36 => if a2 = 0 then (J36) else (if a2 = (8) then (J36) else (if a2 = (16) then (J36) else (if a2 = (64) then (J36) else (J29)))))
set_option maxRecDepth 100000 in
theorem mX7_sheet {Y : YT} {F : Nat} {S : St} {a1 : Int32} {a2 : Int32} {a3 : Int32} {R : St × Int32} (h : fX7_sheet F S a1 a2 a3 = some R) : Mc VM Y yX7_sheet cX7_sheet 5 (some .int) 1 21 [rf Y 0, .int a1, .int a2, .int a3] S (some (.int R.2), R.1) :=
  Mc.start [(0, rf Y 0), (1, .int a1), (2, .int a2), (3, .int a3)] rfl pnX7 (Nat.le_of_ble_eq_true rfl) (fun X (C : Ok VM Y X RX7 cX7_sheet 5 (some .int)) => by
  unfold fX7_sheet at h
  refine w_iload_n C dX7_sheet_0 rfl 1 rfl ?_
  refine p_Si C dX7_sheet_1 h (fun _ e => mX7_isSheet e) lnX7_246 msX7_isSheet rfl ⟨Nat.le_of_ble_eq_true rfl, Nat.le_of_ble_eq_true rfl⟩ [] rfl (Nat.le_of_ble_eq_true rfl) (fun v1 h => ?_)
  refine w_join (fun J29 => J29  = some R → WS VM Y X 5 1 21 (some (.int R.2), R.1) S 29 [(0, rf Y 0)] []) h ?_ (fun J29 hJ29 h => ?_)
  · intro  h
    refine w_aload_n C dX7_sheet_29 rfl 0 rfl ?_
    refine w_ldc C dX7_sheet_30 kcX7_54 ?_
    refine w_Vi C dX7_sheet_32 h (fun _ e => mX7_finds e) lnX7_75 mvX7_finds bM0 rfl ⟨Nat.le_of_ble_eq_true rfl, Nat.le_of_ble_eq_true rfl⟩ [] rfl (Nat.le_of_ble_eq_true rfl) (fun S2 v3 h => ?_)
    exact w_iret C dX7_sheet_35 h
  refine w_if_eq C 29 dX7_sheet_4 (by decide) h (fun h => ?_) (fun h => ?_)
  · exact w_sub [0] rfl (hJ29  h)
  refine w_iload_n C dX7_sheet_7 rfl 2 rfl ?_
  refine w_join (fun J36 => J36  = some R → WS VM Y X 5 1 21 (some (.int R.2), R.1) S 36 [(0, rf Y 0), (1, .int a1), (2, .int a2), (3, .int a3)] []) h ?_ (fun J36 hJ36 h => ?_)
  · intro  h
    refine w_iload_n C dX7_sheet_36 rfl 3 rfl ?_
    refine w_if_ge C 47 dX7_sheet_37 (by decide) h (fun h => ?_) (fun h => ?_)
    · refine w_iload_n C dX7_sheet_47 rfl 3 rfl ?_
      refine w_bipush (v := 40) C dX7_sheet_48 (by decide) ?_
      refine w_icmp_le C 60 dX7_sheet_50 (by decide) h (fun h => ?_) (fun h => ?_)
      · refine w_aload_n C dX7_sheet_60 rfl 0 rfl ?_
        refine w_getr C dX7_sheet_61 flX7_25 gM0_7 ?_
        refine w_iload_n C dX7_sheet_64 rfl 1 rfl ?_
        refine w_iload_n C dX7_sheet_65 rfl 2 rfl ?_
        refine w_join (fun J74 => ∀ (v4 : Int32), J74 v4 = some R → WS VM Y X 5 1 21 (some (.int R.2), R.1) S 74 [(0, rf Y 0), (1, .int a1), (2, .int a2), (3, .int a3)] [.int v4, .int a1, rf Y 6]) h ?_ (fun J74 hJ74 h => ?_)
        · intro v4 h
          refine x_iast C dX7_sheet_74 aM6 h (fun S5 h => ?_)
          refine w_aload_n C dX7_sheet_75 rfl 0 rfl ?_
          refine w_getr C dX7_sheet_76 flX7_28 gM0_8 ?_
          refine w_iload_n C dX7_sheet_79 rfl 1 rfl ?_
          refine w_iload_n C dX7_sheet_80 rfl 2 rfl ?_
          refine w_join (fun J89 => ∀ (v6 : Int32), J89 v6 = some R → WS VM Y X 5 1 21 (some (.int R.2), R.1) S5 89 [(0, rf Y 0), (1, .int a1)] [.int v6, .int a1, rf Y 7]) h ?_ (fun J89 hJ89 h => ?_)
          · intro v6 h
            refine x_iast C dX7_sheet_89 aM7 h (fun S7 h => ?_)
            refine w_iconst (v := 0) C dX7_sheet_90 (by decide) ?_
            refine w_istore C dX7_sheet_91 (by decide) [(4, .int (0)), (0, rf Y 0), (1, .int a1)] rfl ?_
            refine w_join (fun J119 => ∀ (S8 : St), J119 S8 = some R → WS VM Y X 5 1 21 (some (.int R.2), R.1) S8 119 [(0, rf Y 0), (1, .int a1)] []) h ?_ (fun J119 hJ119 h => ?_)
            · intro S8 h
              refine w_aload_n C dX7_sheet_119 rfl 0 rfl ?_
              refine w_getr C dX7_sheet_120 flX7_28 gM0_8 ?_
              refine w_iload_n C dX7_sheet_123 rfl 1 rfl ?_
              refine x_iald C dX7_sheet_124 aM7 h (fun v9 h => ?_)
              exact w_iret C dX7_sheet_125 h
            have hL93 : ∀ (G93 : Nat) (S10 : St) (v11 : Int32), fX7_sheet_L93 a1 J119 G93 S10 v11 = some R → WS VM Y X 5 1 21 (some (.int R.2), R.1) S10 93 [(0, rf Y 0), (1, .int a1), (4, .int v11)] [] := by
              intro G93
              induction G93 with
              | zero => intro S10 v11 h; exact nomatch (show (none : Option (St × Int32)) = some R from h)
              | succ G93 ih =>
                intro S10 v11 h
                rw [fX7_sheet_L93] at h
                refine w_iload C dX7_sheet_93 2 rfl ?_
                refine w_bipush (v := 40) C dX7_sheet_95 (by decide) ?_
                refine w_icmp_ge C 119 dX7_sheet_97 (by decide) h (fun h => ?_) (fun h => ?_)
                · exact w_sub [0, 1] rfl (hJ119 _ h)
                refine w_aload_n C dX7_sheet_100 rfl 0 rfl ?_
                refine w_getr C dX7_sheet_101 flX7_31 gM0_9 ?_
                refine w_bipush (v := 40) C dX7_sheet_104 (by decide) ?_
                refine w_iload_n C dX7_sheet_106 rfl 1 rfl ?_
                refine w_imul C dX7_sheet_107 ?_
                refine w_iload C dX7_sheet_108 2 rfl ?_
                refine w_iadd C dX7_sheet_110 ?_
                refine w_lconst (v := 0) C dX7_sheet_111 (by decide) ?_
                refine x_last C dX7_sheet_112 aM8 h (fun S12 h => ?_)
                refine x_iinc C dX7_sheet_113 2 rfl 1 (by decide) h (by decide) (fun v13 => [(4, .int v13), (0, rf Y 0), (1, .int a1)]) (fun _ => rfl) (fun v13 h => ?_)
                refine w_goto C 93 dX7_sheet_116 (by decide) ?_
                exact w_sub [1, 2, 0] rfl (ih _ _ h)
            exact w_sub [1, 2, 0] rfl (hL93 _ _ _ h)
          refine w_if_ne C 88 dX7_sheet_81 (by decide) h (fun h => ?_) (fun h => ?_)
          · refine w_iload_n C dX7_sheet_88 rfl 3 rfl ?_
            exact w_sub [0, 1] rfl (hJ89 _ h)
          refine w_iconst (v := 0) C dX7_sheet_84 (by decide) ?_
          refine w_goto C 89 dX7_sheet_85 (by decide) ?_
          exact w_sub [0, 1] rfl (hJ89 _ h)
        refine w_if_ne C 73 dX7_sheet_66 (by decide) h (fun h => ?_) (fun h => ?_)
        · refine w_iload_n C dX7_sheet_73 rfl 2 rfl ?_
          exact w_sub [0, 1, 2, 3] rfl (hJ74 _ h)
        refine w_iconst (v := -1) C dX7_sheet_69 (by decide) ?_
        refine w_goto C 74 dX7_sheet_70 (by decide) ?_
        exact w_sub [0, 1, 2, 3] rfl (hJ74 _ h)
      refine w_aload_n C dX7_sheet_53 rfl 0 rfl ?_
      refine w_ldc C dX7_sheet_54 kcX7_54 ?_
      refine w_Vi C dX7_sheet_56 h (fun _ e => mX7_finds e) lnX7_75 mvX7_finds bM0 rfl ⟨Nat.le_of_ble_eq_true rfl, Nat.le_of_ble_eq_true rfl⟩ [] rfl (Nat.le_of_ble_eq_true rfl) (fun S14 v15 h => ?_)
      exact w_iret C dX7_sheet_59 h
    refine w_aload_n C dX7_sheet_40 rfl 0 rfl ?_
    refine w_ldc C dX7_sheet_41 kcX7_155 ?_
    refine w_Vi C dX7_sheet_43 h (fun _ e => mX7_finds e) lnX7_75 mvX7_finds bM0 rfl ⟨Nat.le_of_ble_eq_true rfl, Nat.le_of_ble_eq_true rfl⟩ [] rfl (Nat.le_of_ble_eq_true rfl) (fun S16 v17 h => ?_)
    exact w_iret C dX7_sheet_46 h
  refine w_if_eq C 36 dX7_sheet_8 (by decide) h (fun h => ?_) (fun h => ?_)
  · exact w_sub [0, 1, 2, 3] rfl (hJ36  h)
  refine w_iload_n C dX7_sheet_11 rfl 2 rfl ?_
  refine w_bipush (v := 8) C dX7_sheet_12 (by decide) ?_
  refine w_icmp_eq C 36 dX7_sheet_14 (by decide) h (fun h => ?_) (fun h => ?_)
  · exact w_sub [0, 1, 2, 3] rfl (hJ36  h)
  refine w_iload_n C dX7_sheet_17 rfl 2 rfl ?_
  refine w_bipush (v := 16) C dX7_sheet_18 (by decide) ?_
  refine w_icmp_eq C 36 dX7_sheet_20 (by decide) h (fun h => ?_) (fun h => ?_)
  · exact w_sub [0, 1, 2, 3] rfl (hJ36  h)
  refine w_iload_n C dX7_sheet_23 rfl 2 rfl ?_
  refine w_bipush (v := 64) C dX7_sheet_24 (by decide) ?_
  refine w_icmp_eq C 36 dX7_sheet_26 (by decide) h (fun h => ?_) (fun h => ?_)
  · exact w_sub [0, 1, 2, 3] rfl (hJ36  h)
  exact w_sub [0] rfl (hJ29  h))
def fX7_write (S : St) (a1 : Int32) (a2 : Int32) (a3 : Int64) : Option (St × Int64) := bv (fX7_isSheet S a1) fun v1 => if v1 = 0 then (bq (fX7_finds S (-1000000001)) fun S13 v14 => some (S13, (Int32.toInt64 v14))) else (ldi S 6 a1 4 fun v2 => if 0 ≤ v2 then (ldi S 7 a1 4 fun v3 => bv (fX7_isIn S (Int32.toInt64 a2) (0) (Int32.toInt64 (v3 - (1)))) fun v4 => if v4 = 0 then (bq (fX7_finds S (-1000000001)) fun S9 v10 => some (S9, (Int32.toInt64 v10))) else (ldj S 8 (((40) * a1) + a2) 160 fun u5 => ldi S 6 a1 4 fun v6 => bv (fX7_narrow S v6 a3) fun u7 => stj S 8 (((40) * a1) + a2) 160 u7 fun S8 => some (S8, u5))) else (bq (fX7_finds S (-1000000006)) fun S11 v12 => some (S11, (Int32.toInt64 v12))))
set_option maxRecDepth 100000 in
theorem mX7_write {Y : YT} {S : St} {a1 : Int32} {a2 : Int32} {a3 : Int64} {R : St × Int64} (h : fX7_write  S a1 a2 a3 = some R) : Mc VM Y yX7_write cX7_write 7 (some .long) 1 25 [rf Y 0, .int a1, .int a2, .long a3] S (some (.long R.2), R.1) :=
  Mc.start [(0, rf Y 0), (1, .int a1), (2, .int a2), (3, .long a3)] rfl pnX7 (Nat.le_of_ble_eq_true rfl) (fun X (C : Ok VM Y X RX7 cX7_write 7 (some .long)) => by
  unfold fX7_write at h
  refine w_iload_n C dX7_write_0 rfl 1 rfl ?_
  refine p_Si C dX7_write_1 h (fun _ e => mX7_isSheet e) lnX7_246 msX7_isSheet rfl ⟨Nat.le_of_ble_eq_true rfl, Nat.le_of_ble_eq_true rfl⟩ [] rfl (Nat.le_of_ble_eq_true rfl) (fun v1 h => ?_)
  refine w_if_ne C 15 dX7_write_4 (by decide) h (fun h => ?_) (fun h => ?_)
  · refine w_aload_n C dX7_write_15 rfl 0 rfl ?_
    refine w_getr C dX7_write_16 flX7_25 gM0_7 ?_
    refine w_iload_n C dX7_write_19 rfl 1 rfl ?_
    refine x_iald C dX7_write_20 aM6 h (fun v2 h => ?_)
    refine w_if_ge C 32 dX7_write_21 (by decide) h (fun h => ?_) (fun h => ?_)
    · refine w_iload_n C dX7_write_32 rfl 2 rfl ?_
      refine w_i2l C dX7_write_33 ?_
      refine w_lconst (v := 0) C dX7_write_34 (by decide) ?_
      refine w_aload_n C dX7_write_35 rfl 0 rfl ?_
      refine w_getr C dX7_write_36 flX7_28 gM0_8 ?_
      refine w_iload_n C dX7_write_39 rfl 1 rfl ?_
      refine x_iald C dX7_write_40 aM7 h (fun v3 h => ?_)
      refine w_iconst (v := 1) C dX7_write_41 (by decide) ?_
      refine w_isub C dX7_write_42 ?_
      refine w_i2l C dX7_write_43 ?_
      refine p_Si C dX7_write_44 h (fun _ e => mX7_isIn e) lnX7_65 msX7_isIn rfl ⟨Nat.le_of_ble_eq_true rfl, Nat.le_of_ble_eq_true rfl⟩ [] rfl (Nat.le_of_ble_eq_true rfl) (fun v4 h => ?_)
      refine w_if_ne C 58 dX7_write_47 (by decide) h (fun h => ?_) (fun h => ?_)
      · refine w_aload_n C dX7_write_58 rfl 0 rfl ?_
        refine w_getr C dX7_write_59 flX7_31 gM0_9 ?_
        refine w_bipush (v := 40) C dX7_write_62 (by decide) ?_
        refine w_iload_n C dX7_write_64 rfl 1 rfl ?_
        refine w_imul C dX7_write_65 ?_
        refine w_iload_n C dX7_write_66 rfl 2 rfl ?_
        refine w_iadd C dX7_write_67 ?_
        refine x_lald C dX7_write_68 aM8 h (fun u5 h => ?_)
        refine w_lstore C dX7_write_69 (by decide) [(5, .long u5), (0, rf Y 0), (1, .int a1), (2, .int a2), (3, .long a3)] rfl ?_
        refine w_aload_n C dX7_write_71 rfl 1 rfl ?_
        refine w_getr C dX7_write_72 flX7_31 gM0_9 ?_
        refine w_bipush (v := 40) C dX7_write_75 (by decide) ?_
        refine w_iload_n C dX7_write_77 rfl 2 rfl ?_
        refine w_imul C dX7_write_78 ?_
        refine w_iload_n C dX7_write_79 rfl 3 rfl ?_
        refine w_iadd C dX7_write_80 ?_
        refine w_aload_n C dX7_write_81 rfl 1 rfl ?_
        refine w_getr C dX7_write_82 flX7_25 gM0_7 ?_
        refine w_iload_n C dX7_write_85 rfl 2 rfl ?_
        refine x_iald C dX7_write_86 aM6 h (fun v6 h => ?_)
        refine w_lload_n C dX7_write_87 rfl 4 rfl ?_
        refine p_Sl C dX7_write_88 h (fun _ e => mX7_narrow e) lnX7_250 msX7_narrow rfl ⟨Nat.le_of_ble_eq_true rfl, Nat.le_of_ble_eq_true rfl⟩ [.int (((40) * a1) + a2), rf Y 8] rfl (Nat.le_of_ble_eq_true rfl) (fun u7 h => ?_)
        refine x_last C dX7_write_91 aM8 h (fun S8 h => ?_)
        refine w_lload C dX7_write_92 0 rfl ?_
        exact w_lret C dX7_write_94 h
      refine w_aload_n C dX7_write_50 rfl 0 rfl ?_
      refine w_ldc C dX7_write_51 kcX7_54 ?_
      refine w_Vi C dX7_write_53 h (fun _ e => mX7_finds e) lnX7_75 mvX7_finds bM0 rfl ⟨Nat.le_of_ble_eq_true rfl, Nat.le_of_ble_eq_true rfl⟩ [] rfl (Nat.le_of_ble_eq_true rfl) (fun S9 v10 h => ?_)
      refine w_i2l C dX7_write_56 ?_
      exact w_lret C dX7_write_57 h
    refine w_aload_n C dX7_write_24 rfl 0 rfl ?_
    refine w_ldc C dX7_write_25 kcX7_249 ?_
    refine w_Vi C dX7_write_27 h (fun _ e => mX7_finds e) lnX7_75 mvX7_finds bM0 rfl ⟨Nat.le_of_ble_eq_true rfl, Nat.le_of_ble_eq_true rfl⟩ [] rfl (Nat.le_of_ble_eq_true rfl) (fun S11 v12 h => ?_)
    refine w_i2l C dX7_write_30 ?_
    exact w_lret C dX7_write_31 h
  refine w_aload_n C dX7_write_7 rfl 0 rfl ?_
  refine w_ldc C dX7_write_8 kcX7_54 ?_
  refine w_Vi C dX7_write_10 h (fun _ e => mX7_finds e) lnX7_75 mvX7_finds bM0 rfl ⟨Nat.le_of_ble_eq_true rfl, Nat.le_of_ble_eq_true rfl⟩ [] rfl (Nat.le_of_ble_eq_true rfl) (fun S13 v14 h => ?_)
  refine w_i2l C dX7_write_13 ?_
  exact w_lret C dX7_write_14 h)
def fX7_copy_L136 (a5 : Int32) (v15 : Int32) (v16 : Int32) : Nat → St → Int32 → Option (St × Int32)
  | 0, _, _ => none
  | G136 + 1, S17, v18 => if a5 ≤ v18 then (some (S17, a5)) else (pl (fun (v19 : Int32) => ldj S17 8 (v15 + v19) 160 fun u20 => stj S17 8 (v16 + v19) 160 u20 fun S21 => pl (v18 + 1) fun v22 => fX7_copy_L136 a5 v15 v16 G136 S21 v22) fun J162 => if v16 ≤ v15 then (J162 v18) else (J162 ((a5 - (1)) - v18)))
def fX7_copy (F : Nat) (S : St) (a1 : Int32) (a2 : Int32) (a3 : Int32) (a4 : Int32) (a5 : Int32) : Option (St × Int32) := bv (fX7_isSheet S a1) fun v1 => pl (bq (fX7_finds S (-1000000001)) fun S2 v3 => some (S2, v3)) fun J14 => if v1 = 0 then (J14) else (bv (fX7_isSheet S a3) fun v4 => if v4 = 0 then (J14) else (ldi S 6 a1 4 fun v5 => pl (bq (fX7_finds S (-1000000006)) fun S6 v7 => some (S6, v7)) fun J39 => if v5 < 0 then (J39) else (ldi S 6 a3 4 fun v8 => if 0 ≤ v8 then (ldi S 6 a1 4 fun v9 => ldi S 6 a3 4 fun v10 => if v9 = v10 then (pl (bq (fX7_finds S (-1000000001)) fun S11 v12 => some (S11, v12)) fun J109 => if a2 < 0 then (J109) else (if a4 < 0 then (J109) else (if a5 < 0 then (J109) else (ldi S 7 a1 4 fun v13 => if (v13 - a2) < a5 then (J109) else (ldi S 7 a3 4 fun v14 => if a5 ≤ (v14 - a4) then (pl ((((40) * a1) + a2)) fun v15 => pl ((((40) * a3) + a4)) fun v16 => fX7_copy_L136 a5 v15 v16 F S (0)) else (J109)))))) else (bq (fX7_finds S (-1000000003)) fun S23 v24 => some (S23, v24))) else (J39))))
set_option maxRecDepth 100000 in
theorem mX7_copy {Y : YT} {F : Nat} {S : St} {a1 : Int32} {a2 : Int32} {a3 : Int32} {a4 : Int32} {a5 : Int32} {R : St × Int32} (h : fX7_copy F S a1 a2 a3 a4 a5 = some R) : Mc VM Y yX7_copy cX7_copy 10 (some .int) 1 21 [rf Y 0, .int a1, .int a2, .int a3, .int a4, .int a5] S (some (.int R.2), R.1) :=
  Mc.start [(0, rf Y 0), (1, .int a1), (2, .int a2), (3, .int a3), (4, .int a4), (5, .int a5)] rfl pnX7 (Nat.le_of_ble_eq_true rfl) (fun X (C : Ok VM Y X RX7 cX7_copy 10 (some .int)) => by
  unfold fX7_copy at h
  refine w_iload_n C dX7_copy_0 rfl 1 rfl ?_
  refine p_Si C dX7_copy_1 h (fun _ e => mX7_isSheet e) lnX7_246 msX7_isSheet rfl ⟨Nat.le_of_ble_eq_true rfl, Nat.le_of_ble_eq_true rfl⟩ [] rfl (Nat.le_of_ble_eq_true rfl) (fun v1 h => ?_)
  refine w_join (fun J14 => J14  = some R → WS VM Y X 10 1 21 (some (.int R.2), R.1) S 14 [(0, rf Y 0)] []) h ?_ (fun J14 hJ14 h => ?_)
  · intro  h
    refine w_aload_n C dX7_copy_14 rfl 0 rfl ?_
    refine w_ldc C dX7_copy_15 kcX7_54 ?_
    refine w_Vi C dX7_copy_17 h (fun _ e => mX7_finds e) lnX7_75 mvX7_finds bM0 rfl ⟨Nat.le_of_ble_eq_true rfl, Nat.le_of_ble_eq_true rfl⟩ [] rfl (Nat.le_of_ble_eq_true rfl) (fun S2 v3 h => ?_)
    exact w_iret C dX7_copy_20 h
  refine w_if_eq C 14 dX7_copy_4 (by decide) h (fun h => ?_) (fun h => ?_)
  · exact w_sub [0] rfl (hJ14  h)
  refine w_iload_n C dX7_copy_7 rfl 3 rfl ?_
  refine p_Si C dX7_copy_8 h (fun _ e => mX7_isSheet e) lnX7_246 msX7_isSheet rfl ⟨Nat.le_of_ble_eq_true rfl, Nat.le_of_ble_eq_true rfl⟩ [] rfl (Nat.le_of_ble_eq_true rfl) (fun v4 h => ?_)
  refine w_if_ne C 21 dX7_copy_11 (by decide) h (fun h => ?_) (fun h => ?_)
  · refine w_aload_n C dX7_copy_21 rfl 0 rfl ?_
    refine w_getr C dX7_copy_22 flX7_25 gM0_7 ?_
    refine w_iload_n C dX7_copy_25 rfl 1 rfl ?_
    refine x_iald C dX7_copy_26 aM6 h (fun v5 h => ?_)
    refine w_join (fun J39 => J39  = some R → WS VM Y X 10 1 21 (some (.int R.2), R.1) S 39 [(0, rf Y 0)] []) h ?_ (fun J39 hJ39 h => ?_)
    · intro  h
      refine w_aload_n C dX7_copy_39 rfl 0 rfl ?_
      refine w_ldc C dX7_copy_40 kcX7_249 ?_
      refine w_Vi C dX7_copy_42 h (fun _ e => mX7_finds e) lnX7_75 mvX7_finds bM0 rfl ⟨Nat.le_of_ble_eq_true rfl, Nat.le_of_ble_eq_true rfl⟩ [] rfl (Nat.le_of_ble_eq_true rfl) (fun S6 v7 h => ?_)
      exact w_iret C dX7_copy_45 h
    refine w_if_lt C 39 dX7_copy_27 (by decide) h (fun h => ?_) (fun h => ?_)
    · exact w_sub [0] rfl (hJ39  h)
    refine w_aload_n C dX7_copy_30 rfl 0 rfl ?_
    refine w_getr C dX7_copy_31 flX7_25 gM0_7 ?_
    refine w_iload_n C dX7_copy_34 rfl 3 rfl ?_
    refine x_iald C dX7_copy_35 aM6 h (fun v8 h => ?_)
    refine w_if_ge C 46 dX7_copy_36 (by decide) h (fun h => ?_) (fun h => ?_)
    · refine w_aload_n C dX7_copy_46 rfl 0 rfl ?_
      refine w_getr C dX7_copy_47 flX7_25 gM0_7 ?_
      refine w_iload_n C dX7_copy_50 rfl 1 rfl ?_
      refine x_iald C dX7_copy_51 aM6 h (fun v9 h => ?_)
      refine w_aload_n C dX7_copy_52 rfl 0 rfl ?_
      refine w_getr C dX7_copy_53 flX7_25 gM0_7 ?_
      refine w_iload_n C dX7_copy_56 rfl 3 rfl ?_
      refine x_iald C dX7_copy_57 aM6 h (fun v10 h => ?_)
      refine w_icmp_eq C 68 dX7_copy_58 (by decide) h (fun h => ?_) (fun h => ?_)
      · refine w_iload_n C dX7_copy_68 rfl 2 rfl ?_
        refine w_join (fun J109 => J109  = some R → WS VM Y X 10 1 21 (some (.int R.2), R.1) S 109 [(0, rf Y 0)] []) h ?_ (fun J109 hJ109 h => ?_)
        · intro  h
          refine w_aload_n C dX7_copy_109 rfl 0 rfl ?_
          refine w_ldc C dX7_copy_110 kcX7_54 ?_
          refine w_Vi C dX7_copy_112 h (fun _ e => mX7_finds e) lnX7_75 mvX7_finds bM0 rfl ⟨Nat.le_of_ble_eq_true rfl, Nat.le_of_ble_eq_true rfl⟩ [] rfl (Nat.le_of_ble_eq_true rfl) (fun S11 v12 h => ?_)
          exact w_iret C dX7_copy_115 h
        refine w_if_lt C 109 dX7_copy_69 (by decide) h (fun h => ?_) (fun h => ?_)
        · exact w_sub [0] rfl (hJ109  h)
        refine w_iload C dX7_copy_72 4 rfl ?_
        refine w_if_lt C 109 dX7_copy_74 (by decide) h (fun h => ?_) (fun h => ?_)
        · exact w_sub [0] rfl (hJ109  h)
        refine w_iload C dX7_copy_77 5 rfl ?_
        refine w_if_lt C 109 dX7_copy_79 (by decide) h (fun h => ?_) (fun h => ?_)
        · exact w_sub [0] rfl (hJ109  h)
        refine w_iload C dX7_copy_82 5 rfl ?_
        refine w_aload_n C dX7_copy_84 rfl 0 rfl ?_
        refine w_getr C dX7_copy_85 flX7_28 gM0_8 ?_
        refine w_iload_n C dX7_copy_88 rfl 1 rfl ?_
        refine x_iald C dX7_copy_89 aM7 h (fun v13 h => ?_)
        refine w_iload_n C dX7_copy_90 rfl 2 rfl ?_
        refine w_isub C dX7_copy_91 ?_
        refine w_icmp_gt C 109 dX7_copy_92 (by decide) h (fun h => ?_) (fun h => ?_)
        · exact w_sub [0] rfl (hJ109  h)
        refine w_iload C dX7_copy_95 5 rfl ?_
        refine w_aload_n C dX7_copy_97 rfl 0 rfl ?_
        refine w_getr C dX7_copy_98 flX7_28 gM0_8 ?_
        refine w_iload_n C dX7_copy_101 rfl 3 rfl ?_
        refine x_iald C dX7_copy_102 aM7 h (fun v14 h => ?_)
        refine w_iload C dX7_copy_103 4 rfl ?_
        refine w_isub C dX7_copy_105 ?_
        refine w_icmp_le C 116 dX7_copy_106 (by decide) h (fun h => ?_) (fun h => ?_)
        · refine w_bipush (v := 40) C dX7_copy_116 (by decide) ?_
          refine w_iload_n C dX7_copy_118 rfl 1 rfl ?_
          refine w_imul C dX7_copy_119 ?_
          refine w_iload_n C dX7_copy_120 rfl 2 rfl ?_
          refine w_iadd C dX7_copy_121 ?_
          refine w_topi h (fun v15 h => ?_)
          refine w_istore C dX7_copy_122 (by decide) [(6, .int v15), (0, rf Y 0), (1, .int a1), (2, .int a2), (3, .int a3), (4, .int a4), (5, .int a5)] rfl ?_
          refine w_bipush (v := 40) C dX7_copy_124 (by decide) ?_
          refine w_iload_n C dX7_copy_126 rfl 4 rfl ?_
          refine w_imul C dX7_copy_127 ?_
          refine w_iload C dX7_copy_128 5 rfl ?_
          refine w_iadd C dX7_copy_130 ?_
          refine w_topi h (fun v16 h => ?_)
          refine w_istore C dX7_copy_131 (by decide) [(7, .int v16), (6, .int v15), (0, rf Y 0), (1, .int a1), (2, .int a2), (3, .int a3), (4, .int a4), (5, .int a5)] rfl ?_
          refine w_iconst (v := 0) C dX7_copy_133 (by decide) ?_
          refine w_istore C dX7_copy_134 (by decide) [(8, .int (0)), (7, .int v16), (6, .int v15), (0, rf Y 0), (1, .int a1), (2, .int a2), (3, .int a3), (4, .int a4), (5, .int a5)] rfl ?_
          have hL136 : ∀ (G136 : Nat) (S17 : St) (v18 : Int32), fX7_copy_L136 a5 v15 v16 G136 S17 v18 = some R → WS VM Y X 10 1 21 (some (.int R.2), R.1) S17 136 [(0, rf Y 0), (5, .int a5), (6, .int v15), (7, .int v16), (8, .int v18)] [] := by
            intro G136
            induction G136 with
            | zero => intro S17 v18 h; exact nomatch (show (none : Option (St × Int32)) = some R from h)
            | succ G136 ih =>
              intro S17 v18 h
              rw [fX7_copy_L136] at h
              refine w_iload C dX7_copy_136 4 rfl ?_
              refine w_iload C dX7_copy_138 1 rfl ?_
              refine w_icmp_ge C 190 dX7_copy_140 (by decide) h (fun h => ?_) (fun h => ?_)
              · refine w_iload C dX7_copy_190 1 rfl ?_
                exact w_iret C dX7_copy_192 h
              refine w_iload C dX7_copy_143 2 rfl ?_
              refine w_iload C dX7_copy_145 3 rfl ?_
              refine w_join (fun J162 => ∀ (v19 : Int32), J162 v19 = some R → WS VM Y X 10 1 21 (some (.int R.2), R.1) S17 162 [(0, rf Y 0), (5, .int a5), (6, .int v15), (7, .int v16), (8, .int v18)] [.int v19]) h ?_ (fun J162 hJ162 h => ?_)
              · intro v19 h
                refine w_istore C dX7_copy_162 (by decide) [(9, .int v19), (0, rf Y 0), (5, .int a5), (6, .int v15), (7, .int v16), (8, .int v18)] rfl ?_
                refine w_aload_n C dX7_copy_164 rfl 1 rfl ?_
                refine w_getr C dX7_copy_165 flX7_31 gM0_9 ?_
                refine w_iload C dX7_copy_168 4 rfl ?_
                refine w_iload C dX7_copy_170 0 rfl ?_
                refine w_iadd C dX7_copy_172 ?_
                refine w_aload_n C dX7_copy_173 rfl 1 rfl ?_
                refine w_getr C dX7_copy_174 flX7_31 gM0_9 ?_
                refine w_iload C dX7_copy_177 3 rfl ?_
                refine w_iload C dX7_copy_179 0 rfl ?_
                refine w_iadd C dX7_copy_181 ?_
                refine x_lald C dX7_copy_182 aM8 h (fun u20 h => ?_)
                refine x_last C dX7_copy_183 aM8 h (fun S21 h => ?_)
                refine x_iinc C dX7_copy_184 5 rfl 1 (by decide) h (by decide) (fun v22 => [(8, .int v22), (9, .int v19), (0, rf Y 0), (5, .int a5), (6, .int v15), (7, .int v16)]) (fun _ => rfl) (fun v22 h => ?_)
                refine w_goto C 136 dX7_copy_187 (by decide) ?_
                exact w_sub [2, 3, 4, 5, 0] rfl (ih _ _ h)
              refine w_icmp_ge C 160 dX7_copy_147 (by decide) h (fun h => ?_) (fun h => ?_)
              · refine w_iload C dX7_copy_160 4 rfl ?_
                exact w_sub [0, 1, 2, 3, 4] rfl (hJ162 _ h)
              refine w_iload C dX7_copy_150 1 rfl ?_
              refine w_iconst (v := 1) C dX7_copy_152 (by decide) ?_
              refine w_isub C dX7_copy_153 ?_
              refine w_iload C dX7_copy_154 4 rfl ?_
              refine w_isub C dX7_copy_156 ?_
              refine w_goto C 162 dX7_copy_157 (by decide) ?_
              exact w_sub [0, 1, 2, 3, 4] rfl (hJ162 _ h)
          exact w_sub [3, 8, 2, 1, 0] rfl (hL136 _ _ _ h)
        exact w_sub [0] rfl (hJ109  h)
      refine w_aload_n C dX7_copy_61 rfl 0 rfl ?_
      refine w_ldc C dX7_copy_62 kcX7_112 ?_
      refine w_Vi C dX7_copy_64 h (fun _ e => mX7_finds e) lnX7_75 mvX7_finds bM0 rfl ⟨Nat.le_of_ble_eq_true rfl, Nat.le_of_ble_eq_true rfl⟩ [] rfl (Nat.le_of_ble_eq_true rfl) (fun S23 v24 h => ?_)
      exact w_iret C dX7_copy_67 h
    exact w_sub [0] rfl (hJ39  h)
  exact w_sub [0] rfl (hJ14  h))
def fX7_lays_L51 (a1 : Int32) (a2 : Int32) : Nat → St → Int32 → Int32 → Option (St × Int32)
  | 0, _, _, _ => none
  | G51 + 1, S4, v5, v6 => ldi S4 7 a1 4 fun v7 => if v7 ≤ v6 then (some (S4, v5)) else (if (12) ≤ v6 then (some (S4, v5)) else (ldj S4 8 (((40) * a1) + v6) 160 fun u8 => bv (fX7_isIn S4 u8 (0) (999)) fun v9 => pl (fun (S10 : St) (v11 : Int32) => pl (v6 + 1) fun v12 => fX7_lays_L51 a1 a2 G51 S10 v11 v12) fun J117 => if v9 = 0 then (J117 S4 v5) else (sti S4 1 (((138) + ((13) * a2)) + v6) 216 (Int64.toInt32 u8) fun S13 => pl (v5 + 1) fun v14 => J117 S13 v14)))
def fX7_lays (F : Nat) (S : St) (a1 : Int32) (a2 : Int32) : Option (St × Int32) := bv (fX7_isSheet S a1) fun v1 => if v1 = 0 then (bq (fX7_finds S (-1000000001)) fun S19 v20 => some (S19, v20)) else (ldi S 6 a1 4 fun v2 => if 0 ≤ v2 then (bv (fX7_isCamp S (Int32.toInt64 a2)) fun v3 => if v3 = 0 then (bq (fX7_finds S (-1000000001)) fun S15 v16 => some (S15, v16)) else (fX7_lays_L51 a1 a2 F S (0) (0))) else (bq (fX7_finds S (-1000000006)) fun S17 v18 => some (S17, v18)))
set_option maxRecDepth 100000 in
theorem mX7_lays {Y : YT} {F : Nat} {S : St} {a1 : Int32} {a2 : Int32} {R : St × Int32} (h : fX7_lays F S a1 a2 = some R) : Mc VM Y yX7_lays cX7_lays 7 (some .int) 1 25 [rf Y 0, .int a1, .int a2] S (some (.int R.2), R.1) :=
  Mc.start [(0, rf Y 0), (1, .int a1), (2, .int a2)] rfl pnX7 (Nat.le_of_ble_eq_true rfl) (fun X (C : Ok VM Y X RX7 cX7_lays 7 (some .int)) => by
  unfold fX7_lays at h
  refine w_iload_n C dX7_lays_0 rfl 1 rfl ?_
  refine p_Si C dX7_lays_1 h (fun _ e => mX7_isSheet e) lnX7_246 msX7_isSheet rfl ⟨Nat.le_of_ble_eq_true rfl, Nat.le_of_ble_eq_true rfl⟩ [] rfl (Nat.le_of_ble_eq_true rfl) (fun v1 h => ?_)
  refine w_if_ne C 14 dX7_lays_4 (by decide) h (fun h => ?_) (fun h => ?_)
  · refine w_aload_n C dX7_lays_14 rfl 0 rfl ?_
    refine w_getr C dX7_lays_15 flX7_25 gM0_7 ?_
    refine w_iload_n C dX7_lays_18 rfl 1 rfl ?_
    refine x_iald C dX7_lays_19 aM6 h (fun v2 h => ?_)
    refine w_if_ge C 30 dX7_lays_20 (by decide) h (fun h => ?_) (fun h => ?_)
    · refine w_aload_n C dX7_lays_30 rfl 0 rfl ?_
      refine w_iload_n C dX7_lays_31 rfl 2 rfl ?_
      refine w_i2l C dX7_lays_32 ?_
      refine p_Vi C dX7_lays_33 h (fun _ e => mX7_isCamp e) lnX7_160 mvX7_isCamp bM0 rfl ⟨Nat.le_of_ble_eq_true rfl, Nat.le_of_ble_eq_true rfl⟩ [] rfl (Nat.le_of_ble_eq_true rfl) (fun v3 h => ?_)
      refine w_if_ne C 46 dX7_lays_36 (by decide) h (fun h => ?_) (fun h => ?_)
      · refine w_iconst (v := 0) C dX7_lays_46 (by decide) ?_
        refine w_istore_n C dX7_lays_47 rfl (by decide) [(3, .int (0)), (0, rf Y 0), (1, .int a1), (2, .int a2)] rfl ?_
        refine w_iconst (v := 0) C dX7_lays_48 (by decide) ?_
        refine w_istore C dX7_lays_49 (by decide) [(4, .int (0)), (3, .int (0)), (0, rf Y 0), (1, .int a1), (2, .int a2)] rfl ?_
        have hL51 : ∀ (G51 : Nat) (S4 : St) (v5 : Int32) (v6 : Int32), fX7_lays_L51 a1 a2 G51 S4 v5 v6 = some R → WS VM Y X 7 1 25 (some (.int R.2), R.1) S4 51 [(0, rf Y 0), (1, .int a1), (2, .int a2), (3, .int v5), (4, .int v6)] [] := by
          intro G51
          induction G51 with
          | zero => intro S4 v5 v6 h; exact nomatch (show (none : Option (St × Int32)) = some R from h)
          | succ G51 ih =>
            intro S4 v5 v6 h
            rw [fX7_lays_L51] at h
            refine w_iload C dX7_lays_51 4 rfl ?_
            refine w_aload_n C dX7_lays_53 rfl 0 rfl ?_
            refine w_getr C dX7_lays_54 flX7_28 gM0_8 ?_
            refine w_iload_n C dX7_lays_57 rfl 1 rfl ?_
            refine x_iald C dX7_lays_58 aM7 h (fun v7 h => ?_)
            refine w_icmp_ge C 123 dX7_lays_59 (by decide) h (fun h => ?_) (fun h => ?_)
            · refine w_iload_n C dX7_lays_123 rfl 3 rfl ?_
              exact w_iret C dX7_lays_124 h
            refine w_iload C dX7_lays_62 4 rfl ?_
            refine w_bipush (v := 12) C dX7_lays_64 (by decide) ?_
            refine w_icmp_ge C 123 dX7_lays_66 (by decide) h (fun h => ?_) (fun h => ?_)
            · refine w_iload_n C dX7_lays_123 rfl 3 rfl ?_
              exact w_iret C dX7_lays_124 h
            refine w_aload_n C dX7_lays_69 rfl 0 rfl ?_
            refine w_getr C dX7_lays_70 flX7_31 gM0_9 ?_
            refine w_bipush (v := 40) C dX7_lays_73 (by decide) ?_
            refine w_iload_n C dX7_lays_75 rfl 1 rfl ?_
            refine w_imul C dX7_lays_76 ?_
            refine w_iload C dX7_lays_77 4 rfl ?_
            refine w_iadd C dX7_lays_79 ?_
            refine x_lald C dX7_lays_80 aM8 h (fun u8 h => ?_)
            refine w_lstore C dX7_lays_81 (by decide) [(5, .long u8), (0, rf Y 0), (1, .int a1), (2, .int a2), (3, .int v5), (4, .int v6)] rfl ?_
            refine w_lload C dX7_lays_83 0 rfl ?_
            refine w_lconst (v := 0) C dX7_lays_85 (by decide) ?_
            refine w_ldc2 C dX7_lays_86 klX7_71 ?_
            refine p_Si C dX7_lays_89 h (fun _ e => mX7_isIn e) lnX7_65 msX7_isIn rfl ⟨Nat.le_of_ble_eq_true rfl, Nat.le_of_ble_eq_true rfl⟩ [] rfl (Nat.le_of_ble_eq_true rfl) (fun v9 h => ?_)
            refine w_join (fun J117 => ∀ (S10 : St) (v11 : Int32), J117 S10 v11 = some R → WS VM Y X 7 1 25 (some (.int R.2), R.1) S10 117 [(0, rf Y 0), (1, .int a1), (2, .int a2), (3, .int v11), (4, .int v6)] []) h ?_ (fun J117 hJ117 h => ?_)
            · intro S10 v11 h
              refine x_iinc C dX7_lays_117 4 rfl 1 (by decide) h (by decide) (fun v12 => [(4, .int v12), (0, rf Y 0), (1, .int a1), (2, .int a2), (3, .int v11)]) (fun _ => rfl) (fun v12 h => ?_)
              refine w_goto C 51 dX7_lays_120 (by decide) ?_
              exact w_sub [1, 2, 3, 4, 0] rfl (ih _ _ _ h)
            refine w_if_eq C 117 dX7_lays_92 (by decide) h (fun h => ?_) (fun h => ?_)
            · exact w_sub [1, 2, 3, 4, 5] rfl (hJ117 _ _ h)
            refine w_aload_n C dX7_lays_95 rfl 1 rfl ?_
            refine w_getr C dX7_lays_96 flX7_7 gM0_0 ?_
            refine w_sipush (v := 138) C dX7_lays_99 (by decide) ?_
            refine w_bipush (v := 13) C dX7_lays_102 (by decide) ?_
            refine w_iload_n C dX7_lays_104 rfl 3 rfl ?_
            refine w_imul C dX7_lays_105 ?_
            refine w_iadd C dX7_lays_106 ?_
            refine w_iload C dX7_lays_107 5 rfl ?_
            refine w_iadd C dX7_lays_109 ?_
            refine w_lload C dX7_lays_110 0 rfl ?_
            refine w_l2i C dX7_lays_112 ?_
            refine x_iast C dX7_lays_113 aM1 h (fun S13 h => ?_)
            refine x_iinc C dX7_lays_114 4 rfl 1 (by decide) h (by decide) (fun v14 => [(3, .int v14), (5, .long u8), (0, rf Y 0), (1, .int a1), (2, .int a2), (4, .int v6)]) (fun _ => rfl) (fun v14 h => ?_)
            exact w_sub [2, 3, 4, 0, 5] rfl (hJ117 _ _ h)
        exact w_sub [2, 3, 4, 1, 0] rfl (hL51 _ _ _ _ h)
      refine w_aload_n C dX7_lays_39 rfl 0 rfl ?_
      refine w_ldc C dX7_lays_40 kcX7_54 ?_
      refine w_Vi C dX7_lays_42 h (fun _ e => mX7_finds e) lnX7_75 mvX7_finds bM0 rfl ⟨Nat.le_of_ble_eq_true rfl, Nat.le_of_ble_eq_true rfl⟩ [] rfl (Nat.le_of_ble_eq_true rfl) (fun S15 v16 h => ?_)
      exact w_iret C dX7_lays_45 h
    refine w_aload_n C dX7_lays_23 rfl 0 rfl ?_
    refine w_ldc C dX7_lays_24 kcX7_249 ?_
    refine w_Vi C dX7_lays_26 h (fun _ e => mX7_finds e) lnX7_75 mvX7_finds bM0 rfl ⟨Nat.le_of_ble_eq_true rfl, Nat.le_of_ble_eq_true rfl⟩ [] rfl (Nat.le_of_ble_eq_true rfl) (fun S17 v18 h => ?_)
    exact w_iret C dX7_lays_29 h
  refine w_aload_n C dX7_lays_7 rfl 0 rfl ?_
  refine w_ldc C dX7_lays_8 kcX7_54 ?_
  refine w_Vi C dX7_lays_10 h (fun _ e => mX7_finds e) lnX7_75 mvX7_finds bM0 rfl ⟨Nat.le_of_ble_eq_true rfl, Nat.le_of_ble_eq_true rfl⟩ [] rfl (Nat.le_of_ble_eq_true rfl) (fun S19 v20 h => ?_)
  exact w_iret C dX7_lays_13 h)
def fX7_costs_L60 (S : St) (a1 : Int32) (a2 : Int32) (J94 : Option (St × Int32)) : Nat → Int32 → Int32 → Int32 → Int32 → Option (St × Int32)
  | 0, _, _, _, _ => none
  | G60 + 1, v6, v7, v8, v9 => ldi S 7 a1 4 fun v10 => if v10 ≤ v9 then (some (S, v6)) else (ldj S 8 (((40) * a1) + v9) 160 fun u11 => bv (fX7_isCamp S u11) fun v12 => if v12 = 0 then (J94) else (pl ((Int64.toInt32 u11)) fun v13 => pl (fun (v14 : Int32) => pl ((v6 + v14)) fun v15 => pl (fun (v16 : Int32) => bv (fX7_monthCost S v13 (a2 + v9) v16) fun v17 => pl ((v15 + v17)) fun v18 => pl (v9 + 1) fun v19 => fX7_costs_L60 S a1 a2 J94 G60 v18 v13 v16 v19) fun J158 => if v13 = v7 then (if (3) ≤ v8 then (J158 (3)) else (J158 (v8 + (1)))) else (J158 (1))) fun J131 => pl (J131 (0)) fun J130 => if v7 < 0 then (J130) else (if v13 = v7 then (J130) else (bv (fX7_moveCost S v7 v13) fun v20 => J131 v20))))
def fX7_costs (F : Nat) (S : St) (a1 : Int32) (a2 : Int32) : Option (St × Int32) := bv (fX7_isSheet S a1) fun v1 => if v1 = 0 then (bq (fX7_finds S (-1000000001)) fun S25 v26 => some (S25, v26)) else (ldi S 6 a1 4 fun v2 => if 0 ≤ v2 then (bv (fX7_isIn S (Int32.toInt64 a2) (0) (11)) fun v3 => if v3 = 0 then (bq (fX7_finds S (-1000000001)) fun S21 v22 => some (S21, v22)) else (pl (bq (fX7_finds S (-1000000003)) fun S4 v5 => some (S4, v5)) fun J94 => fX7_costs_L60 S a1 a2 J94 F (0) (-1) (0) (0))) else (bq (fX7_finds S (-1000000006)) fun S23 v24 => some (S23, v24)))
set_option maxRecDepth 100000 in
theorem mX7_costs {Y : YT} {F : Nat} {S : St} {a1 : Int32} {a2 : Int32} {R : St × Int32} (h : fX7_costs F S a1 a2 = some R) : Mc VM Y yX7_costs cX7_costs 10 (some .int) 1 25 [rf Y 0, .int a1, .int a2] S (some (.int R.2), R.1) :=
  Mc.start [(0, rf Y 0), (1, .int a1), (2, .int a2)] rfl pnX7 (Nat.le_of_ble_eq_true rfl) (fun X (C : Ok VM Y X RX7 cX7_costs 10 (some .int)) => by
  unfold fX7_costs at h
  refine w_iload_n C dX7_costs_0 rfl 1 rfl ?_
  refine p_Si C dX7_costs_1 h (fun _ e => mX7_isSheet e) lnX7_246 msX7_isSheet rfl ⟨Nat.le_of_ble_eq_true rfl, Nat.le_of_ble_eq_true rfl⟩ [] rfl (Nat.le_of_ble_eq_true rfl) (fun v1 h => ?_)
  refine w_if_ne C 14 dX7_costs_4 (by decide) h (fun h => ?_) (fun h => ?_)
  · refine w_aload_n C dX7_costs_14 rfl 0 rfl ?_
    refine w_getr C dX7_costs_15 flX7_25 gM0_7 ?_
    refine w_iload_n C dX7_costs_18 rfl 1 rfl ?_
    refine x_iald C dX7_costs_19 aM6 h (fun v2 h => ?_)
    refine w_if_ge C 30 dX7_costs_20 (by decide) h (fun h => ?_) (fun h => ?_)
    · refine w_iload_n C dX7_costs_30 rfl 2 rfl ?_
      refine w_i2l C dX7_costs_31 ?_
      refine w_lconst (v := 0) C dX7_costs_32 (by decide) ?_
      refine w_ldc2 C dX7_costs_33 klX7_164 ?_
      refine p_Si C dX7_costs_36 h (fun _ e => mX7_isIn e) lnX7_65 msX7_isIn rfl ⟨Nat.le_of_ble_eq_true rfl, Nat.le_of_ble_eq_true rfl⟩ [] rfl (Nat.le_of_ble_eq_true rfl) (fun v3 h => ?_)
      refine w_if_ne C 49 dX7_costs_39 (by decide) h (fun h => ?_) (fun h => ?_)
      · refine w_iconst (v := 0) C dX7_costs_49 (by decide) ?_
        refine w_istore_n C dX7_costs_50 rfl (by decide) [(3, .int (0)), (0, rf Y 0), (1, .int a1), (2, .int a2)] rfl ?_
        refine w_iconst (v := -1) C dX7_costs_51 (by decide) ?_
        refine w_istore C dX7_costs_52 (by decide) [(4, .int (-1)), (3, .int (0)), (0, rf Y 0), (1, .int a1), (2, .int a2)] rfl ?_
        refine w_iconst (v := 0) C dX7_costs_54 (by decide) ?_
        refine w_istore C dX7_costs_55 (by decide) [(5, .int (0)), (4, .int (-1)), (3, .int (0)), (0, rf Y 0), (1, .int a1), (2, .int a2)] rfl ?_
        refine w_iconst (v := 0) C dX7_costs_57 (by decide) ?_
        refine w_istore C dX7_costs_58 (by decide) [(6, .int (0)), (5, .int (0)), (4, .int (-1)), (3, .int (0)), (0, rf Y 0), (1, .int a1), (2, .int a2)] rfl ?_
        refine w_join (fun J94 => J94  = some R → WS VM Y X 10 1 25 (some (.int R.2), R.1) S 94 [(0, rf Y 0)] []) h ?_ (fun J94 hJ94 h => ?_)
        · intro  h
          refine w_aload_n C dX7_costs_94 rfl 0 rfl ?_
          refine w_ldc C dX7_costs_95 kcX7_112 ?_
          refine w_Vi C dX7_costs_97 h (fun _ e => mX7_finds e) lnX7_75 mvX7_finds bM0 rfl ⟨Nat.le_of_ble_eq_true rfl, Nat.le_of_ble_eq_true rfl⟩ [] rfl (Nat.le_of_ble_eq_true rfl) (fun S4 v5 h => ?_)
          exact w_iret C dX7_costs_100 h
        have hL60 : ∀ (G60 : Nat) (v6 : Int32) (v7 : Int32) (v8 : Int32) (v9 : Int32), fX7_costs_L60 S a1 a2 J94 G60 v6 v7 v8 v9 = some R → WS VM Y X 10 1 25 (some (.int R.2), R.1) S 60 [(0, rf Y 0), (1, .int a1), (2, .int a2), (3, .int v6), (4, .int v7), (5, .int v8), (6, .int v9)] [] := by
          intro G60
          induction G60 with
          | zero => intro v6 v7 v8 v9 h; exact nomatch (show (none : Option (St × Int32)) = some R from h)
          | succ G60 ih =>
            intro v6 v7 v8 v9 h
            rw [fX7_costs_L60] at h
            refine w_iload C dX7_costs_60 6 rfl ?_
            refine w_aload_n C dX7_costs_62 rfl 0 rfl ?_
            refine w_getr C dX7_costs_63 flX7_28 gM0_8 ?_
            refine w_iload_n C dX7_costs_66 rfl 1 rfl ?_
            refine x_iald C dX7_costs_67 aM7 h (fun v10 h => ?_)
            refine w_icmp_ge C 185 dX7_costs_68 (by decide) h (fun h => ?_) (fun h => ?_)
            · refine w_iload_n C dX7_costs_185 rfl 3 rfl ?_
              exact w_iret C dX7_costs_186 h
            refine w_aload_n C dX7_costs_71 rfl 0 rfl ?_
            refine w_getr C dX7_costs_72 flX7_31 gM0_9 ?_
            refine w_bipush (v := 40) C dX7_costs_75 (by decide) ?_
            refine w_iload_n C dX7_costs_77 rfl 1 rfl ?_
            refine w_imul C dX7_costs_78 ?_
            refine w_iload C dX7_costs_79 6 rfl ?_
            refine w_iadd C dX7_costs_81 ?_
            refine x_lald C dX7_costs_82 aM8 h (fun u11 h => ?_)
            refine w_lstore C dX7_costs_83 (by decide) [(7, .long u11), (0, rf Y 0), (1, .int a1), (2, .int a2), (3, .int v6), (4, .int v7), (5, .int v8), (6, .int v9)] rfl ?_
            refine w_aload_n C dX7_costs_85 rfl 1 rfl ?_
            refine w_lload C dX7_costs_86 0 rfl ?_
            refine p_Vi C dX7_costs_88 h (fun _ e => mX7_isCamp e) lnX7_160 mvX7_isCamp bM0 rfl ⟨Nat.le_of_ble_eq_true rfl, Nat.le_of_ble_eq_true rfl⟩ [] rfl (Nat.le_of_ble_eq_true rfl) (fun v12 h => ?_)
            refine w_if_ne C 101 dX7_costs_91 (by decide) h (fun h => ?_) (fun h => ?_)
            · refine w_lload C dX7_costs_101 0 rfl ?_
              refine w_l2i C dX7_costs_103 ?_
              refine w_topi h (fun v13 h => ?_)
              refine w_istore C dX7_costs_104 (by decide) [(9, .int v13), (7, .long u11), (0, rf Y 0), (1, .int a1), (2, .int a2), (3, .int v6), (4, .int v7), (5, .int v8), (6, .int v9)] rfl ?_
              refine w_iload_n C dX7_costs_106 rfl 5 rfl ?_
              refine w_iload C dX7_costs_107 6 rfl ?_
              refine w_join (fun J131 => ∀ (v14 : Int32), J131 v14 = some R → WS VM Y X 10 1 25 (some (.int R.2), R.1) S 131 [(0, rf Y 0), (1, .int a1), (2, .int a2), (4, .int v7), (5, .int v8), (6, .int v9), (9, .int v13)] [.int v14, .int v6]) h ?_ (fun J131 hJ131 h => ?_)
              · intro v14 h
                refine w_iadd C dX7_costs_131 ?_
                refine w_topi h (fun v15 h => ?_)
                refine w_istore_n C dX7_costs_132 rfl (by decide) [(3, .int v15), (0, rf Y 0), (1, .int a1), (2, .int a2), (4, .int v7), (5, .int v8), (6, .int v9), (9, .int v13)] rfl ?_
                refine w_iload C dX7_costs_133 7 rfl ?_
                refine w_iload C dX7_costs_135 4 rfl ?_
                refine w_join (fun J158 => ∀ (v16 : Int32), J158 v16 = some R → WS VM Y X 10 1 25 (some (.int R.2), R.1) S 158 [(0, rf Y 0), (1, .int a1), (2, .int a2), (3, .int v15), (6, .int v9), (9, .int v13)] [.int v16]) h ?_ (fun J158 hJ158 h => ?_)
                · intro v16 h
                  refine w_istore C dX7_costs_158 (by decide) [(5, .int v16), (0, rf Y 0), (1, .int a1), (2, .int a2), (3, .int v15), (6, .int v9), (9, .int v13)] rfl ?_
                  refine w_iload C dX7_costs_160 6 rfl ?_
                  refine w_istore C dX7_costs_162 (by decide) [(4, .int v13), (5, .int v16), (0, rf Y 0), (1, .int a1), (2, .int a2), (3, .int v15), (6, .int v9), (9, .int v13)] rfl ?_
                  refine w_iload_n C dX7_costs_164 rfl 5 rfl ?_
                  refine w_aload_n C dX7_costs_165 rfl 2 rfl ?_
                  refine w_iload C dX7_costs_166 7 rfl ?_
                  refine w_iload_n C dX7_costs_168 rfl 4 rfl ?_
                  refine w_iload C dX7_costs_169 6 rfl ?_
                  refine w_iadd C dX7_costs_171 ?_
                  refine w_iload C dX7_costs_172 1 rfl ?_
                  refine p_Vi C dX7_costs_174 h (fun _ e => mX7_monthCost e) lnX7_182 mvX7_monthCost bM0 rfl ⟨Nat.le_of_ble_eq_true rfl, Nat.le_of_ble_eq_true rfl⟩ [.int v15] rfl (Nat.le_of_ble_eq_true rfl) (fun v17 h => ?_)
                  refine w_iadd C dX7_costs_177 ?_
                  refine w_topi h (fun v18 h => ?_)
                  refine w_istore_n C dX7_costs_178 rfl (by decide) [(3, .int v18), (4, .int v13), (5, .int v16), (0, rf Y 0), (1, .int a1), (2, .int a2), (6, .int v9), (9, .int v13)] rfl ?_
                  refine x_iinc C dX7_costs_179 6 rfl 1 (by decide) h (by decide) (fun v19 => [(6, .int v19), (3, .int v18), (4, .int v13), (5, .int v16), (0, rf Y 0), (1, .int a1), (2, .int a2), (9, .int v13)]) (fun _ => rfl) (fun v19 h => ?_)
                  refine w_goto C 60 dX7_costs_182 (by decide) ?_
                  exact w_sub [4, 5, 6, 1, 2, 3, 0] rfl (ih _ _ _ _ h)
                refine w_icmp_eq C 144 dX7_costs_137 (by decide) h (fun h => ?_) (fun h => ?_)
                · refine w_iload C dX7_costs_144 5 rfl ?_
                  refine w_iconst (v := 3) C dX7_costs_146 (by decide) ?_
                  refine w_icmp_ge C 157 dX7_costs_147 (by decide) h (fun h => ?_) (fun h => ?_)
                  · refine w_iconst (v := 3) C dX7_costs_157 (by decide) ?_
                    exact w_sub [1, 2, 3, 0, 6, 7] rfl (hJ158 _ h)
                  refine w_iload C dX7_costs_150 5 rfl ?_
                  refine w_iconst (v := 1) C dX7_costs_152 (by decide) ?_
                  refine w_iadd C dX7_costs_153 ?_
                  refine w_goto C 158 dX7_costs_154 (by decide) ?_
                  exact w_sub [1, 2, 3, 0, 6, 7] rfl (hJ158 _ h)
                refine w_iconst (v := 1) C dX7_costs_140 (by decide) ?_
                refine w_goto C 158 dX7_costs_141 (by decide) ?_
                exact w_sub [1, 2, 3, 0, 6, 7] rfl (hJ158 _ h)
              refine w_join (fun J130 => J130  = some R → WS VM Y X 10 1 25 (some (.int R.2), R.1) S 130 [(0, rf Y 0), (1, .int a1), (2, .int a2), (4, .int v7), (5, .int v8), (6, .int v9), (9, .int v13)] [.int v6]) h ?_ (fun J130 hJ130 h => ?_)
              · intro  h
                refine w_iconst (v := 0) C dX7_costs_130 (by decide) ?_
                exact w_sub [0, 1, 2, 3, 4, 5, 6] rfl (hJ131 _ h)
              refine w_if_lt C 130 dX7_costs_109 (by decide) h (fun h => ?_) (fun h => ?_)
              · exact w_sub [2, 3, 4, 6, 7, 8, 0] rfl (hJ130  h)
              refine w_iload C dX7_costs_112 0 rfl ?_
              refine w_iload C dX7_costs_114 6 rfl ?_
              refine w_icmp_eq C 130 dX7_costs_116 (by decide) h (fun h => ?_) (fun h => ?_)
              · exact w_sub [2, 3, 4, 6, 7, 8, 0] rfl (hJ130  h)
              refine w_aload_n C dX7_costs_119 rfl 2 rfl ?_
              refine w_iload C dX7_costs_120 6 rfl ?_
              refine w_iload C dX7_costs_122 0 rfl ?_
              refine p_Vi C dX7_costs_124 h (fun _ e => mX7_moveCost e) lnX7_172 mvX7_moveCost bM0 rfl ⟨Nat.le_of_ble_eq_true rfl, Nat.le_of_ble_eq_true rfl⟩ [.int v6] rfl (Nat.le_of_ble_eq_true rfl) (fun v20 h => ?_)
              refine w_goto C 131 dX7_costs_127 (by decide) ?_
              exact w_sub [2, 3, 4, 6, 7, 8, 0] rfl (hJ131 _ h)
            exact w_sub [1] rfl (hJ94  h)
        exact w_sub [4, 5, 6, 3, 2, 1, 0] rfl (hL60 _ _ _ _ _ h)
      refine w_aload_n C dX7_costs_42 rfl 0 rfl ?_
      refine w_ldc C dX7_costs_43 kcX7_54 ?_
      refine w_Vi C dX7_costs_45 h (fun _ e => mX7_finds e) lnX7_75 mvX7_finds bM0 rfl ⟨Nat.le_of_ble_eq_true rfl, Nat.le_of_ble_eq_true rfl⟩ [] rfl (Nat.le_of_ble_eq_true rfl) (fun S21 v22 h => ?_)
      exact w_iret C dX7_costs_48 h
    refine w_aload_n C dX7_costs_23 rfl 0 rfl ?_
    refine w_ldc C dX7_costs_24 kcX7_249 ?_
    refine w_Vi C dX7_costs_26 h (fun _ e => mX7_finds e) lnX7_75 mvX7_finds bM0 rfl ⟨Nat.le_of_ble_eq_true rfl, Nat.le_of_ble_eq_true rfl⟩ [] rfl (Nat.le_of_ble_eq_true rfl) (fun S23 v24 h => ?_)
    exact w_iret C dX7_costs_29 h
  refine w_aload_n C dX7_costs_7 rfl 0 rfl ?_
  refine w_ldc C dX7_costs_8 kcX7_54 ?_
  refine w_Vi C dX7_costs_10 h (fun _ e => mX7_finds e) lnX7_75 mvX7_finds bM0 rfl ⟨Nat.le_of_ble_eq_true rfl, Nat.le_of_ble_eq_true rfl⟩ [] rfl (Nat.le_of_ble_eq_true rfl) (fun S25 v26 h => ?_)
  exact w_iret C dX7_costs_13 h)
def fX7_read_L32 (F : Nat) (S : St) (a1 : Int32) (J69 : Int32 → Option (St × Int32)) : Nat → Int32 → Option (St × Int32)
  | 0, _ => none
  | G32 + 1, v4 => ldi S 7 a1 4 fun v5 => if v5 ≤ v4 then (some (S, 0)) else (if (8) ≤ v4 then (J69 v4) else (ldj S 8 (((40) * a1) + v4) 160 fun u6 => bv (fX7_spare F S v4) fun v7 => if (lg_cmp u6 (Int32.toInt64 v7)) = 0 then (pl (v4 + 1) fun v8 => fX7_read_L32 F S a1 J69 G32 v8) else (J69 v4)))
def fX7_read (F : Nat) (S : St) (a1 : Int32) : Option (St × Int32) := bv (fX7_isSheet S a1) fun v1 => if v1 = 0 then (bq (fX7_finds S (-1000000001)) fun S11 v12 => some (S11, v12)) else (ldi S 6 a1 4 fun v2 => if 0 ≤ v2 then (pl (fun (v3 : Int32) => some (S, (v3 + (1)))) fun J69 => fX7_read_L32 F S a1 J69 F (0)) else (bq (fX7_finds S (-1000000006)) fun S9 v10 => some (S9, v10)))
set_option maxRecDepth 100000 in
theorem mX7_read {Y : YT} {F : Nat} {S : St} {a1 : Int32} {R : St × Int32} (h : fX7_read F S a1 = some R) : Mc VM Y yX7_read cX7_read 3 (some .int) 7 151 [rf Y 0, .int a1] S (some (.int R.2), R.1) :=
  Mc.start [(0, rf Y 0), (1, .int a1)] rfl pnX7 (Nat.le_of_ble_eq_true rfl) (fun X (C : Ok VM Y X RX7 cX7_read 3 (some .int)) => by
  unfold fX7_read at h
  refine w_iload_n C dX7_read_0 rfl 1 rfl ?_
  refine p_Si C dX7_read_1 h (fun _ e => mX7_isSheet e) lnX7_246 msX7_isSheet rfl ⟨Nat.le_of_ble_eq_true rfl, Nat.le_of_ble_eq_true rfl⟩ [] rfl (Nat.le_of_ble_eq_true rfl) (fun v1 h => ?_)
  refine w_if_ne C 14 dX7_read_4 (by decide) h (fun h => ?_) (fun h => ?_)
  · refine w_aload_n C dX7_read_14 rfl 0 rfl ?_
    refine w_getr C dX7_read_15 flX7_25 gM0_7 ?_
    refine w_iload_n C dX7_read_18 rfl 1 rfl ?_
    refine x_iald C dX7_read_19 aM6 h (fun v2 h => ?_)
    refine w_if_ge C 30 dX7_read_20 (by decide) h (fun h => ?_) (fun h => ?_)
    · refine w_iconst (v := 0) C dX7_read_30 (by decide) ?_
      refine w_istore_n C dX7_read_31 rfl (by decide) [(2, .int (0)), (0, rf Y 0), (1, .int a1)] rfl ?_
      refine w_join (fun J69 => ∀ (v3 : Int32), J69 v3 = some R → WS VM Y X 3 7 151 (some (.int R.2), R.1) S 69 [(2, .int v3)] []) h ?_ (fun J69 hJ69 h => ?_)
      · intro v3 h
        refine w_iload_n C dX7_read_69 rfl 0 rfl ?_
        refine w_iconst (v := 1) C dX7_read_70 (by decide) ?_
        refine w_iadd C dX7_read_71 ?_
        exact w_iret C dX7_read_72 h
      have hL32 : ∀ (G32 : Nat) (v4 : Int32), fX7_read_L32 F S a1 J69 G32 v4 = some R → WS VM Y X 3 7 151 (some (.int R.2), R.1) S 32 [(0, rf Y 0), (1, .int a1), (2, .int v4)] [] := by
        intro G32
        induction G32 with
        | zero => intro v4 h; exact nomatch (show (none : Option (St × Int32)) = some R from h)
        | succ G32 ih =>
          intro v4 h
          rw [fX7_read_L32] at h
          refine w_iload_n C dX7_read_32 rfl 2 rfl ?_
          refine w_aload_n C dX7_read_33 rfl 0 rfl ?_
          refine w_getr C dX7_read_34 flX7_28 gM0_8 ?_
          refine w_iload_n C dX7_read_37 rfl 1 rfl ?_
          refine x_iald C dX7_read_38 aM7 h (fun v5 h => ?_)
          refine w_icmp_ge C 79 dX7_read_39 (by decide) h (fun h => ?_) (fun h => ?_)
          · refine w_iconst (v := 0) C dX7_read_79 (by decide) ?_
            exact w_iret C dX7_read_80 h
          refine w_iload_n C dX7_read_42 rfl 2 rfl ?_
          refine w_bipush (v := 8) C dX7_read_43 (by decide) ?_
          refine w_icmp_ge C 69 dX7_read_45 (by decide) h (fun h => ?_) (fun h => ?_)
          · exact w_sub [2] rfl (hJ69 _ h)
          refine w_aload_n C dX7_read_48 rfl 0 rfl ?_
          refine w_getr C dX7_read_49 flX7_31 gM0_9 ?_
          refine w_bipush (v := 40) C dX7_read_52 (by decide) ?_
          refine w_iload_n C dX7_read_54 rfl 1 rfl ?_
          refine w_imul C dX7_read_55 ?_
          refine w_iload_n C dX7_read_56 rfl 2 rfl ?_
          refine w_iadd C dX7_read_57 ?_
          refine x_lald C dX7_read_58 aM8 h (fun u6 h => ?_)
          refine w_aload_n C dX7_read_59 rfl 0 rfl ?_
          refine w_iload_n C dX7_read_60 rfl 2 rfl ?_
          refine p_Vi C dX7_read_61 h (fun _ e => mX7_spare e) lnX7_127 mvX7_spare bM0 rfl ⟨Nat.le_of_ble_eq_true rfl, Nat.le_of_ble_eq_true rfl⟩ [.long u6] rfl (Nat.le_of_ble_eq_true rfl) (fun v7 h => ?_)
          refine w_i2l C dX7_read_64 ?_
          refine w_lcmp C dX7_read_65 ?_
          refine w_if_eq C 73 dX7_read_66 (by decide) h (fun h => ?_) (fun h => ?_)
          · refine x_iinc C dX7_read_73 2 rfl 1 (by decide) h (by decide) (fun v8 => [(2, .int v8), (0, rf Y 0), (1, .int a1)]) (fun _ => rfl) (fun v8 h => ?_)
            refine w_goto C 32 dX7_read_76 (by decide) ?_
            exact w_sub [1, 2, 0] rfl (ih _ h)
          exact w_sub [2] rfl (hJ69 _ h)
      exact w_sub [1, 2, 0] rfl (hL32 _ _ h)
    refine w_aload_n C dX7_read_23 rfl 0 rfl ?_
    refine w_ldc C dX7_read_24 kcX7_249 ?_
    refine w_Vi C dX7_read_26 h (fun _ e => mX7_finds e) lnX7_75 mvX7_finds bM0 rfl ⟨Nat.le_of_ble_eq_true rfl, Nat.le_of_ble_eq_true rfl⟩ [] rfl (Nat.le_of_ble_eq_true rfl) (fun S9 v10 h => ?_)
    exact w_iret C dX7_read_29 h
  refine w_aload_n C dX7_read_7 rfl 0 rfl ?_
  refine w_ldc C dX7_read_8 kcX7_54 ?_
  refine w_Vi C dX7_read_10 h (fun _ e => mX7_finds e) lnX7_75 mvX7_finds bM0 rfl ⟨Nat.le_of_ble_eq_true rfl, Nat.le_of_ble_eq_true rfl⟩ [] rfl (Nat.le_of_ble_eq_true rfl) (fun S11 v12 h => ?_)
  exact w_iret C dX7_read_13 h)
def fX7_image_L2 (J27 : St → Option (St × Int32)) : Nat → St → Int32 → Option (St × Int32)
  | 0, _, _ => none
  | G2 + 1, S3, v4 => if (216) ≤ v4 then (J27 S3) else (ldi S3 1 v4 216 fun v5 => sti S3 2 v4 216 v5 fun S6 => pl (v4 + 1) fun v7 => fX7_image_L2 J27 G2 S6 v7)
def fX7_image (F : Nat) (S : St) : Option (St × Int32) := pl (fun (S1 : St) => putz S1 0 3 (1) fun S2 => some (S2, 1)) fun J27 => fX7_image_L2 J27 F S (0)
set_option maxRecDepth 100000 in
theorem mX7_image {Y : YT} {F : Nat} {S : St} {R : St × Int32} (h : fX7_image F S  = some R) : Mc VM Y yX7_image cX7_image 2 (some .int) 0 0 [rf Y 0] S (some (.int R.2), R.1) :=
  Mc.start [(0, rf Y 0)] rfl pnX7 (Nat.le_of_ble_eq_true rfl) (fun X (C : Ok VM Y X RX7 cX7_image 2 (some .int)) => by
  unfold fX7_image at h
  refine w_iconst (v := 0) C dX7_image_0 (by decide) ?_
  refine w_istore_n C dX7_image_1 rfl (by decide) [(1, .int (0)), (0, rf Y 0)] rfl ?_
  refine w_join (fun J27 => ∀ (S1 : St), J27 S1 = some R → WS VM Y X 2 0 0 (some (.int R.2), R.1) S1 27 [(0, rf Y 0)] []) h ?_ (fun J27 hJ27 h => ?_)
  · intro S1 h
    refine w_aload_n C dX7_image_27 rfl 0 rfl ?_
    refine w_iconst (v := 1) C dX7_image_28 (by decide) ?_
    refine x_putz C dX7_image_29 fpX7_254 iM0_3 h (fun S2 h => ?_)
    refine w_iconst (v := 1) C dX7_image_32 (by decide) ?_
    exact w_iret C dX7_image_33 h
  have hL2 : ∀ (G2 : Nat) (S3 : St) (v4 : Int32), fX7_image_L2 J27 G2 S3 v4 = some R → WS VM Y X 2 0 0 (some (.int R.2), R.1) S3 2 [(0, rf Y 0), (1, .int v4)] [] := by
    intro G2
    induction G2 with
    | zero => intro S3 v4 h; exact nomatch (show (none : Option (St × Int32)) = some R from h)
    | succ G2 ih =>
      intro S3 v4 h
      rw [fX7_image_L2] at h
      refine w_iload_n C dX7_image_2 rfl 1 rfl ?_
      refine w_sipush (v := 216) C dX7_image_3 (by decide) ?_
      refine w_icmp_ge C 27 dX7_image_6 (by decide) h (fun h => ?_) (fun h => ?_)
      · exact w_sub [0] rfl (hJ27 _ h)
      refine w_aload_n C dX7_image_9 rfl 0 rfl ?_
      refine w_getr C dX7_image_10 flX7_13 gM0_1 ?_
      refine w_iload_n C dX7_image_13 rfl 1 rfl ?_
      refine w_aload_n C dX7_image_14 rfl 0 rfl ?_
      refine w_getr C dX7_image_15 flX7_7 gM0_0 ?_
      refine w_iload_n C dX7_image_18 rfl 1 rfl ?_
      refine x_iald C dX7_image_19 aM1 h (fun v5 h => ?_)
      refine x_iast C dX7_image_20 aM2 h (fun S6 h => ?_)
      refine x_iinc C dX7_image_21 1 rfl 1 (by decide) h (by decide) (fun v7 => [(1, .int v7), (0, rf Y 0)]) (fun _ => rfl) (fun v7 h => ?_)
      refine w_goto C 2 dX7_image_24 (by decide) ?_
      exact w_sub [1, 0] rfl (ih _ _ h)
  exact w_sub [1, 0] rfl (hL2 _ _ _ h))
def fX7_undo_L16 (J41 : St → Option (St × Int32)) : Nat → St → Int32 → Option (St × Int32)
  | 0, _, _ => none
  | G16 + 1, S3, v4 => if (216) ≤ v4 then (J41 S3) else (ldi S3 2 v4 216 fun v5 => sti S3 1 v4 216 v5 fun S6 => pl (v4 + 1) fun v7 => fX7_undo_L16 J41 G16 S6 v7)
def fX7_undo (F : Nat) (S : St) : Option (St × Int32) := if (S.1 0 3) = 0 then (bq (fX7_finds S (-1000000004)) fun S8 v9 => some (S8, v9)) else (pl (fun (S1 : St) => ldi S1 1 (0) 216 fun v2 => some (S1, v2)) fun J41 => fX7_undo_L16 J41 F S (0))
set_option maxRecDepth 100000 in
theorem mX7_undo {Y : YT} {F : Nat} {S : St} {R : St × Int32} (h : fX7_undo F S  = some R) : Mc VM Y yX7_undo cX7_undo 2 (some .int) 1 21 [rf Y 0] S (some (.int R.2), R.1) :=
  Mc.start [(0, rf Y 0)] rfl pnX7 (Nat.le_of_ble_eq_true rfl) (fun X (C : Ok VM Y X RX7 cX7_undo 2 (some .int)) => by
  unfold fX7_undo at h
  refine w_aload_n C dX7_undo_0 rfl 0 rfl ?_
  refine w_geti C dX7_undo_1 flX7_254 iM0_3 ?_
  refine w_if_ne C 14 dX7_undo_4 (by decide) h (fun h => ?_) (fun h => ?_)
  · refine w_iconst (v := 0) C dX7_undo_14 (by decide) ?_
    refine w_istore_n C dX7_undo_15 rfl (by decide) [(1, .int (0)), (0, rf Y 0)] rfl ?_
    refine w_join (fun J41 => ∀ (S1 : St), J41 S1 = some R → WS VM Y X 2 1 21 (some (.int R.2), R.1) S1 41 [(0, rf Y 0)] []) h ?_ (fun J41 hJ41 h => ?_)
    · intro S1 h
      refine w_aload_n C dX7_undo_41 rfl 0 rfl ?_
      refine w_getr C dX7_undo_42 flX7_7 gM0_0 ?_
      refine w_iconst (v := 0) C dX7_undo_45 (by decide) ?_
      refine x_iald C dX7_undo_46 aM1 h (fun v2 h => ?_)
      exact w_iret C dX7_undo_47 h
    have hL16 : ∀ (G16 : Nat) (S3 : St) (v4 : Int32), fX7_undo_L16 J41 G16 S3 v4 = some R → WS VM Y X 2 1 21 (some (.int R.2), R.1) S3 16 [(0, rf Y 0), (1, .int v4)] [] := by
      intro G16
      induction G16 with
      | zero => intro S3 v4 h; exact nomatch (show (none : Option (St × Int32)) = some R from h)
      | succ G16 ih =>
        intro S3 v4 h
        rw [fX7_undo_L16] at h
        refine w_iload_n C dX7_undo_16 rfl 1 rfl ?_
        refine w_sipush (v := 216) C dX7_undo_17 (by decide) ?_
        refine w_icmp_ge C 41 dX7_undo_20 (by decide) h (fun h => ?_) (fun h => ?_)
        · exact w_sub [0] rfl (hJ41 _ h)
        refine w_aload_n C dX7_undo_23 rfl 0 rfl ?_
        refine w_getr C dX7_undo_24 flX7_7 gM0_0 ?_
        refine w_iload_n C dX7_undo_27 rfl 1 rfl ?_
        refine w_aload_n C dX7_undo_28 rfl 0 rfl ?_
        refine w_getr C dX7_undo_29 flX7_13 gM0_1 ?_
        refine w_iload_n C dX7_undo_32 rfl 1 rfl ?_
        refine x_iald C dX7_undo_33 aM2 h (fun v5 h => ?_)
        refine x_iast C dX7_undo_34 aM1 h (fun S6 h => ?_)
        refine x_iinc C dX7_undo_35 1 rfl 1 (by decide) h (by decide) (fun v7 => [(1, .int v7), (0, rf Y 0)]) (fun _ => rfl) (fun v7 h => ?_)
        refine w_goto C 16 dX7_undo_38 (by decide) ?_
        exact w_sub [1, 0] rfl (ih _ _ h)
    exact w_sub [1, 0] rfl (hL16 _ _ _ h)
  refine w_aload_n C dX7_undo_7 rfl 0 rfl ?_
  refine w_ldc C dX7_undo_8 kcX7_138 ?_
  refine w_Vi C dX7_undo_10 h (fun _ e => mX7_finds e) lnX7_75 mvX7_finds bM0 rfl ⟨Nat.le_of_ble_eq_true rfl, Nat.le_of_ble_eq_true rfl⟩ [] rfl (Nat.le_of_ble_eq_true rfl) (fun S8 v9 h => ?_)
  exact w_iret C dX7_undo_13 h)
def fX7_tear (S : St) : Option (St × Int32) := pl ((S.1 0 3)) fun v1 => putz S 0 3 (0) fun S2 => if v1 = 0 then (some (S2, 0)) else (some (S2, 1))
set_option maxRecDepth 100000 in
theorem mX7_tear {Y : YT} {S : St} {R : St × Int32} (h : fX7_tear  S  = some R) : Mc VM Y yX7_tear cX7_tear 2 (some .int) 0 0 [rf Y 0] S (some (.int R.2), R.1) :=
  Mc.start [(0, rf Y 0)] rfl pnX7 (Nat.le_of_ble_eq_true rfl) (fun X (C : Ok VM Y X RX7 cX7_tear 2 (some .int)) => by
  unfold fX7_tear at h
  refine w_aload_n C dX7_tear_0 rfl 0 rfl ?_
  refine w_geti C dX7_tear_1 flX7_254 iM0_3 ?_
  refine w_topi h (fun v1 h => ?_)
  refine w_istore_n C dX7_tear_4 rfl (by decide) [(1, .int v1), (0, rf Y 0)] rfl ?_
  refine w_aload_n C dX7_tear_5 rfl 1 rfl ?_
  refine w_iconst (v := 0) C dX7_tear_6 (by decide) ?_
  refine x_putz C dX7_tear_7 fpX7_254 iM0_3 h (fun S2 h => ?_)
  refine w_iload_n C dX7_tear_10 rfl 0 rfl ?_
  refine w_if_eq C 18 dX7_tear_11 (by decide) h (fun h => ?_) (fun h => ?_)
  · refine w_iconst (v := 0) C dX7_tear_18 (by decide) ?_
    exact w_iret C dX7_tear_19 h
  refine w_iconst (v := 1) C dX7_tear_14 (by decide) ?_
  refine w_goto C 19 dX7_tear_15 (by decide) ?_
  exact w_iret C dX7_tear_19 h)
def fX7_ofThere_L4 (S : St) (a1 : Int32) : Nat → Int32 → Int32 → Option (Int32)
  | 0, _, _ => none
  | G4 + 1, v1, v2 => ldi S 1 (0) 216 fun v3 => if v3 ≤ v2 then (some v1) else (bv (fX7_isThere S v2) fun v4 => pl (fun (v5 : Int32) => pl ((v1 + v5)) fun v6 => pl (v2 + 1) fun v7 => fX7_ofThere_L4 S a1 G4 v6 v7) fun J41 => if v4 = 0 then (J41 (0)) else (if a1 = 0 then (J41 (1)) else (bv (fX7_has S v2 (3)) fun v8 => J41 v8)))
def fX7_ofThere (F : Nat) (S : St) (a1 : Int32) : Option (Int32) := fX7_ofThere_L4 S a1 F (0) (0)
set_option maxRecDepth 100000 in
theorem mX7_ofThere {Y : YT} {F : Nat} {S : St} {a1 : Int32} {R : Int32} (h : fX7_ofThere F S a1 = some R) : Mc VM Y yX7_ofThere cX7_ofThere 4 (some .int) 2 43 [rf Y 0, .int a1] S (some (.int R), S) :=
  Mc.start [(0, rf Y 0), (1, .int a1)] rfl pnX7 (Nat.le_of_ble_eq_true rfl) (fun X (C : Ok VM Y X RX7 cX7_ofThere 4 (some .int)) => by
  unfold fX7_ofThere at h
  refine w_iconst (v := 0) C dX7_ofThere_0 (by decide) ?_
  refine w_istore_n C dX7_ofThere_1 rfl (by decide) [(2, .int (0)), (0, rf Y 0), (1, .int a1)] rfl ?_
  refine w_iconst (v := 0) C dX7_ofThere_2 (by decide) ?_
  refine w_istore_n C dX7_ofThere_3 rfl (by decide) [(3, .int (0)), (2, .int (0)), (0, rf Y 0), (1, .int a1)] rfl ?_
  have hL4 : ∀ (G4 : Nat) (v1 : Int32) (v2 : Int32), fX7_ofThere_L4 S a1 G4 v1 v2 = some R → WS VM Y X 4 2 43 (some (.int R), S) S 4 [(0, rf Y 0), (1, .int a1), (2, .int v1), (3, .int v2)] [] := by
    intro G4
    induction G4 with
    | zero => intro v1 v2 h; exact nomatch (show (none : Option (Int32)) = some R from h)
    | succ G4 ih =>
      intro v1 v2 h
      rw [fX7_ofThere_L4] at h
      refine w_iload_n C dX7_ofThere_4 rfl 3 rfl ?_
      refine w_aload_n C dX7_ofThere_5 rfl 0 rfl ?_
      refine w_getr C dX7_ofThere_6 flX7_7 gM0_0 ?_
      refine w_iconst (v := 0) C dX7_ofThere_9 (by decide) ?_
      refine x_iald C dX7_ofThere_10 aM1 h (fun v3 h => ?_)
      refine w_icmp_ge C 49 dX7_ofThere_11 (by decide) h (fun h => ?_) (fun h => ?_)
      · refine w_iload_n C dX7_ofThere_49 rfl 2 rfl ?_
        exact p_iret C dX7_ofThere_50 h
      refine w_iload_n C dX7_ofThere_14 rfl 2 rfl ?_
      refine w_aload_n C dX7_ofThere_15 rfl 0 rfl ?_
      refine w_iload_n C dX7_ofThere_16 rfl 3 rfl ?_
      refine p_Vi C dX7_ofThere_17 h (fun _ e => mX7_isThere e) lnX7_84 mvX7_isThere bM0 rfl ⟨Nat.le_of_ble_eq_true rfl, Nat.le_of_ble_eq_true rfl⟩ [.int v1] rfl (Nat.le_of_ble_eq_true rfl) (fun v4 h => ?_)
      refine w_join (fun J41 => ∀ (v5 : Int32), J41 v5 = some R → WS VM Y X 4 2 43 (some (.int R), S) S 41 [(0, rf Y 0), (1, .int a1), (3, .int v2)] [.int v5, .int v1]) h ?_ (fun J41 hJ41 h => ?_)
      · intro v5 h
        refine w_iadd C dX7_ofThere_41 ?_
        refine w_topi h (fun v6 h => ?_)
        refine w_istore_n C dX7_ofThere_42 rfl (by decide) [(2, .int v6), (0, rf Y 0), (1, .int a1), (3, .int v2)] rfl ?_
        refine x_iinc C dX7_ofThere_43 3 rfl 1 (by decide) h (by decide) (fun v7 => [(3, .int v7), (2, .int v6), (0, rf Y 0), (1, .int a1)]) (fun _ => rfl) (fun v7 h => ?_)
        refine w_goto C 4 dX7_ofThere_46 (by decide) ?_
        exact w_sub [2, 3, 1, 0] rfl (ih _ _ h)
      refine w_if_ne C 27 dX7_ofThere_20 (by decide) h (fun h => ?_) (fun h => ?_)
      · refine w_iload_n C dX7_ofThere_27 rfl 1 rfl ?_
        refine w_if_eq C 40 dX7_ofThere_28 (by decide) h (fun h => ?_) (fun h => ?_)
        · refine w_iconst (v := 1) C dX7_ofThere_40 (by decide) ?_
          exact w_sub [0, 1, 3] rfl (hJ41 _ h)
        refine w_aload_n C dX7_ofThere_31 rfl 0 rfl ?_
        refine w_iload_n C dX7_ofThere_32 rfl 3 rfl ?_
        refine w_iconst (v := 3) C dX7_ofThere_33 (by decide) ?_
        refine p_Vi C dX7_ofThere_34 h (fun _ e => mX7_has e) lnX7_55 mvX7_has bM0 rfl ⟨Nat.le_of_ble_eq_true rfl, Nat.le_of_ble_eq_true rfl⟩ [.int v1] rfl (Nat.le_of_ble_eq_true rfl) (fun v8 h => ?_)
        refine w_goto C 41 dX7_ofThere_37 (by decide) ?_
        exact w_sub [0, 1, 3] rfl (hJ41 _ h)
      refine w_iconst (v := 0) C dX7_ofThere_23 (by decide) ?_
      refine w_goto C 41 dX7_ofThere_24 (by decide) ?_
      exact w_sub [0, 1, 3] rfl (hJ41 _ h)
  exact w_sub [2, 3, 1, 0] rfl (hL4 _ _ _ h))
def fX7_count (F : Nat) (S : St) (a1 : Int32) : Option (St × Int32) := if a1 = 0 then (ldi S 1 (0) 216 fun v1 => some (S, v1)) else if a1 = 1 then (bv (fX7_ofThere F S (0)) fun v2 => some (S, v2)) else if a1 = 2 then (ldi S 1 (1) 216 fun v3 => some (S, v3)) else if a1 = 3 then (ldi S 1 (2) 216 fun v4 => some (S, v4)) else if a1 = 4 then (some (S, (S.1 0 6))) else if a1 = 5 then (bv (fX7_ofThere F S (1)) fun v5 => some (S, v5)) else if a1 = 6 then (ldi S 1 (8) 216 fun v6 => some (S, v6)) else (bq (fX7_finds S (-1000000001)) fun S7 v8 => some (S7, v8))
set_option maxRecDepth 100000 in
theorem mX7_count {Y : YT} {F : Nat} {S : St} {a1 : Int32} {R : St × Int32} (h : fX7_count F S a1 = some R) : Mc VM Y yX7_count cX7_count 2 (some .int) 3 66 [rf Y 0, .int a1] S (some (.int R.2), R.1) :=
  Mc.start [(0, rf Y 0), (1, .int a1)] rfl pnX7 (Nat.le_of_ble_eq_true rfl) (fun X (C : Ok VM Y X RX7 cX7_count 2 (some .int)) => by
  unfold fX7_count at h
  refine w_iload_n C dX7_count_0 rfl 1 rfl ?_
  by_cases c0 : a1 = 0
  · have h := ite_t c0 h
    refine w_tabIn C 44 dX7_count_1 c0 rfl (by decide) (by decide) rfl (by decide) ?_
    refine w_aload_n C dX7_count_44 rfl 0 rfl ?_
    refine w_getr C dX7_count_45 flX7_7 gM0_0 ?_
    refine w_iconst (v := 0) C dX7_count_48 (by decide) ?_
    refine x_iald C dX7_count_49 aM1 h (fun v1 h => ?_)
    exact w_iret C dX7_count_50 h
  have h := ite_f c0 h
  by_cases c1 : a1 = 1
  · have h := ite_t c1 h
    refine w_tabIn C 51 dX7_count_1 c1 rfl (by decide) (by decide) rfl (by decide) ?_
    refine w_aload_n C dX7_count_51 rfl 0 rfl ?_
    refine w_iconst (v := 0) C dX7_count_52 (by decide) ?_
    refine p_Vi C dX7_count_53 h (fun _ e => mX7_ofThere e) lnX7_257 mvX7_ofThere bM0 rfl ⟨Nat.le_of_ble_eq_true rfl, Nat.le_of_ble_eq_true rfl⟩ [] rfl (Nat.le_of_ble_eq_true rfl) (fun v2 h => ?_)
    exact w_iret C dX7_count_56 h
  have h := ite_f c1 h
  by_cases c2 : a1 = 2
  · have h := ite_t c2 h
    refine w_tabIn C 57 dX7_count_1 c2 rfl (by decide) (by decide) rfl (by decide) ?_
    refine w_aload_n C dX7_count_57 rfl 0 rfl ?_
    refine w_getr C dX7_count_58 flX7_7 gM0_0 ?_
    refine w_iconst (v := 1) C dX7_count_61 (by decide) ?_
    refine x_iald C dX7_count_62 aM1 h (fun v3 h => ?_)
    exact w_iret C dX7_count_63 h
  have h := ite_f c2 h
  by_cases c3 : a1 = 3
  · have h := ite_t c3 h
    refine w_tabIn C 64 dX7_count_1 c3 rfl (by decide) (by decide) rfl (by decide) ?_
    refine w_aload_n C dX7_count_64 rfl 0 rfl ?_
    refine w_getr C dX7_count_65 flX7_7 gM0_0 ?_
    refine w_iconst (v := 2) C dX7_count_68 (by decide) ?_
    refine x_iald C dX7_count_69 aM1 h (fun v4 h => ?_)
    exact w_iret C dX7_count_70 h
  have h := ite_f c3 h
  by_cases c4 : a1 = 4
  · have h := ite_t c4 h
    refine w_tabIn C 71 dX7_count_1 c4 rfl (by decide) (by decide) rfl (by decide) ?_
    refine w_aload_n C dX7_count_71 rfl 0 rfl ?_
    refine w_geti C dX7_count_72 flX7_192 iM0_6 ?_
    exact w_iret C dX7_count_75 h
  have h := ite_f c4 h
  by_cases c5 : a1 = 5
  · have h := ite_t c5 h
    refine w_tabIn C 76 dX7_count_1 c5 rfl (by decide) (by decide) rfl (by decide) ?_
    refine w_aload_n C dX7_count_76 rfl 0 rfl ?_
    refine w_iconst (v := 1) C dX7_count_77 (by decide) ?_
    refine p_Vi C dX7_count_78 h (fun _ e => mX7_ofThere e) lnX7_257 mvX7_ofThere bM0 rfl ⟨Nat.le_of_ble_eq_true rfl, Nat.le_of_ble_eq_true rfl⟩ [] rfl (Nat.le_of_ble_eq_true rfl) (fun v5 h => ?_)
    exact w_iret C dX7_count_81 h
  have h := ite_f c5 h
  by_cases c6 : a1 = 6
  · have h := ite_t c6 h
    refine w_tabIn C 82 dX7_count_1 c6 rfl (by decide) (by decide) rfl (by decide) ?_
    refine w_aload_n C dX7_count_82 rfl 0 rfl ?_
    refine w_getr C dX7_count_83 flX7_7 gM0_0 ?_
    refine w_bipush (v := 8) C dX7_count_86 (by decide) ?_
    refine x_iald C dX7_count_88 aM1 h (fun v6 h => ?_)
    exact w_iret C dX7_count_89 h
  have h := ite_f c6 h
  refine w_tabOut C 90 dX7_count_1 (by have n0 := lv_neT c0 (a := 0) rfl; have n1 := lv_neT c1 (a := 1) rfl; have n2 := lv_neT c2 (a := 2) rfl; have n3 := lv_neT c3 (a := 3) rfl; have n4 := lv_neT c4 (a := 4) rfl; have n5 := lv_neT c5 (a := 5) rfl; have n6 := lv_neT c6 (a := 6) rfl; omega) (by decide) ?_
  refine w_aload_n C dX7_count_90 rfl 0 rfl ?_
  refine w_ldc C dX7_count_91 kcX7_54 ?_
  refine w_Vi C dX7_count_93 h (fun _ e => mX7_finds e) lnX7_75 mvX7_finds bM0 rfl ⟨Nat.le_of_ble_eq_true rfl, Nat.le_of_ble_eq_true rfl⟩ [] rfl (Nat.le_of_ble_eq_true rfl) (fun S7 v8 h => ?_)
  exact w_iret C dX7_count_96 h)
def fX7_status (S : St) (a1 : Int32) : Option (St × Int32) := bv (fX7_isIn S (Int32.toInt64 a1) (-1) (6)) fun v1 => if v1 = 0 then (bq (fX7_finds S (-1000000001)) fun S2 v3 => some (S2, v3)) else (ldi S 4 (a1 + (1)) 8 fun v4 => some (S, v4))
set_option maxRecDepth 100000 in
theorem mX7_status {Y : YT} {S : St} {a1 : Int32} {R : St × Int32} (h : fX7_status  S a1 = some R) : Mc VM Y yX7_status cX7_status 2 (some .int) 1 25 [rf Y 0, .int a1] S (some (.int R.2), R.1) :=
  Mc.start [(0, rf Y 0), (1, .int a1)] rfl pnX7 (Nat.le_of_ble_eq_true rfl) (fun X (C : Ok VM Y X RX7 cX7_status 2 (some .int)) => by
  unfold fX7_status at h
  refine w_iload_n C dX7_status_0 rfl 1 rfl ?_
  refine w_i2l C dX7_status_1 ?_
  refine w_ldc2 C dX7_status_2 klX7_187 ?_
  refine w_ldc2 C dX7_status_5 klX7_63 ?_
  refine p_Si C dX7_status_8 h (fun _ e => mX7_isIn e) lnX7_65 msX7_isIn rfl ⟨Nat.le_of_ble_eq_true rfl, Nat.le_of_ble_eq_true rfl⟩ [] rfl (Nat.le_of_ble_eq_true rfl) (fun v1 h => ?_)
  refine w_if_eq C 25 dX7_status_11 (by decide) h (fun h => ?_) (fun h => ?_)
  · refine w_aload_n C dX7_status_25 rfl 0 rfl ?_
    refine w_ldc C dX7_status_26 kcX7_54 ?_
    refine w_Vi C dX7_status_28 h (fun _ e => mX7_finds e) lnX7_75 mvX7_finds bM0 rfl ⟨Nat.le_of_ble_eq_true rfl, Nat.le_of_ble_eq_true rfl⟩ [] rfl (Nat.le_of_ble_eq_true rfl) (fun S2 v3 h => ?_)
    exact w_iret C dX7_status_31 h
  refine w_aload_n C dX7_status_14 rfl 0 rfl ?_
  refine w_getr C dX7_status_15 flX7_19 gM0_4 ?_
  refine w_iload_n C dX7_status_18 rfl 1 rfl ?_
  refine w_iconst (v := 1) C dX7_status_19 (by decide) ?_
  refine w_iadd C dX7_status_20 ?_
  refine x_iald C dX7_status_21 aM4 h (fun v4 h => ?_)
  refine w_goto C 31 dX7_status_22 (by decide) ?_
  exact w_iret C dX7_status_31 h)
