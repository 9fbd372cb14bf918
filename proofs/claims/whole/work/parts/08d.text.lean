-- STRINGS: the literals, by number
def slen (w : Nat) : Int32 := Int32.ofNat (sLen.getD w 0) >>> ((0 : Int32) &&& 31)
def schar (w : Nat) (i : Int32) : Option Int32 := ld i (sLen.getD w 0) (fun j => some ((((sByt.getD w []).getD j 0) &&& 255).toUInt32 % 65536).toInt32)
/-- a literal comes back -/
def bs {β : Type} (f : Option Nat) (k : Nat → Option β) : Option β := match f with
  | none => none
  | some w => ok (w < 13) (k w)
theorem bs_some {β : Type} {f : Option Nat} {k : Nat → Option β} {ρ : β} (h : bs f k = some ρ) : ∃ w, f = some w ∧ w < 13 ∧ k w = some ρ := by
  cases f with
  | none => cases h
  | some w => exact ⟨w, rfl, (ok_some h).1, (ok_some h).2⟩
section
variable {V : VT} {Y : YT} {X : XT} {own : String} {cc : ByteArray} {n fr lo : Nat} {r : Option FieldType} {R : Option Value × St} {S : St} {pc : Nat} {lv : List (Nat × Value)} {st : List Value}
theorem w_ldcs (C : Ok V Y X RX5 cc n r) {idx : Nat} (d : decode cc pc = .ok (.ldc idx, 2)) (w : Nat) (hw : w < 13) (hi : sIx.getD w 0 = idx) (K : WS V Y X n fr lo R S (pc + 2) lv (rz Y (10 + w) :: st)) : WS V Y X n fr lo R S pc lv st := fun H locs ls hP hS hl => by
  subst hi
  exact va_ldcS C.1 C.2.1 C.2.2.2.2.1 (C.2.2.2.2.2.2.2.1.2.2.2.2.2.2.1 w hw) d (K H locs ls hP hS hl)
theorem s_val (C : Ok V Y X own cc n r) {idx w : Nat} (hw : w < 13) (d : decode cc pc = .ok (.getfield idx, 3)) (hl : Cond.fieldLink own idx "java/lang/String" "value" "[B" ∈ WL) (K : WS V Y X n fr lo R S (pc + 3) lv (rz Y (30 + w) :: st)) : WS V Y X n fr lo R S pc lv (rz Y (10 + w) :: st) := fun H locs ls hP hS hls =>
  vk_getf C.1 C.2.1 (C.2.2.2.2.2.2.2.1.2.2.2.2.2.1.1 w hw).2.2.1 hS C.2.2.2.2.1 (C.2.2.2.2.2.1 _ hl) (fun _ h => h) d (K H locs ls hP hS hls)
theorem s_cod (C : Ok V Y X own cc n r) {idx w : Nat} (hw : w < 13) (d : decode cc pc = .ok (.getfield idx, 3)) (hl : Cond.fieldLink own idx "java/lang/String" "coder" "B" ∈ WL) (K : WS V Y X n fr lo R S (pc + 3) lv (.int 0 :: st)) : WS V Y X n fr lo R S pc lv (rz Y (10 + w) :: st) := fun H locs ls hP hS hls =>
  vk_getf C.1 C.2.1 (C.2.2.2.2.2.2.2.1.2.2.2.2.2.1.1 w hw).2.1 hS C.2.2.2.2.1 (C.2.2.2.2.2.1 _ hl) (fun _ h => h) d (K H locs ls hP hS hls)
theorem s_cs (C : Ok V Y X own cc n r) {idx : Nat} (d : decode cc pc = .ok (.getstatic idx, 3)) (hl : Cond.fieldLink own idx "java/lang/String" "COMPACT_STRINGS" "Z" ∈ WL) (K : WS V Y X n fr lo R S (pc + 3) lv (.int 1 :: st)) : WS V Y X n fr lo R S pc lv st := fun H locs ls hP hS hls => va_gets C.1 C.2.1 C.2.2.2.2.2.2.2.1.2.2.2.2.2.2.2.1 hS C.2.2.2.2.1 (C.2.2.2.2.2.1 _ hl) (fun _ h => h) d (K H locs ls hP hS hls)
theorem s_alen (C : Ok V Y X own cc n r) {w : Nat} (hw : w < 13) (d : decode cc pc = .ok (.arraylength, 1)) (K : WS V Y X n fr lo R S (pc + 1) lv (.int (Int32.ofNat (sLen.getD w 0)) :: st)) : WS V Y X n fr lo R S pc lv (rz Y (30 + w) :: st) := fun H locs ls hP hS hls =>
  va_tlen C.1 C.2.1 (C.2.2.2.2.2.2.2.1.2.2.2.2.2.1.1 w hw).2.2.2 hS rfl d (K H locs ls hP hS hls)
theorem s_bald (C : Ok V Y X own cc n r) {w : Nat} (hw : w < 13) {i : Int32} {β : Type} {ρ : β} {A : Int32 → Option β} (d : decode cc pc = .ok (.baload, 1)) (h : ld i (sLen.getD w 0) (fun j => A ((sByt.getD w []).getD j 0)) = some ρ) (K : ∀ v, A v = some ρ → WS V Y X n fr lo R S (pc + 1) lv (.int v :: st)) : WS V Y X n fr lo R S pc lv (.int i :: rz Y (30 + w) :: st) := fun H locs ls hP hS hls =>
  va_tb C.1 C.2.1 (C.2.2.2.2.2.2.2.1.2.2.2.2.2.1.1 w hw).2.2.2 hS (ld_some h).1 rfl d (K _ (ld_some h).2 H locs ls hP hS hls)
theorem p_nret {ty : FieldType} (C : Ok V Y X own cc n (some ty)) (d : decode cc pc = .ok (.ireturn, 1)) {v ρ : Int32} (hn : narrow ty (.int v) = .int v) (h : some v = some ρ) : WS V Y X n fr lo (some (.int ρ), S) S pc lv [.int v] := fun H locs ls hP hS hl => by
  cases h
  exact W.zret C.1 C.2.1 C.2.2.1 hn (fun t ht hW => ⟨rfl, by rw [ht]; exact hP, hS.F ht⟩) hS.2.2 d C.2.2.2.2.2.2.1
theorem p_sret (C : Ok V Y X own cc n (some (.object "java/lang/String"))) (d : decode cc pc = .ok (.areturn, 1)) {w ρ : Nat} (h : some w = some ρ) : WS V Y X n fr lo (some (rz Y (10 + ρ)), S) S pc lv [rz Y (10 + w)] := fun H locs ls hP hS hl => by
  cases h
  exact W.aret C.1 C.2.1 C.2.2.1 (Or.inl ⟨_, rfl⟩) (Or.inr ⟨_, rfl⟩) (fun t ht hW => ⟨rfl, by rw [ht]; exact hP, hS.F ht⟩) hS.2.2 d C.2.2.2.2.2.2.1
theorem w_VS (C : Ok V Y X own cc n r) {idx w na : Nat} (hw : w < 13) {y : MethodName} {c2 : ByteArray} {n2 fr2 lo2 : Nat} {r2 : Option FieldType} {av : List Value} {ov : Option Value} {S1 : St} {st' : List Value} (d : decode cc pc = .ok (.invokevirtual idx, 3)) (hM : Mc V Y y c2 n2 r2 fr2 lo2 (rz Y (10 + w) :: av) S (ov, S1)) (hl : Cond.methodLink own idx y ∈ WL) (hV : isV y c2 n2 r2) (hd : y.cls = "java/lang/String" ∧ (parseMethodDescriptor y.desc).map (fun d => d.parameters.length) = some na) (hna : av.length = na) (hR : fr2 + 1 ≤ fr ∧ 8 + (n2 + 11) + lo2 ≤ lo) (hst : st' = av.reverse ++ rz Y (10 + w) :: st) (hcat : (st.map fun v => v.category).sum ≤ 8)
    (K : WS V Y X n fr lo R S1 (pc + 3) lv (ov.toList ++ st)) : WS V Y X n fr lo R S pc lv st' := fun H locs ls hP hS hls => by
  refine w_run (va_runV (As := av) (rest := st) (C := y.cls) ⟨C.1, C.2.1, C.2.2.2.1, C.2.2.2.2.1, C.2.2.2.2.2.1⟩ hM (cwV na C.2.2.2.2.2.1 (wl_V hl hV) rfl rfl rfl ⟨rfl, by rw [hd.1]; decide, by rw [hd.1]; decide, hd.2⟩ hR) ⟨PX_blind, ?_, ok_pre C hP hS⟩ rfl hna hls.1 hst (lv_room hcat) d ⟨Nat.le_refl _, Nat.le_refl _⟩) hS hls K
  rw [hd.1]
  exact vk_recv (i := w) (adK := fun i => Y.2.2.2.1 (10 + i)) C.2.2.2.2.2.2.2.1.2.2.2.2.2.1 hw hS
theorem p_Sr (C : Ok V Y X own cc n r) {β : Type} {ρ : β} {f : Option Nat} {k : Nat → Option β} {idx na : Nat} {y : MethodName} {c2 : ByteArray} {n2 fr2 lo2 : Nat} {r2 : Option FieldType} {av : List Value} {st' : List Value} (d : decode cc pc = .ok (.invokestatic idx, 3)) (h : bs f k = some ρ) (hM : ∀ p, f = some p → Mc V Y y c2 n2 r2 fr2 lo2 av S (some (rz Y (10 + p)), S)) (hl : Cond.methodLink own idx y ∈ WL) (hy : mS y c2 n2 r2 na) (hna : av.length = na) (hR : fr2 + 1 ≤ fr ∧ 8 + (n2 + 11) + lo2 ≤ lo) (st : List Value) (hst : st' = av.reverse ++ st) (hcat : (st.map fun v => v.category).sum ≤ 8)
    (K : ∀ w, w < 13 → k w = some ρ → WS V Y X n fr lo R S (pc + 3) lv (rz Y (10 + w) :: st)) : WS V Y X n fr lo R S pc lv st' := by
  obtain ⟨p, e, hw, h⟩ := bs_some h
  exact w_S C d (hM p e) hl hy hna hR hst hcat (K p hw h)
theorem k_eqF (C : Ok V Y X own cc n r) {x : Int32} {off : Int} {tgt : Nat} (d : decode cc pc = .ok (.ifCond .eq off, 3)) (ht : (pc : Int) + off = (tgt : Int)) (hx : ¬ x = 0) (K : WS V Y X n fr lo R S (pc + 3) lv st) : WS V Y X n fr lo R S pc lv (.int x :: st) := fun H locs ls hP hS hl => lv_if_eq C.1 C.2.1 d ht (fun c => absurd c hx) (fun _ => K H locs ls hP hS hl)
theorem k_neF (C : Ok V Y X own cc n r) {x : Int32} {off : Int} {tgt : Nat} (d : decode cc pc = .ok (.ifCond .ne off, 3)) (ht : (pc : Int) + off = (tgt : Int)) (hx : x = 0) (K : WS V Y X n fr lo R S (pc + 3) lv st) : WS V Y X n fr lo R S pc lv (.int x :: st) := fun H locs ls hP hS hl => lv_if_ne C.1 C.2.1 d ht (fun c => absurd hx c) (fun _ => K H locs ls hP hS hl)
end
theorem mJ0_coder {Y : YT} {S : St} {w : Nat} (hw : w < 13) : Mc VX Y yJ0_coder_7d493 cJ0_coder_7d493 1 (some .byte) 0 0 [rz Y (10 + w)] S (some (.int 0), S) :=
  Mc.start [(0, rz Y (10 + w))] rfl pnJ0 (Nat.le_of_ble_eq_true rfl) (fun X (C : Ok VX Y X RJ0 cJ0_coder_7d493 1 (some .byte)) => by
  refine s_cs C dJ0_coder_7d493_0 fsJ0_38 ?_
  refine k_eqF (tgt := 13) C dJ0_coder_7d493_3 (by decide) (by decide) ?_
  refine w_aload_n C dJ0_coder_7d493_6 rfl 0 rfl ?_
  refine s_cod C hw dJ0_coder_7d493_7 fsJ0_15 ?_
  refine w_goto C 14 dJ0_coder_7d493_10 (by decide) ?_
  exact p_nret C dJ0_coder_7d493_14 (by decide) rfl)
theorem mJ0_isLatin1 {Y : YT} {S : St} {w : Nat} (hw : w < 13) : Mc VX Y yJ0_isLatin1_aae02 cJ0_isLatin1_aae02 1 (some .boolean) 0 0 [rz Y (10 + w)] S (some (.int 1), S) :=
  Mc.start [(0, rz Y (10 + w))] rfl pnJ0 (Nat.le_of_ble_eq_true rfl) (fun X (C : Ok VX Y X RJ0 cJ0_isLatin1_aae02 1 (some .boolean)) => by
  refine s_cs C dJ0_isLatin1_aae02_0 fsJ0_38 ?_
  refine k_eqF (tgt := 17) C dJ0_isLatin1_aae02_3 (by decide) (by decide) ?_
  refine w_aload_n C dJ0_isLatin1_aae02_6 rfl 0 rfl ?_
  refine s_cod C hw dJ0_isLatin1_aae02_7 fsJ0_15 ?_
  refine k_neF (tgt := 17) C dJ0_isLatin1_aae02_10 (by decide) (by decide) ?_
  refine w_iconst (v := 1) C dJ0_isLatin1_aae02_13 (by decide) ?_
  refine w_goto C 18 dJ0_isLatin1_aae02_14 (by decide) ?_
  exact p_nret C dJ0_isLatin1_aae02_18 (by decide) rfl)
theorem mJ0_length {Y : YT} {S : St} {w : Nat} (hw : w < 13) : Mc VX Y yJ0_length_8abf5 cJ0_length_8abf5 1 (some .int) 1 20 [rz Y (10 + w)] S (some (.int (slen w)), S) :=
  Mc.start [(0, rz Y (10 + w))] rfl pnJ0 (Nat.le_of_ble_eq_true rfl) (fun X (C : Ok VX Y X RJ0 cJ0_length_8abf5 1 (some .int)) => by
  refine w_aload_n C dJ0_length_8abf5_0 rfl 0 rfl ?_
  refine s_val C hw dJ0_length_8abf5_1 fsJ0_9 ?_
  refine s_alen C hw dJ0_length_8abf5_4 ?_
  refine w_aload_n C dJ0_length_8abf5_5 rfl 0 rfl ?_
  refine w_VS (st := [.int (Int32.ofNat (sLen.getD w 0))]) C hw dJ0_length_8abf5_6 (mJ0_coder hw) lnJ0_335 ivJ0_coder_7d493 ⟨rfl, by decide +kernel⟩ rfl ⟨Nat.le_of_ble_eq_true rfl, Nat.le_of_ble_eq_true rfl⟩ rfl (Nat.le_of_ble_eq_true rfl) ?_
  refine w_ishr C dJ0_length_8abf5_9 ?_
  exact p_iret C dJ0_length_8abf5_10 rfl)
theorem mJ3_checkIndex {Y : YT} {S : St} {a1 a2 : Int32} {v : Value} (hv : v.category = 1) (h1 : ¬ a1 < 0) (h2 : a1 < a2) : Mc VX Y yJ3_checkIndex_8e157 cJ3_checkIndex_8e157 3 (some .int) 0 0 [.int a1, .int a2, v] S (some (.int a1), S) :=
  Mc.start [(0, .int a1), (1, .int a2), (2, v)] rfl pnJ3 (by
    have e1 : (Value.int a1).category = 1 := rfl
    have e2 : (Value.int a2).category = 1 := rfl
    simp [lg_sl, hv, e1, e2]) (fun X (C : Ok VX Y X RJ3 cJ3_checkIndex_8e157 3 (some .int)) => by
  refine w_iload_n C dJ3_checkIndex_8e157_0 rfl 0 rfl ?_
  refine w_if_lt (ρ := ()) (A := none) (B := some ()) C 9 dJ3_checkIndex_8e157_1 (by decide) (if_neg h1) (fun h => nomatch h) (fun _ => ?_)
  refine w_iload_n C dJ3_checkIndex_8e157_4 rfl 0 rfl ?_
  refine w_iload_n C dJ3_checkIndex_8e157_5 rfl 1 rfl ?_
  refine w_icmp_lt (ρ := ()) (A := some ()) (B := none) C 16 dJ3_checkIndex_8e157_6 (by decide) (if_pos h2) (fun _ => ?_) (fun h => nomatch h)
  refine w_iload_n C dJ3_checkIndex_8e157_16 rfl 0 rfl ?_
  exact p_iret C dJ3_checkIndex_8e157_17 rfl)
theorem mJ0_checkIndex {Y : YT} {S : St} {a1 a2 : Int32} (h1 : ¬ a1 < 0) (h2 : a1 < a2) : Mc VX Y yJ0_checkIndex_df160 cJ0_checkIndex_df160 2 none 1 22 [.int a1, .int a2] S (none, S) :=
  Mc.start [(0, .int a1), (1, .int a2)] rfl pnJ0 (Nat.le_of_ble_eq_true rfl) (fun X (C : Ok VX Y X RJ0 cJ0_checkIndex_df160 2 none) => by
  refine w_iload_n C dJ0_checkIndex_df160_0 rfl 0 rfl ?_
  refine w_iload_n C dJ0_checkIndex_df160_1 rfl 1 rfl ?_
  have hq : ∀ v : Value, v.category = 1 → WS VX Y X 2 1 22 (none, S) S 5 [(0, .int a1), (1, .int a2)] [v, .int a2, .int a1] := fun v hv => by
    refine w_S (st := []) C dJ0_checkIndex_df160_5 (mJ3_checkIndex hv h1 h2) lnJ0_1059 msJ3_checkIndex_8e157 rfl ⟨Nat.le_of_ble_eq_true rfl, Nat.le_of_ble_eq_true rfl⟩ rfl (Nat.le_of_ble_eq_true rfl) ?_
    refine w_pop C dJ0_checkIndex_df160_8 rfl ?_
    exact w_vret C dJ0_checkIndex_df160_9 rfl
  intro H locs ls hP hS hl
  rcases C.2.2.2.2.2.2.2.1.2.2.2.2.2.2.2.2 with hz | ⟨t, hz⟩
  · exact va_gets C.1 C.2.1 hz hS C.2.2.2.2.1 (C.2.2.2.2.2.1 _ fsJ0_1053) (fun _ h => h) dJ0_checkIndex_df160_2 (hq .null rfl H locs ls hP hS hl)
  · exact va_gets C.1 C.2.1 hz hS C.2.2.2.2.1 (C.2.2.2.2.2.1 _ fsJ0_1053) (fun _ h => h) dJ0_checkIndex_df160_2 (hq (.ref t) rfl H locs ls hP hS hl))
theorem ld_lt {i : Int32} {n : Nat} (hn : n < 2 ^ 31) (h : vp_in i n) : ¬ i < 0 ∧ i < Int32.ofNat n := by
  obtain ⟨j, hj, rfl⟩ := vp_in_of h hn
  exact ⟨nI_pos (by omega), nI_lt hj hn⟩
theorem sLen_lt {w : Nat} (hw : w < 13) : sLen.getD w 0 < 2 ^ 31 := Nat.lt_of_lt_of_le (m := 7) (by
  match w, hw with
  | 0, _ => decide
  | 1, _ => decide
  | 2, _ => decide
  | 3, _ => decide
  | 4, _ => decide
  | 5, _ => decide
  | 6, _ => decide
  | 7, _ => decide
  | 8, _ => decide
  | 9, _ => decide
  | 10, _ => decide
  | 11, _ => decide
  | 12, _ => decide) (by decide)
theorem mJ1_charAt {Y : YT} {S : St} {w : Nat} {a1 ρ : Int32} (hw : w < 13) (h : schar w a1 = some ρ) : Mc VX Y yJ1_charAt_3b067 cJ1_charAt_3b067 2 (some .char) 2 43 [rz Y (30 + w), .int a1] S (some (.int ρ), S) :=
  Mc.start [(0, rz Y (30 + w)), (1, .int a1)] rfl pnJ1 (Nat.le_of_ble_eq_true rfl) (fun X (C : Ok VX Y X RJ1 cJ1_charAt_3b067 2 (some .char)) => by
  have hin := (ld_some h).1
  refine w_iload_n C dJ1_charAt_3b067_0 rfl 1 rfl ?_
  refine w_aload_n C dJ1_charAt_3b067_1 rfl 0 rfl ?_
  refine s_alen C hw dJ1_charAt_3b067_2 ?_
  refine w_S (st := []) C dJ1_charAt_3b067_3 (mJ0_checkIndex (ld_lt (sLen_lt hw) hin).1 (ld_lt (sLen_lt hw) hin).2) lnJ1_9 msJ0_checkIndex_df160 rfl ⟨Nat.le_of_ble_eq_true rfl, Nat.le_of_ble_eq_true rfl⟩ rfl (Nat.le_of_ble_eq_true rfl) ?_
  refine w_aload_n C dJ1_charAt_3b067_6 rfl 0 rfl ?_
  refine w_iload_n C dJ1_charAt_3b067_7 rfl 1 rfl ?_
  refine s_bald (A := fun v => some (((v &&& 255).toUInt32 % 65536).toInt32)) C hw dJ1_charAt_3b067_8 h (fun v h => ?_)
  refine w_sipush (v := 255) C dJ1_charAt_3b067_9 (by decide) ?_
  refine w_iand C dJ1_charAt_3b067_12 ?_
  refine w_i2c C dJ1_charAt_3b067_13 ?_
  exact p_nret C dJ1_charAt_3b067_14 (pk_nc _) h)
theorem mJ0_charAt {Y : YT} {S : St} {w : Nat} {a1 ρ : Int32} (hw : w < 13) (h : schar w a1 = some ρ) : Mc VX Y yJ0_charAt_5068e cJ0_charAt_5068e 2 (some .char) 3 64 [rz Y (10 + w), .int a1] S (some (.int ρ), S) :=
  Mc.start [(0, rz Y (10 + w)), (1, .int a1)] rfl pnJ0 (Nat.le_of_ble_eq_true rfl) (fun X (C : Ok VX Y X RJ0 cJ0_charAt_5068e 2 (some .char)) => by
  have hn : narrow .char (.int ρ) = .int ρ := by
    have h2 := (ld_some h).2
    rw [← Option.some.inj h2]
    exact pk_nc _
  refine w_aload_n C dJ0_charAt_5068e_0 rfl 0 rfl ?_
  refine w_VS (st := []) C hw dJ0_charAt_5068e_1 (mJ0_isLatin1 hw) lnJ0_492 ivJ0_isLatin1_aae02 ⟨rfl, by decide +kernel⟩ rfl ⟨Nat.le_of_ble_eq_true rfl, Nat.le_of_ble_eq_true rfl⟩ rfl (Nat.le_of_ble_eq_true rfl) ?_
  refine k_eqF (tgt := 16) C dJ0_charAt_5068e_4 (by decide) (by decide) ?_
  refine w_aload_n C dJ0_charAt_5068e_7 rfl 0 rfl ?_
  refine s_val C hw dJ0_charAt_5068e_8 fsJ0_9 ?_
  refine w_iload_n C dJ0_charAt_5068e_11 rfl 1 rfl ?_
  refine w_S (st := []) C dJ0_charAt_5068e_12 (mJ1_charAt hw h) lnJ0_495 msJ1_charAt_3b067 rfl ⟨Nat.le_of_ble_eq_true rfl, Nat.le_of_ble_eq_true rfl⟩ rfl (Nat.le_of_ble_eq_true rfl) ?_
  exact p_nret C dJ0_charAt_5068e_15 hn rfl)
section
variable {Y : YT} {X : XT} {own : String} {cc : ByteArray} {n fr lo : Nat} {r : Option FieldType} {R : Option Value × St} {S : St} {pc : Nat} {lv : List (Nat × Value)}
theorem x_slen (C : Ok VX Y X own cc n r) {idx w : Nat} (hw : w < 13) (d : decode cc pc = .ok (.invokevirtual idx, 3)) (hl : Cond.methodLink own idx yJ0_length_8abf5 ∈ WL) (hR : 2 ≤ fr ∧ 40 ≤ lo) (st : List Value) (hcat : (st.map fun v => v.category).sum ≤ 8) (K : WS VX Y X n fr lo R S (pc + 3) lv (.int (slen w) :: st)) : WS VX Y X n fr lo R S pc lv (rz Y (10 + w) :: st) :=
  w_VS (st := st) C hw d (mJ0_length hw) hl ivJ0_length_8abf5 ⟨rfl, by decide +kernel⟩ rfl hR rfl hcat K
theorem x_schar (C : Ok VX Y X own cc n r) {idx w : Nat} {i : Int32} {β : Type} {ρ : β} {A : Int32 → Option β} (hw : w < 13) (d : decode cc pc = .ok (.invokevirtual idx, 3)) (hl : Cond.methodLink own idx yJ0_charAt_5068e ∈ WL) (h : bv (schar w i) A = some ρ) (hR : 4 ≤ fr ∧ 85 ≤ lo) (st : List Value) (hcat : (st.map fun v => v.category).sum ≤ 8) (K : ∀ v, A v = some ρ → WS VX Y X n fr lo R S (pc + 3) lv (.int v :: st)) : WS VX Y X n fr lo R S pc lv (.int i :: rz Y (10 + w) :: st) := by
  obtain ⟨v, e, h⟩ := bv_some h
  exact w_VS (na := 1) (st := st) C hw d (mJ0_charAt hw e) hl ivJ0_charAt_5068e ⟨rfl, by decide +kernel⟩ rfl hR rfl hcat (K v h)
end
