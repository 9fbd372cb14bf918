-- the sheets, by their number
theorem co4 {P : Nat → Prop} (h0 : P 0) (h1 : P 1) (h2 : P 2) (h3 : P 3) {s : Nat} (hs : s < 4) : P s := by
  match s, hs with
  | 0, _ => exact h0
  | 1, _ => exact h1
  | 2, _ => exact h2
  | 3, _ => exact h3
theorem bXso {s : Nat} (hs : s < 4) : ob VX (47 + s) 3 := co4 (P := fun s => ob VX (47 + s) 3) bX47 bX48 bX49 bX50 hs
theorem iXso_0 {s : Nat} (hs : s < 4) : oi VX (47 + s) 3 0 := co4 (P := fun s => oi VX (47 + s) 3 0) iX47_0 iX48_0 iX49_0 iX50_0 hs
theorem iXso_1 {s : Nat} (hs : s < 4) : oi VX (47 + s) 3 1 := co4 (P := fun s => oi VX (47 + s) 3 1) iX47_1 iX48_1 iX49_1 iX50_1 hs
theorem gXso_2 {s : Nat} (hs : s < 4) : og VX (47 + s) 3 2 (51 + s) := co4 (P := fun s => og VX (47 + s) 3 2 (51 + s)) gX47_2 gX48_2 gX49_2 gX50_2 hs
theorem aXsn {s : Nat} (hs : s < 4) : aj VX (51 + s) 40 := co4 (P := fun s => aj VX (51 + s) 40) aX51 aX52 aX53 aX54 hs
/-- a sheet out of their row -/
def lds {β : Type} (i : Int32) (k : Nat → Option β) : Option β := ld i 4 k
/-- a number out of a table -/
def ldt {β : Type} (f : Nat → Int32) (i : Int32) (n : Nat) (k : Int32 → Option β) : Option β := ld i n (fun j => k (f j))
/-- numbers of one row to another -/
def cpi {β : Type} (S : St) (c0 n0 c1 n1 : Nat) (sp dp m : Int32) (k : St → Option β) : Option β := ok (¬ sp < 0 ∧ ¬ dp < 0 ∧ ¬ m < 0 ∧ sp.toNatClampNeg + m.toNatClampNeg ≤ n0 ∧ dp.toNatClampNeg + m.toNatClampNeg ≤ n1) (k (sr S c1 (va_cpy (S.1 c0) (S.1 c1) sp.toNatClampNeg dp.toNatClampNeg m.toNatClampNeg)))
def cpj {β : Type} (S : St) (c0 n0 c1 n1 : Nat) (sp dp m : Int32) (k : St → Option β) : Option β := ok (¬ sp < 0 ∧ ¬ dp < 0 ∧ ¬ m < 0 ∧ sp.toNatClampNeg + m.toNatClampNeg ≤ n0 ∧ dp.toNatClampNeg + m.toNatClampNeg ≤ n1) (k (sl S c1 (va_cpy (S.2 c0) (S.2 c1) sp.toNatClampNeg dp.toNatClampNeg m.toNatClampNeg)))
theorem wm_max : Cond.code Lib.Math.max.name Lib.Math.max.code 2 (some .int) ∈ WL := wl_t 340 (by decide +kernel) rfl
theorem wm_min : Cond.code Lib.Math.min.name Lib.Math.min.code 2 (some .int) ∈ WL := wl_t 510 (by decide +kernel) rfl
theorem wm_abs : Cond.code Lib.Math.abs.name Lib.Math.abs.code 1 (some .int) ∈ WL := wl_t 591 (by decide +kernel) rfl
theorem wm_max_s : Cond.static Lib.Math.max.name ∈ WL := wl_t 339 (by decide +kernel) rfl
theorem wm_min_s : Cond.static Lib.Math.min.name ∈ WL := wl_t 509 (by decide +kernel) rfl
theorem wm_abs_s : Cond.static Lib.Math.abs.name ∈ WL := wl_t 590 (by decide +kernel) rfl
theorem wm_i : Cond.initialized "java/lang/Math" ∈ WL := wl_t 9 (by decide +kernel) rfl
theorem wa_n : Cond.native arraycopyName ∈ WL := wl_t 626 (by decide +kernel) rfl
theorem wa_s : Cond.static arraycopyName ∈ WL := wl_t 625 (by decide +kernel) rfl
theorem wa_i : Cond.initialized "java/lang/System" ∈ WL := wl_t 12 (by decide +kernel) rfl
theorem acX4_49 : Cond.methodLink RX4 49 arraycopyName ∈ WL := wl_t 624 (by decide +kernel) rfl
theorem acX6_285 : Cond.methodLink RX6 285 arraycopyName ∈ WL := wl_t 785 (by decide +kernel) rfl
theorem fsX6_301 : Cond.fieldLink RX6 301 "FeltHouse" "KIND_ABOVE" "[I" ∈ WL := wl_t 359 (by decide +kernel) rfl
theorem fsX6_131 : Cond.fieldLink RX6 131 "FeltHouse" "SKY_MOST" "[I" ∈ WL := wl_t 365 (by decide +kernel) rfl
theorem fsX6_227 : Cond.fieldLink RX6 227 "FeltHouse" "HERDING_MOST" "[I" ∈ WL := wl_t 551 (by decide +kernel) rfl
theorem fsJ0_38 : Cond.fieldLink RJ0 38 "java/lang/String" "COMPACT_STRINGS" "Z" ∈ WL := wl_t 668 (by decide +kernel) rfl
theorem fsJ0_1053 : Cond.fieldLink RJ0 1053 "jdk/internal/util/Preconditions" "SIOOBE_FORMATTER" "Ljava/util/function/BiFunction;" ∈ WL := wl_t 684 (by decide +kernel) rfl
theorem fsJ0_9 : Cond.fieldLink RJ0 9 "java/lang/String" "value" "[B" ∈ WL := wl_t 1258 (by decide +kernel) rfl
theorem fsJ0_15 : Cond.fieldLink RJ0 15 "java/lang/String" "coder" "B" ∈ WL := wl_t 1259 (by decide +kernel) rfl
section
variable {V : VT} {Y : YT} {X : XT} {own : String} {cc : ByteArray} {n fr lo : Nat} {r : Option FieldType} {R : Option Value × St} {S : St} {pc : Nat} {lv : List (Nat × Value)} {st : List Value}
theorem x_aleni (C : Ok V Y X own cc n r) {k len : Nat} (d : decode cc pc = .ok (.arraylength, 1)) (ha : ai V k len) (K : WS V Y X n fr lo R S (pc + 1) lv (.int (Int32.ofNat len) :: st)) : WS V Y X n fr lo R S pc lv (rf Y k :: st) := fun H locs ls hP hS hl =>
  va_alen C.1 C.2.1 C.2.2.2.2.2.2.2.1.1 hP k 0 (wS_get ha.1 (ha.2 _ _ _ _)) rfl rfl d (K H locs ls hP hS hl)
theorem x_alenj (C : Ok V Y X own cc n r) {k len : Nat} (d : decode cc pc = .ok (.arraylength, 1)) (ha : aj V k len) (K : WS V Y X n fr lo R S (pc + 1) lv (.int (Int32.ofNat len) :: st)) : WS V Y X n fr lo R S pc lv (rf Y k :: st) := fun H locs ls hP hS hl =>
  va_alen C.1 C.2.1 C.2.2.2.2.2.2.2.1.1 hP k 1 (wS_get ha.1 (ha.2 _ _ _ _)) rfl rfl d (K H locs ls hP hS hl)
theorem x_aald (C : Ok VX Y X own cc n r) {i : Int32} {β : Type} {ρ : β} {A : Nat → Option β} (d : decode cc pc = .ok (.aaload, 1)) (h : lds i A = some ρ) (K : ∀ s, s < 4 → A s = some ρ → WS VX Y X n fr lo R S (pc + 1) lv (rf Y (47 + s) :: st)) : WS VX Y X n fr lo R S pc lv (.int i :: rf Y 46 :: st) := fun H locs ls hP hS hl => by
  have hin := (ld_some h).1
  exact va_aldq C.1 C.2.1 C.2.2.2.2.2.2.2.1.1 hP 46 3 (wS_get (by decide) rfl) rfl hin d (K _ (Nat.not_le.mp fun q => hin (Or.inr q)) (ld_some h).2 H locs ls hP hS hl)
theorem x_stat0 (C : Ok V Y X own cc n r) {idx : Nat} (d : decode cc pc = .ok (.getstatic idx, 3)) (hl : Cond.fieldLink own idx "FeltHouse" "KIND_ABOVE" "[I" ∈ WL) (K : WS V Y X n fr lo R S (pc + 3) lv (rz Y 0 :: st)) : WS V Y X n fr lo R S pc lv st := fun H locs ls hP hS hls => va_gets C.1 C.2.1 C.2.2.2.2.2.2.2.1.2.2.1.1 hS C.2.2.2.2.1 (C.2.2.2.2.2.1 _ hl) (fun _ h => h) d (K H locs ls hP hS hls)
theorem x_stat1 (C : Ok V Y X own cc n r) {idx : Nat} (d : decode cc pc = .ok (.getstatic idx, 3)) (hl : Cond.fieldLink own idx "FeltHouse" "SKY_MOST" "[I" ∈ WL) (K : WS V Y X n fr lo R S (pc + 3) lv (rz Y 1 :: st)) : WS V Y X n fr lo R S pc lv st := fun H locs ls hP hS hls => va_gets C.1 C.2.1 C.2.2.2.2.2.2.2.1.2.2.2.1.1 hS C.2.2.2.2.1 (C.2.2.2.2.2.1 _ hl) (fun _ h => h) d (K H locs ls hP hS hls)
theorem x_stat2 (C : Ok V Y X own cc n r) {idx : Nat} (d : decode cc pc = .ok (.getstatic idx, 3)) (hl : Cond.fieldLink own idx "FeltHouse" "HERDING_MOST" "[I" ∈ WL) (K : WS V Y X n fr lo R S (pc + 3) lv (rz Y 2 :: st)) : WS V Y X n fr lo R S pc lv st := fun H locs ls hP hS hls => va_gets C.1 C.2.1 C.2.2.2.2.2.2.2.1.2.2.2.2.1.1 hS C.2.2.2.2.1 (C.2.2.2.2.2.1 _ hl) (fun _ h => h) d (K H locs ls hP hS hls)
theorem x_tald0 (C : Ok V Y X own cc n r) {i : Int32} {β : Type} {ρ : β} {A : Int32 → Option β} (d : decode cc pc = .ok (.iaload, 1)) (h : ldt tbK i 7 A = some ρ) (K : ∀ v, A v = some ρ → WS V Y X n fr lo R S (pc + 1) lv (.int v :: st)) : WS V Y X n fr lo R S pc lv (.int i :: rz Y 0 :: st) := fun H locs ls hP hS hl => va_ti C.1 C.2.1 C.2.2.2.2.2.2.2.1.2.2.1.2 hS (ld_some h).1 rfl d (K _ (ld_some h).2 H locs ls hP hS hl)
theorem x_tald1 (C : Ok V Y X own cc n r) {i : Int32} {β : Type} {ρ : β} {A : Int32 → Option β} (d : decode cc pc = .ok (.iaload, 1)) (h : ldt tbS i 5 A = some ρ) (K : ∀ v, A v = some ρ → WS V Y X n fr lo R S (pc + 1) lv (.int v :: st)) : WS V Y X n fr lo R S pc lv (.int i :: rz Y 1 :: st) := fun H locs ls hP hS hl => va_ti C.1 C.2.1 C.2.2.2.2.2.2.2.1.2.2.2.1.2 hS (ld_some h).1 rfl d (K _ (ld_some h).2 H locs ls hP hS hl)
theorem x_tald2 (C : Ok V Y X own cc n r) {i : Int32} {β : Type} {ρ : β} {A : Int32 → Option β} (d : decode cc pc = .ok (.iaload, 1)) (h : ldt tbH i 3 A = some ρ) (K : ∀ v, A v = some ρ → WS V Y X n fr lo R S (pc + 1) lv (.int v :: st)) : WS V Y X n fr lo R S pc lv (.int i :: rz Y 2 :: st) := fun H locs ls hP hS hl => va_ti C.1 C.2.1 C.2.2.2.2.2.2.2.1.2.2.2.2.1.2 hS (ld_some h).1 rfl d (K _ (ld_some h).2 H locs ls hP hS hl)
theorem x_mmax (C : Ok V Y X own cc n r) {idx : Nat} {x y : Int32} (d : decode cc pc = .ok (.invokestatic idx, 3)) (hl : Cond.methodLink own idx Lib.Math.max.name ∈ WL) (hf : 1 ≤ fr) (hlo : (st.map fun v => v.category).sum + 13 ≤ lo) (K : WS V Y X n fr lo R S (pc + 3) lv (.int (if x < y then y else x) :: st)) : WS V Y X n fr lo R S pc lv (.int y :: .int x :: st) := fun H locs ls hP hS hls => va_mmax C.1 C.2.1 (C.2.2.2.1.trans hls.1.symm) C.2.2.2.2.1 (C.2.2.2.2.2.1 _ hl) (C.2.2.2.2.2.1 _ wm_max_s) (C.2.2.2.2.2.1 _ wm_i) (C.2.2.2.2.2.1 _ wm_max) hf hlo (Nat.le_refl _) (Nat.le_refl _) d (K H locs ls hP hS hls)
theorem x_mmin (C : Ok V Y X own cc n r) {idx : Nat} {x y : Int32} (d : decode cc pc = .ok (.invokestatic idx, 3)) (hl : Cond.methodLink own idx Lib.Math.min.name ∈ WL) (hf : 1 ≤ fr) (hlo : (st.map fun v => v.category).sum + 13 ≤ lo) (K : WS V Y X n fr lo R S (pc + 3) lv (.int (if y < x then y else x) :: st)) : WS V Y X n fr lo R S pc lv (.int y :: .int x :: st) := fun H locs ls hP hS hls => va_mmin C.1 C.2.1 (C.2.2.2.1.trans hls.1.symm) C.2.2.2.2.1 (C.2.2.2.2.2.1 _ hl) (C.2.2.2.2.2.1 _ wm_min_s) (C.2.2.2.2.2.1 _ wm_i) (C.2.2.2.2.2.1 _ wm_min) hf hlo (Nat.le_refl _) (Nat.le_refl _) d (K H locs ls hP hS hls)
theorem x_mabs (C : Ok V Y X own cc n r) {idx : Nat} {x : Int32} (d : decode cc pc = .ok (.invokestatic idx, 3)) (hl : Cond.methodLink own idx Lib.Math.abs.name ∈ WL) (hf : 1 ≤ fr) (hlo : (st.map fun v => v.category).sum + 13 ≤ lo) (K : WS V Y X n fr lo R S (pc + 3) lv (.int (if 0 ≤ x then x else 0 - x) :: st)) : WS V Y X n fr lo R S pc lv (.int x :: st) := fun H locs ls hP hS hls => va_mabs C.1 C.2.1 (C.2.2.2.1.trans hls.1.symm) C.2.2.2.2.1 (C.2.2.2.2.2.1 _ hl) (C.2.2.2.2.2.1 _ wm_abs_s) (C.2.2.2.2.2.1 _ wm_i) (C.2.2.2.2.2.1 _ wm_abs) hf hlo (Nat.le_refl _) (Nat.le_refl _) d (K H locs ls hP hS hls)
theorem x_copyi (C : Ok V Y X own cc n r) {idx k0 n0 k1 n1 : Nat} {sp dp m : Int32} {β : Type} {ρ : β} {A : St → Option β} (d : decode cc pc = .ok (.invokestatic idx, 3)) (hl : Cond.methodLink own idx arraycopyName ∈ WL) (h0 : ai V k0 n0) (h1 : ai V k1 n1) (hf : 1 ≤ fr) (hlo : (st.map fun v => v.category).sum + (nativeFrameWords "java/lang/System" "arraycopy" 5 + 11) ≤ lo) (h : cpi S k0 n0 k1 n1 sp dp m A = some ρ) (K : ∀ S1, A S1 = some ρ → WS V Y X n fr lo R S1 (pc + 3) lv st) : WS V Y X n fr lo R S pc lv (.int m :: .int dp :: rf Y k1 :: .int sp :: rf Y k0 :: st) := fun H locs ls hP hS hls => by
  obtain ⟨⟨a1, a2, a3, a4, a5⟩, h⟩ := ok_some h
  refine va_copyi (ty := .int) C.1 C.2.1 (C.2.2.2.1.trans hls.1.symm) C.2.2.2.2.1 (C.2.2.2.2.2.1 _ hl) (C.2.2.2.2.2.1 _ wa_n) (C.2.2.2.2.2.1 _ wa_s) (C.2.2.2.2.2.1 _ wa_i) C.2.2.2.2.2.2.2.1.1 hP (wS_D C.2.2.2.2.2.2.2.2) hS k0 k1 0 0 (wS_get h0.1 (h0.2 _ _ _ _)) (wS_get h1.1 (h1.2 _ _ _ _)) rfl rfl rfl a1 a2 a3 a4 a5 (fun _ _ => rfl) hf hlo d (fun H1 locs1 hP1 hD1 hS1 => ?_)
  refine K _ h H1 locs1 ls ?_ hS1 hls
  rw [wS_set (S := S) (S' := sr S k1 (va_cpy (S.1 k0) (S.1 k1) sp.toNatClampNeg dp.toNatClampNeg m.toNatClampNeg)) (by rw [sr_k]; exact h1.2 _ _ _ _) (fun j h => sr_n j h) (fun j h => rfl)] at hP1
  exact hP1
theorem x_copyj (C : Ok V Y X own cc n r) {idx k0 n0 k1 n1 : Nat} {sp dp m : Int32} {β : Type} {ρ : β} {A : St → Option β} (d : decode cc pc = .ok (.invokestatic idx, 3)) (hl : Cond.methodLink own idx arraycopyName ∈ WL) (h0 : aj V k0 n0) (h1 : aj V k1 n1) (hf : 1 ≤ fr) (hlo : (st.map fun v => v.category).sum + (nativeFrameWords "java/lang/System" "arraycopy" 5 + 11) ≤ lo) (h : cpj S k0 n0 k1 n1 sp dp m A = some ρ) (K : ∀ S1, A S1 = some ρ → WS V Y X n fr lo R S1 (pc + 3) lv st) : WS V Y X n fr lo R S pc lv (.int m :: .int dp :: rf Y k1 :: .int sp :: rf Y k0 :: st) := fun H locs ls hP hS hls => by
  obtain ⟨⟨a1, a2, a3, a4, a5⟩, h⟩ := ok_some h
  refine va_copyl (ty := .long) C.1 C.2.1 (C.2.2.2.1.trans hls.1.symm) C.2.2.2.2.1 (C.2.2.2.2.2.1 _ hl) (C.2.2.2.2.2.1 _ wa_n) (C.2.2.2.2.2.1 _ wa_s) (C.2.2.2.2.2.1 _ wa_i) C.2.2.2.2.2.2.2.1.1 hP (wS_D C.2.2.2.2.2.2.2.2) hS k0 k1 1 1 (wS_get h0.1 (h0.2 _ _ _ _)) (wS_get h1.1 (h1.2 _ _ _ _)) rfl rfl rfl a1 a2 a3 a4 a5 (fun _ _ => rfl) hf hlo d (fun H1 locs1 hP1 hD1 hS1 => ?_)
  refine K _ h H1 locs1 ls ?_ hS1 hls
  rw [wS_set (S := S) (S' := sl S k1 (va_cpy (S.2 k0) (S.2 k1) sp.toNatClampNeg dp.toNatClampNeg m.toNatClampNeg)) (by rw [sl_k]; exact h1.2 _ _ _ _) (fun j h => rfl) (fun j h => sl_n j h)] at hP1
  exact hP1
end
