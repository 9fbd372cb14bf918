-- CONSTRUCTORS: worlds that grow
def K0 (D : va_G) (g : Nat → ClassId) (s : State) : Prop := va_K D vwCl (tyL g) s ∧ va_Nw (.methodLinkNest RX6 51 yX5_init "FeltHouse") s ∧ va_Nw (.methodLinkNest RX6 62 yX3_init "FeltHouse") s ∧ va_AO "FeltHouse$Sheet" s
theorem K0.moved {D : va_G} {g : Nat → ClassId} {s U : State} (hW : s.WarmedH U.vm) (h : K0 D g s) : K0 D g U := ⟨va_K.moved hW.alike h.1, va_Nw.warmM hW h.2.1, va_Nw.warmM hW h.2.2.1, va_AO.moved hW.alike h.2.2.2⟩
theorem K0.same {D : va_G} {g : Nat → ClassId} {u U : State} (hv : u.vm = U.vm) (h : K0 D g u) : K0 D g U := by
  have hvm : u.vm.Alike U.vm := by rw [← hv]; exact Vm.Alike.refl u.vm
  exact ⟨va_K.moved hvm h.1, va_Nw.same rfl hv h.2.1, va_Nw.same rfl hv h.2.2.1, va_AO.moved hvm h.2.2.2⟩
abbrev GT : Type := Launch × va_G × (Nat → ClassId)
def COk (G : GT) (X : XT) (own : String) (cc : ByteArray) (n : Nat) : Prop :=
  X.1.tables.exec = Jvm.exec ∧ X.2.2.2.2.2.2.2.code = cc ∧ X.2.2.2.2.2.2.1.sig.returnType = none ∧ X.2.2.2.2.2.2.2.maxLocals = n ∧ X.2.2.1.vm.findClass own = some X.2.2.2.1.cls ∧ (∀ w ∈ WL, w.before X.2.2.2.2.1 X.2.2.1 = true) ∧ X.2.2.2.2.2.2.1.locks = false ∧ K0 G.2.1 G.2.2 X.2.2.1 ∧ X.2.2.2.2.2.2.1.name = "<init>"
def WC (G : GT) (X : XT) (n : Nat) (R : Room) (Q : State → Prop) (A : Nat → Prop) (ws : va_W) (cells slots pc : Nat) (lv : List (Nat × Value)) (st : List Value) : Prop :=
  ∀ (H : Heap) (locs : List Loc) (ls : Array Slot), va_P G.2.1 vwCl ws H → va_D A ws → va_S A X.2.2.1.heap H locs → (∀ q : Nat, X.2.2.1.heap.size ≤ q → A q) → lv_has ls n lv →
    W X.1 G.1 X.2.1 R X.2.2.1 X.2.2.2.1 X.2.2.2.2.1 X.2.2.2.2.2.1 X.2.2.2.2.2.2.1 X.2.2.2.2.2.2.2 H locs cells slots Q (F0 X.2.2.2.1 pc ls st)
def PI (D : va_G) (g : Nat → ClassId) (sz : Nat) (ws : va_W) (av : List Value) : Array Value → State → Prop := fun v U => v = av.toArray ∧ U.heap.size = sz ∧ K0 D g U ∧ va_P D vwCl ws U.heap ∧ va_D (fun _ => True) ws
def QI (D : va_G) (post : va_W → Prop) (ws : va_W) (sz : Nat) : Array Value → State → Outcome → State → Prop := fun _ st o t => o = .returned none ∧ (∃ w1, post w1 ∧ va_P D vwCl w1 t.heap ∧ va_D (va_A ws sz) w1) ∧ va_F (va_A ws sz) st t
abbrev Ri (fr lo mc ms : Nat) : Room := { frames := fr, cells := mc, slots := ms, locals := lo }
def Mi (G : GT) (y : MethodName) (cc : ByteArray) (n fr lo mc ms : Nat) (av : List Value) (ws : va_W) (post : va_W → Prop) : Prop :=
  ∀ sz : Nat, Met G.1 y (Cond.code y cc n none :: WL) (Ri fr lo mc ms) (PI G.2.1 G.2.2 sz ws av) (QI G.2.1 post ws sz) mc ms (va_A ws sz)
theorem PI_blind {D : va_G} {g : Nat → ClassId} {sz : Nat} {ws : va_W} {av : List Value} : FrameBlind (PI D g sz ws av) := fun a U f mk h => ⟨h.1, h.2.1, K0.same (U := U.calling f mk a) rfl h.2.2.1, h.2.2.2⟩
theorem Mi.start {G : GT} {y : MethodName} {cc : ByteArray} {n fr lo mc ms : Nat} {av : List Value} {ws : va_W} {post : va_W → Prop} (lv : List (Nat × Value)) (hlv : lv_args 0 av = lv) (hy : plainName y.cls = true) (hlen : (lg_sl av).length ≤ n) (hin : y.name = "<init>")
    (body : ∀ (X : XT) (A : Nat → Prop), COk G X y.cls cc n → WC G X n (Ri fr lo mc ms) (MQ X.2.2.2.2.2.1 (QI G.2.1 post ws X.2.2.1.heap.size) X.2.2.2.2.1 X.2.2.1 mc ms (va_A ws X.2.2.1.heap.size)) (va_A ws X.2.2.1.heap.size) ws 0 0 0 lv []) : Mi G y cc n fr lo mc ms av ws post := by
  intro sz
  refine Met.ofW (cc := cc) (maxL := n) (ret := none) hy rfl ?_
  intro p e s m args below meth c s₁ B hml hv
  obtain ⟨rfl, hsz, hK, hP, hD⟩ := hv
  have hts := atoms_spec (ws := Cond.code y cc n none :: WL) B.pre
  have hl := lv_entry av (n := n) hlen
  rw [lg_entry_eq]
  subst hlv
  subst hsz
  exact body (p, e, s, m, av.toArray, below, meth, c) (fun _ => True) ⟨B.exec, B.bytes, B.returns, hml, findClass_of_methodNamed B.named, fun w h => hts w (List.mem_cons_of_mem _ h), B.notSynchronized, hK, by rw [← hin]; exact (name_of_methodNamed B.named B.method).1⟩ s.heap [] _ hP hD.self va_S.rf (fun q h => Or.inr h) hl
theorem g_int {D : va_G} {g : Nat → ClassId} {s : State} {cA : ClassId} (hK : va_K D vwCl (tyL g) s) (h : va_RA s cA .int) : cA = g 0 := Option.some.inj (h.symm.trans (hK.2 0 _ rfl).2)
theorem g_long {D : va_G} {g : Nat → ClassId} {s : State} {cA : ClassId} (hK : va_K D vwCl (tyL g) s) (h : va_RA s cA .long) : cA = g 1 := Option.some.inj (h.symm.trans (hK.2 1 _ rfl).2)
theorem g_bool {D : va_G} {g : Nat → ClassId} {s : State} {cA : ClassId} (hK : va_K D vwCl (tyL g) s) (h : va_RA s cA .boolean) : cA = g 2 := Option.some.inj (h.symm.trans (hK.2 2 _ rfl).2)
theorem g_sheet {D : va_G} {g : Nat → ClassId} {s : State} {cA : ClassId} (hK : va_K D vwCl (tyL g) s) (h : va_RA s cA (.object "FeltHouse$Sheet")) : cA = g 3 := by
  obtain ⟨_, _, -, -, -, h4⟩ := h
  obtain ⟨_, _, -, -, -, k4⟩ := (hK.2 3 _ rfl).2
  exact Option.some.inj (h4.symm.trans k4)
theorem wac_i : Cond.arrayClass .int ∈ WL := wl_t 113 (by decide +kernel) rfl
theorem wac_j : Cond.arrayClass .long ∈ WL := wl_t 245 (by decide +kernel) rfl
theorem wac_z : Cond.arrayClass .boolean ∈ WL := wl_t 903 (by decide +kernel) rfl
section
variable {G : GT} {X : XT} {own : String} {cc : ByteArray} {n : Nat} {R : Room} {Q : State → Prop} {A : Nat → Prop} {ws : va_W} {cells slots pc : Nat} {lv : List (Nat × Value)} {st : List Value}
theorem c_aload_n (C : COk G X own cc n) {k : Fin 4} {i x : Nat} (d : decode cc pc = .ok (.aload_n k, 1)) (hi : (k : Nat) = i) (j : Nat) (h : lv[j]? = some (i, .ref x)) (K : WC G X n R Q A ws cells slots (pc + 1) lv (.ref x :: st)) : WC G X n R Q A ws cells slots pc lv st := fun H locs ls hP hD hS hA hl => lv_aload_n C.1 C.2.1 d hi (lv_at hl j h) (K H locs ls hP hD hS hA hl)
theorem c_iload_n (C : COk G X own cc n) {k : Fin 4} {i : Nat} {x : Int32} (d : decode cc pc = .ok (.iload_n k, 1)) (hi : (k : Nat) = i) (j : Nat) (h : lv[j]? = some (i, .int x)) (K : WC G X n R Q A ws cells slots (pc + 1) lv (.int x :: st)) : WC G X n R Q A ws cells slots pc lv st := fun H locs ls hP hD hS hA hl => lv_iload_n C.1 C.2.1 d hi (lv_at hl j h) (K H locs ls hP hD hS hA hl)
theorem c_iconst (C : COk G X own cc n) {k : Int} {v : Int32} (d : decode cc pc = .ok (.iconst k, 1)) (hv : Int32.ofInt k = v) (K : WC G X n R Q A ws cells slots (pc + 1) lv (.int v :: st)) : WC G X n R Q A ws cells slots pc lv st := fun H locs ls hP hD hS hA hl => lv_iconst C.1 C.2.1 d hv (K H locs ls hP hD hS hA hl)
theorem c_bipush (C : COk G X own cc n) {k : Int} {v : Int32} (d : decode cc pc = .ok (.bipush k, 2)) (hv : (Int8.ofInt k).toInt32 = v) (K : WC G X n R Q A ws cells slots (pc + 2) lv (.int v :: st)) : WC G X n R Q A ws cells slots pc lv st := fun H locs ls hP hD hS hA hl => lv_bipush C.1 C.2.1 d hv (K H locs ls hP hD hS hA hl)
theorem c_sipush (C : COk G X own cc n) {k : Int} {v : Int32} (d : decode cc pc = .ok (.sipush k, 3)) (hv : (Int16.ofInt k).toInt32 = v) (K : WC G X n R Q A ws cells slots (pc + 3) lv (.int v :: st)) : WC G X n R Q A ws cells slots pc lv st := fun H locs ls hP hD hS hA hl => lv_sipush C.1 C.2.1 d hv (K H locs ls hP hD hS hA hl)
theorem c_dup (C : COk G X own cc n) {v : Value} (d : decode cc pc = .ok (.dup, 1)) (hv : v.category = 1) (K : WC G X n R Q A ws cells slots (pc + 1) lv (v :: v :: st)) : WC G X n R Q A ws cells slots pc lv (v :: st) := fun H locs ls hP hD hS hA hl => lv_dup C.1 C.2.1 d hv (K H locs ls hP hD hS hA hl)
theorem c_goto (C : COk G X own cc n) {off : Int} (tgt : Nat) (d : decode cc pc = .ok (.goto off, 3)) (ht : (pc : Int) + off = (tgt : Int)) (K : WC G X n R Q A ws cells slots tgt lv st) : WC G X n R Q A ws cells slots pc lv st := fun H locs ls hP hD hS hA hl => lv_goto C.1 C.2.1 d ht (K H locs ls hP hD hS hA hl)
theorem c_geT (C : COk G X own cc n) {x y : Int32} {off : Int} (tgt : Nat) (d : decode cc pc = .ok (.if_icmp .ge off, 3)) (ht : (pc : Int) + off = (tgt : Int)) (h : y ≤ x) (K : WC G X n R Q A ws cells slots tgt lv st) : WC G X n R Q A ws cells slots pc lv (.int y :: .int x :: st) := fun H locs ls hP hD hS hA hl => lv_icmp_ge C.1 C.2.1 d ht (fun _ => K H locs ls hP hD hS hA hl) (fun c => absurd h c)
theorem c_geF (C : COk G X own cc n) {x y : Int32} {off : Int} (tgt : Nat) (d : decode cc pc = .ok (.if_icmp .ge off, 3)) (ht : (pc : Int) + off = (tgt : Int)) (h : ¬ y ≤ x) (K : WC G X n R Q A ws cells slots (pc + 3) lv st) : WC G X n R Q A ws cells slots pc lv (.int y :: .int x :: st) := fun H locs ls hP hD hS hA hl => lv_icmp_ge C.1 C.2.1 d ht (fun c => absurd c h) (fun _ => K H locs ls hP hD hS hA hl)
theorem c_istore_n (C : COk G X own cc n) {k : Fin 4} {i : Nat} {x : Int32} (d : decode cc pc = .ok (.istore_n k, 1)) (hi : (k : Nat) = i) (hn : i < n) (lv' : List (Nat × Value)) (h : (i, Value.int x) :: lv.filter (fun q => !(q.1 == i) && !(q.1 + 1 == i && q.2.category == 2)) = lv') (K : WC G X n R Q A ws cells slots (pc + 1) lv' st) : WC G X n R Q A ws cells slots pc lv (.int x :: st) := fun H locs ls hP hD hS hA hl => lv_istore_n C.1 C.2.1 d hi hl hn h (fun ls' hl' => K H locs ls' hP hD hS hA hl')
theorem c_iinc (C : COk G X own cc n) {i : Nat} {k : Int} {x v : Int32} (d : decode cc pc = .ok (.iinc i k, 3)) (j : Nat) (hk : lv[j]? = some (i, .int x)) (hv : x + Int32.ofInt k = v) (hn : i < n) (lv' : List (Nat × Value)) (h : (i, Value.int v) :: lv.filter (fun q => !(q.1 == i) && !(q.1 + 1 == i && q.2.category == 2)) = lv') (K : WC G X n R Q A ws cells slots (pc + 3) lv' st) : WC G X n R Q A ws cells slots pc lv st := fun H locs ls hP hD hS hA hl => lv_iinc (k := j) C.1 C.2.1 d hl hk hv hn h (fun ls' hl' => K H locs ls' hP hD hS hA hl')
theorem c_obj (C : COk G X own cc n) {idx a : Nat} (d : decode cc pc = .ok (.invokespecial idx, 3)) (hl : Cond.methodLink own idx objectInit ∈ WL) (h2 : Cond.instanceMethod objectInit ∈ WL) (h3 : Cond.code objectInit ⟨#[0xb1]⟩ 1 none ∈ WL) (hfr : 1 ≤ R.frames) (hlo : (st.map fun v => v.category).sum + 12 ≤ R.locals) (K : WC G X n R Q A ws cells slots (pc + 3) lv st) : WC G X n R Q A ws cells slots pc lv (.ref a :: st) := fun H locs ls hP hD hS hA hls =>
  W.objInit C.1 C.2.1 C.2.2.2.2.1 (C.2.2.2.2.2.1 _ hl) (C.2.2.2.2.2.1 _ h2) (C.2.2.2.2.2.1 _ h3) rfl (by rw [C.2.2.2.1]; exact hls.1) rfl d hfr (by show 2 * 0 + _ + 12 ≤ _; omega) (K H locs ls hP hD hS hA hls)
theorem c_newi (C : COk G X own cc n) {v : Int32} {N : Nat} (d : decode cc pc = .ok (.newarray .int, 2)) (hn : ¬ v < 0) (hN : v.toNatClampNeg = N) (hb : N * 4 ≤ 536870912) (hc : cells + 1 ≤ R.cells) (hs : slots + N ≤ R.slots) (ws' : Nat → va_W) (hw : ∀ q, ws ++ [(q, .inl (G.2.2 0, N, .inl (fun _ => 0)))] = ws' q) (K : ∀ q, WC G X n R Q A (ws' q) (cells + 1) (slots + N) (pc + 2) lv (.ref q :: st)) : WC G X n R Q A ws cells slots pc lv (.int v :: st) := fun H locs ls hP hD hS hA hl => by
  refine va_newa (atype := .int) (ty := .int) (a0 := (N, .inl (fun _ => 0))) C.1 C.2.1 (C.2.2.2.2.2.1 _ wac_i) rfl C.2.2.2.2.2.2.2.1.1 hP hD hS hA (fun _ => rfl) hn hN hb hc hs d (fun q cA H1 hK1 hP1 hD1 hS1 => ?_)
  have e : cA = G.2.2 0 := g_int C.2.2.2.2.2.2.2.1.1 (hK1.2 4 _ rfl).2
  rw [e, hw q] at hP1 hD1
  exact K q H1 locs ls hP1 hD1 hS1 hA hl
theorem c_newj (C : COk G X own cc n) {v : Int32} {N : Nat} (d : decode cc pc = .ok (.newarray .long, 2)) (hn : ¬ v < 0) (hN : v.toNatClampNeg = N) (hb : N * 8 ≤ 536870912) (hc : cells + 1 ≤ R.cells) (hs : slots + N ≤ R.slots) (ws' : Nat → va_W) (hw : ∀ q, ws ++ [(q, .inl (G.2.2 1, N, .inr (.inl (fun _ => 0))))] = ws' q) (K : ∀ q, WC G X n R Q A (ws' q) (cells + 1) (slots + N) (pc + 2) lv (.ref q :: st)) : WC G X n R Q A ws cells slots pc lv (.int v :: st) := fun H locs ls hP hD hS hA hl => by
  refine va_newa (atype := .long) (ty := .long) (a0 := (N, .inr (.inl (fun _ => 0)))) C.1 C.2.1 (C.2.2.2.2.2.1 _ wac_j) rfl C.2.2.2.2.2.2.2.1.1 hP hD hS hA (fun _ => rfl) hn hN hb hc hs d (fun q cA H1 hK1 hP1 hD1 hS1 => ?_)
  have e : cA = G.2.2 1 := g_long C.2.2.2.2.2.2.2.1.1 (hK1.2 4 _ rfl).2
  rw [e, hw q] at hP1 hD1
  exact K q H1 locs ls hP1 hD1 hS1 hA hl
theorem c_newz (C : COk G X own cc n) {v : Int32} {N : Nat} (d : decode cc pc = .ok (.newarray .boolean, 2)) (hn : ¬ v < 0) (hN : v.toNatClampNeg = N) (hb : N * 1 ≤ 536870912) (hc : cells + 1 ≤ R.cells) (hs : slots + N ≤ R.slots) (ws' : Nat → va_W) (hw : ∀ q, ws ++ [(q, .inl (G.2.2 2, N, .inl (fun _ => 0)))] = ws' q) (K : ∀ q, WC G X n R Q A (ws' q) (cells + 1) (slots + N) (pc + 2) lv (.ref q :: st)) : WC G X n R Q A ws cells slots pc lv (.int v :: st) := fun H locs ls hP hD hS hA hl => by
  refine va_newa (atype := .boolean) (ty := .boolean) (a0 := (N, .inl (fun _ => 0))) C.1 C.2.1 (C.2.2.2.2.2.1 _ wac_z) rfl C.2.2.2.2.2.2.2.1.1 hP hD hS hA (fun _ => rfl) hn hN hb hc hs d (fun q cA H1 hK1 hP1 hD1 hS1 => ?_)
  have e : cA = G.2.2 2 := g_bool C.2.2.2.2.2.2.2.1.1 (hK1.2 4 _ rfl).2
  rw [e, hw q] at hP1 hD1
  exact K q H1 locs ls hP1 hD1 hS1 hA hl
theorem c_newq (C : COk G X own cc n) {idx : Nat} {v : Int32} {N : Nat} (d : decode cc pc = .ok (.anewarray idx, 3)) (hcl : Cond.classLink own idx "FeltHouse$Sheet" ∈ WL) (hn : ¬ v < 0) (hN : v.toNatClampNeg = N) (hb : N * 4 ≤ 536870912) (hc : cells + 1 ≤ R.cells) (hs : slots + N ≤ R.slots) (ws' : Nat → va_W) (hw : ∀ q, ws ++ [(q, .inl (G.2.2 3, N, .inr (.inr (.inr (.inr (fun _ => none))))))] = ws' q) (K : ∀ q, WC G X n R Q A (ws' q) (cells + 1) (slots + N) (pc + 3) lv (.ref q :: st)) : WC G X n R Q A ws cells slots pc lv (.int v :: st) := fun H locs ls hP hD hS hA hl => by
  refine va_newq C.1 C.2.1 C.2.2.2.2.1 (C.2.2.2.2.2.1 _ hcl) C.2.2.2.2.2.2.2.1.2.2.2 C.2.2.2.2.2.2.2.1.1 hP hD hS hA hn hN hb hc hs d (fun q cA H1 hK1 hP1 hD1 hS1 => ?_)
  have e : cA = G.2.2 3 := g_sheet C.2.2.2.2.2.2.2.1.1 (hK1.2 4 _ rfl).2
  rw [e, hw q] at hP1 hD1
  exact K q H1 locs ls hP1 hD1 hS1 hA hl
theorem c_new (C : COk G X own cc n) {idx ci N : Nat} {Cn : String} {T : u_T} {fs : List Value} (d : decode cc pc = .ok (.new idx, 3)) (hc : vwCl[ci]? = some (Cn, T, N)) (hkw : ∀ w ∈ u_ws Cn T N, w ∈ WL) (ty : Nat → FieldType) (hty : ∀ k, k < N → parseFieldDescriptor (T k).2.2.1 = some (ty k)) (hcl : Cond.classLink own idx Cn ∈ WL) (hin : Cond.instantiable Cn N ∈ WL) (hini : Cond.initialized Cn ∈ WL) (hfs : ∀ j, j < N → defaultValue (ty j) = vp_V fs j) (hc1 : cells + 1 ≤ R.cells) (hs1 : slots + N ≤ R.slots) (ws' : Nat → va_W) (hw : ∀ q, ws ++ [(q, .inr (ci, fs))] = ws' q) (K : ∀ q, WC G X n R Q A (ws' q) (cells + 1) (slots + N) (pc + 3) lv (.ref q :: st)) : WC G X n R Q A ws cells slots pc lv st := fun H locs ls hP hD hS hA hl => by
  refine va_new C.1 C.2.1 C.2.2.2.2.2.1 hkw ty hty C.2.2.2.2.1 (C.2.2.2.2.2.1 _ hcl) (C.2.2.2.2.2.1 _ hin) (C.2.2.2.2.2.1 _ hini) C.2.2.2.2.2.2.2.1.1 hP hD hS hA hc hfs hc1 hs1 d (fun q H1 hP1 hD1 hS1 => ?_)
  rw [hw q] at hP1 hD1
  exact K q H1 locs ls hP1 hD1 hS1 hA hl
theorem c_putF (C : COk G X own cc n) {idx ci slot N a : Nat} {T : u_T} {ty : FieldType} {v : Value} {fs : List Value} (d : decode cc pc = .ok (.putfield idx, 3)) (hc : vwCl[ci]? = some (own, T, N)) (hkw : ∀ w ∈ u_ws own T N, w ∈ WL) (ty0 : Nat → FieldType) (hty0 : ∀ k, k < N → parseFieldDescriptor (T k).2.2.1 = some (ty0 k)) (hnm : ∀ a, a < N → ∀ b, b < N → a ≠ b → (T a).2.1 ≠ (T b).2.1) (hs : slot < N) (hl : Cond.fieldLink own idx (T slot).1 (T slot).2.1 (T slot).2.2.1 ∈ WL) (hfin : (T slot).2.2.2 = true) (hdecl : (T slot).1 = own) (hty : parseFieldDescriptor (T slot).2.2.1 = some ty) (hnar : narrow ty v = v) (hfit : fits ty v = true) (k : Nat) (he : ws[k]? = some (a, .inr (ci, fs))) (hlen : slot < fs.length) (ws' : va_W) (hw : ws.set k (a, .inr (ci, fs.set slot v)) = ws') (K : WC G X n R Q A ws' cells slots (pc + 3) lv st) : WC G X n R Q A ws cells slots pc lv (v :: .ref a :: st) := fun H locs ls hP hD hS hA hls => by
  refine va_putF C.1 C.2.1 C.2.2.2.2.2.1 hkw ty0 hty0 hnm C.2.2.2.2.1 C.2.2.2.2.2.2.2.1.1 hP hD hS k he hc slot hs (C.2.2.2.2.2.1 _ hl) (fun _ h => h) hfin C.2.2.2.2.2.2.2.2 hdecl hty hnar hfit hlen d (fun H1 locs1 hP1 hD1 hS1 => ?_)
  rw [hw] at hP1 hD1
  exact K H1 locs1 ls hP1 hD1 hS1 hA hls
theorem c_put (C : COk G X own cc n) {idx ci slot a : Nat} {ty : FieldType} {v : Value} {fs : List Value} (d : decode cc pc = .ok (.putfield idx, 3)) (hf : fp own idx ci slot ty) (hnar : narrow ty v = v) (hfit : fits ty v = true) (k : Nat) (he : ws[k]? = some (a, .inr (ci, fs))) (hlen : slot < fs.length) (ws' : va_W) (hw : ws.set k (a, .inr (ci, fs.set slot v)) = ws') (K : WC G X n R Q A ws' cells slots (pc + 3) lv st) : WC G X n R Q A ws cells slots pc lv (v :: .ref a :: st) := fun H locs ls hP hD hS hA hls => by
  obtain ⟨C', T, N, hc, hkw, hs, hlk, hfin, hty, ⟨ty0, hty0⟩, hnm⟩ := hf
  refine va_put C.1 C.2.1 C.2.2.2.2.2.1 hkw ty0 hty0 hnm C.2.2.2.2.1 C.2.2.2.2.2.2.2.1.1 hP hD hS k he hc slot hs (C.2.2.2.2.2.1 _ hlk) (fun _ h => h) hfin hty hnar hfit hlen d (fun H1 locs1 hP1 hD1 hS1 => ?_)
  rw [hw] at hP1 hD1
  exact K H1 locs1 ls hP1 hD1 hS1 hA hls
theorem c_get (C : COk G X own cc n) {idx ci slot a : Nat} {v : Value} {fs : List Value} (d : decode cc pc = .ok (.getfield idx, 3)) (hf : fl own idx ci slot) (k : Nat) (he : ws[k]? = some (a, .inr (ci, fs))) (hv : fs[slot]? = some v) (K : WC G X n R Q A ws cells slots (pc + 3) lv (v :: st)) : WC G X n R Q A ws cells slots pc lv (.ref a :: st) := fun H locs ls hP hD hS hA hls => by
  obtain ⟨C', T, N, hc, hkw, hs, hlk⟩ := hf
  exact va_get C.1 C.2.1 C.2.2.2.2.2.1 hkw C.2.2.2.2.1 C.2.2.2.2.2.2.2.1.1 hP k he hc slot hs (C.2.2.2.2.2.1 _ hlk) (fun _ h => h) hv d (K H locs ls hP hD hS hA hls)
theorem c_iast (C : COk G X own cc n) {a N : Nat} {f : Nat → Int32} {i x : Int32} (d : decode cc pc = .ok (.iastore, 1)) (k : Nat) (he : ws[k]? = some (a, .inl (G.2.2 0, N, .inl f))) (j : Nat) (hin : vp_in i N) (hj : i.toNatClampNeg = j) (ws' : va_W) (hw : ws.set k (a, .inl (G.2.2 0, N, .inl (upd f j x))) = ws') (K : WC G X n R Q A ws' cells slots (pc + 1) lv st) : WC G X n R Q A ws cells slots pc lv (.int x :: .int i :: .ref a :: st) := fun H locs ls hP hD hS hA hls => by
  subst hj
  refine va_iast C.1 C.2.1 C.2.2.2.2.2.2.2.1.1 hP hD hS k 0 he rfl hin d (fun H1 locs1 hP1 hD1 hS1 => ?_)
  rw [hw] at hP1 hD1
  exact K H1 locs1 ls hP1 hD1 hS1 hA hls
theorem c_aast (C : COk G X own cc n) {a N v : Nat} {f : Nat → Option Nat} {i : Int32} {vs : List Value} (d : decode cc pc = .ok (.aastore, 1)) (k kv : Nat) (he : ws[k]? = some (a, .inl (G.2.2 3, N, .inr (.inr (.inr (.inr f)))))) (hv : ws[kv]? = some (v, .inr (3, vs))) (j : Nat) (hin : vp_in i N) (hj : i.toNatClampNeg = j) (ws' : va_W) (hw : ws.set k (a, .inl (G.2.2 3, N, .inr (.inr (.inr (.inr (va_up f j (some v))))))) = ws') (K : WC G X n R Q A ws' cells slots (pc + 1) lv st) : WC G X n R Q A ws cells slots pc lv (.ref v :: .int i :: .ref a :: st) := fun H locs ls hP hD hS hA hls => by
  subst hj
  refine va_astq (r := (RX3, TX3, 3)) C.1 C.2.1 C.2.2.2.2.2.2.2.1.1 hP hD hS k 3 kv 3 he rfl hv rfl hin d (fun H1 locs1 hP1 hD1 hS1 => ?_)
  rw [hw] at hP1 hD1
  exact K H1 locs1 ls hP1 hD1 hS1 hA hls
theorem c_run {H : Heap} {locs : List Loc} {ls : Array Slot} {st' : List Value} {mc ms q : Nat} {e : va_E} {wr : va_W} {post : va_W → Prop} {a : Array Value} (hr : va_Run X.1 G.1 X.2.1 R X.2.2.1 X.2.2.2.1 X.2.2.2.2.1 X.2.2.2.2.2.1 X.2.2.2.2.2.2.1 X.2.2.2.2.2.2.2 H locs cells slots mc ms (F0 X.2.2.2.1 pc ls st') st (QI G.2.1 post [(q, e)] H.size a) (va_A [(q, e)] H.size)) (hP : va_P G.2.1 vwCl (wr ++ [(q, e)]) H) (hD : va_D A (wr ++ [(q, e)])) (hS : va_S A X.2.2.1.heap H locs) (hA : ∀ q : Nat, X.2.2.1.heap.size ≤ q → A q) (hls : lv_has ls n lv)
    (K : ∀ w1, post w1 → WC G X n R Q A (wr ++ w1) (cells + mc) (slots + ms) (pc + 3) lv st) :
    W X.1 G.1 X.2.1 R X.2.2.1 X.2.2.2.1 X.2.2.2.2.1 X.2.2.2.2.2.1 X.2.2.2.2.2.2.1 X.2.2.2.2.2.2.2 H locs cells slots Q (F0 X.2.2.2.1 pc ls st') := by
  have hat : (wr ++ [(q, e)])[wr.length]? = some (q, e) := by simp
  have hF : ∀ x, va_A [(q, e)] H.size x → A x := fun x hx => by
    rcases hx with ⟨k, e', hk⟩ | hx
    · have : k = 0 := by
        have := (List.getElem?_eq_some_iff.mp hk).1
        simp at this
        exact this
      subst this
      cases hk
      exact hD.2 _ _ hat
    · exact hA x (Nat.le_trans hS.1 hx)
  intro T hT X0
  obtain ⟨v, st₀, t, T', L, h0, X', hL, e1, e2, ⟨hv, ⟨w1, hpost, hp, hd⟩, hz, hk⟩, hst⟩ := hr T hT X0
  cases hv
  rw [h0] at hz hk
  have apart : ∀ (k : Nat) (x : Nat × va_E), wr[k]? = some x → x.1 < H.size ∧ ¬ va_A [(q, e)] H.size x.1 := by
    intro k x hx
    have hlt : k < wr.length := (List.getElem?_eq_some_iff.mp hx).1
    have hx2 : (wr ++ [(q, e)])[k]? = some x := by rw [List.getElem?_append_left hlt]; exact hx
    have hl := (hP k x hx2).lt
    refine ⟨hl, fun hz => ?_⟩
    rcases hz with ⟨j, e', hj⟩ | hz
    · have : j = 0 := by
        have := (List.getElem?_eq_some_iff.mp hj).1
        simp at this
        exact this
      subst this
      have hj2 := (Option.some.inj hj)
      have := hD.1 k wr.length x (q, e) hx2 hat (by rw [← congrArg Prod.fst hj2])
      omega
    · omega
  have hPr : va_P G.2.1 vwCl wr T'.heap := fun k x hx => by
    have hlt : k < wr.length := (List.getElem?_eq_some_iff.mp hx).1
    have hx2 : (wr ++ [(q, e)])[k]? = some x := by rw [List.getElem?_append_left hlt]; exact hx
    exact (hP k x hx2).kept (by rw [e1]; exact hk _ (apart k x hx).1 (apart k x hx).2)
  have hDr : va_D A wr := ⟨fun i j x y hx hy hxy => by
    have hi : i < wr.length := (List.getElem?_eq_some_iff.mp hx).1
    have hj : j < wr.length := (List.getElem?_eq_some_iff.mp hy).1
    exact hD.1 i j x y (by rw [List.getElem?_append_left hi]; exact hx) (by rw [List.getElem?_append_left hj]; exact hy) hxy, fun k x hx => by
    have hi : k < wr.length := (List.getElem?_eq_some_iff.mp hx).1
    exact hD.2 k x (by rw [List.getElem?_append_left hi]; exact hx)⟩
  obtain ⟨t2, a1, b1⟩ := K w1 hpost T'.heap (locs ++ L) ls (va_P.app hPr (by rw [e1]; exact hp)) (va_D.app hDr (hd.weaken (fun k x _ h => hF x.1 h)) (fun i j x y hx hy hxy => (apart i x hx).2 (by rw [hxy]; exact hd.2 j y hy))) ⟨Nat.le_trans hS.1 (by rw [e1]; exact hz), fun x h1 h2 => by rw [e1, hk x (Nat.lt_of_lt_of_le h1 hS.1) (fun z => h2 (hF x z))]; exact hS.2.1 x h1 h2, fun x hx => by
      rcases List.mem_append.mp hx with h | h
      · exact hS.2.2 x h
      · exact hF _ (hL x h)⟩ hA hls T' rfl X'
  exact ⟨t2, hst t2 a1, b1⟩
theorem c_I (C : COk G X own cc n) {idx na q : Nat} {e : va_E} {wr : va_W} {y : MethodName} {c2 : ByteArray} {n2 fr2 lo2 mc ms : Nat} {av : List Value} {post : va_W → Prop} {st' : List Value} (d : decode cc pc = .ok (.invokespecial idx, 3)) (hM : Mi G y c2 n2 fr2 lo2 mc ms (.ref q :: av) [(q, e)] post) (hl : Cond.methodLink own idx y ∈ WL) (hin : Cond.instanceMethod y ∈ WL) (hini : Cond.initialized y.cls ∈ WL) (hcode : Cond.code y c2 n2 none ∈ WL) (hyn : y.name = "<init>") (hd : y.cls ≠ "java/lang/invoke/MethodHandle" ∧ y.cls ≠ "java/lang/invoke/VarHandle" ∧ (parseMethodDescriptor y.desc).map (fun d => d.parameters.length) = some na) (hna : av.length = na) (hR : fr2 + 1 ≤ R.frames ∧ 8 + (n2 + 11) + lo2 ≤ R.locals) (hf : cells + mc ≤ R.cells ∧ slots + ms ≤ R.slots) (hws : ws = wr ++ [(q, e)]) (st : List Value) (hst : st' = av.reverse ++ .ref q :: st) (hcat : (st.map fun v => v.category).sum ≤ 8)
    (K : ∀ w1, post w1 → WC G X n R Q A (wr ++ w1) (cells + mc) (slots + ms) (pc + 3) lv st) : WC G X n R Q A ws cells slots pc lv st' := fun H locs ls hP hD hS hA hls => by
  subst hws
  have hPc : va_P G.2.1 vwCl [(q, e)] H := fun k x hx => hP (wr.length + k) x (by rw [List.getElem?_append_right (by omega)]; simpa using hx)
  have hDc : va_D (fun _ => True) [(q, e)] := ⟨fun i j x y hx hy _ => by
    have h1 := (List.getElem?_eq_some_iff.mp hx).1
    have h2 := (List.getElem?_eq_some_iff.mp hy).1
    simp at h1 h2
    omega, fun _ _ _ => trivial⟩
  exact c_run (va_runI (As := av) (rest := st) ⟨C.1, C.2.1, C.2.2.2.1, C.2.2.2.2.1, C.2.2.2.2.2.1⟩ (hM H.size) ⟨callB_of na C.2.2.2.2.2.1 (wl_C hcode) rfl rfl rfl (C.2.2.2.2.2.1 _ hini) (C.2.2.2.2.2.1 _ hl) hd hR, hyn, C.2.2.2.2.2.1 _ hin⟩ ⟨PI_blind, fun U hU hW => ⟨rfl, by rw [hU], K0.moved hW C.2.2.2.2.2.2.2.1, by rw [hU]; exact hPc, hDc⟩⟩ rfl hna hls.1 hst (lv_room hcat) d hf) hP hD hS hA hls K
theorem c_IN (C : COk G X own cc n) {idx na q : Nat} {e : va_E} {wr : va_W} {host : String} {y : MethodName} {c2 : ByteArray} {n2 fr2 lo2 mc ms : Nat} {av : List Value} {post : va_W → Prop} {st' : List Value} (d : decode cc pc = .ok (.invokespecial idx, 3)) (hM : Mi G y c2 n2 fr2 lo2 mc ms (.ref q :: av) [(q, e)] post) (hl : va_Nw (.methodLinkNest own idx y host) X.2.2.1) (hin : Cond.instanceMethod y ∈ WL) (hini : Cond.initialized y.cls ∈ WL) (hcode : Cond.code y c2 n2 none ∈ WL) (hyn : y.name = "<init>") (hd : y.cls ≠ "java/lang/invoke/MethodHandle" ∧ y.cls ≠ "java/lang/invoke/VarHandle" ∧ (parseMethodDescriptor y.desc).map (fun d => d.parameters.length) = some na) (hna : av.length = na) (hR : fr2 + 1 ≤ R.frames ∧ 8 + (n2 + 11) + lo2 ≤ R.locals) (hf : cells + mc ≤ R.cells ∧ slots + ms ≤ R.slots) (hws : ws = wr ++ [(q, e)]) (st : List Value) (hst : st' = av.reverse ++ .ref q :: st) (hcat : (st.map fun v => v.category).sum ≤ 8)
    (K : ∀ w1, post w1 → WC G X n R Q A (wr ++ w1) (cells + mc) (slots + ms) (pc + 3) lv st) : WC G X n R Q A ws cells slots pc lv st' := fun H locs ls hP hD hS hA hls => by
  subst hws
  have hPc : va_P G.2.1 vwCl [(q, e)] H := fun k x hx => hP (wr.length + k) x (by rw [List.getElem?_append_right (by omega)]; simpa using hx)
  have hDc : va_D (fun _ => True) [(q, e)] := ⟨fun i j x y hx hy _ => by
    have h1 := (List.getElem?_eq_some_iff.mp hx).1
    have h2 := (List.getElem?_eq_some_iff.mp hy).1
    simp at h1 h2
    omega, fun _ _ _ => trivial⟩
  exact c_run (va_runIN (As := av) (rest := st) ⟨C.1, C.2.1, C.2.2.2.1, C.2.2.2.2.1, C.2.2.2.2.2.1⟩ (hM H.size) ⟨va_cnB na C.2.2.2.2.2.1 (wl_C hcode) rfl rfl rfl hl (C.2.2.2.2.2.1 _ hini) hd hR, hyn, C.2.2.2.2.2.1 _ hin⟩ ⟨PI_blind, fun U hU hW => ⟨rfl, by rw [hU], K0.moved hW C.2.2.2.2.2.2.2.1, by rw [hU]; exact hPc, hDc⟩⟩ rfl hna hls.1 hst (lv_room hcat) d hf) hP hD hS hA hls K
theorem c_ret {ws0 : va_W} {post : va_W → Prop} {fr lo mc ms : Nat} (C : COk G X own cc n) (d : decode cc pc = .ok (.return_, 1)) (hp : post ws) : WC G X n (Ri fr lo mc ms) (MQ X.2.2.2.2.2.1 (QI G.2.1 post ws0 X.2.2.1.heap.size) X.2.2.2.2.1 X.2.2.1 mc ms (va_A ws0 X.2.2.1.heap.size)) (va_A ws0 X.2.2.1.heap.size) ws mc ms pc lv [] := fun H locs ls hP hD hS hA hl =>
  W.vret C.1 C.2.1 C.2.2.1 (fun t ht hW => ⟨rfl, ⟨ws, hp, by rw [ht]; exact hP, hD⟩, hS.F ht⟩) hS.2.2 d C.2.2.2.2.2.2.1
end
