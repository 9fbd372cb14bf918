-- THE WORLD: cells by number; a state is what each int cell and each long cell holds
abbrev St : Type := (Nat → Nat → Int32) × (Nat → Nat → Int64)
def si (S : St) (c k : Nat) (v : Int32) : St := (fun d => if d = c then upd (S.1 c) k v else S.1 d, S.2)
def sj (S : St) (c k : Nat) (v : Int64) : St := (S.1, fun d => if d = c then vp_updL (S.2 c) k v else S.2 d)
def sr (S : St) (c : Nat) (f : Nat → Int32) : St := (fun d => if d = c then f else S.1 d, S.2)
def sl (S : St) (c : Nat) (f : Nat → Int64) : St := (S.1, fun d => if d = c then f else S.2 d)
/-- a named value -/
def pl {α β : Type} (a : α) (k : α → β) : β := k a
theorem pl_at {α β : Type} {a x : α} {k : α → β} {r : β} (e : x = a) (h : pl a k = r) : k x = r := by subst e; exact h
/-- a place in a row of n -/
def ld {β : Type} (i : Int32) (n : Nat) (k : Nat → Option β) : Option β := if i < 0 ∨ n ≤ i.toNatClampNeg then none else k i.toNatClampNeg
theorem ld_some {β : Type} {i : Int32} {n : Nat} {k : Nat → Option β} {r : β} (h : ld i n k = some r) : vp_in i n ∧ k i.toNatClampNeg = some r := by
  unfold ld at h
  by_cases c : i < 0 ∨ n ≤ i.toNatClampNeg
  · rw [if_pos c] at h; cases h
  · rw [if_neg c] at h; exact ⟨c, h⟩
/-- a condition that must hold -/
def ok {β : Type} (c : Prop) [Decidable c] (k : Option β) : Option β := if c then k else none
theorem ok_some {β : Type} {c : Prop} [Decidable c] {k : Option β} {r : β} (h : ok c k = some r) : c ∧ k = some r := by
  unfold ok at h
  by_cases q : c
  · rw [if_pos q] at h; exact ⟨q, h⟩
  · rw [if_neg q] at h; cases h
/-- an answer of a call: a state and a value -/
def bq {σ α β : Type} (x : Option (σ × α)) (k : σ → α → Option β) : Option β := match x with
  | none => none
  | some p => k p.1 p.2
theorem bq_some {σ α β : Type} {x : Option (σ × α)} {k : σ → α → Option β} {r : β} (h : bq x k = some r) : ∃ p, x = some p ∧ k p.1 p.2 = some r := by
  cases x with
  | none => cases h
  | some p => exact ⟨p, rfl, h⟩
/-- a state alone -/
def bv {σ β : Type} (x : Option σ) (k : σ → Option β) : Option β := match x with
  | none => none
  | some p => k p
theorem bv_some {σ β : Type} {x : Option σ} {k : σ → Option β} {r : β} (h : bv x k = some r) : ∃ p, x = some p ∧ k p = some r := by
  cases x with
  | none => cases h
  | some p => exact ⟨p, rfl, h⟩
theorem ite_t {α : Type} {c : Prop} [Decidable c] {a b r : α} (hc : c) (h : (if c then a else b) = r) : a = r := by rw [if_pos hc] at h; exact h
theorem ite_f {α : Type} {c : Prop} [Decidable c] {a b r : α} (hc : ¬ c) (h : (if c then a else b) = r) : b = r := by rw [if_neg hc] at h; exact h
abbrev CE : Type := Nat → (Nat → Int32) → (Nat → Int64) → va_E
def wS (q : Nat → Nat) (N : Nat) (cx : CE) (S : St) : va_W := (List.range N).map (fun k => (q k, cx k (S.1 k) (S.2 k)))
theorem wS_get {q : Nat → Nat} {N : Nat} {cx : CE} {S : St} {k : Nat} {e : va_E} (hk : k < N) (he : cx k (S.1 k) (S.2 k) = e) : (wS q N cx S)[k]? = some (q k, e) := by
  subst he
  simp [wS, hk]
theorem wS_set {q : Nat → Nat} {N : Nat} {cx : CE} {S S' : St} {k : Nat} {e : va_E} (he : cx k (S'.1 k) (S'.2 k) = e) (h1 : ∀ j, j ≠ k → S'.1 j = S.1 j) (h2 : ∀ j, j ≠ k → S'.2 j = S.2 j) : (wS q N cx S).set k (q k, e) = wS q N cx S' := by
  subst he
  apply List.ext_getElem?
  intro j
  by_cases hj : j = k
  · subst hj
    by_cases hN : j < N
    · simp [wS, hN]
    · simp [wS, hN]
  · rw [List.getElem?_set_ne (fun e => hj e.symm)]
    by_cases hN : j < N
    · simp [wS, hN, h1 j hj, h2 j hj]
    · simp [wS, hN]
def aS (q : Nat → Nat) (N : Nat) : Nat → Prop := fun a => ∃ k, k < N ∧ a = q k
def inj (q : Nat → Nat) (N : Nat) : Prop := ∀ i j, i < N → j < N → q i = q j → i = j
theorem wS_at {q : Nat → Nat} {N : Nat} {cx : CE} {S : St} {i : Nat} {x : Nat × va_E} (h : (wS q N cx S)[i]? = some x) : i < N ∧ x.1 = q i := by
  by_cases hN : i < N
  · simp [wS, hN] at h
    exact ⟨hN, by rw [← h]⟩
  · simp [wS, hN] at h
theorem wS_D {q : Nat → Nat} {N : Nat} {cx : CE} {S : St} (hq : inj q N) : va_D (aS q N) (wS q N cx S) := by
  refine ⟨fun i j x y hx hy hxy => ?_, fun k x hx => ?_⟩
  · obtain ⟨h1, h2⟩ := wS_at hx
    obtain ⟨h3, h4⟩ := wS_at hy
    exact hq i j h1 h3 (by rw [← h2, ← h4, hxy])
  · obtain ⟨h1, h2⟩ := wS_at hx
    exact ⟨k, h1, h2⟩
theorem si_k {S : St} {c k : Nat} {v : Int32} : (si S c k v).1 c = upd (S.1 c) k v := if_pos rfl
theorem si_n {S : St} {c k : Nat} {v : Int32} (j : Nat) (h : j ≠ c) : (si S c k v).1 j = S.1 j := if_neg h
theorem sj_k {S : St} {c k : Nat} {v : Int64} : (sj S c k v).2 c = vp_updL (S.2 c) k v := if_pos rfl
theorem sj_n {S : St} {c k : Nat} {v : Int64} (j : Nat) (h : j ≠ c) : (sj S c k v).2 j = S.2 j := if_neg h
theorem sr_k {S : St} {c : Nat} {f : Nat → Int32} : (sr S c f).1 c = f := if_pos rfl
theorem sr_n {S : St} {c : Nat} {f : Nat → Int32} (j : Nat) (h : j ≠ c) : (sr S c f).1 j = S.1 j := if_neg h
theorem sl_k {S : St} {c : Nat} {f : Nat → Int64} : (sl S c f).2 c = f := if_pos rfl
theorem sl_n {S : St} {c : Nat} {f : Nat → Int64} (j : Nat) (h : j ≠ c) : (sl S c f).2 j = S.2 j := if_neg h
-- THE WORDS: all good words of the tables
def WL : List Cond := lw_tbl.filter goodWord
theorem wl_of {w : Cond} (h : w ∈ lw_tbl) (hg : goodWord w = true) : w ∈ WL := List.mem_filter.mpr ⟨h, hg⟩
theorem wl_t {w : Cond} (i : Nat) (h : tables_1[i]? = some w) (hg : goodWord w = true) : w ∈ WL := wl_of (List.mem_append_right _ (List.mem_of_getElem? h)) hg
theorem wl_s {w : Cond} (i : Nat) (h : (k2_sels lw_privs)[i]? = some w) (hg : goodWord w = true) : w ∈ WL := wl_of (List.mem_append_left _ (List.mem_of_getElem? h)) hg
theorem wl_r {ws : List Cond} (ps : List Nat) (hp : ws = ps.filterMap (fun i => tables_1[i]?)) (hg : ws.all goodWord = true) : ∀ w ∈ ws, w ∈ WL := by
  intro w hw
  have h1 := List.all_eq_true.mp hg w hw
  rw [hp] at hw
  obtain ⟨i, -, hi⟩ := List.mem_filterMap.mp hw
  exact wl_t i hi h1
theorem wl_good : GoodIn WL WL := fun w h => ⟨h, good_of_word (List.mem_filter.mp h).2⟩
theorem wl_sub {ws : List Cond} (h : ∀ w ∈ ws, w ∈ WL) : GoodIn WL ws := fun w hw => wl_good w (h w hw)
/-- what a callee is, by its words -/
def isV (y : MethodName) (bs : ByteArray) (n : Nat) (r : Option FieldType) : Prop := Cond.instanceMethod y ∈ WL ∧ Cond.selects y.cls y y ∈ WL ∧ Cond.initialized y.cls ∈ WL ∧ Cond.code y bs n r ∈ WL
def isS (y : MethodName) (bs : ByteArray) (n : Nat) (r : Option FieldType) : Prop := Cond.static y ∈ WL ∧ Cond.initialized y.cls ∈ WL ∧ Cond.code y bs n r ∈ WL
theorem wl_V {own : String} {idx : Nat} {y : MethodName} {bs : ByteArray} {n : Nat} {r : Option FieldType} (h1 : Cond.methodLink own idx y ∈ WL) (h : isV y bs n r) : GoodIn WL (wsV own idx y.cls y (Cond.code y bs n r :: WL)) := by
  refine wl_sub (fun w hw => ?_)
  simp only [wsV, List.cons_append, List.nil_append, List.mem_cons] at hw
  rcases hw with rfl | rfl | rfl | rfl | rfl | hw
  · exact h1
  · exact h.1
  · exact h.2.1
  · exact h.2.2.1
  · exact h.2.2.2
  · exact hw
theorem wl_S {own : String} {idx : Nat} {y : MethodName} {bs : ByteArray} {n : Nat} {r : Option FieldType} (h1 : Cond.methodLink own idx y ∈ WL) (h : isS y bs n r) : GoodIn WL (va_wsS own idx y (Cond.code y bs n r :: WL)) := by
  refine wl_sub (fun w hw => ?_)
  simp only [va_wsS, List.cons_append, List.nil_append, List.mem_cons] at hw
  rcases hw with rfl | rfl | rfl | rfl | hw
  · exact h1
  · exact h.1
  · exact h.2.1
  · exact h.2.2
  · exact hw
theorem wl_C {c : Cond} (h : c ∈ WL) : GoodIn WL (c :: WL) := wl_sub (fun w hw => by
  rcases List.mem_cons.mp hw with rfl | hw
  · exact h
  · exact hw)
-- THE SURROUNDINGS: classes, static rows, string constants
def tyL (g : Nat → ClassId) : List (ClassId × FieldType) := [(g 0, .int), (g 1, .long), (g 2, .boolean), (g 3, .object "FeltHouse$Sheet")]
def tbK (i : Nat) : Int32 := ([0, 0, 0, 0, 0, 4, 2] : List Int32).getD i 0
def tbS (i : Nat) : Int32 := ([99, 7, 9, 99, 60] : List Int32).getD i 0
def tbH (i : Nat) : Int32 := ([999, 99, 999] : List Int32).getD i 0
/-- the literals: part pole band stone felt flap rope camp beast draw weight wear grass -/
def sIx : List Nat := [140, 128, 130, 132, 134, 136, 138, 47, 52, 57, 78, 87, 99]
def sTx : List String := ["part", "pole", "band", "stone", "felt", "flap", "rope", "camp", "beast", "draw", "weight", "wear", "grass"]
def sLen : List Nat := [4, 4, 4, 5, 4, 4, 4, 4, 5, 4, 6, 4, 5]
def sByt : List (List Int32) := [[112, 97, 114, 116], [112, 111, 108, 101], [98, 97, 110, 100], [115, 116, 111, 110, 101], [102, 101, 108, 116], [102, 108, 97, 112], [114, 111, 112, 101], [99, 97, 109, 112], [98, 101, 97, 115, 116], [100, 114, 97, 119], [119, 101, 105, 103, 104, 116], [119, 101, 97, 114], [103, 114, 97, 115, 115]]
def Ev (D : va_G) (g : Nat → ClassId) (Z : Nat → Nat) (A : Nat → Prop) (s : State) (H : Heap) : Prop :=
  va_K D vwCl (tyL g) s ∧
  (va_Nw (.methodLinkNest RX6 51 yX5_init "FeltHouse") s ∧ va_Nw (.methodLinkNest RX6 62 yX3_init "FeltHouse") s ∧ va_Nw (.methodLinkNest RX0 118 yX6_isOfKind "FeltHouse") s ∧ va_Nw (.methodLinkNest RX5 114 yX6_within "FeltHouse") s) ∧
  (va_Z "FeltHouse" "KIND_ABOVE" "[I" (.ref (Z 0)) A s H ∧ va_T .int (Z 0) 7 (fun i => .int (tbK i)) A s H) ∧
  (va_Z "FeltHouse" "SKY_MOST" "[I" (.ref (Z 1)) A s H ∧ va_T .int (Z 1) 5 (fun i => .int (tbS i)) A s H) ∧
  (va_Z "FeltHouse" "HERDING_MOST" "[I" (.ref (Z 2)) A s H ∧ va_T .int (Z 2) 3 (fun i => .int (tbH i)) A s H) ∧
  vk_S 13 sLen sByt (fun i => Z (10 + i)) (fun i => Z (30 + i)) A s H ∧
  (∀ i, i < 13 → vk_R RX5 (sIx.getD i 0) (sTx.getD i "") (Z (10 + i)) s) ∧
  va_Z "java/lang/String" "COMPACT_STRINGS" "Z" (.int 1) A s H ∧
  va_Zq "jdk/internal/util/Preconditions" "SIOOBE_FORMATTER" "Ljava/util/function/BiFunction;" A s H
theorem Ev.moved {D : va_G} {g : Nat → ClassId} {Z : Nat → Nat} {A : Nat → Prop} {s U : State} {H H1 : Heap} (hW : s.WarmedH U.vm) (hq : ∀ a : Nat, a < H.size → ¬ A a → H1[a]? = H[a]?) (h : Ev D g Z A s H) : Ev D g Z A U H1 := by
  obtain ⟨h1, ⟨n1, n2, n3, n4⟩, ⟨k1, k2⟩, ⟨k3, k4⟩, ⟨k5, k6⟩, s1, s2, s3, s4⟩ := h
  exact ⟨va_K.moved hW.alike h1, ⟨va_Nw.warmM hW n1, va_Nw.warmM hW n2, va_Nw.warmM hW n3, va_Nw.warmM hW n4⟩, ⟨(va_Z.moved hW.alike k1).kept hq, (va_T.moved hW.alike k2).kept hq⟩, ⟨(va_Z.moved hW.alike k3).kept hq, (va_T.moved hW.alike k4).kept hq⟩, ⟨(va_Z.moved hW.alike k5).kept hq, (va_T.moved hW.alike k6).kept hq⟩, (vk_S.moved hW.alike s1).kept hq, fun i hi => vk_R.warm hW (s2 i hi), (va_Z.moved hW.alike s3).kept hq, (va_Zq.moved hW.alike s4).kept hq⟩
theorem Ev.same {D : va_G} {g : Nat → ClassId} {Z : Nat → Nat} {A : Nat → Prop} {u U : State} {H : Heap} (hv : u.vm = U.vm) (h : Ev D g Z A u H) : Ev D g Z A U H := by
  have hvm : u.vm.Alike U.vm := by rw [← hv]; exact Vm.Alike.refl u.vm
  obtain ⟨h1, ⟨n1, n2, n3, n4⟩, ⟨k1, k2⟩, ⟨k3, k4⟩, ⟨k5, k6⟩, s1, s2, s3, s4⟩ := h
  exact ⟨va_K.moved hvm h1, ⟨va_Nw.same rfl hv n1, va_Nw.same rfl hv n2, va_Nw.same rfl hv n3, va_Nw.same rfl hv n4⟩, ⟨va_Z.moved hvm k1, va_T.moved hvm k2⟩, ⟨va_Z.moved hvm k3, va_T.moved hvm k4⟩, ⟨va_Z.moved hvm k5, va_T.moved hvm k6⟩, vk_S.moved hvm s1, fun i hi => vk_R.same hv.symm (s2 i hi), va_Z.moved hvm s3, va_Zq.moved hvm s4⟩
-- CONTRACTS
abbrev VT : Type := Nat × ((Nat → Nat) → (Nat → ClassId) → CE)
/-- the launch, the classes' numbers, the array classes, the fixed cells, the world's cells -/
abbrev YT : Type := Launch × va_G × (Nat → ClassId) × (Nat → Nat) × (Nat → Nat)
abbrev XT : Type := Program × Env × State × MethodId × Array Value × List Frame × Method × Code
abbrev rf (Y : YT) (k : Nat) : Value := .ref (Y.2.2.2.2 k)
abbrev rz (Y : YT) (k : Nat) : Value := .ref (Y.2.2.2.1 k)
abbrev wV (V : VT) (Y : YT) (S : St) : va_W := wS Y.2.2.2.2 V.1 (V.2 Y.2.2.2.2 Y.2.2.1) S
abbrev aV (V : VT) (Y : YT) : Nat → Prop := aS Y.2.2.2.2 V.1
def PX (V : VT) (Y : YT) (S : St) (av : List Value) : Array Value → State → Prop := fun v U => v = av.toArray ∧ inj Y.2.2.2.2 V.1 ∧ Ev Y.2.1 Y.2.2.1 Y.2.2.2.1 (aV V Y) U U.heap ∧ va_P Y.2.1 vwCl (wV V Y S) U.heap
def QX (V : VT) (Y : YT) (R : Option Value × St) : Array Value → State → Outcome → State → Prop := fun _ st o t => o = .returned R.1 ∧ va_P Y.2.1 vwCl (wV V Y R.2) t.heap ∧ va_F (aV V Y) st t
theorem PX_blind {V : VT} {Y : YT} {S : St} {av : List Value} : FrameBlind (PX V Y S av) := fun a U f mk h => ⟨h.1, h.2.1, Ev.same (U := U.calling f mk a) rfl h.2.2.1, h.2.2.2⟩
abbrev Rm (fr lo : Nat) : Room := { frames := fr, cells := 0, slots := 0, locals := lo }
def Mc (V : VT) (Y : YT) (y : MethodName) (cc : ByteArray) (n : Nat) (r : Option FieldType) (fr lo : Nat) (av : List Value) (S : St) (R : Option Value × St) : Prop :=
  Met Y.1 y (Cond.code y cc n r :: WL) (Rm fr lo) (PX V Y S av) (QX V Y R) 0 0 (aV V Y)
/-- what holds all through a method -/
def Ok (V : VT) (Y : YT) (X : XT) (own : String) (cc : ByteArray) (n : Nat) (r : Option FieldType) : Prop :=
  X.1.tables.exec = Jvm.exec ∧ X.2.2.2.2.2.2.2.code = cc ∧ X.2.2.2.2.2.2.1.sig.returnType = r ∧ X.2.2.2.2.2.2.2.maxLocals = n ∧ X.2.2.1.vm.findClass own = some X.2.2.2.1.cls ∧ (∀ w ∈ WL, w.before X.2.2.2.2.1 X.2.2.1 = true) ∧ X.2.2.2.2.2.2.1.locks = false ∧ Ev Y.2.1 Y.2.2.1 Y.2.2.2.1 (aV V Y) X.2.2.1 X.2.2.1.heap ∧ inj Y.2.2.2.2 V.1
/-- the machine at pc in a state S comes to the answer R -/
def WS (V : VT) (Y : YT) (X : XT) (n fr lo : Nat) (R : Option Value × St) (S : St) (pc : Nat) (lv : List (Nat × Value)) (st : List Value) : Prop :=
  ∀ (H : Heap) (locs : List Loc) (ls : Array Slot), va_P Y.2.1 vwCl (wV V Y S) H → va_S (aV V Y) X.2.2.1.heap H locs → lv_has ls n lv →
    W X.1 Y.1 X.2.1 (Rm fr lo) X.2.2.1 X.2.2.2.1 X.2.2.2.2.1 X.2.2.2.2.2.1 X.2.2.2.2.2.2.1 X.2.2.2.2.2.2.2 H locs 0 0 (MQ X.2.2.2.2.2.1 (QX V Y R) X.2.2.2.2.1 X.2.2.1 0 0 (aV V Y)) (F0 X.2.2.2.1 pc ls st)
theorem Mc.start {V : VT} {Y : YT} {y : MethodName} {cc : ByteArray} {n : Nat} {r : Option FieldType} {fr lo : Nat} {av : List Value} {S : St} {R : Option Value × St} (lv : List (Nat × Value)) (hlv : lv_args 0 av = lv) (hy : plainName y.cls = true) (hlen : (lg_sl av).length ≤ n)
    (body : ∀ X : XT, Ok V Y X y.cls cc n r → WS V Y X n fr lo R S 0 lv []) : Mc V Y y cc n r fr lo av S R := by
  refine Met.ofW (cc := cc) (maxL := n) (ret := r) hy rfl ?_
  intro p e s m args below meth c s₁ B hml hv
  obtain ⟨rfl, hi, hE, hP⟩ := hv
  have hts := atoms_spec (ws := Cond.code y cc n r :: WL) B.pre
  have hl := lv_entry av (n := n) hlen
  rw [lg_entry_eq]
  subst hlv
  exact body (p, e, s, m, av.toArray, below, meth, c) ⟨B.exec, B.bytes, B.returns, hml, findClass_of_methodNamed B.named, fun w h => hts w (List.mem_cons_of_mem _ h), B.notSynchronized, hE, hi⟩ s.heap [] _ hP va_S.rf hl
