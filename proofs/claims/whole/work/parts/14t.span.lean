-- span
def PD (H : Hs) (w : Nat) : Prop := VS (up2 H 8 0 w)
def SpI (H : Hs) (w : Nat) (a b : Int32) : Prop := (a = -1 ∧ b = -1 ∧ ∀ t, t < w → ¬ PD H t) ∨ (∃ l h, l < w ∧ h < w ∧ PD H l ∧ (∀ t, t < l → ¬ PD H t) ∧ PD H h ∧ (∀ t, h < t → t < w → ¬ PD H t) ∧ a = nI l ∧ b = nI h)
theorem spanM {F : Nat} (hF : 1000 ≤ F) {M : St} {H : Hs} (hw : Wf H) (hm : ShM (M.1 1) H) {J : St → Int32 → Int32 → Option (St × Int32)} : ∀ (G w : Nat) (a b : Int32) (M' : St), w ≤ 100 → 100 - w < G → SpI H w a b → Bk M M' 8 → ∃ a' b' M1, SpI H 100 a' b' ∧ Bk M M1 8 ∧ fX7_span_L33 F J G M' a b (nI w) = J M1 a' b' := by
  intro G
  induction G with
  | zero => intro w a b M' h1 h2; omega
  | succ G ih =>
    intro w a b M' h1 h2 hi hb
    rw [fX7_span_L33]
    by_cases hw100 : w = 100
    · subst hw100
      exact ⟨a, b, M', hi, hb, by rw [if_pos (show (100 : Int32) ≤ nI 100 from by decide)]⟩
    · have hw' : w ≤ 99 := by omega
      rw [if_neg (show ¬ (100 : Int32) ≤ nI w from nI_ge (b := 100) (by omega) (by decide)), sti_l (c := 1) 8 (by decide) (by decide), hb]
      simp only [pl_e]
      rw [nI_1]
      rcases standM (F := F) (by omega) (wfD hw hw') (smD (w := w) hw hm) with ⟨v', e'⟩ | ⟨v', e'⟩
      · rw [e', bv_e, if_neg n10]
        rcases hi with ⟨rfl, rfl, hi⟩ | ⟨l, h, l1, h1', l2, l3, h3, h4, rfl, rfl⟩
        · rw [if_neg neg1.1]
          exact ih (w + 1) _ _ _ (by omega) (by omega) (Or.inr ⟨w, w, by omega, by omega, v', fun t ht => hi t ht, v', fun t t1 t2 => by omega, rfl, rfl⟩) Bk.up
        · rw [if_pos (nI_pos' (by omega))]
          exact ih (w + 1) _ _ _ (by omega) (by omega) (Or.inr ⟨l, w, by omega, by omega, l2, l3, v', fun t t1 t2 => by omega, rfl, rfl⟩) Bk.up
      · rw [e', bv_e, if_pos rfl]
        refine ih (w + 1) _ _ _ (by omega) (by omega) ?_ Bk.up
        rcases hi with ⟨rfl, rfl, hi⟩ | ⟨l, h, l1, h1', l2, l3, h3, h4, rfl, rfl⟩
        · refine Or.inl ⟨rfl, rfl, fun t ht => ?_⟩
          by_cases e : t = w
          · rw [e]; exact v'
          · exact hi t (by omega)
        · refine Or.inr ⟨l, h, by omega, by omega, l2, l3, h3, fun t t1 t2 => ?_, rfl, rfl⟩
          by_cases e : t = w
          · rw [e]; exact v'
          · exact h4 t t1 (by omega)
theorem spanX {F : Nat} (hF : 1000 ≤ F) {M : St} {H : Hs} (hw : Wf H) {k : Nat} (hk : k ≤ 1) {J59 J73 : St → Option (St × Int32)} : ∀ (G w : Nat) (X' : St), w ≤ 100 → 100 - w < G → Rel X' M → FrK 3 8 0 X' H → (∀ t, t < w → ¬ PD H (if k = 0 then t else 99 - t)) → ∃ X1, Rel X1 M ∧ ((fX6_span_L24 F (nI k) J59 J73 G X' (nI w) = J73 X1 ∧ ∀ t, t < 100 → ¬ PD H (if k = 0 then t else 99 - t)) ∨ ∃ u, u < 100 ∧ fX6_span_L24 F (nI k) J59 J73 G X' (nI w) = J59 X1 ∧ X1.1 34 3 = nI (if k = 0 then u else 99 - u) ∧ PD H (if k = 0 then u else 99 - u) ∧ ∀ t, t < u → ¬ PD H (if k = 0 then t else 99 - t)) := by
  intro G
  induction G with
  | zero => intro w X' h1 h2; omega
  | succ G ih =>
    intro w X' h1 h2 hR hx hi
    rw [fX6_span_L24]
    by_cases hw100 : w = 100
    · subst hw100
      exact ⟨X', hR, Or.inl ⟨by rw [if_pos (show (99 : Int32) < nI 100 from by decide)], hi⟩⟩
    · have hw' : w ≤ 99 := by omega
      have hu : (if k = 0 then w else 99 - w) ≤ 99 := by split <;> omega
      rw [if_neg (show ¬ (99 : Int32) < nI w from nI_nlt (a := 99) hw' (by decide))]
      simp only [pl_e]
      rw [nI_1]
      obtain ⟨X1, g1, g2, g3, g4⟩ := standX (F := F) (by omega) (wfD hw hu) (hx (if k = 0 then w else 99 - w))
      have hR1 : Rel X1 M := rel_fr hR (fun d hd => by rw [g2 d (by omega) (by omega), si_o (by omega)]) g3
      have hif : ∀ f : Int32 → Option (St × Int32), (if nI k = 0 then f (nI w) else f (99 - nI w)) = f (nI (if k = 0 then w else 99 - w)) := by
        intro f
        rw [if2 (lit_eq (a := k) (n := 0) (by omega) (by decide))]
        by_cases c : k = 0
        · rw [if_pos c, if_pos c]
        · rw [if_neg c, if_neg c, show (99 : Int32) = nI 99 from rfl, pk_sub hw']
      rw [hif (fun v9 => bq (fX0_isStanding F (si X' 34 3 v9)) fun S11 v12 => if v12 = 0 then fX6_span_L24 F (nI k) J59 J73 G S11 (nI (w + 1)) else J59 S11)]
      rcases g4 with ⟨v, e⟩ | ⟨v, e⟩
      · refine ⟨X1, hR1, Or.inr ⟨w, by omega, ?_, ?_, v, hi⟩⟩
        · show (bq (fX0_isStanding F (si X' 34 3 (nI (if k = 0 then w else 99 - w)))) fun S11 v12 => if v12 = 0 then fX6_span_L24 F (nI k) J59 J73 G S11 (nI (w + 1)) else J59 S11) = J59 X1
          rw [e, bq_e, if_neg n10]
        · rw [g2 34 (by decide) (by decide), si_h]
      · have hb : (bq (fX0_isStanding F (si X' 34 3 (nI (if k = 0 then w else 99 - w)))) fun S11 v12 => if v12 = 0 then fX6_span_L24 F (nI k) J59 J73 G S11 (nI (w + 1)) else J59 S11) = fX6_span_L24 F (nI k) J59 J73 G X1 (nI (w + 1)) := by
          rw [e, bq_e, if_pos rfl]
        show ∃ X1, Rel X1 M ∧ (((bq (fX0_isStanding F (si X' 34 3 (nI (if k = 0 then w else 99 - w)))) fun S11 v12 => if v12 = 0 then fX6_span_L24 F (nI k) J59 J73 G S11 (nI (w + 1)) else J59 S11) = J73 X1 ∧ ∀ t, t < 100 → ¬ PD H (if k = 0 then t else 99 - t)) ∨ ∃ u, u < 100 ∧ (bq (fX0_isStanding F (si X' 34 3 (nI (if k = 0 then w else 99 - w)))) fun S11 v12 => if v12 = 0 then fX6_span_L24 F (nI k) J59 J73 G S11 (nI (w + 1)) else J59 S11) = J59 X1 ∧ X1.1 34 3 = nI (if k = 0 then u else 99 - u) ∧ PD H (if k = 0 then u else 99 - u) ∧ ∀ t, t < u → ¬ PD H (if k = 0 then t else 99 - t))
        rw [hb]
        refine ih (w + 1) X1 (by omega) (by omega) hR1 (hx.next g2) (fun t ht => ?_)
        by_cases e : t = w
        · rw [e]; exact v
        · exact hi t (by omega)
theorem st_span {F : Nat} (hF : 1000 ≤ F) : s_span Rel F := by
  intro X M a1 hR
  show Ag _ _
  obtain ⟨⟨H, hS⟩, -⟩ := id hR
  unfold fX6_span fX7_span
  simp only [bq_eta, pl_e]
  rw [asItIs_e, bv_e]
  refine guard (by decide) (by decide) (find0 hR) (fun c => ?_)
  obtain ⟨k, -, hk, rfl⟩ := inb_nI (lo := 0) (hi := 1) c (by decide) (by decide)
  rw [ldi_l (c := 1) 8 (by decide) (by decide)]
  obtain ⟨a', b', M1, i1, i2, i3⟩ := spanM hF hS.1 hS.2.2 (J := fun S3 v4 v5 => sti S3 1 8 216 (M.1 1 8) fun S6 => if 0 ≤ v4 then (if nI k = 0 then some (S6, v4) else some (S6, v5)) else fX7_finds S6 (-1000000004)) F 0 (-1) (-1) M (by omega) (by omega) (Or.inl ⟨rfl, rfl, fun t ht => by omega⟩) Bk.re
  obtain ⟨X1, hR1, j2⟩ := spanX (M := M) hF hS.1 hk (J59 := fun S3 => some (S3, S3.1 34 3)) (J73 := fun S4 => fX6_finding S4 3) F 0 (asIs X) (by omega) (by omega) (asIs_rel hR) (frk (asIs_fr hS.2.1)).2.2 (fun t ht => by omega)
  rw [sti_l (c := 1) 8 (by decide) (by decide), i2, si_id] at i3
  rcases j2 with ⟨e, hno⟩ | ⟨u, hu, e, e34, pu, hlt⟩
  · have hnone : ∀ t, t < 100 → ¬ PD H t := by
      intro t ht
      by_cases c0 : k = 0
      · have := hno t ht; rw [if_pos c0] at this; exact this
      · have := hno (99 - t) (by omega); rw [if_neg c0, show 99 - (99 - t) = t by omega] at this; exact this
    rcases i1 with ⟨rfl, rfl, -⟩ | ⟨l, h, l1, h1', l2, -⟩
    · rw [if_neg neg1.1] at i3
      exact (find3 hR1).of_eq e i3
    · exact absurd l2 (hnone l l1)
  · rcases i1 with ⟨rfl, rfl, hi⟩ | ⟨l, h, l1, h1', l2, l3, h3, h4, rfl, rfl⟩
    · exact absurd pu (hi _ (by split <;> omega))
    · rw [if_pos (nI_pos' (by omega)), if2 (lit_eq (a := k) (n := 0) (by omega) (by decide))] at i3
      rw [e34] at e
      by_cases c0 : k = 0
      · rw [if_pos c0] at i3 e pu
        have hul : u = l := by
          rcases Nat.lt_trichotomy u l with q | q | q
          · exact absurd pu (l3 u q)
          · exact q
          · have := hlt l q; rw [if_pos c0] at this; exact absurd l2 this
        rw [hul] at e
        exact ag_of e i3 hR1
      · rw [if_neg c0] at i3 e pu
        have huh : 99 - u = h := by
          rcases Nat.lt_trichotomy (99 - u) h with q | q | q
          · have := hlt (99 - h) (by omega); rw [if_neg c0, show 99 - (99 - h) = h by omega] at this; exact absurd h3 this
          · exact q
          · exact absurd pu (h4 _ q (by omega))
        rw [huh] at e
        exact ag_of e i3 hR1
-- a part supposed away
theorem bt_nI (n i : Nat) : bt (nI n) i = (decide (i < 32) && n.testBit i) := by
  unfold bt
  show (BitVec.ofNat 32 n).getLsbD i = _
  rw [BitVec.getLsbD_ofNat]
theorem bits_clear {f : Nat → Nat} {n p : Nat} (h : ∀ p, p < n → f p ≤ 1) (hn : n ≤ 20) (hp : p < n) : nI (bits f n) &&& (((1 : Int32) <<< (nI p &&& 31)) ^^^ (-1)) = nI (bits (put1 f p 0) n) := by
  have h' : ∀ q, q < n → put1 f p 0 q ≤ 1 := fun q hq => by
    unfold put1
    by_cases e : q = p
    · rw [if_pos e]; omega
    · rw [if_neg e]; exact h q hq
  apply b_ext
  intro i hi
  rw [b_and, b_xor, b_m1 i hi, shl1 p (by omega), bt_nI, bt_nI, bt_nI, bits_tb h, bits_tb h', Nat.testBit_two_pow]
  unfold put1
  by_cases e : i = p
  · subst e
    simp [hi]
  · rw [if_neg e]
    simp [hi, show ¬ p = i from fun q => e q.symm]
def FrT (X : St) (H : Hs) : Prop := ∀ p, p < H 0 0 → FrX (si X 34 4 (nI (bits (put1 (H 6) p 0) (H 0 0)))) (up2 H 6 p 0)
theorem frt {X : St} {H : Hs} (h : FrX X H) : FrT X H := by
  intro p hp
  unfold FrX at *; rw [up2_6]; simp only [si_a, up2]; grind
theorem FrT.next {X X1 : St} {H : Hs} {v : Int32} (h : FrT X H) (e : ∀ d, d ≠ 35 → d ≠ 36 → X1.1 d = (si X 34 4 v).1 d) : FrT X1 H := by
  intro w hw
  refine (h w hw).kept (fun d h35 h36 => ?_)
  by_cases hd : d = 34
  · subst hd
    funext j
    rw [si_a, e 34 (by decide) (by decide), si_a, si_a]
    grind
  · rw [si_o hd, si_o hd, e d h35 h36, si_o hd]
theorem wfT {H : Hs} {p : Nat} (h : Wf H) : Wf (up2 H 6 p 0) := by
  unfold Wf at *; simp only [up2]; grind
theorem smT {M : St} {H : Hs} {p : Nat} (hw : Wf H) (h : ShM (M.1 1) H) (hp : p < H 0 0) : ShM ((si M 1 (12 + 6 * p + 5) 0).1 1) (up2 H 6 p 0) := by
  have hb : H 0 0 ≤ 20 ∧ H 0 1 ≤ 6 ∧ H 0 2 ≤ 6 := ⟨hw.1, hw.2.1, hw.2.2.1⟩
  have h0 : (0 : Int32) = nI 0 := rfl
  unfold ShM at *; simp only [si_a, up2]; grind
theorem wantL {F : Nat} (hF : 1000 ≤ F) {M : St} {H : Hs} (hw : Wf H) (hm : ShM (M.1 1) H) : ∀ (G G' p : Nat) (a : Int32) (X' : St), p ≤ H 0 0 → H 0 0 - p < G → H 0 0 - p < G' → Rel X' M → ShX X'.1 1 H → FrT X' H → Ag (fX6_canWant_L11 F G X' a (nI p)) (fX7_canWant_L4 F G' M a (nI p)) := by
  have hn := hw.1
  have h6 : ∀ q, q < H 0 0 → H 6 q ≤ 1 := fun q hq => (hw.2.2.2.1 q hq).2.2.2.2.2
  intro G
  induction G with
  | zero => intro G' p a X' h1 h2; omega
  | succ G ih =>
    intro G' p a X' h1 h2 h3 hR hs hx
    obtain ⟨G', rfl⟩ : ∃ g, G' = g + 1 := ⟨G' - 1, by omega⟩
    rw [fX6_canWant_L11, fX7_canWant_L4, ldi_l (c := 1) 0 (by decide) (by decide), hm.1, hs.1]
    by_cases hp : p = H 0 0
    · subst hp
      rw [if_pos (nI_le (Nat.le_refl _) (by omega)), if_pos (nI_le (Nat.le_refl _) (by omega))]
      exact ag_of rfl rfl hR
    · have hp' : p < H 0 0 := by omega
      have k6 := h6 p hp'
      rw [if_neg (nI_ge hp' (by omega)), if_neg (nI_ge hp' (by omega)), hs.2.2.2.2.1, bits_clear h6 hn hp']
      simp only [pl_e]
      have hs1 : ShX (si X' 34 4 (nI (bits (put1 (H 6) p 0) (H 0 0)))).1 1 H := hs.kept (fun k hk => si_o (by omega))
      have hR1 : Rel (si X' 34 4 (nI (bits (put1 (H 6) p 0) (H 0 0)))) M := rel_fr hR (fun d hd => si_o (by omega)) rfl
      rw [isThereX hw hs1 hp', bv_e, isThereM hw hm hp', bv_e, nI_1, if2 (lit_eq (a := H 6 p) (n := 0) (by omega) (by decide)), if2 (lit_eq (a := H 6 p) (n := 0) (by omega) (by decide))]
      by_cases c : H 6 p = 0
      · rw [if_pos c, if_pos c]
        exact ih G' (p + 1) a _ (by omega) (by omega) (by omega) hR1 hs1 (hx.next (fun d _ _ => rfl))
      · rw [if_neg c, if_neg c, show (5 : Int32) = nI 5 from rfl, gets_e (by omega) (by decide), bv_e]
        obtain ⟨X1, g1, g2, g3, g4⟩ := standX (F := F) (by omega) (wfT hw) (hx p hp')
        have hR2 : Rel X1 M := rel_fr hR1 (fun d hd => g2 d (by omega) (by omega)) g3
        have hs2 : ShX X1.1 1 H := hs1.kept (fun k hk => g2 _ (by omega) (by omega))
        have hback : si M 1 (12 + 6 * p + 5) 1 = M := by
          have : M.1 1 (12 + 6 * p + 5) = 1 := by
            rw [hm.2.2.2.1 p 5 hp' (by decide), show H (5 + 1) p = 1 from (by show H 6 p = 1; omega)]; rfl
          rw [← this, si_id]
        have hg : ∀ x : Int32, (bv (fX7_gets (si M 1 (12 + 6 * p + 5) 0) (nI p) (nI 5) 1) fun S13 => fX7_canWant_L4 F G' S13 x (nI (p + 1))) = fX7_canWant_L4 F G' M x (nI (p + 1)) := fun x => by rw [gets_e (by omega) (by decide), bv_e, si_si, hback]
        rw [hg, hg]
        rcases g4 with ⟨v, e⟩ | ⟨v, e⟩ <;> rcases standM (F := F) (by omega) (wfT (p := p) hw) (smT hw hm hp') with ⟨v', e'⟩ | ⟨v', e'⟩
        · rw [e, e', bq_e, bv_e, if_neg n10, if_neg n10]
          exact ih G' (p + 1) _ X1 (by omega) (by omega) (by omega) hR2 hs2 (hx.next g2)
        · exact absurd v v'
        · exact absurd v' v
        · rw [e, e', bq_e, bv_e, if_pos rfl, if_pos rfl, show a ||| 0 = a from by simp]
          exact ih G' (p + 1) _ X1 (by omega) (by omega) (by omega) hR2 hs2 (hx.next g2)
theorem st_canWant {F : Nat} (hF : 1000 ≤ F) : s_canWant Rel F := by
  intro X M hR
  show Ag _ _
  obtain ⟨⟨H, hS⟩, -⟩ := id hR
  have hn := hS.1.1
  unfold fX6_canWant fX7_canWant
  rw [asItIs_e, bv_e]
  exact wantL hF hS.1 hS.2.2 F F 0 0 (asIs X) (by omega) (by omega) (by omega) (asIs_rel hR) (hS.2.1.kept (fun k hk => asIs_o (by omega))) (frt (asIs_fr hS.2.1))
theorem idleL {F : Nat} (hF : 1000 ≤ F) {M : St} {H : Hs} (hw : Wf H) (hm : ShM (M.1 1) H) {z : Int32} : ∀ (G G' p : Nat) (a : Int32) (X' : St), p ≤ H 0 0 → H 0 0 - p < G → H 0 0 - p < G' → Rel X' M → ShX X'.1 1 H → FrT X' H → Ag (fX6_idle_L19 F z G X' a (nI p)) (fX7_idle_L9 F z G' M a (nI p)) := by
  have hn := hw.1
  have h6 : ∀ q, q < H 0 0 → H 6 q ≤ 1 := fun q hq => (hw.2.2.2.1 q hq).2.2.2.2.2
  intro G
  induction G with
  | zero => intro G' p a X' h1 h2; omega
  | succ G ih =>
    intro G' p a X' h1 h2 h3 hR hs hx
    obtain ⟨G', rfl⟩ : ∃ g, G' = g + 1 := ⟨G' - 1, by omega⟩
    rw [fX6_idle_L19, fX7_idle_L9, ldi_l (c := 1) 0 (by decide) (by decide), hm.1, hs.1]
    by_cases hp : p = H 0 0
    · subst hp
      rw [if_pos (nI_le (Nat.le_refl _) (by omega)), if_pos (nI_le (Nat.le_refl _) (by omega))]
      exact ag_of rfl rfl hR
    · have hp' : p < H 0 0 := by omega
      have k6 := h6 p hp'
      rw [if_neg (nI_ge hp' (by omega)), if_neg (nI_ge hp' (by omega)), hs.2.2.2.2.1, bits_clear h6 hn hp']
      simp only [pl_e]
      have hs1 : ShX (si X' 34 4 (nI (bits (put1 (H 6) p 0) (H 0 0)))).1 1 H := hs.kept (fun k hk => si_o (by omega))
      have hR1 : Rel (si X' 34 4 (nI (bits (put1 (H 6) p 0) (H 0 0)))) M := rel_fr hR (fun d hd => si_o (by omega)) rfl
      have hx1 := hx.next (X1 := si X' 34 4 (nI (bits (put1 (H 6) p 0) (H 0 0)))) (fun d _ _ => rfl)
      rw [isThereX hw hs1 hp', bv_e, isThereM hw hm hp', bv_e, nI_1, if2 (lit_eq (a := H 6 p) (n := 0) (by omega) (by decide)), if2 (lit_eq (a := H 6 p) (n := 0) (by omega) (by decide))]
      by_cases c : H 6 p = 0
      · rw [if_pos c, if_pos c]
        exact ih G' (p + 1) a _ (by omega) (by omega) (by omega) hR1 hs1 hx1
      · rw [if_neg c, if_neg c, show (5 : Int32) = nI 5 from rfl, gets_e (by omega) (by decide), bv_e]
        have hback : si M 1 (12 + 6 * p + 5) 1 = M := by
          have : M.1 1 (12 + 6 * p + 5) = 1 := by
            rw [hm.2.2.2.1 p 5 hp' (by decide), show H (5 + 1) p = 1 from (by show H 6 p = 1; omega)]; rfl
          rw [← this, si_id]
        have hg : ∀ x : Int32, (bv (fX7_gets (si M 1 (12 + 6 * p + 5) 0) (nI p) (nI 5) 1) fun S13 => fX7_idle_L9 F z G' S13 x (nI (p + 1))) = fX7_idle_L9 F z G' M x (nI (p + 1)) := fun x => by rw [gets_e (by omega) (by decide), bv_e, si_si, hback]
        rw [hg, hg, fuelX (by omega) (wfT hw) (hx p hp'), fuelM (by omega) (wfT (p := p) hw) (smT hw hm hp'), bv_e, bv_e]
        by_cases c2 : vfuel (up2 H 6 p 0) = z
        · rw [if_pos c2, if_pos c2]
          exact ih G' (p + 1) _ _ (by omega) (by omega) (by omega) hR1 hs1 hx1
        · rw [if_neg c2, if_neg c2, show a ||| 0 = a from by simp]
          exact ih G' (p + 1) _ _ (by omega) (by omega) (by omega) hR1 hs1 hx1
theorem st_idle {F : Nat} (hF : 1000 ≤ F) : s_idle Rel F := by
  intro X M hR
  show Ag _ _
  obtain ⟨⟨H, hS⟩, -⟩ := id hR
  have hn := hS.1.1
  unfold fX6_idle fX7_idle
  rw [asItIs_e, bv_e, fuelX (by omega) hS.1 (asIs_fr hS.2.1), fuelM (by omega) hS.1 hS.2.2, bv_e, bv_e]
  exact idleL hF hS.1 hS.2.2 F F 0 0 (asIs X) (by omega) (by omega) (by omega) (asIs_rel hR) (hS.2.1.kept (fun k hk => asIs_o (by omega))) (frt (asIs_fr hS.2.1))
