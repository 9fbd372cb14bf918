-- a number supposed to be another for a while
theorem st_ext {S T : St} (h1 : ∀ d j, S.1 d j = T.1 d j) (h2 : S.2 = T.2) : S = T := Prod.ext (funext fun d => funext fun j => h1 d j) h2
theorem si_si {S : St} {c k : Nat} {x v : Int32} : si (si S c k x) c k v = si S c k v := st_ext (fun d j => by simp only [si_a]; grind) rfl
theorem si_id {S : St} {c k : Nat} : si S c k (S.1 c k) = S := st_ext (fun d j => by simp only [si_a]; grind) rfl
def Bk (M M' : St) (c : Nat) : Prop := ∀ v, si M' 1 c v = si M 1 c v
theorem Bk.re {M : St} {c : Nat} : Bk M M c := fun _ => rfl
theorem Bk.up {M : St} {c : Nat} {x : Int32} : Bk M (si M 1 c x) c := fun _ => si_si
def FrK (k f i : Nat) (X : St) (H : Hs) : Prop := ∀ w, FrX (si X 34 k (nI w)) (up2 H f i w)
theorem frk {X : St} {H : Hs} (h : FrX X H) : FrK 1 7 0 X H ∧ FrK 2 7 1 X H ∧ FrK 3 8 0 X H := by
  refine ⟨fun w => ?_, fun w => ?_, fun w => ?_⟩
  · unfold FrX at *; rw [up2_n (f' := 6) (by decide)]; simp only [si_a, up2]; grind
  · unfold FrX at *; rw [up2_n (f' := 6) (by decide)]; simp only [si_a, up2]; grind
  · unfold FrX at *; rw [up2_n (f' := 6) (by decide)]; simp only [si_a, up2]; grind
theorem FrK.next {k f i : Nat} {X X1 : St} {H : Hs} {v : Int32} (h : FrK k f i X H) (e : ∀ d, d ≠ 35 → d ≠ 36 → X1.1 d = (si X 34 k v).1 d) : FrK k f i X1 H := by
  intro w
  refine (h w).kept (fun d h35 h36 => ?_)
  by_cases hd : d = 34
  · subst hd
    funext j
    rw [si_a, e 34 (by decide) (by decide), si_a, si_a]
    grind
  · rw [si_o hd, si_o hd, e d h35 h36, si_o hd]
theorem wfW {H : Hs} {w : Nat} (h : Wf H) (hv : w ≤ 99) : Wf (up2 H 7 0 w) := by
  have : skM 0 = 99 := rfl
  unfold Wf at *; simp only [up2]; grind
theorem wfF {H : Hs} {w : Nat} (h : Wf H) (hv : w ≤ 7) : Wf (up2 H 7 1 w) := by
  have : skM 1 = 7 := rfl
  unfold Wf at *; simp only [up2]; grind
theorem wfD {H : Hs} {w : Nat} (h : Wf H) (hv : w ≤ 99) : Wf (up2 H 8 0 w) := by
  unfold Wf at *; simp only [up2]; grind
theorem smW {M : St} {H : Hs} {w : Nat} (hw : Wf H) (h : ShM (M.1 1) H) : ShM ((si M 1 3 (nI w)).1 1) (up2 H 7 0 w) := by
  have hb : H 0 0 ≤ 20 ∧ H 0 1 ≤ 6 ∧ H 0 2 ≤ 6 := ⟨hw.1, hw.2.1, hw.2.2.1⟩
  unfold ShM at *; simp only [si_a, up2]; grind
theorem smF {M : St} {H : Hs} {w : Nat} (hw : Wf H) (h : ShM (M.1 1) H) : ShM ((si M 1 4 (nI w)).1 1) (up2 H 7 1 w) := by
  have hb : H 0 0 ≤ 20 ∧ H 0 1 ≤ 6 ∧ H 0 2 ≤ 6 := ⟨hw.1, hw.2.1, hw.2.2.1⟩
  unfold ShM at *; simp only [si_a, up2]; grind
theorem smD {M : St} {H : Hs} {w : Nat} (hw : Wf H) (h : ShM (M.1 1) H) : ShM ((si M 1 8 (nI w)).1 1) (up2 H 8 0 w) := by
  have hb : H 0 0 ≤ 20 ∧ H 0 1 ≤ 6 ∧ H 0 2 ≤ 6 := ⟨hw.1, hw.2.1, hw.2.2.1⟩
  unfold ShM at *; simp only [si_a, up2]; grind
theorem neg1 : ¬ (0 : Int32) ≤ -1 ∧ ((-1 : Int32) < 0) := by decide
theorem gustL {F : Nat} (hF : 1000 ≤ F) {M : St} {H : Hs} (hw : Wf H) (hm : ShM (M.1 1) H) : ∀ (G G' w : Nat) (X' M' : St), w ≤ 100 → 102 - w < G → 102 - w < G' → Rel X' M → FrK 1 7 0 X' H → Bk M M' 3 → Ag (fX6_gust_L9 F (fun S2 => fX6_finding S2 3) G X' (nI w)) (fX7_gust_L11 F (fun S2 v3 => sti S2 1 3 216 (M.1 1 3) fun S4 => if 0 ≤ v3 then some (S4, v3) else fX7_finds S4 (-1000000004)) G' M' (-1) (nI w)) := by
  intro G
  induction G with
  | zero => intro G' w X' M' h1 h2; omega
  | succ G ih =>
    intro G' w X' M' h1 h2 h3 hR hx hb
    obtain ⟨G', rfl⟩ : ∃ g, G' = g + 1 := ⟨G' - 1, by omega⟩
    rw [fX6_gust_L9, fX7_gust_L11]
    by_cases hw100 : w = 100
    · subst hw100
      rw [if_pos (show (99 : Int32) < nI 100 from by decide), if_pos (show (100 : Int32) ≤ nI 100 from by decide), sti_l (c := 1) 3 (by decide) (by decide), hb, si_id, if_neg neg1.1]
      exact find3 hR
    · have hw' : w ≤ 99 := by omega
      rw [if_neg (show ¬ (99 : Int32) < nI w from nI_nlt (a := 99) hw' (by decide)), if_neg (show ¬ (100 : Int32) ≤ nI w from nI_ge (b := 100) (by omega) (by decide)), if_neg neg1.1, sti_l (c := 1) 3 (by decide) (by decide), hb, pl_e]
      obtain ⟨X1, g1, g2, g3, g4⟩ := standX (F := F) (by omega) (wfW hw hw') (hx w)
      have hR1 : Rel X1 M := rel_fr hR (fun d hd => by rw [g2 d (by omega) (by omega), si_o (by omega)]) g3
      simp only [pl_e]
      rcases g4 with ⟨v, e⟩ | ⟨v, e⟩ <;> rcases standM (F := F) (by omega) (wfW hw hw') (smW (w := w) hw hm) with ⟨v', e'⟩ | ⟨v', e'⟩
      · rw [e, e', bq_e, bv_e, if_neg n10, if_neg n10, nI_1]
        exact ih G' (w + 1) X1 _ (by omega) (by omega) (by omega) hR1 (hx.next g2) Bk.up
      · exact absurd v v'
      · exact absurd v' v
      · rw [e, e', bq_e, bv_e, if_pos rfl, if_pos rfl, nI_1]
        obtain ⟨G', rfl⟩ : ∃ g, G' = g + 1 := ⟨G' - 1, by omega⟩
        rw [fX7_gust_L11, sti_l (c := 1) 3 (by decide) (by decide), si_si, si_id, if_pos (nI_pos' (by omega))]
        refine ag_of rfl ?_ hR1
        rw [if_pos (nI_pos' (by omega)), ite_self]
theorem st_gust {F : Nat} (hF : 1000 ≤ F) : s_gust Rel F := by
  intro X M hR
  show Ag _ _
  obtain ⟨⟨H, hS⟩, -⟩ := id hR
  unfold fX6_gust fX7_gust
  simp only [bq_eta, pl_e]
  rw [asItIs_e, bv_e, ldi_l (c := 1) 3 (by decide) (by decide)]
  exact gustL hF hS.1 hS.2.2 F F 0 (asIs X) M (by omega) (by omega) (by omega) (asIs_rel hR) (frk (asIs_fr hS.2.1)).1 Bk.re
-- worst
theorem worstL {F : Nat} (hF : 1000 ≤ F) {M : St} {H : Hs} (hw : Wf H) (hm : ShM (M.1 1) H) : ∀ (G G' s k : Nat) (a b : Int32) (X' M' : St), s ≤ 8 → 8 - s < G → 8 - s < G' → k ≤ 7 → ((s = 0 ∧ a = -1) ∨ (0 < s ∧ a = nI k)) → Rel X' M → FrK 2 7 1 X' H → Bk M M' 4 → (s = 0 → k = 0) → ∃ X1 v, fX6_worst_L13 F G X' (nI k) b (nI s) = some (X1, v) ∧ (s = 8 → v = nI k) ∧ Rel X1 M ∧ (fX7_worst_L14 F (fun S2 v3 => sti S2 1 4 216 (M.1 1 4) fun S4 => some (S4, v3)) G' M' a b (nI s) = some (M, v) ∨ s = 8 ∧ True ∧ fX7_worst_L14 F (fun S2 v3 => sti S2 1 4 216 (M.1 1 4) fun S4 => some (S4, v3)) G' M' a b (nI s) = some (M, v)) := by
  intro G
  induction G with
  | zero => intro G' s k a b X' M' h1 h2; omega
  | succ G ih =>
    intro G' s k a b X' M' h1 h2 h3 hk ha hR hx hb h0
    obtain ⟨G', rfl⟩ : ∃ g, G' = g + 1 := ⟨G' - 1, by omega⟩
    rw [fX6_worst_L13, fX7_worst_L14]
    by_cases hs : s = 8
    · subst hs
      rw [if_pos (show (8 : Int32) ≤ nI 8 from by decide), if_pos (show (8 : Int32) ≤ nI 8 from by decide), sti_l (c := 1) 4 (by decide) (by decide), hb, si_id]
      rcases ha with ⟨h, -⟩ | ⟨-, rfl⟩
      · omega
      · exact ⟨X', _, rfl, fun _ => rfl, hR, Or.inl rfl⟩
    · have hs' : s ≤ 7 := by omega
      rw [if_neg (show ¬ (8 : Int32) ≤ nI s from nI_ge (b := 8) (by omega) (by decide)), if_neg (show ¬ (8 : Int32) ≤ nI s from nI_ge (b := 8) (by omega) (by decide)), sti_l (c := 1) 4 (by decide) (by decide), hb, pl_e]
      obtain ⟨X1, g1, g2, g3, g4, g5⟩ := gatherX (F := F) (by omega) (wfF hw hs') (hx s)
      have hR1 : Rel X1 M := rel_fr hR (fun d hd => by rw [g4 d (by omega) (by omega), si_o (by omega)]) g5
      have hle := vweak_le (up2 H 7 1 s) 7
      rw [g1, bv_e, weakestX (by omega) (wfF hw hs') g2 g3, bv_e, spareX (wfF hw hs') g2 g3 (by omega), bv_e, leastM (by omega) (wfF hw hs') (smF (w := s) hw hm), bv_e, spareM (by omega) (wfF hw hs') (smF (w := s) hw hm) (by omega), bv_e]
      simp only [pl_e]
      rw [nI_1, if2 (lit_eq (a := s) (n := 0) (by omega) (by decide))]
      have hj : ∀ (k' : Nat) (b' : Int32), k' ≤ 7 → ∃ X2 v, fX6_worst_L13 F G X1 (nI k') b' (nI (s + 1)) = some (X2, v) ∧ Rel X2 M ∧ fX7_worst_L14 F (fun S2 v3 => sti S2 1 4 216 (M.1 1 4) fun S4 => some (S4, v3)) G' (si M 1 4 (nI s)) (nI k') b' (nI (s + 1)) = some (M, v) := by
        intro k' b' hk'
        obtain ⟨X2, v, e1, -, e3, e4⟩ := ih G' (s + 1) k' (nI k') b' X1 (si M 1 4 (nI s)) (by omega) (by omega) (by omega) hk' (Or.inr ⟨by omega, rfl⟩) hR1 (hx.next g4) Bk.up (by omega)
        refine ⟨X2, v, e1, e3, ?_⟩
        rcases e4 with e4 | e4
        · exact e4
        · exact e4.2.2
      have fin : ∀ {x y : Option (St × Int32)}, (∃ X2 v, x = some (X2, v) ∧ Rel X2 M ∧ y = some (M, v)) → ∃ X1 v, x = some (X1, v) ∧ (s = 8 → v = nI k) ∧ Rel X1 M ∧ (y = some (M, v) ∨ s = 8 ∧ True ∧ y = some (M, v)) := by
        rintro x y ⟨X2, v, e1, e2, e3⟩
        exact ⟨X2, v, e1, fun h => absurd h hs, e2, Or.inl e3⟩
      apply fin
      rcases ha with ⟨rfl, rfl⟩ | ⟨h, rfl⟩
      · rw [if_pos rfl, if_pos neg1.2]
        exact hj 0 _ (by omega)
      · rw [if_neg (by omega), if_neg (nI_pos (by omega))]
        by_cases c : b ≤ vsp (up2 H 7 1 s) (vweak (up2 H 7 1 s) 7)
        · rw [if_pos c, if_pos c]
          exact hj k _ hk
        · rw [if_neg c, if_neg c]
          exact hj s _ hs'
theorem st_worst {F : Nat} (hF : 1000 ≤ F) : s_worst Rel F := by
  intro X M hR
  show Ag _ _
  obtain ⟨⟨H, hS⟩, -⟩ := id hR
  unfold fX6_worst fX7_worst
  simp only [pl_e]
  rw [asItIs_e, bv_e, ldi_l (c := 1) 4 (by decide) (by decide)]
  obtain ⟨X1, v, e1, -, e3, e4⟩ := worstL hF hS.1 hS.2.2 F F 0 0 (-1) 0 (asIs X) M (by omega) (by omega) (by omega) (by omega) (Or.inl ⟨rfl, rfl⟩) (asIs_rel hR) (frk (asIs_fr hS.2.1)).2.1 Bk.re (fun _ => rfl)
  refine ag_of e1 ?_ e3
  rcases e4 with e4 | e4
  · exact e4
  · exact e4.2.2
