def up2 (H : Hs) (f i v : Nat) : Hs := fun f' i' => if f' = f ∧ i' = i then v else H f' i'
theorem rel_now {X M X' M' : St} (h : Rel X M) (hx : ∀ d, d = 0 ∨ 11 < d → X'.1 d = X.1 d) (hx2 : X'.2 = X.2) (hm : ∀ d, d ≠ 1 → M'.1 d = M.1 d) (hm2 : M'.2 = M.2) (hs : ∃ H, St1 X'.1 1 (M'.1 1) H) : Rel X' M' := by
  obtain ⟨-, h2, h3, h4, h5, h6⟩ := h
  refine ⟨hs, h2.kept (fun k hk => hx _ (by omega)) (by rw [hx 0 (Or.inl rfl)]) (by rw [hm 0 (by decide)]) (hm 2 (by decide)), h3.kept (by rw [hx 44 (by decide)]) (hx 45 (by decide)) (by rw [hm 0 (by decide)]) (hm 5 (by decide)), h4.kept (fun t ht => hx _ (by omega)) (fun t ht => by rw [hx2]) (hm 6 (by decide)) (hm 7 (by decide)) (by rw [hm2]), h5.kept (hx 55 (by decide)) (hm 4 (by decide)), h6.kept (hm 14 (by decide))⟩
theorem up2_n {H : Hs} {f i v f' : Nat} (h : f' ≠ f) : up2 H f i v f' = H f' := by
  funext i'
  simp [up2, h]
-- a number of the house becomes another, on both sides
theorem up_sky {A : St} {r : St} {H : Hs} {j v : Nat} (h : St1 A.1 1 (r.1 1) H) (hj : j < 5) (hv : v ≤ skM j) : St1 (si A 7 j (nI v)).1 1 ((si r 1 (3 + j) (nI v)).1 1) (up2 H 7 j v) := by
  obtain ⟨hw, hx, hm⟩ := h
  have hb : H 0 0 ≤ 20 ∧ H 0 1 ≤ 6 ∧ H 0 2 ≤ 6 := ⟨hw.1, hw.2.1, hw.2.2.1⟩
  refine ⟨?_, ?_, ?_⟩
  · unfold Wf at *; simp only [up2]; grind
  · unfold ShX at *; rw [up2_n (f' := 6) (by decide)]; simp only [si_a, up2]; grind
  · unfold ShM at *; simp only [si_a, up2]; grind
theorem up_draw {A : St} {r : St} {H : Hs} {v : Nat} (h : St1 A.1 1 (r.1 1) H) (hv : v ≤ 99) : St1 (si A 1 8 (nI v)).1 1 ((si r 1 8 (nI v)).1 1) (up2 H 8 0 v) := by
  obtain ⟨hw, hx, hm⟩ := h
  have hb : H 0 0 ≤ 20 ∧ H 0 1 ≤ 6 ∧ H 0 2 ≤ 6 := ⟨hw.1, hw.2.1, hw.2.2.1⟩
  refine ⟨?_, ?_, ?_⟩
  · unfold Wf at *; simp only [up2]; grind
  · unfold ShX at *; rw [up2_n (f' := 6) (by decide)]; simp only [si_a, up2]; grind
  · unfold ShM at *; simp only [si_a, up2]; grind
theorem up_herd {A : St} {r : St} {H : Hs} {j v : Nat} (h : St1 A.1 1 (r.1 1) H) (hj : j < 3) (hv : v ≤ hdM j) : St1 (si A 11 j (nI v)).1 1 ((si r 1 (9 + j) (nI v)).1 1) (up2 H 12 j v) := by
  obtain ⟨hw, hx, hm⟩ := h
  have hb : H 0 0 ≤ 20 ∧ H 0 1 ≤ 6 ∧ H 0 2 ≤ 6 := ⟨hw.1, hw.2.1, hw.2.2.1⟩
  refine ⟨?_, ?_, ?_⟩
  · unfold Wf at *; simp only [up2]; grind
  · unfold ShX at *; rw [up2_n (f' := 6) (by decide)]; simp only [si_a, up2]; grind
  · unfold ShM at *; simp only [si_a, up2]; grind
theorem up_str {A : St} {r : St} {H : Hs} {p v : Nat} (h : St1 A.1 1 (r.1 1) H) (hp : p < H 0 0) (hv : 1 ≤ v ∧ v ≤ 999) : St1 (si A 4 p (nI v)).1 1 ((si r 1 (12 + 6 * p + 2) (nI v)).1 1) (up2 H 3 p v) := by
  obtain ⟨hw, hx, hm⟩ := h
  have hb : H 0 0 ≤ 20 ∧ H 0 1 ≤ 6 ∧ H 0 2 ≤ 6 := ⟨hw.1, hw.2.1, hw.2.2.1⟩
  refine ⟨?_, ?_, ?_⟩
  · unfold Wf at *; simp only [up2]; grind
  · unfold ShX at *; rw [up2_n (f' := 6) (by decide)]; simp only [si_a, up2]; grind
  · unfold ShM at *; simp only [si_a, up2]; grind
theorem up_wei {A : St} {r : St} {H : Hs} {p v : Nat} (h : St1 A.1 1 (r.1 1) H) (hp : p < H 0 0) (hv : v ≤ 99) : St1 (si A 5 p (nI v)).1 1 ((si r 1 (12 + 6 * p + 3) (nI v)).1 1) (up2 H 4 p v) := by
  obtain ⟨hw, hx, hm⟩ := h
  have hb : H 0 0 ≤ 20 ∧ H 0 1 ≤ 6 ∧ H 0 2 ≤ 6 := ⟨hw.1, hw.2.1, hw.2.2.1⟩
  refine ⟨?_, ?_, ?_⟩
  · unfold Wf at *; simp only [up2]; grind
  · unfold ShX at *; rw [up2_n (f' := 6) (by decide)]; simp only [si_a, up2]; grind
  · unfold ShM at *; simp only [si_a, up2]; grind
theorem up_wear {A : St} {r : St} {H : Hs} {p v : Nat} (h : St1 A.1 1 (r.1 1) H) (hp : p < H 0 0) (hv : v ≤ 99) : St1 (si A 6 p (nI v)).1 1 ((si r 1 (12 + 6 * p + 4) (nI v)).1 1) (up2 H 5 p v) := by
  obtain ⟨hw, hx, hm⟩ := h
  have hb : H 0 0 ≤ 20 ∧ H 0 1 ≤ 6 ∧ H 0 2 ≤ 6 := ⟨hw.1, hw.2.1, hw.2.2.1⟩
  refine ⟨?_, ?_, ?_⟩
  · unfold Wf at *; simp only [up2]; grind
  · unfold ShX at *; rw [up2_n (f' := 6) (by decide)]; simp only [si_a, up2]; grind
  · unfold ShM at *; simp only [si_a, up2]; grind
theorem up_grass {A : St} {r : St} {H : Hs} {c m v : Nat} (h : St1 A.1 1 (r.1 1) H) (hc : c < H 0 2) (hm0 : m < 12) (hv : v ≤ 999) : St1 (si A 10 (12 * c + m) (nI v)).1 1 ((si r 1 (138 + 13 * c + m) (nI v)).1 1) (up2 H 11 (12 * c + m) v) := by
  obtain ⟨hw, hx, hm⟩ := h
  have hb : H 0 0 ≤ 20 ∧ H 0 1 ≤ 6 ∧ H 0 2 ≤ 6 := ⟨hw.1, hw.2.1, hw.2.2.1⟩
  refine ⟨?_, ?_, ?_⟩
  · unfold Wf at *; simp only [up2]; grind
  · unfold ShX at *; rw [up2_n (f' := 6) (by decide)]; simp only [si_a, up2]; grind
  · unfold ShM at *; simp only [si_a, up2]; grind
