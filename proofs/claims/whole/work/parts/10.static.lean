/-! what a program decides of the tables -/
theorem eg_getD_out {α : Type} (l : List α) (d : α) {k : Nat} (h : l.length ≤ k) : l.getD k d = d := by
  simp [List.getD, List.getElem?_eq_none h]
theorem pg_kc_ak (k : Nat) (h : pg_kc k ≠ 0) : pg_ak k = 0 := by
  by_cases hk : k < 58
  · have hd : ∀ k, k < 58 → pg_kc k ≠ 0 → pg_ak k = 0 := by decide +kernel
    exact hd k hk h
  · exact absurd (eg_getD_out _ _ (show 58 ≤ k from Nat.le_of_not_lt hk)) h
theorem pm_at_of (k : Nat) : (pg_ak k = 1 → pm_at k = .int) ∧ (pg_ak k = 2 → pm_at k = .byte) ∧ (pg_ak k = 3 → pm_at k = .char) ∧ (pg_ak k = 4 → pm_at k = .boolean) ∧ (pg_ak k = 5 → ∃ C, pm_at k = .object C) := by
  by_cases hk : k < 58
  · have hd : ∀ k, k < 58 → (pg_ak k = 1 → pm_at k = .int) ∧ (pg_ak k = 2 → pm_at k = .byte) ∧ (pg_ak k = 3 → pm_at k = .char) ∧ (pg_ak k = 4 → pm_at k = .boolean) ∧ (pg_ak k = 5 → pm_at k = .object "UnitDesk$Item" ∨ pm_at k = .object "UnitDesk$Kind") := by decide +kernel
    obtain ⟨h1, h2, h3, h4, h5⟩ := hd k hk
    exact ⟨h1, h2, h3, h4, fun h => (h5 h).elim (fun e => ⟨_, e⟩) (fun e => ⟨_, e⟩)⟩
  · have : pg_ak k = 0 := eg_getD_out _ _ (show 58 ≤ k from Nat.le_of_not_lt hk)
    rw [this]
    exact ⟨(fun h => nomatch h), (fun h => nomatch h), (fun h => nomatch h), (fun h => nomatch h), (fun h => nomatch h)⟩
theorem pm_cl_at : ∀ b, b < 10 → pm_cl[b]? = some (pm_c (b + 1)) := by
  intro b hb
  match b, hb with
  | 0, _ => rfl
  | 1, _ => rfl
  | 2, _ => rfl
  | 3, _ => rfl
  | 4, _ => rfl
  | 5, _ => rfl
  | 6, _ => rfl
  | 7, _ => rfl
  | 8, _ => rfl
  | 9, _ => rfl
  | n + 10, h => exact absurd h (by omega)
theorem pm_nf : ∀ b, b < 13 → (pm_c b).2.2 = pg_nf b := by decide +kernel
theorem pm_lays : ∀ b, 1 ≤ b → b ≤ 10 → ∀ w ∈ u_ws (pm_c b).1 (pm_c b).2.1 (pm_c b).2.2, w ∈ eg_tbl := by
  have hd : ∀ b, b < 11 → 1 ≤ b → ∀ w ∈ u_ws (pm_c b).1 (pm_c b).2.1 (pm_c b).2.2, w ∈ eg_tbl := by decide +kernel
  exact fun b h1 h2 => hd b (by omega) h1
theorem pm_fty0 : ∀ b, b < 11 → 1 ≤ b → ∀ a ∈ List.range (pg_nf b), parseFieldDescriptor ((pm_c b).2.1 a).2.2.1 = some (pm_ty b a) ∧ ((pg_ft b a = 1 ∧ pm_ty b a = .int) ∨ (pg_ft b a = 2 ∧ pm_ty b a = .boolean) ∨ (pg_ft b a = 4 ∧ pm_ty b a = .byte) ∨ (pg_ft b a = 3 ∧ (pm_ty b a).isReference = true)) := by decide +kernel
theorem pm_fty (b : Nat) (h : b < 11) (h1 : 1 ≤ b) (a : Nat) (ha : a < pg_nf b) : parseFieldDescriptor ((pm_c b).2.1 a).2.2.1 = some (pm_ty b a) ∧ ((pg_ft b a = 1 ∧ pm_ty b a = .int) ∨ (pg_ft b a = 2 ∧ pm_ty b a = .boolean) ∨ (pg_ft b a = 4 ∧ pm_ty b a = .byte) ∨ (pg_ft b a = 3 ∧ (pm_ty b a).isReference = true)) := pm_fty0 b h h1 a (List.mem_range.mpr ha)
theorem pm_fnm0 : ∀ b, b < 11 → 1 ≤ b → ∀ x ∈ List.range (pg_nf b), ∀ y ∈ List.range (pg_nf b), x ≠ y → ((pm_c b).2.1 x).2.1 ≠ ((pm_c b).2.1 y).2.1 := by decide +kernel
theorem pm_fnm (b : Nat) (h : b < 11) (h1 : 1 ≤ b) (x : Nat) (hx : x < pg_nf b) (y : Nat) (hy : y < pg_nf b) (n : x ≠ y) : ((pm_c b).2.1 x).2.1 ≠ ((pm_c b).2.1 y).2.1 := pm_fnm0 b h h1 x (List.mem_range.mpr hx) y (List.mem_range.mpr hy) n
