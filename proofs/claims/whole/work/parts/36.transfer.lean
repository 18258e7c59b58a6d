/-! FROM THE STORE OF THE MAKING to the store of the running system; the script gets its name -/
def s2_S (xs : Nat → Int32) (L : Nat) : st_S := (fun k _ j => bif Nat.beq k 57 then xs j else 0, 1, fun _ => 16, 0, L)
theorem s1_chk_use {σ : s1_S} (h : s1_chk σ = true) {k : Nat} (hk : k < 50) : σ.2.1 k = s2_pop k ∧ ∀ i, i < s2_pop k → (pg_ak k ≠ 0 → s1_sz σ k i = st_sz s2_c k i) ∧ ∀ j, j < s1_wid σ k i → s1_rd σ k i j = st_rd s2_c k i j := by
  have h1 := List.all_eq_true.mp h k (List.mem_range.mpr hk)
  simp only [Bool.and_eq_true] at h1
  refine ⟨Nat.eq_of_beq_eq_true h1.1, fun i hi => ?_⟩
  have h2 := List.all_eq_true.mp h1.2 i (List.mem_range.mpr hi)
  simp only [Bool.and_eq_true] at h2
  refine ⟨fun ha => ?_, fun j hj => ?_⟩
  · have h3 := Nat.eq_of_beq_eq_true h2.1
    rw [beq_ff ha] at h3
    exact h3
  · exact of_decide_eq_true (List.all_eq_true.mp h2.2 j (List.mem_range.mpr hj))
theorem s2_pop_eq {k : Nat} (h : k ≠ 25) : s2_pop k = st_pop k := by
  unfold s2_pop
  rw [beq_ff h]
  rfl
theorem tr_lv {σ : s1_S} (h : s1_chk σ = true) {xs : Nat → Int32} {L k i : Nat} : st_lv (s2_S xs L) k i ↔ (k = 57 ∧ i = 0) ∨ s1_lv σ k i := by
  unfold st_lv s1_lv
  by_cases h25 : k = 25
  · subst h25
    rw [if_pos rfl, (s1_chk_use h (by decide)).1]
    exact ⟨fun z => Or.inr ⟨by decide, Or.inl ⟨by decide, z⟩⟩, fun z => by
      rcases z with z | ⟨-, z | z⟩
      · exact absurd z.1 (by decide)
      · exact z.2
      · exact absurd z.1 (by decide)⟩
  · rw [if_neg h25]
    rcases Nat.lt_or_ge k 50 with hk | hk
    · rw [(s1_chk_use h hk).1, s2_pop_eq h25]
      constructor
      · intro z
        have h2 : 2 ≤ k := by
          rcases Nat.lt_or_ge k 2 with q | q
          · have : k = 0 ∨ k = 1 := by omega
            rcases this with rfl | rfl
            · exact absurd z (Nat.not_lt_zero _)
            · exact absurd z (Nat.not_lt_zero _)
          · exact q
        exact Or.inr ⟨h2, Or.inl ⟨hk, z⟩⟩
      · rintro (⟨rfl, -⟩ | ⟨-, z | z⟩)
        · exact absurd hk (by decide)
        · exact z.2
        · omega
    · by_cases h57 : k = 57
      · subst h57
        constructor
        · intro z
          exact Or.inl ⟨rfl, Nat.lt_one_iff.mp z⟩
        · rintro (⟨-, rfl⟩ | ⟨-, z | z⟩)
          · exact (by decide : 0 < st_pop 57)
          · omega
          · exact absurd rfl z.2.1
      · constructor
        · intro z
          exact Or.inr ⟨by omega, Or.inr ⟨hk, h57, z⟩⟩
        · rintro (⟨z, -⟩ | ⟨-, z | z⟩)
          · exact absurd z h57
          · omega
          · exact z.2.2
theorem tr_rd0 {xs : Nat → Int32} {L k i j : Nat} (h : k ≠ 57) : st_rd (s2_S xs L) k i j = st_rd s2_c k i j := by
  show (bif Nat.beq k 24 && Nat.beq j 0 then (Sum.inr (25, 0) : eg_V) else st_ds k i j (bif Nat.beq k 57 then xs j else 0)) = (bif Nat.beq k 24 && Nat.beq j 0 then (Sum.inr (25, 0) : eg_V) else st_ds k i j 0)
  rw [beq_ff h]
  rfl
theorem tr_sz0 {xs : Nat → Int32} {L k i : Nat} (h : k ≠ 57) : st_sz (s2_S xs L) k i = st_sz s2_c k i := by
  show (bif Nat.beq k 25 then 16 else bif Nat.beq k 57 then L else bif Nat.beq k 54 then (kd_txt i).length else st_ln k) = (bif Nat.beq k 25 then 16 else bif Nat.beq k 57 then 0 else bif Nat.beq k 54 then (kd_txt i).length else st_ln k)
  rw [beq_ff h]
  rfl
theorem tr_ne {σ : s1_S} {k i : Nat} (hl : s1_lv σ k i) : k ≠ 57 := by
  rcases hl.2 with z | z
  · omega
  · exact z.2.1
theorem tr_sz {σ : s1_S} (h : s1_chk σ = true) {xs : Nat → Int32} {L k i : Nat} (hl : s1_lv σ k i) (ha : pg_ak k ≠ 0) : st_sz (s2_S xs L) k i = s1_sz σ k i := by
  rw [tr_sz0 (tr_ne hl)]
  rcases hl.2 with ⟨hk, hi⟩ | ⟨hk, h57, -⟩
  · rw [(s1_chk_use h hk).1] at hi
    exact (((s1_chk_use h hk).2 i hi).1 ha).symm
  · show (bif Nat.beq k 25 then 16 else bif Nat.beq k 57 then 0 else bif Nat.beq k 54 then (kd_txt i).length else st_ln k) = (bif Nat.ble 50 k then (bif Nat.beq k 54 then (kd_txt i).length else st_ln k) else σ.2.2 k i)
    rw [Nat.ble_eq_true_of_le hk, beq_ff h57, beq_ff (show k ≠ 25 by omega)]
    rfl
theorem tr_wid {σ : s1_S} (h : s1_chk σ = true) {xs : Nat → Int32} {L k i : Nat} (hl : s1_lv σ k i) : eg_wid st_X (s2_S xs L) k i = eg_wid s1_X σ k i := by
  unfold eg_wid
  split
  · rfl
  · rename_i h0
    exact tr_sz h hl h0
theorem tr_rd {σ : s1_S} (h : s1_chk σ = true) {xs : Nat → Int32} {L k i j : Nat} (hl : s1_lv σ k i) (hj : j < eg_wid s1_X σ k i) : st_rd (s2_S xs L) k i j = s1_rd σ k i j := by
  rw [tr_rd0 (tr_ne hl)]
  rcases hl.2 with ⟨hk, hi⟩ | ⟨hk, h57, -⟩
  · rw [(s1_chk_use h hk).1] at hi
    refine (((s1_chk_use h hk).2 i hi).2 j ?_).symm
    unfold eg_wid at hj
    unfold s1_wid
    split at hj
    · rename_i h0
      rw [h0]
      exact hj
    · rename_i h0
      rw [beq_ff h0]
      exact hj
  · show (bif Nat.beq k 24 && Nat.beq j 0 then (Sum.inr (25, 0) : eg_V) else st_ds k i j 0) = (bif Nat.ble 50 k then st_ds k i j 0 else σ.1 k i j)
    rw [Nat.ble_eq_true_of_le hk, beq_ff (show k ≠ 24 by omega)]
    rfl
theorem tr_cv {σ : s1_S} {ad : eg_A} {b : Nat} {v : eg_V} (hv : eg_lvV s1_lv σ v) : eg_cv (fun k i => if k = 57 then b else ad.1 k i, ad.2) v = eg_cv ad v := by
  cases v with
  | inl x => rfl
  | inr q =>
    show (bif Nat.beq q.1 0 then Value.null else bif Nat.beq q.1 1 then ad.2 q.2 else Value.ref (if q.1 = 57 then b else ad.1 q.1 q.2)) = (bif Nat.beq q.1 0 then Value.null else bif Nat.beq q.1 1 then ad.2 q.2 else Value.ref (ad.1 q.1 q.2))
    rcases hv with h | h | h
    · rw [h]; rfl
    · rw [h]; rfl
    · rw [if_neg (tr_ne h)]
theorem tr_nv {σ : s1_S} {t : Nat} {v : eg_V} (hv : eg_lvV s1_lv σ v) : eg_lvV s1_lv σ (eg_nv t v) := by
  unfold eg_nv
  cases Nat.beq t 5 with
  | false => trivial
  | true =>
    cases v with
    | inl x => exact Or.inl rfl
    | inr q => exact hv
theorem tr_mem {D : va_G} {A : Nat → Prop} {s : State} {H : Heap} {σ : s1_S} (h : s1_chk σ = true) {xs : Nat → Int32} {L k i b : Nat} {ad : eg_A} (hl : s1_lv σ k i) (hr : ∀ j, j < eg_wid s1_X σ k i → eg_lvV s1_lv σ (s1_rd σ k i j)) (hm : eg_mem s1_X D s ad σ k i H) : eg_mem st_X D s (fun k i => if k = 57 then b else ad.1 k i, ad.2) (s2_S xs L) k i H := by
  have hne := tr_ne hl
  unfold eg_mem at hm ⊢
  by_cases h0 : pg_ak k = 0
  · rw [if_pos h0] at hm ⊢
    have hw : eg_wid s1_X σ k i = pg_nf (pg_kc k) := by unfold eg_wid; rw [if_pos h0]
    by_cases h5 : k < 50
    · rw [if_pos h5] at hm ⊢
      have e1 : (List.range (pg_nf (pg_kc k))).map (fun j => eg_cv (fun k i => if k = 57 then b else ad.1 k i, ad.2) (st_X.1 (s2_S xs L) k i j)) = (List.range (pg_nf (pg_kc k))).map (fun j => eg_cv ad (s1_X.1 σ k i j)) := by
        refine List.map_congr_left fun j hj => ?_
        have hj' : j < eg_wid s1_X σ k i := by rw [hw]; exact List.mem_range.mp hj
        show eg_cv _ (st_rd (s2_S xs L) k i j) = eg_cv ad (s1_rd σ k i j)
        rw [tr_rd h hl hj', tr_cv (hr j hj')]
      rw [e1]
      show va_at D pm_cl (if k = 57 then b else ad.1 k i, _) H
      rw [if_neg hne]
      exact hm
    · rw [if_neg h5] at hm ⊢
      show (∃ cell : Cell, H[if k = 57 then b else ad.1 k i]? = some cell ∧ cell.vm.isStatics = false ∧ s.vm.findClass (pm_c (pg_kc k)).1 = some cell.cls) ∧ ∀ j, j < pg_nf (pg_kc k) → eg_fld s (pg_kc k) j (if k = 57 then b else ad.1 k i) (eg_cv (fun k i => if k = 57 then b else ad.1 k i, ad.2) (st_rd (s2_S xs L) k i j)) H
      rw [if_neg hne]
      refine ⟨hm.1, fun j hj => ?_⟩
      have hj' : j < eg_wid s1_X σ k i := by rw [hw]; exact hj
      rw [tr_rd h hl hj', tr_cv (hr j hj')]
      exact hm.2 j hj
  · rw [if_neg h0] at hm ⊢
    have hw : eg_wid s1_X σ k i = s1_sz σ k i := by unfold eg_wid; rw [if_neg h0]
    show eg_arr s (pm_at k) (if k = 57 then b else ad.1 k i) (st_sz (s2_S xs L) k i) (fun j => eg_cv (fun k i => if k = 57 then b else ad.1 k i, ad.2) (eg_nv (pg_ak k) (st_rd (s2_S xs L) k i j))) H ∧ (k = 8 → ∃ cell : Cell, H[if k = 57 then b else ad.1 k i]? = some cell ∧ va_RA s cell.cls (.object "UnitDesk$Item"))
    rw [if_neg hne, tr_sz h hl h0]
    refine ⟨?_, hm.2⟩
    obtain ⟨cell, c1, c2, c3, c4, c5, c6⟩ := hm.1
    refine ⟨cell, c1, c2, c3, c4, c5, fun j hj => ?_⟩
    have hj' : j < eg_wid s1_X σ k i := by rw [hw]; exact hj
    show cell.slots[j]? = some (eg_cv (fun k i => if k = 57 then b else ad.1 k i, ad.2) (eg_nv (pg_ak k) (st_rd (s2_S xs L) k i j)))
    rw [tr_rd h hl hj', tr_cv (tr_nv (hr j hj'))]
    exact c6 j hj
theorem tr_inv {D : va_G} {s : State} {H : Heap} {locs : List Loc} {σ : s1_S} (h : s1_chk σ = true) {xs : Nat → Int32} {L b : Nat} {ad : eg_A} (hb : b < s.heap.size) (hX : va_X b L xs s s.heap) (hI : eg_Inv s1_X s1_lv D (fun q => s.heap.size ≤ q) s ad σ H locs) : eg_Inv st_X st_lv D (fun q => s.heap.size ≤ q) s (fun k i => if k = 57 then b else ad.1 k i, ad.2) (s2_S xs L) H locs := by
  obtain ⟨i1, i2, i3, i4, i5⟩ := hI
  have hnA : ¬ s.heap.size ≤ b := Nat.not_le.mpr hb
  refine ⟨fun k i hl => ?_, fun k i hl => ?_, fun k i k2 i2' hl hl2 hab e => ?_, i4, fun k i j hl hj => ?_⟩
  · rcases (tr_lv h).mp hl with ⟨rfl, rfl⟩ | hl
    · refine ⟨by decide, ?_⟩
      obtain ⟨scr, c1, c2, c3, c4, c5⟩ := hX
      refine ⟨⟨scr, ?_, c2, c3, Nat.le_of_eq c4.symm, by rw [c4]; rfl, fun j hj => c5 j hj⟩, fun z => by cases z⟩
      show H[b]? = some scr
      rw [i4.2.1 b hb hnA]
      exact c1
    · exact ⟨(i1 k i hl).1, tr_mem (A := fun q => s.heap.size ≤ q) h hl (fun j hj => i5 k i j hl hj) (i1 k i hl).2⟩
  · rcases (tr_lv h).mp hl with ⟨rfl, rfl⟩ | hl
    · exact ⟨fun z => absurd z hnA, fun z => absurd z (by decide)⟩
    · show s.heap.size ≤ (if k = 57 then b else ad.1 k i) ↔ k < 50
      rw [if_neg (tr_ne hl)]
      exact i2 k i hl
  · replace e : (if k = 57 then b else ad.1 k i) = (if k2 = 57 then b else ad.1 k2 i2') := e
    rcases (tr_lv h).mp hl with ⟨rfl, rfl⟩ | hl
    · rcases hab with z | z
      · exact absurd z (by decide)
      · exact absurd z.1 (by decide)
    · rw [if_neg (tr_ne hl)] at e
      rcases (tr_lv h).mp hl2 with ⟨rfl, rfl⟩ | hl2
      · rcases hab with z | z
        · rw [if_pos rfl] at e
          have := (i2 k i hl).mpr z
          rw [e] at this
          exact absurd this hnA
        · exact absurd z.2 (by decide)
      · rw [if_neg (tr_ne hl2)] at e
        exact i3 k i k2 i2' hl hl2 hab e
  · rcases (tr_lv h).mp hl with ⟨rfl, rfl⟩ | hl
    · trivial
    · rw [tr_wid h hl] at hj
      show eg_lvV st_lv (s2_S xs L) (st_rd (s2_S xs L) k i j)
      rw [tr_rd h hl hj]
      have := i5 k i j hl hj
      cases hv : s1_rd σ k i j with
      | inl x => trivial
      | inr q =>
        replace this : eg_lvV s1_lv σ (s1_rd σ k i j) := this
        rw [hv] at this
        exact this.imp id (fun z => z.imp id (fun z => (tr_lv h).mpr (Or.inr z)))
