/-! FRAMES: which (kind, slot) a run may change; slot 999: any -/
def fp_in : List (Nat × Nat) → Nat → Nat → Bool
  | [], _, _ => false
  | p :: l, k, j => (Nat.beq p.1 k && (Nat.beq p.2 999 || Nat.beq p.2 j)) || fp_in l k j
def fp_dj1 (p : Nat × Nat) : List (Nat × Nat) → Bool
  | [] => true
  | q :: l => !(Nat.beq p.1 q.1 && (Nat.beq p.2 999 || (Nat.beq q.2 999 || Nat.beq p.2 q.2))) && fp_dj1 p l
def fp_dj : List (Nat × Nat) → List (Nat × Nat) → Bool
  | [], _ => true
  | p :: l, f => fp_dj1 p f && fp_dj l f
def fp_le1 (p : Nat × Nat) : List (Nat × Nat) → Bool
  | [] => false
  | q :: l => (Nat.beq p.1 q.1 && (Nat.beq q.2 999 || Nat.beq q.2 p.2)) || fp_le1 p l
def fp_le : List (Nat × Nat) → List (Nat × Nat) → Bool
  | [], _ => true
  | p :: l, f => fp_le1 p f && fp_le l f
theorem fp_dj1_use {p : Nat × Nat} : ∀ {f : List (Nat × Nat)} {k j : Nat}, fp_dj1 p f = true → fp_in f k j = true → (Nat.beq p.1 k && (Nat.beq p.2 999 || Nat.beq p.2 j)) = false
  | [], _, _, _, h => nomatch h
  | q :: f, k, j, h1, h2 => by
    simp only [fp_dj1, Bool.and_eq_true] at h1
    simp only [fp_in, Bool.or_eq_true] at h2
    rcases h2 with h2 | h2
    · simp only [Bool.and_eq_true] at h2
      have e1 := Nat.eq_of_beq_eq_true h2.1
      cases hk : Nat.beq p.1 k with
      | false => rfl
      | true =>
        have e2 := Nat.eq_of_beq_eq_true hk
        have h3 := h1.1
        rw [e2, ← e1] at h3
        simp only [Nat.beq_refl, Bool.true_and, Bool.not_eq_true', Bool.or_eq_false_iff] at h3
        obtain ⟨h4, h5, h6⟩ := h3
        rcases h2 with ⟨-, h2⟩
        rw [h4]
        rcases Bool.or_eq_true _ _ ▸ h2 with h7 | h7
        · rw [h7] at h5; cases h5
        · have e3 := Nat.eq_of_beq_eq_true h7
          rw [e3] at h6
          rw [h6]; rfl
    · exact fp_dj1_use h1.2 h2
theorem fp_dj_use : ∀ {l f : List (Nat × Nat)} {k j : Nat}, fp_dj l f = true → fp_in f k j = true → fp_in l k j = false
  | [], _, _, _, _, _ => rfl
  | p :: l, f, k, j, h1, h2 => by
    simp only [fp_dj, Bool.and_eq_true] at h1
    simp only [fp_in]
    rw [fp_dj1_use h1.1 h2, fp_dj_use h1.2 h2]
    rfl
theorem fp_le1_use {p : Nat × Nat} : ∀ {f : List (Nat × Nat)} {k j : Nat}, fp_le1 p f = true → (Nat.beq p.1 k && (Nat.beq p.2 999 || Nat.beq p.2 j)) = true → fp_in f k j = true
  | [], _, _, h, _ => nomatch h
  | q :: f, k, j, h1, h2 => by
    simp only [fp_le1, Bool.or_eq_true] at h1
    simp only [fp_in, Bool.or_eq_true]
    rcases h1 with h1 | h1
    · left
      simp only [Bool.and_eq_true, Bool.or_eq_true] at h1 h2 ⊢
      have e1 := Nat.eq_of_beq_eq_true h1.1
      refine ⟨e1 ▸ h2.1, ?_⟩
      rcases h1.2 with h3 | h3
      · exact Or.inl h3
      · have e2 := Nat.eq_of_beq_eq_true h3
        rw [e2]
        exact h2.2
    · exact Or.inr (fp_le1_use h1 h2)
theorem fp_le_use : ∀ {l f : List (Nat × Nat)} {k j : Nat}, fp_le l f = true → fp_in f k j = false → fp_in l k j = false
  | [], _, _, _, _, _ => rfl
  | p :: l, f, k, j, h1, h2 => by
    simp only [fp_le, Bool.and_eq_true] at h1
    simp only [fp_in]
    rw [fp_le_use h1.2 h2]
    cases hb : (Nat.beq p.1 k && (Nat.beq p.2 999 || Nat.beq p.2 j)) with
    | false => rfl
    | true => rw [fp_le1_use h1.1 hb] at h2; cases h2
def fr (l : List (Nat × Nat)) (σ σ' : st_S) : Prop := σ'.2 = σ.2 ∧ ∀ k i j, fp_in l k j = false → σ'.1 k i j = σ.1 k i j
/-- the cells of f are alike -/
def ag (f : List (Nat × Nat)) (σ σ' : st_S) : Prop := ∀ k i j, fp_in f k j = true → σ'.1 k i j = σ.1 k i j
theorem fr_rf {l : List (Nat × Nat)} {σ : st_S} : fr l σ σ := ⟨rfl, fun _ _ _ _ => rfl⟩
theorem fr_tr {l : List (Nat × Nat)} {σ σ1 σ2 : st_S} (h1 : fr l σ σ1) (h2 : fr l σ1 σ2) : fr l σ σ2 := ⟨h2.1.trans h1.1, fun k i j h => (h2.2 k i j h).trans (h1.2 k i j h)⟩
theorem fr_w {l : List (Nat × Nat)} (f : List (Nat × Nat)) {σ σ1 : st_S} (h : fr l σ σ1) (hl : fp_le l f = true) : fr f σ σ1 := ⟨h.1, fun k i j hf => h.2 k i j (fp_le_use hl hf)⟩
theorem fr_up {l : List (Nat × Nat)} {σ σ1 : st_S} {k i j : Nat} {x : Int32} (h : fr l σ σ1) (hl : fp_in l k j = true) : fr l σ (st_up σ1 k i j x) := by
  refine ⟨h.1, fun k2 i2 j2 h2 => ?_⟩
  rw [st_up_at, if_neg, h.2 k2 i2 j2 h2]
  rintro ⟨rfl, -, rfl⟩
  rw [hl] at h2
  cases h2
theorem fr_ag {l f : List (Nat × Nat)} {σ σ' : st_S} (h : fr l σ σ') (hd : fp_dj l f = true) : ag f σ σ' := fun k i j hf => h.2 k i j (fp_dj_use hd hf)
