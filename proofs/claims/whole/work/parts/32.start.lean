/-! THE STORE while the objects are made: any reference in any field -/
abbrev s1_S : Type := (Nat → Nat → Nat → eg_V) × (Nat → Nat) × (Nat → Nat → Nat)
def s1_rd (σ : s1_S) (k i j : Nat) : eg_V := bif Nat.ble 50 k then st_ds k i j 0 else σ.1 k i j
def s1_sz (σ : s1_S) (k i : Nat) : Nat := bif Nat.ble 50 k then (bif Nat.beq k 54 then (kd_txt i).length else st_ln k) else σ.2.2 k i
def s1_wr (σ : s1_S) (k i j : Nat) (v : eg_V) : Option s1_S := bif Nat.ble 50 k then none else some (fun k2 i2 j2 => bif Nat.beq k2 k && (Nat.beq i2 i && Nat.beq j2 j) then v else σ.1 k2 i2 j2, σ.2)
def s1_nw (σ : s1_S) (k n : Nat) : Option (s1_S × Nat) := bif Nat.ble 2 k && Nat.blt k 50 then some ((fun k2 i2 j2 => bif Nat.beq k2 k && Nat.beq i2 (σ.2.1 k) then eg_dft k j2 else σ.1 k2 i2 j2, fun k2 => bif Nat.beq k2 k then σ.2.1 k + 1 else σ.2.1 k2, fun k2 i2 => bif Nat.beq k2 k && Nat.beq i2 (σ.2.1 k) then n else σ.2.2 k2 i2), σ.2.1 k) else none
def s1_cp (_ : s1_S) (_ : Nat × Nat) (_ : Nat) (_ : Nat × Nat) (_ _ : Nat) : Option s1_S := none
abbrev s1_X : eg_X s1_S := (s1_rd, s1_sz, s1_wr, s1_nw, s1_cp)
def s1_lv (σ : s1_S) (k i : Nat) : Prop := 2 ≤ k ∧ ((k < 50 ∧ i < σ.2.1 k) ∨ (50 ≤ k ∧ k ≠ 57 ∧ i < st_pop k))
theorem ble_ff {a b : Nat} (h : b < a) : Nat.ble a b = false := by
  cases hb : Nat.ble a b with
  | false => rfl
  | true => have := Nat.le_of_ble_eq_true hb; omega
theorem s1_Lwr : eg_Lwr s1_X s1_lv := by
  intro σ k i j v σ2 hl hj hv h
  replace h : s1_wr σ k i j v = some σ2 := h
  unfold s1_wr at h
  cases hb : Nat.ble 50 k with
  | true => rw [hb] at h; cases h
  | false =>
    rw [hb] at h
    cases h
    have hk : k < 50 := by
      rcases Nat.lt_or_ge k 50 with z | z
      · exact z
      · rw [Nat.ble_eq_true_of_le z] at hb; cases hb
    refine ⟨hk, fun _ _ => Iff.rfl, fun _ _ => rfl, fun k2 i2 j2 h2 => ?_⟩
    show (bif Nat.ble 50 k2 then st_ds k2 i2 j2 0 else bif Nat.beq k2 k && (Nat.beq i2 i && Nat.beq j2 j) then v else σ.1 k2 i2 j2) = if k2 = k ∧ i2 = i ∧ j2 = j then v else (bif Nat.ble 50 k2 then st_ds k2 i2 j2 0 else σ.1 k2 i2 j2)
    by_cases hc : k2 = k ∧ i2 = i ∧ j2 = j
    · obtain ⟨rfl, rfl, rfl⟩ := hc
      rw [if_pos ⟨rfl, rfl, rfl⟩, hb]
      simp only [Nat.beq_refl, Bool.and_self, cond_true, cond_false]
    · rw [if_neg hc]
      cases hb2 : (Nat.beq k2 k && (Nat.beq i2 i && Nat.beq j2 j)) with
      | false => rfl
      | true =>
        simp only [Bool.and_eq_true] at hb2
        exact absurd ⟨Nat.eq_of_beq_eq_true hb2.1, Nat.eq_of_beq_eq_true hb2.2.1, Nat.eq_of_beq_eq_true hb2.2.2⟩ hc
theorem s1_Lnw : eg_Lnw s1_X s1_lv := by
  intro σ k n σ2 i hn h
  replace h : s1_nw σ k n = some (σ2, i) := h
  unfold s1_nw at h
  cases hb : (Nat.ble 2 k && Nat.blt k 50) with
  | false => rw [hb] at h; cases h
  | true =>
    rw [hb] at h
    cases h
    simp only [Bool.and_eq_true] at hb
    have h2 : 2 ≤ k := Nat.le_of_ble_eq_true hb.1
    have h50 : k < 50 := Nat.le_of_ble_eq_true hb.2
    refine ⟨h2, h50, ?_, fun k2 i2 => ?_, fun k2 i2 hl => ?_, fun _ => ?_, fun j hj => ?_⟩
    · intro z
      rcases z.2 with z | z
      · exact Nat.lt_irrefl _ z.2
      · omega
    · show (2 ≤ k2 ∧ ((k2 < 50 ∧ i2 < (bif Nat.beq k2 k then σ.2.1 k + 1 else σ.2.1 k2)) ∨ (50 ≤ k2 ∧ k2 ≠ 57 ∧ i2 < st_pop k2))) ↔ (2 ≤ k2 ∧ ((k2 < 50 ∧ i2 < σ.2.1 k2) ∨ (50 ≤ k2 ∧ k2 ≠ 57 ∧ i2 < st_pop k2))) ∨ (k2 = k ∧ i2 = σ.2.1 k)
      by_cases hk : k2 = k
      · subst hk
        rw [show Nat.beq k2 k2 = true from Nat.beq_refl _]
        simp only [cond_true]
        constructor
        · rintro ⟨a1, ⟨a2, a3⟩ | a2⟩
          · by_cases h9 : i2 = σ.2.1 k2
            · exact Or.inr ⟨by trivial, h9⟩
            · exact Or.inl ⟨a1, Or.inl ⟨a2, by omega⟩⟩
          · exact Or.inl ⟨a1, Or.inr a2⟩
        · rintro (⟨a1, ⟨a2, a3⟩ | a2⟩ | ⟨-, a2⟩)
          · exact ⟨a1, Or.inl ⟨a2, by omega⟩⟩
          · exact ⟨a1, Or.inr a2⟩
          · exact ⟨h2, Or.inl ⟨h50, by omega⟩⟩
      · rw [beq_ff hk]
        simp only [cond_false]
        exact ⟨Or.inl, fun z => z.elim id (fun z => absurd z.1 hk)⟩
    · have hne : ¬ (k2 = k ∧ i2 = σ.2.1 k) := by
        rintro ⟨rfl, rfl⟩
        rcases hl.2 with z | z
        · exact Nat.lt_irrefl _ z.2
        · omega
      have hbf : (Nat.beq k2 k && Nat.beq i2 (σ.2.1 k)) = false := by
        cases hb2 : (Nat.beq k2 k && Nat.beq i2 (σ.2.1 k)) with
        | false => rfl
        | true =>
          simp only [Bool.and_eq_true] at hb2
          exact absurd ⟨Nat.eq_of_beq_eq_true hb2.1, Nat.eq_of_beq_eq_true hb2.2⟩ hne
      refine ⟨?_, fun j => ?_⟩
      · show (bif Nat.ble 50 k2 then _ else bif Nat.beq k2 k && Nat.beq i2 (σ.2.1 k) then n else σ.2.2 k2 i2) = (bif Nat.ble 50 k2 then _ else σ.2.2 k2 i2)
        rw [hbf]
        rfl
      · show (bif Nat.ble 50 k2 then _ else bif Nat.beq k2 k && Nat.beq i2 (σ.2.1 k) then eg_dft k j else σ.1 k2 i2 j) = (bif Nat.ble 50 k2 then _ else σ.1 k2 i2 j)
        rw [hbf]
        rfl
    · show (bif Nat.ble 50 k then _ else bif Nat.beq k k && Nat.beq (σ.2.1 k) (σ.2.1 k) then n else σ.2.2 k (σ.2.1 k)) = n
      rw [ble_ff h50, Nat.beq_refl, Nat.beq_refl]
      rfl
    · show (bif Nat.ble 50 k then st_ds k (σ.2.1 k) j 0 else bif Nat.beq k k && Nat.beq (σ.2.1 k) (σ.2.1 k) then eg_dft k j else σ.1 k (σ.2.1 k) j) = eg_dft k j
      rw [ble_ff h50, Nat.beq_refl, Nat.beq_refl]
      rfl
theorem s1_Lcp : eg_Lcp s1_X s1_lv := by
  intro σ q sp d dp n σ2 hq hd hk h
  cases h
theorem s1_Lst : eg_Lst s1_lv := by
  intro σ
  refine ⟨fun a ha => ?_, ⟨by decide, Or.inr ⟨by decide, by decide, by decide⟩⟩⟩
  have h := (st_Lst ((fun _ _ _ => 0), 0, (fun _ => 0), 0, 0)).1 a ha
  cases hv : pg_sg a with
  | inl x => trivial
  | inr q =>
    rw [hv] at h
    rcases h with h | h | h
    · exact Or.inl h
    · exact Or.inr (Or.inl h)
    · refine Or.inr (Or.inr ?_)
      have hall : ∀ a, a < pm_ns → ∀ q, pg_sg a = .inr q → q.1 = 0 ∨ q.1 = 1 ∨ (50 ≤ q.1 ∧ q.1 ≠ 57) := by
        have hd : ∀ a ∈ List.range pm_ns, (match pg_sg a with | .inl _ => true | .inr q => Nat.beq q.1 0 || Nat.beq q.1 1 || (Nat.ble 50 q.1 && !(Nat.beq q.1 57))) = true := by decide +kernel
        intro a ha q hq
        have := hd a (List.mem_range.mpr ha)
        rw [hq] at this
        simp only [Bool.or_eq_true, Bool.and_eq_true, Bool.not_eq_true'] at this
        rcases this with (h | h) | ⟨h1, h2⟩
        · exact Or.inl (Nat.eq_of_beq_eq_true h)
        · exact Or.inr (Or.inl (Nat.eq_of_beq_eq_true h))
        · exact Or.inr (Or.inr ⟨Nat.le_of_ble_eq_true h1, fun e => by rw [e] at h2; cases h2⟩)
      unfold st_lv at h
      rcases hall a ha q hv with h9 | h9 | ⟨h9, h8⟩
      · rw [h9, if_neg (by decide)] at h
        exact absurd h (Nat.not_lt_zero _)
      · rw [h9, if_neg (by decide)] at h
        exact absurd h (Nat.not_lt_zero _)
      · rw [if_neg (by omega)] at h
        exact ⟨by omega, Or.inr ⟨h9, h8, h⟩⟩
theorem s1_Lmn : eg_Lmn s1_X s1_lv := by
  refine ⟨fun σ k i j v σ2 h k2 i2 h2 => ?_, fun σ k n σ2 i h k2 i2 h2 => ?_, fun σ q sp d dp n σ2 h => by cases h⟩
  · replace h : s1_wr σ k i j v = some σ2 := h
    unfold s1_wr at h
    simp only [cond_eq_ite] at h
    split at h
    · cases h
    · cases h; exact h2
  · replace h : s1_nw σ k n = some (σ2, i) := h
    unfold s1_nw at h
    simp only [cond_eq_ite] at h
    split at h
    · cases h
      refine ⟨h2.1, h2.2.imp (fun z => ⟨z.1, ?_⟩) id⟩
      show i2 < (if Nat.beq k2 k = true then σ.2.1 k + 1 else σ.2.1 k2)
      split
      · rename_i h9
        have := Nat.eq_of_beq_eq_true h9
        subst this
        have := z.2
        omega
      · exact z.2
    · cases h
theorem s1_sound {D : va_G} {A : Nat → Prop} {l : Launch} (n : Nat) : eg_Snd s1_X s1_lv D A l n := eg_sound eg_tbl_ok s1_Lwr s1_Lnw s1_Lcp s1_Lst s1_Lmn n
