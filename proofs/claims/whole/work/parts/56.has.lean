/-! STRINGS of the kinds -/
theorem n_sr0 (x : Int32) : x >>> 0 = x := by
  apply Int32.toInt_inj.mp
  rw [show (0 : Int32) = Int32.ofNat 0 from rfl, z_shr (by omega)]
  simp
theorem s_len {σ : st_S} {Q : st_S → Option eg_V → Prop} {i : Nat} (k : Q σ (some (.inl (Int32.ofNat (kd_txt i).length)))) : pw_E 135 0 σ (0, 0) [(0, .inr (53, i))] [] Q := by
  refine w_String_length_0 ?_
  rw [n_sr0]; exact k
theorem t_len : ∀ i, i < 25 → (kd_txt i).length ≤ 5 := by decide +kernel
theorem t_i8 : ∀ c, c < 128 → (Int32.toInt8 (Int32.ofNat c)).toInt32 = Int32.ofNat c := by decide +kernel
theorem s_iochar {σ : st_S} {Q : st_S → Option eg_V → Prop} {i c : Nat} (hi : (kd_txt i).length ≤ 5) : ∀ d j, j + d = (kd_txt i).length →
    (∀ j', j ≤ j' → j' < (kd_txt i).length → (kd_txt i).getD j' 0 = Int32.ofNat c → Q σ (some (.inl (Int32.ofNat j')))) →
    ((∀ j', j ≤ j' → j' < (kd_txt i).length → (kd_txt i).getD j' 0 ≠ Int32.ofNat c) → Q σ (some (.inl (-1)))) →
    pw_E 147 7 σ (0, 0) [(0, .inr (54, i)), (3, .inl (Int32.ofNat (kd_txt i).length)), (4, .inl (Int32.ofNat c)), (5, .inl (Int32.ofNat j))] [] Q := by
  intro d
  induction d with
  | zero =>
    intro j hj K1 K2
    have hc : Int32.ofNat (kd_txt i).length ≤ Int32.ofNat j := by rw [n_le (by omega) (by omega)]; omega
    exact w_StringLatin1_indexOfChar_7 (fun _ => K2 (fun j' h1 h2 => by omega)) (fun h => absurd hc h) (fun h => absurd hc h) (fun h => absurd hc h)
  | succ d ih =>
    intro j hj K1 K2
    have hc : ¬ Int32.ofNat (kd_txt i).length ≤ Int32.ofNat j := by rw [n_le (by omega) (by omega)]; omega
    refine w_StringLatin1_indexOfChar_7 (fun h => absurd h hc) (fun _ => n_inb (by omega) (by omega)) (fun _ h => ?_) (fun _ h => ?_)
    · rw [n_cl (by omega)] at h
      exact K1 j (Nat.le_refl _) (by omega) h
    · rw [n_cl (by omega)] at h
      rw [show Int32.ofNat j + 1 = Int32.ofNat (j + 1) from n_add j 1]
      refine ih (j + 1) (by omega) (fun j' h1 h2 h3 => K1 j' (by omega) h2 h3) (fun z => K2 (fun j' h1 h2 => ?_))
      by_cases hjj : j' = j
      · subst hjj; exact h
      · exact z j' (by omega) h2
def kh (e c : Nat) : Bool := (List.range (kd_txt (kd_arguments e)).length).any (fun j => decide ((kd_txt (kd_arguments e)).getD j 0 = Int32.ofNat c))
theorem tx_b0 {b : Bool} : tx_b b = 0 ↔ b = false := by cases b <;> decide
theorem t_arg : ∀ e, e < 16 → kd_arguments e < 25 := by decide +kernel
theorem s_has {σ : st_S} {Q : st_S → Option eg_V → Prop} {e c : Nat} (he : e < 16) (hc : c < 128) (k : Q σ (some (.inl (tx_b (kh e c))))) : pw_E 68 0 σ (0, 0) [(0, .inr (50, e)), (1, .inl (Int32.ofNat c))] [] Q := by
  have hl := t_len _ (t_arg e he)
  have hT : (∃ j, j < (kd_txt (kd_arguments e)).length ∧ (kd_txt (kd_arguments e)).getD j 0 = Int32.ofNat c) → kh e c = true := by
    rintro ⟨j, h1, h2⟩
    exact List.any_eq_true.mpr ⟨j, List.mem_range.mpr h1, decide_eq_true h2⟩
  have hF : (∀ j, j < (kd_txt (kd_arguments e)).length → (kd_txt (kd_arguments e)).getD j 0 ≠ Int32.ofNat c) → kh e c = false := by
    intro h
    refine List.any_eq_false.mpr (fun j hj => ?_)
    rw [decide_eq_false (h j (List.mem_range.mp hj))]
    decide
  have c0 : ¬ Int32.ofNat c < 0 := by rw [show (0 : Int32) = Int32.ofNat 0 from rfl, n_lt (by omega) (by omega)]; omega
  have c1 : ¬ (255 : Int32) < Int32.ofNat c := by rw [show (255 : Int32) = Int32.ofNat 255 from rfl, n_lt (by omega) (by omega)]; omega
  have m1 : (if (0 : Int32) < 0 then (0 : Int32) else 0) = Int32.ofNat 0 := by decide
  have m2 : (if Int32.ofNat (kd_txt (kd_arguments e)).length < Int32.ofNat (kd_txt (kd_arguments e)).length then Int32.ofNat (kd_txt (kd_arguments e)).length else Int32.ofNat (kd_txt (kd_arguments e)).length) = Int32.ofNat (kd_txt (kd_arguments e)).length := ite_self _
  refine w_Kind_has_0 (w_String_indexOf_0 (w_String_indexOf2_0 (s_len (w_String_indexOf2_17 (w_StringLatin1_indexOf_0 (fun h => absurd h c0) (fun _ h => absurd h c1) (fun _ _ h => ?_) (fun _ _ h => ?_))))))
  · rw [m1, m2]
    refine w_StringLatin1_indexOfChar_0 ?_
    rw [t_i8 c hc]
    refine s_iochar hl _ 0 (Nat.zero_add _) (fun j' _ h2 h3 => ?_) (fun z => ?_)
    · refine w_StringLatin1_indexOf_36 (w_String_indexOf2_20 (w_String_indexOf_6 (w_Kind_has_8 (fun h => absurd h ?_) (fun _ => ?_))))
      · rw [show (0 : Int32) = Int32.ofNat 0 from rfl, n_lt (by omega) (by omega)]; omega
      · rw [hT ⟨j', h2, h3⟩] at k; exact k
    · refine w_StringLatin1_indexOf_36 (w_String_indexOf2_20 (w_String_indexOf_6 (w_Kind_has_8 (fun h => ?_) (fun h => absurd (by decide) h))))
      rw [hF (fun j hj => z j (Nat.zero_le _) hj)] at k; exact k
  · rw [m1, m2, n_lt (by omega) (by omega)] at h
    refine w_String_indexOf2_20 (w_String_indexOf_6 (w_Kind_has_8 (fun _ => ?_) (fun h => absurd (by decide) h)))
    rw [hF (fun j hj => by omega)] at k; exact k
theorem kh_A : ∀ e, e < 16 → kh e 65 = decide (1 ≤ kr e) ∧ kh e 66 = decide (2 ≤ kr e) ∧ kh e 67 = decide (3 ≤ kr e) ∧ kh e 110 = kn e := by decide +kernel
