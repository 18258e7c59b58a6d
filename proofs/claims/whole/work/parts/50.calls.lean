/-! CALLS: class and reference answer alike, and the relation stands -/
def CallS (xs : Nat → Int32) (L mc mm : Nat) (av : List eg_V) : Prop := ∀ σ, RR xs L σ → pw_E mc 0 σ (0, 0) (eg_ent 0 (.inr (2, 0) :: av)) [] (fun σ1 r1 => ∃ v, r1 = some (.inl v) ∧ pw_E mm 0 σ1 (0, 0) (eg_ent 0 (.inr (26, 0) :: av)) [] (fun σ2 r2 => r2 = some (.inl v) ∧ RR xs L σ2))
theorem ag_app {f g : List (Nat × Nat)} {σ σ' : st_S} (h : ag (f ++ g) σ σ') : ag f σ σ' ∧ ag g σ σ' := by
  have app : ∀ k j, fp_in (f ++ g) k j = (fp_in f k j || fp_in g k j) := by
    intro k j
    clear h
    induction f with
    | nil => rfl
    | cons p f ih => simp only [List.cons_append, fp_in, ih, Bool.or_assoc]
  exact ⟨fun k i j hk => h k i j (by rw [app, hk]; rfl), fun k i j hk => h k i j (by rw [app, hk, Bool.or_true])⟩
theorem RR_D {xs : Nat → Int32} {L : Nat} {σ σ' : st_S} {l : List (Nat × Nat)} (h : fr l σ σ') (hd : fp_dj l (fp_TC ++ (fp_TM ++ (fp_TL ++ (fp_C ++ (fp_M ++ (fp_R ++ (fp_B ++ fp_X))))))) = true) (r : RR xs L σ) (r' : R_D σ') : RR xs L σ' := by
  obtain ⟨-, a2, a3, a4, a5, a6, a7⟩ := r
  obtain ⟨A1, A⟩ := ag_app (fr_ag h hd)
  obtain ⟨A2, A⟩ := ag_app A
  obtain ⟨A3, A⟩ := ag_app A
  obtain ⟨A4, A⟩ := ag_app A
  obtain ⟨A5, A⟩ := ag_app A
  obtain ⟨A6, A⟩ := ag_app A
  obtain ⟨A7, A8⟩ := ag_app A
  exact ⟨r', a2.ag A1 A2 A3, a3.ag A4, a4.ag A5, a5.ag A6, a6.ag h.1 A7, a7.ag h.1 A8⟩
theorem RR_C {xs : Nat → Int32} {L : Nat} {σ σ' : st_S} {l : List (Nat × Nat)} (h : fr l σ σ') (hd : fp_dj l (fp_TC ++ (fp_TM ++ (fp_TL ++ (fp_D ++ (fp_M ++ (fp_R ++ (fp_B ++ fp_X))))))) = true) (r : RR xs L σ) (r' : R_C σ') : RR xs L σ' := by
  obtain ⟨a1, a2, -, a4, a5, a6, a7⟩ := r
  obtain ⟨A1, A⟩ := ag_app (fr_ag h hd)
  obtain ⟨A2, A⟩ := ag_app A
  obtain ⟨A3, A⟩ := ag_app A
  obtain ⟨A4, A⟩ := ag_app A
  obtain ⟨A5, A⟩ := ag_app A
  obtain ⟨A6, A⟩ := ag_app A
  obtain ⟨A7, A8⟩ := ag_app A
  exact ⟨a1.ag A4, a2.ag A1 A2 A3, r', a4.ag A5, a5.ag A6, a6.ag h.1 A7, a7.ag h.1 A8⟩
/-- an int that is neither below 0 nor above a small number -/
theorem n_in {x : Int32} {b : Nat} (h1 : ¬ x < 0) (hb : b < 2147483648) (h2 : ¬ Int32.ofNat b < x) : ∃ n, n ≤ b ∧ x = Int32.ofNat n := by
  obtain ⟨n, hn, rfl⟩ := n_of' h1
  rw [n_lt hb hn] at h2
  exact ⟨n, by omega, rfl⟩
theorem cs_put (xs : Nat → Int32) (L : Nat) (x : Int32) : CallS xs L 9 86 [.inl x] := by
  intro σ r
  obtain ⟨n, hn, e1, e2, e3⟩ := r.1
  have e40 : (40 : Int32) = Int32.ofNat 40 := rfl
  refine w_U_put_0 (fun h => ⟨_, rfl, ?_⟩) (fun h1 h2 h3 => ?_) (fun h1 h2 h3 => ⟨_, rfl, ?_⟩) (fun h1 h2 h3 => ⟨_, rfl, ?_⟩) (fun h1 h2 => ⟨_, rfl, ?_⟩)
  · exact w_M_put_0 (fun _ => ⟨rfl, r⟩) (fun h' => absurd h h') (fun h' => absurd h h') (fun h' => absurd h h') (fun h' => absurd h h')
  · rw [e1, e40, n_lt (by omega) (by omega)] at h3
    rw [e1]
    exact n_inb h3 (by omega)
  · rw [e1, e40, n_lt (by omega) (by omega)] at h3
    have h2' : ¬ (255 : Int32) < x := Int32.not_lt.mpr h2
    have hm : (st_up (st_up σ 4 0 (σ.1 3 0 1).toNatClampNeg x) 3 0 1 (σ.1 3 0 1 + 1)).1 26 0 3 = Int32.ofNat n := e2
    rw [e1, n_cl (by omega)] at *
    refine w_M_put_0 (fun h => absurd h h1) (fun _ h => absurd h h2') (fun _ _ h => ?_) (fun _ _ _ => ?_) (fun _ _ _ => ⟨?_, ?_⟩)
    · rw [hm, e40, n_inj (by omega) (by omega)] at h
      omega
    · rw [hm]; exact n_inb h3 (by omega)
    · rw [hm]
    · rw [hm, n_cl (by omega)]
      refine RR_D (l := [(4, 999), (3, 1), (27, 999), (26, 3)]) (fr_up (fr_up (fr_up (fr_up fr_rf rfl) rfl) rfl) rfl) rfl r ⟨n + 1, by omega, ?_, ?_, fun j hj => ?_⟩
      · exact n_add n 1
      · exact n_add n 1
      · show (st_up σ 4 0 n x).1 4 0 j = (st_up σ 27 0 n x).1 27 0 j
        rw [st_up_at, st_up_at]
        by_cases hjn : j = n
        · rw [if_pos ⟨rfl, rfl, hjn⟩, if_pos ⟨rfl, rfl, hjn⟩]
        · rw [if_neg (fun z => hjn z.2.2), if_neg (fun z => hjn z.2.2)]
          exact e3 j (by omega)
  · rw [e1, e40, n_lt (by omega) (by omega)] at h3
    have h2' : ¬ (255 : Int32) < x := Int32.not_lt.mpr h2
    have h9 : n = 40 := by omega
    subst h9
    exact w_M_put_0 (fun h => absurd h h1) (fun _ h => absurd h h2') (fun _ _ h => ⟨rfl, r⟩) (fun _ _ h => absurd e2 h) (fun _ _ h => absurd e2 h)
  · have h2' : (255 : Int32) < x := Int32.not_le.mp h2
    exact w_M_put_0 (fun _ => ⟨rfl, r⟩) (fun _ _ => ⟨rfl, r⟩) (fun _ h => absurd h2' h) (fun _ h => absurd h2' h) (fun _ h => absurd h2' h)
theorem cs_unit (xs : Nat → Int32) (L : Nat) (x : Int32) : CallS xs L 58 117 [.inl x] := by
  intro σ r
  obtain ⟨n, w, ⟨hn, -⟩, ⟨e1, e3⟩, ⟨e2, e4⟩⟩ := r.2.2.1
  refine w_U_unit_0 (fun h => ⟨_, rfl, ?_⟩) (fun h1 h2 => ⟨_, rfl, ?_⟩) (fun h1 h2 => ?_) (fun h1 h2 => ⟨_, rfl, ?_⟩)
  · exact w_M_unit_0 (fun _ => ⟨rfl, r⟩) (fun h' => absurd h h') (fun h' => absurd h h') (fun h' => absurd h h')
  · obtain ⟨m, hm, rfl⟩ := n_of' h1
    rw [e1, n_le (by omega) hm] at h2
    have hc : Int32.ofNat n - 1 < Int32.ofNat m := by
      rcases Nat.eq_zero_or_pos n with rfl | hp
      · rw [z_lt, n_toInt hm]
        exact Int.lt_of_lt_of_le (by decide : (Int32.ofNat 0 - 1).toInt < 0) (Int.natCast_nonneg m)
      · rw [show (1 : Int32) = Int32.ofNat 1 from rfl, n_sub hp, n_lt (by omega) hm]
        omega
    exact w_M_unit_0 (fun _ => ⟨rfl, r⟩) (fun _ _ => ⟨rfl, r⟩) (fun _ h => absurd (by rw [e2]; exact hc) h) (fun _ h => absurd (by rw [e2]; exact hc) h)
  · obtain ⟨m, hm, rfl⟩ := n_of' h1
    rw [e1, n_le (by omega) hm] at h2
    exact n_inb (by omega) (by omega)
  · obtain ⟨m, hm, rfl⟩ := n_of' h1
    rw [e1, n_le (by omega) hm] at h2
    have hc : ¬ Int32.ofNat n - 1 < Int32.ofNat m := by
      rw [show (1 : Int32) = Int32.ofNat 1 from rfl, n_sub (by omega), n_lt (by omega) hm]
      omega
    refine w_M_unit_0 (fun h => absurd h h1) (fun _ h => absurd h (by rw [e2]; exact hc)) (fun _ _ => n_inb (by omega) (by omega)) (fun _ _ => ⟨?_, r⟩)
    rw [n_cl hm]
    rw [e3 m (by omega), e4 m (by omega)]
