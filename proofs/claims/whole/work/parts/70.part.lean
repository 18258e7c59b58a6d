/-! LINES: the words of a draft -/
def gp (x : Int32) : Bool := decide (x = 32 ∨ x = 44)
def ud (f : Nat → Nat) (a v : Nat) : Nat → Nat := fun j => if j = a then v else f j
def sc (r : Nat → Int32) : Nat → Nat × (Nat → Nat) × (Nat → Nat) × Bool
  | 0 => (0, fun _ => 0, fun _ => 0, false)
  | i + 1 => if gp (r i) = true then ((sc r i).1, (sc r i).2.1, (sc r i).2.2.1, false)
    else if (sc r i).2.2.2 = true then ((sc r i).1, (sc r i).2.1, ud (sc r i).2.2.1 ((sc r i).1 - 1) (i + 1), true)
    else ((sc r i).1 + 1, ud (sc r i).2.1 (sc r i).1 i, ud (sc r i).2.2.1 (sc r i).1 (i + 1), true)
abbrev sW (r : Nat → Int32) (i : Nat) : Nat := (sc r i).1
abbrev sS (r : Nat → Int32) (i j : Nat) : Nat := (sc r i).2.1 j
abbrev sT (r : Nat → Int32) (i j : Nat) : Nat := (sc r i).2.2.1 j
abbrev sB (r : Nat → Int32) (i : Nat) : Bool := (sc r i).2.2.2
theorem sc_gp {r : Nat → Int32} {i : Nat} (h : gp (r i) = true) : sc r (i + 1) = (sW r i, (sc r i).2.1, (sc r i).2.2.1, false) := by
  show (if gp (r i) = true then _ else _) = _
  rw [if_pos h]
theorem sc_in {r : Nat → Int32} {i : Nat} (h : gp (r i) = false) (hb : sB r i = true) : sc r (i + 1) = (sW r i, (sc r i).2.1, ud (sc r i).2.2.1 (sW r i - 1) (i + 1), true) := by
  show (if gp (r i) = true then _ else if (sc r i).2.2.2 = true then _ else _) = _
  rw [if_neg (by rw [h]; decide), if_pos hb]
theorem sc_new {r : Nat → Int32} {i : Nat} (h : gp (r i) = false) (hb : sB r i = false) : sc r (i + 1) = (sW r i + 1, ud (sc r i).2.1 (sW r i) i, ud (sc r i).2.2.1 (sW r i) (i + 1), true) := by
  show (if gp (r i) = true then _ else if (sc r i).2.2.2 = true then _ else _) = _
  rw [if_neg (by rw [h]; decide), if_neg (by rw [show (sc r i).2.2.2 = false from hb]; decide)]
theorem sc_ok (r : Nat → Int32) : ∀ i, 2 * sW r i ≤ i + 1 ∧ (sB r i = false → 2 * sW r i ≤ i) ∧ (sB r i = true → 1 ≤ sW r i) ∧ ∀ j, j < sW r i → sS r i j < sT r i j ∧ sT r i j ≤ i
  | 0 => ⟨Nat.zero_le _, fun _ => Nat.zero_le _, fun h => (nomatch h), fun j hj => absurd hj (Nat.not_lt_zero j)⟩
  | i + 1 => by
    obtain ⟨h1, h2, h3, h4⟩ := sc_ok r i
    cases hg : gp (r i) with
    | true =>
      show 2 * (sc r (i + 1)).1 ≤ i + 1 + 1 ∧ ((sc r (i + 1)).2.2.2 = false → 2 * (sc r (i + 1)).1 ≤ i + 1) ∧ ((sc r (i + 1)).2.2.2 = true → 1 ≤ (sc r (i + 1)).1) ∧ ∀ j, j < (sc r (i + 1)).1 → (sc r (i + 1)).2.1 j < (sc r (i + 1)).2.2.1 j ∧ (sc r (i + 1)).2.2.1 j ≤ i + 1
      rw [sc_gp hg]
      exact ⟨by show 2 * sW r i ≤ _; omega, fun _ => h1, fun h => (nomatch h), fun j hj => ⟨(h4 j hj).1, Nat.le_succ_of_le (h4 j hj).2⟩⟩
    | false =>
      cases hb : sB r i with
      | true =>
        show 2 * (sc r (i + 1)).1 ≤ i + 1 + 1 ∧ ((sc r (i + 1)).2.2.2 = false → 2 * (sc r (i + 1)).1 ≤ i + 1) ∧ ((sc r (i + 1)).2.2.2 = true → 1 ≤ (sc r (i + 1)).1) ∧ ∀ j, j < (sc r (i + 1)).1 → (sc r (i + 1)).2.1 j < (sc r (i + 1)).2.2.1 j ∧ (sc r (i + 1)).2.2.1 j ≤ i + 1
        rw [sc_in hg hb]
        refine ⟨by show 2 * sW r i ≤ _; omega, fun h => (nomatch h), fun _ => h3 hb, fun j hj => ?_⟩
        have hj' : j < sW r i := hj
        have := h4 j hj'
        show sS r i j < ud (sc r i).2.2.1 (sW r i - 1) (i + 1) j ∧ ud (sc r i).2.2.1 (sW r i - 1) (i + 1) j ≤ i + 1
        unfold ud
        split
        · exact ⟨Nat.lt_of_lt_of_le this.1 (Nat.le_succ_of_le this.2), Nat.le_refl _⟩
        · exact ⟨this.1, Nat.le_succ_of_le this.2⟩
      | false =>
        have h2 := h2 hb
        show 2 * (sc r (i + 1)).1 ≤ i + 1 + 1 ∧ ((sc r (i + 1)).2.2.2 = false → 2 * (sc r (i + 1)).1 ≤ i + 1) ∧ ((sc r (i + 1)).2.2.2 = true → 1 ≤ (sc r (i + 1)).1) ∧ ∀ j, j < (sc r (i + 1)).1 → (sc r (i + 1)).2.1 j < (sc r (i + 1)).2.2.1 j ∧ (sc r (i + 1)).2.2.1 j ≤ i + 1
        rw [sc_new hg hb]
        refine ⟨by show 2 * (sW r i + 1) ≤ _; omega, fun h => (nomatch h), fun _ => Nat.succ_le_succ (Nat.zero_le _), fun j hj => ?_⟩
        have hj' : j < sW r i + 1 := hj
        show ud (sc r i).2.1 (sW r i) i j < ud (sc r i).2.2.1 (sW r i) (i + 1) j ∧ ud (sc r i).2.2.1 (sW r i) (i + 1) j ≤ i + 1
        unfold ud
        by_cases hjw : j = sW r i
        · rw [if_pos hjw, if_pos hjw]; exact ⟨Nat.lt_succ_self i, Nat.le_refl _⟩
        · rw [if_neg hjw, if_neg hjw]
          have := h4 j (by omega)
          exact ⟨this.1, by have := this.2; show sT r i j ≤ _; omega⟩
/-- where the line ends -/
def isE (n : Nat) (r : Nat → Int32) (E : Nat) : Prop := E ≤ n ∧ (∀ j, j < E → r j ≠ 59) ∧ (E = n ∨ r E = 59)
theorem isE_un {n : Nat} {r : Nat → Int32} {E E' : Nat} (h : isE n r E) (h' : isE n r E') : E = E' := by
  obtain ⟨a1, a2, a3⟩ := h
  obtain ⟨b1, b2, b3⟩ := h'
  rcases Nat.lt_trichotomy E E' with z | z | z
  · rcases a3 with y | y
    · omega
    · exact absurd y (b2 E z)
  · exact z
  · rcases b3 with y | y
    · omega
    · exact absurd y (a2 E' z)
def wC (r : Nat → Int32) (E : Nat) (σ : st_S) : Prop := σ.1 3 0 4 = Int32.ofNat (sW r E) ∧ ∀ j, j < sW r E → σ.1 5 0 j = Int32.ofNat (sS r E j) ∧ σ.1 6 0 j = Int32.ofNat (sT r E j)
def wM (r : Nat → Int32) (E : Nat) (σ : st_S) : Prop := σ.1 26 0 4 = Int32.ofNat (sW r E) ∧ ∀ j, j < sW r E → σ.1 28 0 j = Int32.ofNat (sS r E j) ∧ σ.1 29 0 j = Int32.ofNat (sT r E j)
theorem gp_T {x : Int32} (h : x = 32 ∨ x = 44) : gp x = true := decide_eq_true h
theorem gp_F {x : Int32} (h1 : ¬ x = 32) (h2 : ¬ x = 44) : gp x = false := decide_eq_false (fun z => z.elim h1 h2)
theorem s_cpart {n : Nat} {r : Nat → Int32} (hn : n ≤ 40) {Q : st_S → Option eg_V → Prop} : ∀ d i (σ : st_S), i + d = n → σ.1 3 0 1 = Int32.ofNat n → (∀ j, j < n → σ.1 4 0 j = r j) → wC r i σ → (∀ j, j < i → r j ≠ 59) →
    (∀ σ' E, fr [(3, 4), (5, 999), (6, 999)] σ σ' → isE n r E → wC r E σ' → Q σ' none) →
    pw_E 12 9 σ (0, 0) [(0, .inr (3, 0)), (1, .inl (tx_b (sB r i))), (2, .inl (Int32.ofNat i))] [] Q := by
  intro d
  induction d with
  | zero =>
    intro i σ hd h1 h4 hw h59 K
    have : i = n := by omega
    subst this
    have hle : σ.1 3 0 1 ≤ Int32.ofNat i := by rw [h1]; exact Int32.le_refl _
    exact w_Draft_partIntoWords_9 (fun _ => K σ i fr_rf ⟨Nat.le_refl _, h59, Or.inl rfl⟩ hw) (fun h => absurd hle h) (fun h => absurd hle h) (fun h => absurd hle h) (fun h => absurd hle h) (fun h => absurd hle h) (fun h => absurd hle h) (fun h => absurd hle h) (fun h => absurd hle h) (fun h => absurd hle h)
  | succ d ih =>
    intro i σ hd h1 h4 hw h59 K
    have hle : ¬ σ.1 3 0 1 ≤ Int32.ofNat i := by rw [h1, n_le (by omega) (by omega)]; omega
    have hcl : (Int32.ofNat i).toNatClampNeg = i := n_cl (by omega)
    have e1 : Int32.ofNat i + 1 = Int32.ofNat (i + 1) := n_add i 1
    have hr := h4 i (by omega)
    obtain ⟨k1, k2, k3, k4⟩ := sc_ok r i
    have hnx : ¬ r i = 59 → ∀ j, j < i + 1 → r j ≠ 59 := fun h j hj => by
      by_cases hji : j = i
      · rw [hji]; exact h
      · exact h59 j (by omega)
    have gap : gp (r i) = true → ¬ r i = 59 → pw_E 12 9 σ (0, 0) [(0, .inr (3, 0)), (1, .inl 0), (2, .inl (Int32.ofNat i + 1))] [] Q := fun hg h9 => by
      have hs := sc_gp hg
      have hw' : wC r (i + 1) σ := by
        unfold wC sW sS sT
        rw [hs]; exact hw
      have := ih (i + 1) σ (by omega) h1 h4 hw' (hnx h9) K
      unfold sB at this
      rw [hs] at this
      rw [e1]; exact this
    refine w_Draft_partIntoWords_9 (fun h => absurd h hle) (fun _ => n_inb (by omega) (by omega)) (fun _ h => ?_) (fun _ h h' => ?_) (fun _ h _ h' => ?_) (fun _ h g g' z => ?_) (fun _ h g g' z => ?_) (fun _ h g g' z => ?_) (fun _ h g g' z => ?_) (fun _ h g g' z => ?_)
    · rw [hcl, hr] at h
      exact K σ i fr_rf ⟨by omega, h59, Or.inr h⟩ hw
    · rw [hcl, hr] at h h'
      exact gap (gp_T (Or.inl h')) h
    · rw [hcl, hr] at h h'
      exact gap (gp_T (Or.inr h')) h
    · rw [hw.1]; exact n_inb (by omega) (by omega)
    · rw [hw.1, show Int32.ofNat (sW r i) + 1 = Int32.ofNat (sW r i + 1) from n_add _ 1, show (1 : Int32) = Int32.ofNat 1 from rfl, n_sub (by omega), Nat.add_sub_cancel]
      exact n_inb (by omega) (by omega)
    · rw [hcl, hr] at h g g'
      rw [tx_b0] at z
      have hs := sc_new (gp_F g g') z
      rw [hw.1, show Int32.ofNat (sW r i) + 1 = Int32.ofNat (sW r i + 1) from n_add _ 1, show Int32.ofNat (sW r i + 1) - 1 = Int32.ofNat (sW r i) from by rw [show (1 : Int32) = Int32.ofNat 1 from rfl, n_sub (by omega), Nat.add_sub_cancel], n_cl (by omega), e1]
      have F : fr [(3, 4), (5, 999), (6, 999)] σ (st_up (st_up (st_up σ 5 0 (sW r i) (Int32.ofNat i)) 3 0 4 (Int32.ofNat (sW r i + 1))) 6 0 (sW r i) (Int32.ofNat (i + 1))) := fr_up (fr_up (fr_up fr_rf rfl) rfl) rfl
      have hw' : wC r (i + 1) (st_up (st_up (st_up σ 5 0 (sW r i) (Int32.ofNat i)) 3 0 4 (Int32.ofNat (sW r i + 1))) 6 0 (sW r i) (Int32.ofNat (i + 1))) := by
        unfold wC sW sS sT
        rw [hs]
        refine ⟨rfl, fun j hj => ?_⟩
        have hj' : j < sW r i + 1 := hj
        show _ = Int32.ofNat (ud (sc r i).2.1 (sW r i) i j) ∧ _ = Int32.ofNat (ud (sc r i).2.2.1 (sW r i) (i + 1) j)
        unfold ud
        by_cases hjw : j = sW r i
        · rw [if_pos hjw, if_pos hjw, hjw]
          exact ⟨(up_k (by decide)).trans ((up_k (by decide)).trans (up_eq ..)), up_eq ..⟩
        · rw [if_neg hjw, if_neg hjw]
          have := hw.2 j (by omega)
          exact ⟨(up_k (by decide)).trans ((up_k (by decide)).trans ((up_j hjw).trans this.1)), (up_j hjw).trans ((up_k (by decide)).trans ((up_k (by decide)).trans this.2))⟩
      have := ih (i + 1) (st_up (st_up (st_up σ 5 0 (sW r i) (Int32.ofNat i)) 3 0 4 (Int32.ofNat (sW r i + 1))) 6 0 (sW r i) (Int32.ofNat (i + 1))) (by omega) h1 h4 hw' (hnx h) (fun σ' E f => K σ' E (fr_tr F f))
      unfold sB at this
      rw [hs] at this
      exact this
    · rw [tx_b0, Bool.not_eq_false] at z
      have := k3 z
      rw [hw.1, show (1 : Int32) = Int32.ofNat 1 from rfl, n_sub (by omega)]
      exact n_inb (by omega) (by omega)
    · rw [hcl, hr] at h g g'
      rw [tx_b0, Bool.not_eq_false] at z
      have h3 := k3 z
      have hs := sc_in (gp_F g g') z
      rw [hw.1, show Int32.ofNat (sW r i) - 1 = Int32.ofNat (sW r i - 1) from by rw [show (1 : Int32) = Int32.ofNat 1 from rfl, n_sub (by omega)], n_cl (by omega), e1]
      have F : fr [(3, 4), (5, 999), (6, 999)] σ (st_up σ 6 0 (sW r i - 1) (Int32.ofNat (i + 1))) := fr_up fr_rf rfl
      have hw' : wC r (i + 1) (st_up σ 6 0 (sW r i - 1) (Int32.ofNat (i + 1))) := by
        unfold wC sW sS sT
        rw [hs]
        refine ⟨hw.1, fun j hj => ?_⟩
        have hj' : j < sW r i := hj
        show _ = Int32.ofNat ((sc r i).2.1 j) ∧ _ = Int32.ofNat (ud (sc r i).2.2.1 (sW r i - 1) (i + 1) j)
        unfold ud
        have := hw.2 j hj'
        by_cases hjw : j = sW r i - 1
        · rw [if_pos hjw]
          exact ⟨this.1, by rw [hjw]; exact up_eq ..⟩
        · rw [if_neg hjw]
          exact ⟨this.1, (up_j hjw).trans this.2⟩
      have := ih (i + 1) (st_up σ 6 0 (sW r i - 1) (Int32.ofNat (i + 1))) (by omega) h1 h4 hw' (hnx h) (fun σ' E f => K σ' E (fr_tr F f))
      unfold sB at this
      rw [hs] at this
      exact this
/-- the reference: the end -/
theorem s_mend {n : Nat} {r : Nat → Int32} (hn : n ≤ 40) {σ : st_S} (h3 : σ.1 26 0 3 = Int32.ofNat n) (h27 : ∀ j, j < n → σ.1 27 0 j = r j) {Q : st_S → Option eg_V → Prop} (K : ∀ E, isE n r E → pw_E 89 34 σ (0, 0) [(0, .inr (26, 0)), (1, .inl (Int32.ofNat E)), (2, .inl 0)] [] Q) : ∀ d i, i + d = n → (∀ j, j < i → r j ≠ 59) →
    pw_E 89 7 σ (0, 0) [(0, .inr (26, 0)), (1, .inl (Int32.ofNat i))] [] Q := by
  intro d
  induction d with
  | zero =>
    intro i hd h59
    have : i = n := by omega
    subst this
    have hle : σ.1 26 0 3 ≤ Int32.ofNat i := by rw [h3]; exact Int32.le_refl _
    exact w_M_part_7 (fun _ => K i ⟨Nat.le_refl _, h59, Or.inl rfl⟩) (fun h => absurd hle h) (fun h => absurd hle h) (fun h => absurd hle h)
  | succ d ih =>
    intro i hd h59
    have hle : ¬ σ.1 26 0 3 ≤ Int32.ofNat i := by rw [h3, n_le (by omega) (by omega)]; omega
    have hcl : (Int32.ofNat i).toNatClampNeg = i := n_cl (by omega)
    refine w_M_part_7 (fun h => absurd h hle) (fun _ => n_inb (by omega) (by omega)) (fun _ h => ?_) (fun _ h => ?_)
    · rw [hcl, h27 i (by omega)] at h
      exact K i ⟨by omega, h59, Or.inr h⟩
    · rw [hcl, h27 i (by omega)] at h
      rw [show Int32.ofNat i + 1 = Int32.ofNat (i + 1) from n_add i 1]
      refine ih (i + 1) (by omega) (fun j hj => ?_)
      by_cases hji : j = i
      · rw [hji]; exact h
      · exact h59 j (by omega)
/-- the reference: words. q = true: inside a word that began at k0 -/
theorem s_mpart {n E : Nat} {r : Nat → Int32} (hn : n ≤ 40) (hE : E ≤ n) {Q : st_S → Option eg_V → Prop} : ∀ d,
    (∀ k (σ : st_S), k + d = E → (∀ j, j < n → σ.1 27 0 j = r j) → wM r k σ → (sB r k = true → k = E ∨ gp (r k) = true) →
      (∀ σ', fr [(26, 4), (28, 999), (29, 999)] σ σ' → wM r E σ' → Q σ' none) →
      pw_E 89 34 σ (0, 0) [(0, .inr (26, 0)), (1, .inl (Int32.ofNat E)), (2, .inl (Int32.ofNat k))] [] Q) ∧
    (∀ k k0 (σ : st_S), k + d = E → k0 < k → (∀ j, j < n → σ.1 27 0 j = r j) → wM r k0 σ → sB r k0 = false → sc r k = (sW r k0 + 1, ud (sc r k0).2.1 (sW r k0) k0, ud (sc r k0).2.2.1 (sW r k0) k, true) → σ.1 28 0 (sW r k0) = Int32.ofNat k0 →
      (∀ σ', fr [(26, 4), (28, 999), (29, 999)] σ σ' → wM r E σ' → Q σ' none) →
      pw_E 89 77 σ (0, 0) [(0, .inr (26, 0)), (1, .inl (Int32.ofNat E)), (2, .inl (Int32.ofNat k))] [] Q) := by
  intro d
  induction d with
  | zero =>
    have A : ∀ k (σ : st_S), k + 0 = E → wM r k σ → (∀ σ', fr [(26, 4), (28, 999), (29, 999)] σ σ' → wM r E σ' → Q σ' none) → pw_E 89 34 σ (0, 0) [(0, .inr (26, 0)), (1, .inl (Int32.ofNat E)), (2, .inl (Int32.ofNat k))] [] Q := by
      intro k σ hd hw K
      have : k = E := by omega
      subst this
      have hle : Int32.ofNat k ≤ Int32.ofNat k := Int32.le_refl _
      exact w_M_part_34 (fun _ => K σ fr_rf hw) (fun h => absurd hle h) (fun h => absurd hle h) (fun h => absurd hle h) (fun h => absurd hle h) (fun h => absurd hle h)
    refine ⟨fun k σ hd _ hw _ K => A k σ hd hw K, fun k k0 σ hd hk0 h27 hw hb hs h28 K => ?_⟩
    have hle : Int32.ofNat E ≤ Int32.ofNat k := by rw [n_le (by omega) (by omega)]; omega
    obtain ⟨k1, k2, k3, k4⟩ := sc_ok r k0
    refine w_M_part_77 (fun _ => ?_) (fun _ => ?_) (fun h => absurd hle h) (fun h => absurd hle h) (fun h => absurd hle h) (fun h => absurd hle h) (fun h => absurd hle h) (fun h => absurd hle h)
    · rw [hw.1]; exact n_inb (by omega) (by omega)
    · rw [hw.1, n_cl (by omega), show Int32.ofNat (sW r k0) + 1 = Int32.ofNat (sW r k0 + 1) from n_add _ 1]
      have F : fr [(26, 4), (28, 999), (29, 999)] σ (st_up (st_up σ 29 0 (sW r k0) (Int32.ofNat k)) 26 0 4 (Int32.ofNat (sW r k0 + 1))) := fr_up (fr_up fr_rf rfl) rfl
      refine A k _ hd ?_ (fun σ' f => K σ' (fr_tr F f))
      unfold wM sW sS sT
      rw [hs]
      refine ⟨rfl, fun j hj => ?_⟩
      have hj' : j < sW r k0 + 1 := hj
      show _ = Int32.ofNat (ud (sc r k0).2.1 (sW r k0) k0 j) ∧ _ = Int32.ofNat (ud (sc r k0).2.2.1 (sW r k0) k j)
      unfold ud
      by_cases hjw : j = sW r k0
      · rw [if_pos hjw, if_pos hjw, hjw]
        exact ⟨(up_k (by decide)).trans ((up_k (by decide)).trans h28), (up_k (by decide)).trans (up_eq ..)⟩
      · rw [if_neg hjw, if_neg hjw]
        have := hw.2 j (by omega)
        exact ⟨(up_k (by decide)).trans ((up_k (by decide)).trans this.1), (up_k (by decide)).trans ((up_j hjw).trans this.2)⟩
  | succ d ih =>
    obtain ⟨ih1, ih2⟩ := ih
    have A : ∀ k (σ : st_S), k + (d + 1) = E → (∀ j, j < n → σ.1 27 0 j = r j) → wM r k σ → (sB r k = true → k = E ∨ gp (r k) = true) → (∀ σ', fr [(26, 4), (28, 999), (29, 999)] σ σ' → wM r E σ' → Q σ' none) → pw_E 89 34 σ (0, 0) [(0, .inr (26, 0)), (1, .inl (Int32.ofNat E)), (2, .inl (Int32.ofNat k))] [] Q := by
      intro k σ hd h27 hw hbe K
      have hle : ¬ Int32.ofNat E ≤ Int32.ofNat k := by rw [n_le (by omega) (by omega)]; omega
      have hcl : (Int32.ofNat k).toNatClampNeg = k := n_cl (by omega)
      have e1 : Int32.ofNat k + 1 = Int32.ofNat (k + 1) := n_add k 1
      have hr := h27 k (by omega)
      obtain ⟨k1, k2, k3, k4⟩ := sc_ok r k
      have gap : gp (r k) = true → pw_E 89 34 σ (0, 0) [(0, .inr (26, 0)), (1, .inl (Int32.ofNat E)), (2, .inl (Int32.ofNat k + 1))] [] Q := fun hg => by
        have hs := sc_gp hg
        rw [e1]
        refine ih1 (k + 1) σ (by omega) h27 ?_ (fun z => ?_) K
        · unfold wM sW sS sT
          rw [hs]; exact hw
        · unfold sB at z
          rw [hs] at z; cases z
      refine w_M_part_34 (fun h => absurd h hle) (fun _ => n_inb (by omega) (by omega)) (fun _ h => ?_) (fun _ _ h => ?_) (fun _ _ _ => ?_) (fun _ h h' => ?_)
      · rw [hcl, hr] at h
        exact gap (gp_T (Or.inl h))
      · rw [hcl, hr] at h
        exact gap (gp_T (Or.inr h))
      · rw [hw.1]; exact n_inb (by omega) (by omega)
      · rw [hcl, hr] at h h'
        rw [hw.1, n_cl (by omega)]
        have hg := gp_F h h'
        have hb : sB r k = false := by
          cases hb : sB r k with
          | false => rfl
          | true =>
            rcases hbe hb with z | z
            · omega
            · rw [hg] at z; cases z
        have F : fr [(26, 4), (28, 999), (29, 999)] σ (st_up σ 28 0 (sW r k) (Int32.ofNat k)) := fr_up fr_rf rfl
        have hle' : ¬ Int32.ofNat E ≤ Int32.ofNat k := hle
        have hw1 : wM r k (st_up σ 28 0 (sW r k) (Int32.ofNat k)) := ⟨hw.1, fun j hj => ⟨(up_j (by omega)).trans (hw.2 j hj).1, (hw.2 j hj).2⟩⟩
        have b1 : eg_inb (Int32.ofNat k) 40 = true := n_inb (by omega) (by omega)
        refine w_M_part_77 (fun z => absurd z hle') (fun z => absurd z hle') (fun _ => b1) (fun _ z => ?_) (fun _ z => ?_) (fun _ _ z => ?_) (fun _ _ z => ?_) (fun _ _ _ => ?_)
        · exact absurd (show r k = 32 from by rw [← hr]; rw [hcl] at z; exact z) h
        · exact absurd (show r k = 32 from by rw [← hr]; rw [hcl] at z; exact z) h
        · exact absurd (show r k = 44 from by rw [← hr]; rw [hcl] at z; exact z) h'
        · exact absurd (show r k = 44 from by rw [← hr]; rw [hcl] at z; exact z) h'
        · rw [e1]
          exact ih2 (k + 1) k _ (by omega) (Nat.lt_succ_self k) h27 hw1 hb (sc_new hg hb) (up_eq ..) (fun σ' f => K σ' (fr_tr F f))
    refine ⟨A, fun k k0 σ hd hk0 h27 hw hb hs h28 K => ?_⟩
    have hle : ¬ Int32.ofNat E ≤ Int32.ofNat k := by rw [n_le (by omega) (by omega)]; omega
    have hcl : (Int32.ofNat k).toNatClampNeg = k := n_cl (by omega)
    have e1 : Int32.ofNat k + 1 = Int32.ofNat (k + 1) := n_add k 1
    have hr := h27 k (by omega)
    obtain ⟨k1, k2, k3, k4⟩ := sc_ok r k0
    have inb : eg_inb (σ.1 26 0 4) 24 = true := by rw [hw.1]; exact n_inb (by omega) (by omega)
    have close : gp (r k) = true → pw_E 89 34 (st_up (st_up σ 29 0 (σ.1 26 0 4).toNatClampNeg (Int32.ofNat k)) 26 0 4 ((σ.1 26 0 4) + 1)) (0, 0) [(0, .inr (26, 0)), (1, .inl (Int32.ofNat E)), (2, .inl (Int32.ofNat k))] [] Q := fun hg => by
      rw [hw.1, n_cl (by omega), show Int32.ofNat (sW r k0) + 1 = Int32.ofNat (sW r k0 + 1) from n_add _ 1]
      have F : fr [(26, 4), (28, 999), (29, 999)] σ (st_up (st_up σ 29 0 (sW r k0) (Int32.ofNat k)) 26 0 4 (Int32.ofNat (sW r k0 + 1))) := fr_up (fr_up fr_rf rfl) rfl
      refine A k _ hd h27 ?_ (fun _ => Or.inr hg) (fun σ' f => K σ' (fr_tr F f))
      unfold wM sW sS sT
      rw [hs]
      refine ⟨rfl, fun j hj => ?_⟩
      have hj' : j < sW r k0 + 1 := hj
      show _ = Int32.ofNat (ud (sc r k0).2.1 (sW r k0) k0 j) ∧ _ = Int32.ofNat (ud (sc r k0).2.2.1 (sW r k0) k j)
      unfold ud
      by_cases hjw : j = sW r k0
      · rw [if_pos hjw, if_pos hjw, hjw]
        exact ⟨(up_k (by decide)).trans ((up_k (by decide)).trans h28), (up_k (by decide)).trans (up_eq ..)⟩
      · rw [if_neg hjw, if_neg hjw]
        have := hw.2 j (by omega)
        exact ⟨(up_k (by decide)).trans ((up_k (by decide)).trans this.1), (up_k (by decide)).trans ((up_j hjw).trans this.2)⟩
    refine w_M_part_77 (fun z => absurd z hle) (fun z => absurd z hle) (fun _ => n_inb (by omega) (by omega)) (fun _ _ => inb) (fun _ z => ?_) (fun _ _ _ => inb) (fun _ _ z => ?_) (fun _ z z' => ?_)
    · rw [hcl, hr] at z
      exact close (gp_T (Or.inl z))
    · rw [hcl, hr] at z
      exact close (gp_T (Or.inr z))
    · rw [hcl, hr] at z z'
      rw [e1]
      have hb1 : sB r k = true := by unfold sB; rw [hs]
      have hs' := sc_in (gp_F z z') hb1
      refine ih2 (k + 1) k0 σ (by omega) (by omega) h27 hw hb ?_ h28 K
      rw [hs']
      unfold sW
      rw [hs]
      show (sW r k0 + 1, _, ud (ud (sc r k0).2.2.1 (sW r k0) k) (sW r k0 + 1 - 1) (k + 1), true) = _
      congr 1
      congr 1
      congr 1
      funext j
      unfold ud
      rw [Nat.add_sub_cancel]
      by_cases hj : j = sW r k0
      · rw [if_pos hj, if_pos hj]
      · rw [if_neg hj, if_neg hj, if_neg hj]
