/-! LINES: the labels -/
def fnd (na : Nat → Int32) : Nat → Int32 → Option Nat
  | 0, _ => none
  | l + 1, x => match fnd na l x with
    | some k => some k
    | none => if na l = x then some l else none
theorem fnd_s {na : Nat → Int32} {l : Nat} {x : Int32} : fnd na (l + 1) x = match fnd na l x with | some k => some k | none => if na l = x then some l else none := rfl
theorem fnd_none {na : Nat → Int32} {x : Int32} : ∀ {l}, fnd na l x = none ↔ ∀ j, j < l → na j ≠ x
  | 0 => ⟨fun _ j hj => absurd hj (Nat.not_lt_zero j), fun _ => rfl⟩
  | l + 1 => by
    rw [fnd_s]
    cases h : fnd na l x with
    | none =>
      have ih := fnd_none.mp h
      show (if na l = x then some l else none) = none ↔ _
      by_cases hl : na l = x
      · rw [if_pos hl]
        exact ⟨fun z => (nomatch z), fun z => absurd hl (z l (Nat.lt_succ_self l))⟩
      · rw [if_neg hl]
        refine ⟨fun _ j hj => ?_, fun _ => rfl⟩
        by_cases hjl : j = l
        · rw [hjl]; exact hl
        · exact ih j (by omega)
    | some k =>
      refine ⟨fun z => (nomatch z), fun z => ?_⟩
      have := fnd_none.mpr (fun j hj => z j (Nat.lt_succ_of_lt hj))
      rw [h] at this; cases this
theorem fnd_some {na : Nat → Int32} {x : Int32} : ∀ {l k}, fnd na l x = some k → k < l ∧ na k = x ∧ ∀ j, j < k → na j ≠ x
  | 0, k, h => nomatch h
  | l + 1, k, h => by
    rw [fnd_s] at h
    cases h2 : fnd na l x with
    | none =>
      rw [h2] at h
      have h : (if na l = x then some l else none) = some k := h
      by_cases hl : na l = x
      · rw [if_pos hl] at h
        cases h
        exact ⟨Nat.lt_succ_self _, hl, fnd_none.mp h2⟩
      · rw [if_neg hl] at h; cases h
    | some k' =>
      rw [h2] at h
      cases h
      have := fnd_some h2
      exact ⟨Nat.lt_succ_of_lt this.1, this.2⟩
theorem fnd_of {na : Nat → Int32} {x : Int32} {l k : Nat} (h1 : k < l) (h2 : na k = x) (h3 : ∀ j, j < k → na j ≠ x) : fnd na l x = some k := by
  cases h : fnd na l x with
  | none => exact absurd h2 (fnd_none.mp h k h1)
  | some k' =>
    obtain ⟨a1, a2, a3⟩ := fnd_some h
    rcases Nat.lt_trichotomy k k' with z | z | z
    · exact absurd h2 (a3 k z)
    · rw [z]
    · exact absurd a2 (h3 k' z)
abbrev LbS : Type := Nat × (Nat → Int32) × (Nat → Option Nat)
def ufi (f : Nat → Int32) (a : Nat) (x : Int32) : Nat → Int32 := fun j => if j = a then x else f j
def ufo (f : Nat → Option Nat) (a : Nat) (x : Option Nat) : Nat → Option Nat := fun j => if j = a then x else f j
def lsS (x : Int32) (s : LbS) : LbS := match fnd s.2.1 s.1 x with
  | some _ => s
  | none => (s.1 + 1, ufi s.2.1 s.1 x, ufo s.2.2 s.1 none)
def lsK (x : Int32) (s : LbS) : Nat := match fnd s.2.1 s.1 x with
  | some k => k
  | none => s.1
theorem lsS_f {x : Int32} {s : LbS} {k : Nat} (h : fnd s.2.1 s.1 x = some k) : lsS x s = s ∧ lsK x s = k := by
  unfold lsS lsK; rw [h]; exact ⟨rfl, rfl⟩
theorem lsS_n {x : Int32} {s : LbS} (h : fnd s.2.1 s.1 x = none) : lsS x s = (s.1 + 1, ufi s.2.1 s.1 x, ufo s.2.2 s.1 none) ∧ lsK x s = s.1 := by
  unfold lsS lsK; rw [h]; exact ⟨rfl, rfl⟩
def cL (s : LbS) (σ : st_S) : Prop := σ.1 13 0 2 = Int32.ofNat s.1 ∧ ∀ j, j < s.1 → σ.1 14 0 j = s.2.1 j ∧ σ.1 15 0 j = tx_sv (s.2.2 j)
def mLs (s : LbS) (σ : st_S) : Prop := σ.1 26 0 15 = Int32.ofNat s.1 ∧ ∀ j, j < s.1 → σ.1 37 0 j = s.2.1 j ∧ σ.1 38 0 j = tx_sv (s.2.2 j)
def fe : Option Nat → Int32
  | none => -2
  | some k => Int32.ofNat k
theorem s_cfind {σ : st_S} {s : LbS} {x : Int32} (hl : s.1 ≤ 12) (hL : cL s σ) {Q : st_S → Option eg_V → Prop} (K : Q σ (some (.inl (fe (fnd s.2.1 s.1 x))))) : ∀ d k, k + d = s.1 → (∀ j, j < k → s.2.1 j ≠ x) →
    pw_E 17 2 σ (0, 0) [(0, .inr (13, 0)), (1, .inl x), (2, .inl (Int32.ofNat k))] [] Q := by
  intro d
  induction d with
  | zero =>
    intro k hd hj
    have : k = s.1 := by omega
    have hle : σ.1 13 0 2 ≤ Int32.ofNat k := by rw [hL.1, this]; exact Int32.le_refl _
    rw [fnd_none.mpr (fun j h => hj j (by omega))] at K
    exact w_Labels_find_2 (fun _ => K) (fun h => absurd hle h) (fun h => absurd hle h) (fun h => absurd hle h)
  | succ d ih =>
    intro k hd hj
    have hle : ¬ σ.1 13 0 2 ≤ Int32.ofNat k := by rw [hL.1, n_le (by omega) (by omega)]; omega
    have hcl : (Int32.ofNat k).toNatClampNeg = k := n_cl (by omega)
    refine w_Labels_find_2 (fun h => absurd h hle) (fun _ => n_inb (by omega) (by omega)) (fun _ h => ?_) (fun _ h => ?_)
    · rw [hcl, (hL.2 k (by omega)).1] at h
      rw [fnd_of (by omega) h hj] at K
      exact K
    · rw [hcl, (hL.2 k (by omega)).1] at h
      rw [show Int32.ofNat k + 1 = Int32.ofNat (k + 1) from n_add k 1]
      refine ih (k + 1) (by omega) (fun j h' => ?_)
      by_cases hjk : j = k
      · rw [hjk]; exact h
      · exact hj j (by omega)
theorem s_mfind {σ : st_S} {s : LbS} {x : Int32} (hl : s.1 ≤ 12) (hL : mLs s σ) {Q : st_S → Option eg_V → Prop} (K : Q σ (some (.inl (tx_sv (fnd s.2.1 s.1 x))))) : pw_E 94 0 σ (0, 0) [(0, .inr (26, 0)), (1, .inl x)] [] Q := by
  refine w_M_find_0 ?_
  have : ∀ d k, k + d = s.1 → (∀ j, j < k → s.2.1 j ≠ x) → pw_E 94 2 σ (0, 0) [(0, .inr (26, 0)), (1, .inl x), (2, .inl (Int32.ofNat k))] [] Q := by
    intro d
    induction d with
    | zero =>
      intro k hd hj
      have : k = s.1 := by omega
      have hle : σ.1 26 0 15 ≤ Int32.ofNat k := by rw [hL.1, this]; exact Int32.le_refl _
      rw [fnd_none.mpr (fun j h => hj j (by omega))] at K
      exact w_M_find_2 (fun _ => K) (fun h => absurd hle h) (fun h => absurd hle h) (fun h => absurd hle h)
    | succ d ih =>
      intro k hd hj
      have hle : ¬ σ.1 26 0 15 ≤ Int32.ofNat k := by rw [hL.1, n_le (by omega) (by omega)]; omega
      have hcl : (Int32.ofNat k).toNatClampNeg = k := n_cl (by omega)
      refine w_M_find_2 (fun h => absurd h hle) (fun _ => n_inb (by omega) (by omega)) (fun _ h => ?_) (fun _ h => ?_)
      · rw [hcl, (hL.2 k (by omega)).1] at h
        rw [fnd_of (by omega) h hj] at K
        exact K
      · rw [hcl, (hL.2 k (by omega)).1] at h
        rw [show Int32.ofNat k + 1 = Int32.ofNat (k + 1) from n_add k 1]
        refine ih (k + 1) (by omega) (fun j h' => ?_)
        by_cases hjk : j = k
        · rw [hjk]; exact h
        · exact hj j (by omega)
  exact this s.1 0 (by omega) (fun j hj => by omega)
theorem lsK_lt {x : Int32} {s : LbS} : lsK x s < (lsS x s).1 := by
  cases h : fnd s.2.1 s.1 x with
  | none => rw [(lsS_n h).1, (lsS_n h).2]; exact Nat.lt_succ_self _
  | some k => rw [(lsS_f h).1, (lsS_f h).2]; exact (fnd_some h).1
theorem s_cadd {σ : st_S} {s : LbS} {x : Int32} (hl : s.1 ≤ 12) (hL : cL s σ) {Q : st_S → Option eg_V → Prop}
    (K0 : fnd s.2.1 s.1 x = none → s.1 = 12 → Q σ (some (.inl (-3))))
    (K1 : ∀ σ', fr [(13, 2), (14, 999), (15, 999)] σ σ' → cL (lsS x s) σ' → (lsS x s).1 ≤ 12 → Q σ' (some (.inl (Int32.ofNat (lsK x s))))) :
    pw_E 16 0 σ (0, 0) [(0, .inr (13, 0)), (1, .inl x)] [] Q := by
  refine w_Labels_findOrAdd_0 (w_Labels_find_0 (s_cfind hl hL ?_ s.1 0 (by omega) (fun j hj => by omega)))
  cases h : fnd s.2.1 s.1 x with
  | none =>
    have hn := lsS_n h
    refine w_Labels_findOrAdd_5 (fun _ g => ?_) (fun _ g => ?_) (fun _ g => K0 h ?_) (fun z => absurd rfl z)
    · rw [hL.1, show (12 : Int32) = Int32.ofNat 12 from rfl, n_lt (by omega) (by omega)] at g
      rw [hL.1]; exact n_inb (by omega) (by omega)
    · rw [hL.1, show (12 : Int32) = Int32.ofNat 12 from rfl, n_lt (by omega) (by omega)] at g
      rw [hL.1, n_cl (by omega), show Int32.ofNat s.1 + 1 = Int32.ofNat (s.1 + 1) from n_add _ 1, show (1 : Int32) = Int32.ofNat 1 from rfl, n_sub (by omega), Nat.add_sub_cancel]
      have K := K1 (st_up (st_up (st_up σ 14 0 s.1 x) 15 0 s.1 (-1)) 13 0 2 (Int32.ofNat (s.1 + 1))) (fr_up (fr_up (fr_up fr_rf rfl) rfl) rfl)
      rw [hn.1, hn.2] at K
      refine K ⟨rfl, fun j hj => ?_⟩ g
      have hj' : j < s.1 + 1 := hj
      show _ = ufi s.2.1 s.1 x j ∧ _ = tx_sv (ufo s.2.2 s.1 none j)
      unfold ufi ufo
      by_cases hjs : j = s.1
      · rw [if_pos hjs, if_pos hjs, hjs]
        exact ⟨(up_k (by decide)).trans ((up_k (by decide)).trans (up_eq ..)), (up_k (by decide)).trans (up_eq ..)⟩
      · rw [if_neg hjs, if_neg hjs]
        have := hL.2 j (by omega)
        exact ⟨(up_k (by decide)).trans ((up_k (by decide)).trans ((up_j hjs).trans this.1)), (up_k (by decide)).trans ((up_j hjs).trans ((up_k (by decide)).trans this.2))⟩
    · rw [hL.1, show (12 : Int32) = Int32.ofNat 12 from rfl, n_lt (by omega) (by omega)] at g
      omega
  | some k =>
    have hf := lsS_f h
    have hk := (fnd_some h).1
    have hne : ¬ fe (some k) = -2 := fun z => by
      have := n_n0 (a := k) (by omega)
      rw [show Int32.ofNat k = -2 from z] at this
      exact this (by decide)
    refine w_Labels_findOrAdd_5 (fun z => absurd z hne) (fun z => absurd z hne) (fun z => absurd z hne) (fun _ => ?_)
    have K := K1 σ fr_rf
    rw [hf.1, hf.2] at K
    exact K hL hl
theorem s_mnamed {σ : st_S} {s : LbS} {x : Int32} (hl : s.1 ≤ 12) (hL : mLs s σ) (h12 : (lsS x s).1 ≤ 12) {Q : st_S → Option eg_V → Prop}
    (K1 : ∀ σ', fr [(26, 15), (37, 999), (38, 999)] σ σ' → mLs (lsS x s) σ' → Q σ' (some (.inl (Int32.ofNat (lsK x s))))) :
    pw_E 95 0 σ (0, 0) [(0, .inr (26, 0)), (1, .inl x)] [] Q := by
  refine w_M_named_0 (s_mfind hl hL ?_)
  cases h : fnd s.2.1 s.1 x with
  | none =>
    have hn := lsS_n h
    rw [hn.1] at h12
    have h12 : s.1 + 1 ≤ 12 := h12
    refine w_M_named_5 (fun _ => ?_) (fun _ => ?_) (fun z => absurd (by decide) z)
    · rw [hL.1]; exact n_inb (by omega) (by omega)
    · rw [hL.1, n_cl (by omega), show Int32.ofNat s.1 + 1 = Int32.ofNat (s.1 + 1) from n_add _ 1, show (1 : Int32) = Int32.ofNat 1 from rfl, n_sub (by omega), Nat.add_sub_cancel]
      have K := K1 (st_up (st_up (st_up σ 37 0 s.1 x) 38 0 s.1 (-1)) 26 0 15 (Int32.ofNat (s.1 + 1))) (fr_up (fr_up (fr_up fr_rf rfl) rfl) rfl)
      rw [hn.1, hn.2] at K
      refine K ⟨rfl, fun j hj => ?_⟩
      have hj' : j < s.1 + 1 := hj
      show _ = ufi s.2.1 s.1 x j ∧ _ = tx_sv (ufo s.2.2 s.1 none j)
      unfold ufi ufo
      by_cases hjs : j = s.1
      · rw [if_pos hjs, if_pos hjs, hjs]
        exact ⟨(up_k (by decide)).trans ((up_k (by decide)).trans (up_eq ..)), (up_k (by decide)).trans (up_eq ..)⟩
      · rw [if_neg hjs, if_neg hjs]
        have := hL.2 j (by omega)
        exact ⟨(up_k (by decide)).trans ((up_k (by decide)).trans ((up_j hjs).trans this.1)), (up_k (by decide)).trans ((up_j hjs).trans ((up_k (by decide)).trans this.2))⟩
  | some k =>
    have hf := lsS_f h
    have hk := (fnd_some h).1
    refine w_M_named_5 (fun z => absurd z (n_n0 (a := k) (by omega))) (fun z => absurd z (n_n0 (a := k) (by omega))) (fun _ => ?_)
    have K := K1 σ fr_rf
    rw [hf.1, hf.2] at K
    exact K hL
/-- names one after another -/
def lq (X : Nat → Int32) (s : LbS) : Nat → LbS
  | 0 => s
  | q + 1 => lsS (X q) (lq X s q)
abbrev lk (X : Nat → Int32) (s : LbS) (q : Nat) : Nat := lsK (X q) (lq X s q)
theorem lsS_old {x : Int32} {s : LbS} : s.1 ≤ (lsS x s).1 ∧ (lsS x s).1 ≤ s.1 + 1 ∧ ∀ j, j < s.1 → (lsS x s).2.1 j = s.2.1 j ∧ (lsS x s).2.2 j = s.2.2 j := by
  cases h : fnd s.2.1 s.1 x with
  | none =>
    rw [(lsS_n h).1]
    refine ⟨Nat.le_succ _, Nat.le_refl _, fun j hj => ?_⟩
    show ufi s.2.1 s.1 x j = _ ∧ ufo s.2.2 s.1 none j = _
    unfold ufi ufo
    rw [if_neg (by omega), if_neg (by omega)]
    exact ⟨rfl, rfl⟩
  | some k =>
    rw [(lsS_f h).1]
    exact ⟨Nat.le_refl _, Nat.le_succ _, fun j _ => ⟨rfl, rfl⟩⟩
theorem lq_mono {X : Nat → Int32} {s : LbS} {q : Nat} : ∀ d, (lq X s q).1 ≤ (lq X s (q + d)).1
  | 0 => Nat.le_refl _
  | d + 1 => Nat.le_trans (lq_mono d) lsS_old.1
theorem lq_mono' {X : Nat → Int32} {s : LbS} {q p : Nat} (h : q ≤ p) : (lq X s q).1 ≤ (lq X s p).1 := by
  have := lq_mono (X := X) (s := s) (q := q) (p - q)
  rw [show q + (p - q) = p by omega] at this
  exact this
theorem lq_old {X : Nat → Int32} {s : LbS} : ∀ q j, j < s.1 → (lq X s q).2.1 j = s.2.1 j ∧ (lq X s q).2.2 j = s.2.2 j
  | 0, _, _ => ⟨rfl, rfl⟩
  | q + 1, j, hj => by
    have ih := lq_old (X := X) q j hj
    have h := lsS_old (x := X q) (s := lq X s q)
    have hlt : j < (lq X s q).1 := Nat.lt_of_lt_of_le hj (lq_mono' (q := 0) (Nat.zero_le q))
    exact ⟨(h.2.2 j hlt).1.trans ih.1, (h.2.2 j hlt).2.trans ih.2⟩
theorem lq_new {X : Nat → Int32} {s : LbS} : ∀ q j, s.1 ≤ j → j < (lq X s q).1 → (lq X s q).2.2 j = none
  | 0, j, h1, h2 => absurd h2 (Nat.not_lt.mpr h1)
  | q + 1, j, h1, h2 => by
    have h2' : j < (lsS (X q) (lq X s q)).1 := h2
    show (lsS (X q) (lq X s q)).2.2 j = none
    cases h : fnd (lq X s q).2.1 (lq X s q).1 (X q) with
    | none =>
      rw [(lsS_n h).1] at h2' ⊢
      have h2' : j < (lq X s q).1 + 1 := h2'
      show ufo (lq X s q).2.2 (lq X s q).1 none j = none
      unfold ufo
      by_cases hj : j = (lq X s q).1
      · rw [if_pos hj]
      · rw [if_neg hj]; exact lq_new q j h1 (by omega)
    | some k =>
      rw [(lsS_f h).1] at h2' ⊢
      exact lq_new q j h1 h2'
theorem lq_mem {X : Nat → Int32} {s : LbS} {x : Int32} : ∀ q, (∃ k, k < (lq X s q).1 ∧ (lq X s q).2.1 k = x) ↔ ((∃ k, k < s.1 ∧ s.2.1 k = x) ∨ ∃ i, i < q ∧ X i = x)
  | 0 => ⟨fun h => Or.inl h, fun h => h.elim id (fun ⟨i, hi, _⟩ => absurd hi (Nat.not_lt_zero i))⟩
  | q + 1 => by
    have ih := lq_mem (X := X) (s := s) (x := x) q
    show (∃ k, k < (lsS (X q) (lq X s q)).1 ∧ (lsS (X q) (lq X s q)).2.1 k = x) ↔ _
    cases h : fnd (lq X s q).2.1 (lq X s q).1 (X q) with
    | none =>
      rw [(lsS_n h).1]
      constructor
      · rintro ⟨k, h1, h2⟩
        have h1 : k < (lq X s q).1 + 1 := h1
        have h2 : ufi (lq X s q).2.1 (lq X s q).1 (X q) k = x := h2
        unfold ufi at h2
        by_cases hk : k = (lq X s q).1
        · rw [if_pos hk] at h2
          exact Or.inr ⟨q, Nat.lt_succ_self q, h2⟩
        · rw [if_neg hk] at h2
          rcases ih.mp ⟨k, by omega, h2⟩ with z | ⟨i, z1, z2⟩
          · exact Or.inl z
          · exact Or.inr ⟨i, by omega, z2⟩
      · intro z
        have old : (∃ k, k < (lq X s q).1 ∧ (lq X s q).2.1 k = x) → ∃ k, k < (lq X s q).1 + 1 ∧ ufi (lq X s q).2.1 (lq X s q).1 (X q) k = x := fun ⟨k, h1, h2⟩ => ⟨k, by omega, by unfold ufi; rw [if_neg (by omega)]; exact h2⟩
        rcases z with z | ⟨i, z1, z2⟩
        · exact old (ih.mpr (Or.inl z))
        · by_cases hi : i = q
          · subst hi
            exact ⟨(lq X s i).1, Nat.lt_succ_self _, by show ufi _ _ _ _ = x; unfold ufi; rw [if_pos rfl]; exact z2⟩
          · exact old (ih.mpr (Or.inr ⟨i, by omega, z2⟩))
    | some k' =>
      rw [(lsS_f h).1, ih]
      obtain ⟨h1, h2, -⟩ := fnd_some h
      constructor
      · rintro (z | ⟨i, z1, z2⟩)
        · exact Or.inl z
        · exact Or.inr ⟨i, by omega, z2⟩
      · rintro (z | ⟨i, z1, z2⟩)
        · exact Or.inl z
        · by_cases hi : i = q
          · subst hi
            exact ih.mp ⟨k', h1, h2.trans z2⟩
          · exact Or.inr ⟨i, by omega, z2⟩
/-- the class adds all names of an item -/
theorem s_caddall {i M : Nat} {X : Nat → Int32} {s : LbS} (hM : M ≤ 4) (hs : s.1 ≤ 12) {Q : st_S → Option eg_V → Prop} : ∀ d q (σ : st_S), q + d = M → σ.1 9 i 4 = Int32.ofNat M → (∀ j, j < M → σ.1 11 i j = X j) → cL (lq X s q) σ → (lq X s q).1 ≤ 12 → (∀ j, j < q → σ.1 12 i j = Int32.ofNat (lk X s j)) →
    (∀ σ', fr [(13, 2), (14, 999), (15, 999), (12, 999)] σ σ' → (∀ i' j, i' ≠ i → σ'.1 12 i' j = σ.1 12 i' j) → 12 < (lq X s M).1 → cL s σ' → Q σ' (some (.inl 0))) →
    (∀ σ', fr [(13, 2), (14, 999), (15, 999), (12, 999)] σ σ' → (∀ i' j, i' ≠ i → σ'.1 12 i' j = σ.1 12 i' j) → (lq X s M).1 ≤ 12 → cL (lq X s M) σ' → (∀ j, j < M → σ'.1 12 i j = Int32.ofNat (lk X s j)) → Q σ' (some (.inl 1))) →
    pw_E 43 7 σ (0, 0) [(0, .inr (13, 0)), (1, .inr (9, i)), (2, .inl (Int32.ofNat s.1)), (3, .inl (Int32.ofNat q))] [] Q := by
  intro d
  induction d with
  | zero =>
    intro q σ hd h4 hX hL hl hk K0 K1
    have : q = M := by omega
    subst this
    have hle : σ.1 9 i 4 ≤ Int32.ofNat q := by rw [h4]; exact Int32.le_refl _
    exact w_Labels_addAllOf_7 (fun _ => K1 σ fr_rf (fun _ _ _ => rfl) hl hL hk) (fun h => absurd hle h) (fun h => absurd hle h)
  | succ d ih =>
    intro q σ hd h4 hX hL hl hk K0 K1
    have hle : ¬ σ.1 9 i 4 ≤ Int32.ofNat q := by rw [h4, n_le (by omega) (by omega)]; omega
    have hcl : (Int32.ofNat q).toNatClampNeg = q := n_cl (by omega)
    refine w_Labels_addAllOf_7 (fun h => absurd h hle) (fun _ => n_inb (by omega) (by omega)) (fun _ => ?_)
    rw [hcl, hX q (by omega)]
    refine s_cadd hl hL (fun h1 h2 => ?_) (fun σ1 f1 c1 l1 => ?_)
    · refine w_Labels_addAllOf_25 (fun _ => K0 _ (fr_up fr_rf rfl) (fun _ _ _ => rfl) ?_ ⟨up_eq .., fun j hj => ?_⟩) (fun z => absurd rfl z) (fun z => absurd rfl z)
      · have h3 : (lq X s (q + 1)).1 = 13 := by
          show (lsS (X q) (lq X s q)).1 = 13
          rw [(lsS_n h1).1, h2]
        have := lq_mono' (X := X) (s := s) (q := q + 1) (p := M) (by omega)
        omega
      · have hlt : j < (lq X s q).1 := Nat.lt_of_lt_of_le hj (lq_mono' (q := 0) (Nat.zero_le q))
        have o := lq_old (X := X) q j hj
        have := hL.2 j hlt
        exact ⟨this.1.trans o.1, this.2.trans (by rw [o.2])⟩
    · have hlt := lsK_lt (x := X q) (s := lq X s q)
      have hne : ¬ Int32.ofNat (lsK (X q) (lq X s q)) = -3 := fun z => by
        have := n_n0 (a := lsK (X q) (lq X s q)) (by omega)
        rw [z] at this
        exact this (by decide)
      refine w_Labels_addAllOf_25 (fun z => absurd z hne) (fun _ => n_inb (by omega) (by omega)) (fun _ => ?_)
      rw [hcl, show Int32.ofNat q + 1 = Int32.ofNat (q + 1) from n_add q 1]
      have F : fr [(13, 2), (14, 999), (15, 999), (12, 999)] σ (st_up σ1 12 i q (Int32.ofNat (lsK (X q) (lq X s q)))) := fr_up (fr_w _ f1 rfl) rfl
      have F12 : ∀ i' j, i' ≠ i → (st_up σ1 12 i q (Int32.ofNat (lsK (X q) (lq X s q)))).1 12 i' j = σ.1 12 i' j := fun i' j hi => (up_i hi).trans (f1.2 12 i' j rfl)
      refine ih (q + 1) _ (by omega) ((F.2 9 i 4 rfl).trans h4) (fun j hj => (F.2 11 i j rfl).trans (hX j hj)) ⟨c1.1, c1.2⟩ l1 (fun j hj => ?_) (fun σ' f g => K0 σ' (fr_tr F f) (fun i' j hi => (g i' j hi).trans (F12 i' j hi))) (fun σ' f g => K1 σ' (fr_tr F f) (fun i' j hi => (g i' j hi).trans (F12 i' j hi)))
      by_cases hjq : j = q
      · subst hjq; exact up_eq ..
      · exact (up_j hjq).trans ((f1.2 12 i j rfl).trans (hk j (by omega)))
/-- the reference counts the new names -/
theorem s_newN {M : Nat} {X : Nat → Int32} {s : LbS} {σ : st_S} (hM : M ≤ 4) (hs : s.1 ≤ 12) (h21 : σ.1 26 0 21 = Int32.ofNat M) (hX : ∀ j, j < M → σ.1 39 0 j = X j) (hL : mLs s σ) {Q : st_S → Option eg_V → Prop} (K : Q σ (some (.inl (Int32.ofNat ((lq X s M).1 - s.1))))) : ∀ d q, q + d = M →
    pw_E 105 4 σ (0, 0) [(0, .inr (26, 0)), (1, .inl (Int32.ofNat ((lq X s q).1 - s.1))), (2, .inl (Int32.ofNat q))] [] Q := by
  intro d
  induction d with
  | zero =>
    intro q hd
    have : q = M := by omega
    subst this
    have hle : σ.1 26 0 21 ≤ Int32.ofNat q := by rw [h21]; exact Int32.le_refl _
    exact w_M_newNames_4 (fun _ => K) (fun h => absurd hle h) (fun h => absurd hle h)
  | succ d ih =>
    intro q hd
    have hle : ¬ σ.1 26 0 21 ≤ Int32.ofNat q := by rw [h21, n_le (by omega) (by omega)]; omega
    have hcl : (Int32.ofNat q).toNatClampNeg = q := n_cl (by omega)
    have h0 : s.1 ≤ (lq X s q).1 := lq_mono' (q := 0) (Nat.zero_le q)
    have hbd : ∀ q, (lq X s q).1 ≤ s.1 + q := by
      intro q
      induction q with
      | zero => exact Nat.le_refl _
      | succ q ihq =>
        have := (lsS_old (x := X q) (s := lq X s q)).2.1
        show (lsS (X q) (lq X s q)).1 ≤ _
        omega
    have hb := hbd q
    have mem := lq_mem (X := X) (s := s) (x := X q) q
    have inner : ∀ d' i (b : Bool), i + d' = q → (b = true ↔ fnd s.2.1 s.1 (X q) = none ∧ ∀ j, j < i → X j ≠ X q) → pw_E 105 34 σ (0, 0) [(0, .inr (26, 0)), (1, .inl (Int32.ofNat ((lq X s q).1 - s.1))), (2, .inl (Int32.ofNat q)), (3, .inl (tx_b b)), (4, .inl (Int32.ofNat i))] [] Q := by
      intro d'
      induction d' with
      | zero =>
        intro i b hi hb'
        have : i = q := by omega
        subst this
        have ih := ih (i + 1) (by omega)
        have hle' : Int32.ofNat i ≤ Int32.ofNat i := Int32.le_refl _
        have e1 : Int32.ofNat i + 1 = Int32.ofNat (i + 1) := n_add i 1
        refine w_M_newNames_34 (fun _ z => ?_) (fun _ z => ?_) (fun h => absurd hle' h) (fun h => absurd hle' h) (fun h => absurd hle' h) (fun h => absurd hle' h)
        · rw [tx_b0] at z
          rw [e1]
          have : (lq X s (i + 1)).1 = (lq X s i).1 := by
            show (lsS (X i) (lq X s i)).1 = _
            cases h : fnd (lq X s i).2.1 (lq X s i).1 (X i) with
            | some k => rw [(lsS_f h).1]
            | none =>
              have nm := fnd_none.mp h
              have : b = true := hb'.mpr ⟨fnd_none.mpr (fun j hj hx => ?_), fun j hj hx => ?_⟩
              · rw [this] at z; cases z
              · obtain ⟨k, y1, y2⟩ := mem.mpr (Or.inl ⟨j, hj, hx⟩)
                exact nm k y1 y2
              · obtain ⟨k, y1, y2⟩ := mem.mpr (Or.inr ⟨j, hj, hx⟩)
                exact nm k y1 y2
          rw [this] at ih
          exact ih
        · rw [tx_b0, Bool.not_eq_false] at z
          obtain ⟨z1, z2⟩ := hb'.mp z
          rw [e1, show Int32.ofNat ((lq X s i).1 - s.1) + 1 = Int32.ofNat ((lq X s i).1 - s.1 + 1) from n_add _ 1]
          have : (lq X s (i + 1)).1 = (lq X s i).1 + 1 := by
            show (lsS (X i) (lq X s i)).1 = _
            cases h : fnd (lq X s i).2.1 (lq X s i).1 (X i) with
            | none => rw [(lsS_n h).1]
            | some k =>
              obtain ⟨y1, y2, -⟩ := fnd_some h
              rcases mem.mp ⟨k, y1, y2⟩ with ⟨k', w1, w2⟩ | ⟨j, w1, w2⟩
              · exact absurd w2 (fnd_none.mp z1 k' w1)
              · exact absurd w2 (z2 j w1)
          rw [this, show (lq X s i).1 + 1 - s.1 = (lq X s i).1 - s.1 + 1 by omega] at ih
          exact ih
      | succ d' ih' =>
        intro i b hi hb'
        have hle' : ¬ Int32.ofNat q ≤ Int32.ofNat i := by rw [n_le (by omega) (by omega)]; omega
        have hcli : (Int32.ofNat i).toNatClampNeg = i := n_cl (by omega)
        have e1 : Int32.ofNat i + 1 = Int32.ofNat (i + 1) := n_add i 1
        refine w_M_newNames_34 (fun h => absurd h hle') (fun h => absurd h hle') (fun _ => n_inb (by omega) (by omega)) (fun _ => n_inb (by omega) (by omega)) (fun _ z => ?_) (fun _ z => ?_)
        · rw [hcl, hcli, hX i (by omega), hX q (by omega)] at z
          rw [e1]
          exact ih' (i + 1) false (by omega) ⟨fun y => (by cases y), fun y => absurd z (y.2 i (Nat.lt_succ_self i))⟩
        · rw [hcl, hcli, hX i (by omega), hX q (by omega)] at z
          rw [e1]
          refine ih' (i + 1) b (by omega) ⟨fun y => ⟨(hb'.mp y).1, fun j hj => ?_⟩, fun y => hb'.mpr ⟨y.1, fun j hj => y.2 j (by omega)⟩⟩
          by_cases hji : j = i
          · rw [hji]; exact z
          · exact (hb'.mp y).2 j (by omega)
    refine w_M_newNames_4 (fun h => absurd h hle) (fun _ => n_inb (by omega) (by omega)) (fun _ => ?_)
    rw [hcl, hX q (by omega)]
    refine s_mfind hs hL (w_M_newNames_22 (fun z => inner q 0 false (by omega) ?_) (fun z => inner q 0 true (by omega) ?_))
    · refine ⟨fun y => (by cases y), fun y => ?_⟩
      rw [y.1] at z
      exact absurd z (by decide)
    · refine ⟨fun _ => ⟨?_, fun j hj => by omega⟩, fun _ => rfl⟩
      cases h : fnd s.2.1 s.1 (X q) with
      | none => rfl
      | some k =>
        rw [h] at z
        exact absurd (n_0le (by have := (fnd_some h).1; omega)) z
