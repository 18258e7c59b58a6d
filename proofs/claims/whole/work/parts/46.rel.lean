/-! LAYOUT: sizes, addresses, which jumps are long; as numbers, of neither program -/
section LAY
variable (c : Nat) (s0 : Nat → Nat) (jp cs : Nat → Bool) (tg : Nat → Option Nat)
def ly_sz (lg : Nat → Bool) (i : Nat) : Nat := if (jp i && lg i) = true then 2 else s0 i
def ly_pad (a i : Nat) : Nat := if cs i = true ∧ a % 2 = 1 then a + 1 else a
def ly_at (lg : Nat → Bool) : Nat → Nat
  | 0 => 0
  | i + 1 => ly_pad cs (ly_at lg i) i + ly_sz s0 jp lg i
def ly_ad (lg : Nat → Bool) (i : Nat) : Nat := ly_pad cs (ly_at s0 jp cs lg i) i
def ly_mean (lg : Nat → Bool) : Option Nat → Nat
  | none => 0
  | some b => if b < c then ly_ad s0 jp cs lg b else ly_at s0 jp cs lg c
def ly_d (lg : Nat → Bool) (i : Nat) : Int := (ly_mean c s0 jp cs lg (tg i) : Int) - (ly_ad s0 jp cs lg i : Int)
def ly_reach (lg : Nat → Bool) (i : Nat) : Bool := decide (ly_d c s0 jp cs tg lg i ≠ 0 ∧ -128 ≤ ly_d c s0 jp cs tg lg i ∧ ly_d c s0 jp cs tg lg i ≤ 127)
def ly_nx (lg : Nat → Bool) (i : Nat) : Bool := decide (i < c) && (lg i || (jp i && !(ly_reach c s0 jp cs tg lg i)))
def ly_LG : Nat → Nat → Bool
  | 0 => fun _ => false
  | k + 1 => ly_nx c s0 jp cs tg (ly_LG k)
/-- nothing more to lengthen -/
def ly_st (lg : Nat → Bool) : Prop := ∀ i, i < c → ly_nx c s0 jp cs tg lg i = lg i
def ly_cnt (lg : Nat → Bool) : Nat → Nat
  | 0 => 0
  | i + 1 => ly_cnt lg i + (if lg i = true then 1 else 0)
def ly_fix (lg : Nat → Bool) : Prop := ∃ k, k ≤ c ∧ lg = ly_LG c s0 jp cs tg k ∧ ly_st c s0 jp cs tg lg ∧ ∀ j, j < k → ¬ ly_st c s0 jp cs tg (ly_LG c s0 jp cs tg j)
theorem ly_fix_un {lg lg' : Nat → Bool} (h : ly_fix c s0 jp cs tg lg) (h' : ly_fix c s0 jp cs tg lg') : lg = lg' := by
  obtain ⟨k, -, rfl, h2, h3⟩ := h
  obtain ⟨k', -, rfl, h2', h3'⟩ := h'
  rcases Nat.lt_trichotomy k k' with z | z | z
  · exact absurd h2 (h3' k z)
  · rw [z]
  · exact absurd h2' (h3 k' z)
theorem ly_cnt_le {lg lg' : Nat → Bool} : ∀ n, (∀ i, i < n → lg i = true → lg' i = true) → ly_cnt lg n ≤ ly_cnt lg' n
  | 0, _ => Nat.le_refl _
  | n + 1, h => by
    have ih := ly_cnt_le n (fun i hi => h i (by omega))
    have := h n (by omega)
    simp only [ly_cnt]
    by_cases h1 : lg n = true
    · rw [if_pos h1, if_pos (this h1)]; omega
    · rw [if_neg h1]; omega
theorem ly_cnt_lt {lg lg' : Nat → Bool} : ∀ n, (∀ i, i < n → lg i = true → lg' i = true) → (∃ i, i < n ∧ lg i = false ∧ lg' i = true) → ly_cnt lg n < ly_cnt lg' n
  | 0, _, ⟨i, h, _⟩ => absurd h (Nat.not_lt_zero _)
  | n + 1, h, ⟨i, hi, h1, h2⟩ => by
    have hle := ly_cnt_le n (fun i hi => h i (by omega))
    simp only [ly_cnt]
    by_cases hn : i = n
    · subst hn
      rw [if_neg (by rw [h1]; decide), if_pos h2]; omega
    · have ih := ly_cnt_lt n (fun i hi => h i (by omega)) ⟨i, by omega, h1, h2⟩
      have := h n (by omega)
      by_cases h3 : lg n = true
      · rw [if_pos h3, if_pos (this h3)]; omega
      · rw [if_neg h3]; omega
theorem ly_cnt_n {lg : Nat → Bool} : ∀ n, ly_cnt lg n ≤ n
  | 0 => Nat.le_refl _
  | n + 1 => by
    have := ly_cnt_n (lg := lg) n
    simp only [ly_cnt]
    split <;> omega
theorem ly_up {lg : Nat → Bool} {i : Nat} (hi : i < c) (h : lg i = true) : ly_nx c s0 jp cs tg lg i = true := by
  unfold ly_nx
  rw [h, decide_eq_true hi]
  rfl
/-- a round that changes something makes one more jump long -/
theorem ly_grow {lg : Nat → Bool} (h : ¬ ly_st c s0 jp cs tg lg) : ly_cnt lg c < ly_cnt (ly_nx c s0 jp cs tg lg) c := by
  refine ly_cnt_lt c (fun i hi h => ly_up c s0 jp cs tg hi h) ?_
  have h' : ∃ i, ¬ (i < c → ly_nx c s0 jp cs tg lg i = lg i) := Classical.not_forall.mp h
  obtain ⟨i, hi⟩ := h'
  have hic : i < c := Classical.byContradiction fun z => hi (fun y => absurd y z)
  have hne : ¬ ly_nx c s0 jp cs tg lg i = lg i := fun z => hi (fun _ => z)
  refine ⟨i, hic, ?_, ?_⟩
  · cases hl : lg i with
    | false => rfl
    | true => exact absurd (ly_up c s0 jp cs tg hic hl) (by rw [hl] at hne; exact hne)
  · cases hl : lg i with
    | true => exact ly_up c s0 jp cs tg hic hl
    | false =>
      rw [hl] at hne
      cases hx : ly_nx c s0 jp cs tg lg i with
      | true => rfl
      | false => exact absurd hx hne
theorem ly_many : ∀ k, (∀ j, j < k → ¬ ly_st c s0 jp cs tg (ly_LG c s0 jp cs tg j)) → k ≤ ly_cnt (ly_LG c s0 jp cs tg k) c
  | 0, _ => Nat.zero_le _
  | k + 1, h => by
    have ih := ly_many k (fun j hj => h j (by omega))
    have := ly_grow c s0 jp cs tg (h k (by omega))
    show k + 1 ≤ ly_cnt (ly_nx c s0 jp cs tg (ly_LG c s0 jp cs tg k)) c
    omega
theorem ly_few {k : Nat} (h : ∀ j, j < k → ¬ ly_st c s0 jp cs tg (ly_LG c s0 jp cs tg j)) : k ≤ c := Nat.le_trans (ly_many c s0 jp cs tg k h) (ly_cnt_n c)
theorem ly_ex : ∃ lg, ly_fix c s0 jp cs tg lg := by
  have : ∃ k, ly_st c s0 jp cs tg (ly_LG c s0 jp cs tg k) := Classical.byContradiction fun z => by
    have h : ∀ j, ¬ ly_st c s0 jp cs tg (ly_LG c s0 jp cs tg j) := fun j y => z ⟨j, y⟩
    have := ly_few c s0 jp cs tg (k := c + 1) (fun j _ => h j)
    omega
  obtain ⟨k, hk⟩ := this
  have : ∀ k, ly_st c s0 jp cs tg (ly_LG c s0 jp cs tg k) → ∃ k, ly_st c s0 jp cs tg (ly_LG c s0 jp cs tg k) ∧ ∀ j, j < k → ¬ ly_st c s0 jp cs tg (ly_LG c s0 jp cs tg j) := by
    intro k
    induction k using Nat.strongRecOn with
    | ind k ih =>
      intro hk
      by_cases h : ∃ j, j < k ∧ ly_st c s0 jp cs tg (ly_LG c s0 jp cs tg j)
      · obtain ⟨j, hj, h⟩ := h
        exact ih j hj h
      · exact ⟨k, hk, fun j hj y => h ⟨j, hj, y⟩⟩
  obtain ⟨k, h1, h2⟩ := this k hk
  exact ⟨_, k, ly_few c s0 jp cs tg h2, rfl, h1, h2⟩
/-- layouts that agree where it matters agree -/
theorem ly_at_le {lg : Nat → Bool} (hs : ∀ i, i < c → s0 i ≤ 7) : ∀ n, n ≤ c → ly_at s0 jp cs lg n ≤ 8 * n
  | 0, _ => Nat.le_refl _
  | n + 1, h => by
    have ih := ly_at_le (lg := lg) hs n (by omega)
    have := hs n (by omega)
    simp only [ly_at, ly_pad, ly_sz]
    split <;> split <;> omega
end LAY
/-! THE TEXT: what both programs hold, as data -/
def ku (e : Nat) : Nat := ([1, 1, 1, 1, 2, 2, 2, 2, 2, 1, 2, 2, 2, 2, 2, 3] : List Nat).getD e 0
/-- registers, labels of a kind (labels of cases: 1 to 4) -/
def kr (e : Nat) : Nat := ([0, 2, 1, 1, 1, 3, 3, 3, 2, 0, 0, 2, 2, 1, 1, 0] : List Nat).getD e 0
def kl (e : Nat) : Nat := ([0, 0, 0, 0, 0, 0, 0, 0, 0, 1, 1, 1, 1, 1, 1, 1] : List Nat).getD e 0
def kn (e : Nat) : Bool := ([false, false, false, true, true, false, false, false, true, false, false, false, false, false, false, true] : List Bool).getD e false
def tx_s0 (e : Nat → Nat) (n : Nat → Int32) (m : Nat → Nat) (i : Nat) : Nat := if e i = 15 then 3 + m i else if e i = 3 then (if -8 ≤ n i ∧ n i ≤ 7 then 1 else 2) else ku (e i)
def tx_jp (e : Nat → Nat) (i : Nat) : Bool := Nat.beq (e i) 9
def tx_cs (e : Nat → Nat) (i : Nat) : Bool := Nat.beq (e i) 15
def tx_tg (lb : Nat → Nat → Nat) (sb : Nat → Option Nat) (i : Nat) : Option Nat := sb (lb i 0)
def tx_sv : Option Nat → Int32
  | none => -1
  | some b => Int32.ofNat b
def tx_b (b : Bool) : Int32 := if b = true then 1 else 0
/-- an item of kind e is well made -/
def tx_ok (l e : Nat) (rg : Nat → Nat) (n : Int32) (m : Nat) (lb : Nat → Nat) : Prop := e < 16 ∧ e ≠ 4 ∧ e ≠ 10 ∧ (∀ r, r < 3 → rg r < 16) ∧ (∀ r, kr e ≤ r → rg r = 0) ∧ (-32768 ≤ n.toInt ∧ n.toInt ≤ 32767) ∧ (e = 8 → -128 ≤ n.toInt ∧ n.toInt ≤ 127) ∧ (kn e = false → n = 0) ∧ (e ≠ 15 → m = kl e) ∧ (e = 15 → 1 ≤ m ∧ m ≤ 4) ∧ ∀ k, k < m → lb k < l
def tx_V (c l : Nat) (e : Nat → Nat) (rg : Nat → Nat → Nat) (n : Nat → Int32) (m : Nat → Nat) (lb : Nat → Nat → Nat) (sb : Nat → Option Nat) : Prop := c ≤ 40 ∧ l ≤ 12 ∧ (∀ i, i < c → tx_ok l (e i) (rg i) (n i) (m i) (lb i)) ∧ ∀ j b, j < l → sb j = some b → b ≤ c
/-- the class's cells -/
def tx_C (c l : Nat) (e : Nat → Nat) (rg : Nat → Nat → Nat) (n : Nat → Int32) (m : Nat → Nat) (lb : Nat → Nat → Nat) (na : Nat → Int32) (sb : Nat → Option Nat) (σ : st_S) : Prop :=
  σ.1 7 0 1 = Int32.ofNat c ∧ σ.1 13 0 2 = Int32.ofNat l ∧ (∀ j, j < l → σ.1 14 0 j = na j ∧ σ.1 15 0 j = tx_sv (sb j)) ∧
  ∀ i, i < c → σ.1 9 i 0 = Int32.ofNat (e i) ∧ (∀ r, r < 3 → σ.1 10 i r = Int32.ofNat (rg i r)) ∧ σ.1 9 i 3 = n i ∧ σ.1 9 i 4 = Int32.ofNat (m i) ∧ ∀ k, k < m i → σ.1 12 i k = Int32.ofNat (lb i k)
/-- the reference's cells -/
def tx_M (c l : Nat) (e : Nat → Nat) (rg : Nat → Nat → Nat) (n : Nat → Int32) (m : Nat → Nat) (lb : Nat → Nat → Nat) (na : Nat → Int32) (sb : Nat → Option Nat) (σ : st_S) : Prop :=
  σ.1 26 0 12 = Int32.ofNat c ∧ σ.1 26 0 15 = Int32.ofNat l ∧ (∀ j, j < l → σ.1 37 0 j = na j ∧ σ.1 38 0 j = tx_sv (sb j)) ∧
  ∀ i, i < c → σ.1 30 0 i = kd_op (e i) ∧ σ.1 31 0 i = Int32.ofNat (rg i 0) ∧ σ.1 32 0 i = Int32.ofNat (rg i 1) ∧ σ.1 33 0 i = Int32.ofNat (rg i 2) ∧ σ.1 34 0 i = n i ∧ σ.1 35 0 i = Int32.ofNat (m i) ∧ ∀ k, k < m i → σ.1 36 0 (4 * i + k) = Int32.ofNat (lb i k)
/-- the class's layout stands at all times -/
def tx_lgv (e : Nat → Nat) (n : Nat → Int32) (lg : Nat → Bool) (i : Nat) : Int32 := if e i = 9 then tx_b (lg i) else if e i = 3 then (if -8 ≤ n i ∧ n i ≤ 7 then 0 else 1) else 0
def tx_L (c : Nat) (e : Nat → Nat) (n : Nat → Int32) (m : Nat → Nat) (lb : Nat → Nat → Nat) (sb : Nat → Option Nat) (σ : st_S) : Prop :=
  ∃ lg, ly_fix c (tx_s0 e n m) (tx_jp e) (tx_cs e) (tx_tg lb sb) lg ∧ (∀ i, i < c → σ.1 9 i 1 = tx_lgv e n lg i ∧ σ.1 9 i 7 = Int32.ofNat (ly_ad (tx_s0 e n m) (tx_jp e) (tx_cs e) lg i)) ∧ σ.1 7 0 3 = Int32.ofNat (ly_at (tx_s0 e n m) (tx_jp e) (tx_cs e) lg c) ∧ σ.1 7 0 4 = Int32.ofNat (ly_cnt lg c)
def R_T (σ : st_S) : Prop := ∃ c l e rg n m lb na sb, tx_V c l e rg n m lb sb ∧ tx_C c l e rg n m lb na sb σ ∧ tx_M c l e rg n m lb na sb σ ∧ tx_L c e n m lb sb σ
/-! DRAFT, CODE, MACHINE, READINGS, BUILDER, SCRIPT -/
def R_D (σ : st_S) : Prop := ∃ n, n ≤ 40 ∧ σ.1 3 0 1 = Int32.ofNat n ∧ σ.1 26 0 3 = Int32.ofNat n ∧ ∀ j, j < n → σ.1 4 0 j = σ.1 27 0 j
def cc_C (n : Nat) (w : Nat → Nat) (σ : st_S) : Prop := σ.1 16 0 1 = Int32.ofNat n ∧ ∀ j, j < n → σ.1 17 0 j = Int32.ofNat (w j)
def cc_M (n : Nat) (w : Nat → Nat) (σ : st_S) : Prop := σ.1 26 0 27 = Int32.ofNat n ∧ ∀ j, j < n → σ.1 42 0 j = Int32.ofNat (w j)
def cc_V (n : Nat) (w : Nat → Nat) : Prop := n ≤ 200 ∧ ∀ j, j < n → w j < 65536
def R_C (σ : st_S) : Prop := ∃ n w, cc_V n w ∧ cc_C n w σ ∧ cc_M n w σ
def R_M (σ : st_S) : Prop := σ.1 22 0 1 = σ.1 26 0 41 ∧ σ.1 22 0 2 = σ.1 26 0 42 ∧ σ.1 22 0 3 = σ.1 26 0 43 ∧ σ.1 22 0 4 = σ.1 26 0 44 ∧ ∀ j, j < 16 → σ.1 23 0 j = σ.1 46 0 j
def R_R (σ : st_S) : Prop := ∀ i j, i < 2 → j < 3 → ∃ r, r < 16 ∧ σ.1 20 i j = Int32.ofNat r
def R_B (σ : st_S) : Prop := σ.1 24 0 1 = 0 ∧ σ.2.2.2.1 < σ.2.1 ∧ (∃ n, n ≤ σ.2.2.1 σ.2.2.2.1 ∧ σ.1 24 0 3 = Int32.ofNat n) ∧ 16 ≤ σ.2.2.1 σ.2.2.2.1 ∧ σ.2.2.1 σ.2.2.2.1 ≤ 200 ∧ ∀ i j, (σ.1 25 i j).toInt8.toInt32 = σ.1 25 i j
def R_X (xs : Nat → Int32) (L : Nat) (σ : st_S) : Prop := σ.2.2.2.2 = L ∧ ∀ j, σ.1 57 0 j = xs j
def RR (xs : Nat → Int32) (L : Nat) (σ : st_S) : Prop := R_D σ ∧ R_T σ ∧ R_C σ ∧ R_M σ ∧ R_R σ ∧ R_B σ ∧ R_X xs L σ
abbrev fp_D : List (Nat × Nat) := [(3, 1), (26, 3), (4, 999), (27, 999)]
abbrev fp_TC : List (Nat × Nat) := [(7, 1), (13, 2), (14, 999), (15, 999), (9, 0), (10, 999), (9, 3), (9, 4), (12, 999)]
abbrev fp_TM : List (Nat × Nat) := [(26, 12), (26, 15), (37, 999), (38, 999), (30, 999), (31, 999), (32, 999), (33, 999), (34, 999), (35, 999), (36, 999)]
abbrev fp_TL : List (Nat × Nat) := [(9, 1), (9, 7), (7, 3), (7, 4)]
abbrev fp_C : List (Nat × Nat) := [(16, 1), (26, 27), (17, 999), (42, 999)]
abbrev fp_M : List (Nat × Nat) := [(22, 999), (26, 41), (26, 42), (26, 43), (26, 44), (23, 999), (46, 999)]
abbrev fp_R : List (Nat × Nat) := [(20, 999)]
abbrev fp_B : List (Nat × Nat) := [(24, 999), (25, 999)]
abbrev fp_X : List (Nat × Nat) := [(57, 999)]
variable {σ σ' : st_S}
theorem R_D.ag (h : ag fp_D σ σ') (r : R_D σ) : R_D σ' := by
  obtain ⟨n, h1, h2, h3, h4⟩ := r
  exact ⟨n, h1, (h 3 0 1 rfl).trans h2, (h 26 0 3 rfl).trans h3, fun j hj => by rw [h 4 0 j rfl, h 27 0 j rfl]; exact h4 j hj⟩
theorem cc_C.ag {n : Nat} {w : Nat → Nat} (h : ag [(16, 1), (17, 999)] σ σ') (r : cc_C n w σ) : cc_C n w σ' := ⟨(h 16 0 1 rfl).trans r.1, fun j hj => (h 17 0 j rfl).trans (r.2 j hj)⟩
theorem cc_M.ag {n : Nat} {w : Nat → Nat} (h : ag [(26, 27), (42, 999)] σ σ') (r : cc_M n w σ) : cc_M n w σ' := ⟨(h 26 0 27 rfl).trans r.1, fun j hj => (h 42 0 j rfl).trans (r.2 j hj)⟩
theorem R_C.ag (h : ag fp_C σ σ') (r : R_C σ) : R_C σ' := by
  obtain ⟨n, w, h1, h2, h3⟩ := r
  exact ⟨n, w, h1, ⟨(h 16 0 1 rfl).trans h2.1, fun j hj => (h 17 0 j rfl).trans (h2.2 j hj)⟩, ⟨(h 26 0 27 rfl).trans h3.1, fun j hj => (h 42 0 j rfl).trans (h3.2 j hj)⟩⟩
theorem R_M.ag (h : ag fp_M σ σ') (r : R_M σ) : R_M σ' := by
  obtain ⟨h1, h2, h3, h4, h5⟩ := r
  refine ⟨?_, ?_, ?_, ?_, fun j hj => ?_⟩
  · rw [h 22 0 1 rfl, h 26 0 41 rfl]; exact h1
  · rw [h 22 0 2 rfl, h 26 0 42 rfl]; exact h2
  · rw [h 22 0 3 rfl, h 26 0 43 rfl]; exact h3
  · rw [h 22 0 4 rfl, h 26 0 44 rfl]; exact h4
  · rw [h 23 0 j rfl, h 46 0 j rfl]; exact h5 j hj
theorem R_R.ag (h : ag fp_R σ σ') (r : R_R σ) : R_R σ' := fun i j hi hj => by rw [h 20 i j rfl]; exact r i j hi hj
theorem R_B.ag (h2 : σ'.2 = σ.2) (h : ag fp_B σ σ') (r : R_B σ) : R_B σ' := by
  unfold R_B
  rw [h2]
  obtain ⟨a1, a2, a3, a4, a5, a6⟩ := r
  exact ⟨(h 24 0 1 rfl).trans a1, a2, by rw [h 24 0 3 rfl]; exact a3, a4, a5, fun i j => by rw [h 25 i j rfl]; exact a6 i j⟩
theorem R_X.ag {xs : Nat → Int32} {L : Nat} (h2 : σ'.2 = σ.2) (h : ag fp_X σ σ') (r : R_X xs L σ) : R_X xs L σ' := ⟨by rw [h2]; exact r.1, fun j => (h 57 0 j rfl).trans (r.2 j)⟩
theorem tx_C.ag {c l : Nat} {e : Nat → Nat} {rg : Nat → Nat → Nat} {n : Nat → Int32} {m : Nat → Nat} {lb : Nat → Nat → Nat} {na : Nat → Int32} {sb : Nat → Option Nat} (h : ag fp_TC σ σ') (r : tx_C c l e rg n m lb na sb σ) : tx_C c l e rg n m lb na sb σ' := by
  obtain ⟨h1, h2, h3, h4⟩ := r
  refine ⟨(h 7 0 1 rfl).trans h1, (h 13 0 2 rfl).trans h2, fun j hj => ?_, fun i hi => ?_⟩
  · rw [h 14 0 j rfl, h 15 0 j rfl]; exact h3 j hj
  · obtain ⟨a1, a2, a3, a4, a5⟩ := h4 i hi
    exact ⟨(h 9 i 0 rfl).trans a1, fun r hr => (h 10 i r rfl).trans (a2 r hr), (h 9 i 3 rfl).trans a3, (h 9 i 4 rfl).trans a4, fun k hk => (h 12 i k rfl).trans (a5 k hk)⟩
theorem tx_M.ag {c l : Nat} {e : Nat → Nat} {rg : Nat → Nat → Nat} {n : Nat → Int32} {m : Nat → Nat} {lb : Nat → Nat → Nat} {na : Nat → Int32} {sb : Nat → Option Nat} (h : ag fp_TM σ σ') (r : tx_M c l e rg n m lb na sb σ) : tx_M c l e rg n m lb na sb σ' := by
  obtain ⟨h1, h2, h3, h4⟩ := r
  refine ⟨(h 26 0 12 rfl).trans h1, (h 26 0 15 rfl).trans h2, fun j hj => ?_, fun i hi => ?_⟩
  · rw [h 37 0 j rfl, h 38 0 j rfl]; exact h3 j hj
  · obtain ⟨a1, a2, a3, a4, a5, a6, a7⟩ := h4 i hi
    exact ⟨(h 30 0 i rfl).trans a1, (h 31 0 i rfl).trans a2, (h 32 0 i rfl).trans a3, (h 33 0 i rfl).trans a4, (h 34 0 i rfl).trans a5, (h 35 0 i rfl).trans a6, fun k hk => (h 36 0 (4 * i + k) rfl).trans (a7 k hk)⟩
theorem tx_L.ag {c : Nat} {e : Nat → Nat} {n : Nat → Int32} {m : Nat → Nat} {lb : Nat → Nat → Nat} {sb : Nat → Option Nat} (h : ag fp_TL σ σ') (r : tx_L c e n m lb sb σ) : tx_L c e n m lb sb σ' := by
  obtain ⟨lg, h1, h2, h3, h4⟩ := r
  exact ⟨lg, h1, fun i hi => ⟨(h 9 i 1 rfl).trans (h2 i hi).1, (h 9 i 7 rfl).trans (h2 i hi).2⟩, (h 7 0 3 rfl).trans h3, (h 7 0 4 rfl).trans h4⟩
theorem R_T.ag (h1 : ag fp_TC σ σ') (h2 : ag fp_TM σ σ') (h3 : ag fp_TL σ σ') (r : R_T σ) : R_T σ' := by
  obtain ⟨c, l, e, rg, n, m, lb, na, sb, a1, a2, a3, a4⟩ := r
  exact ⟨c, l, e, rg, n, m, lb, na, sb, a1, a2.ag h1, a3.ag h2, a4.ag h3⟩
/-- nothing of the relation is touched -/
theorem RR.fr {xs : Nat → Int32} {L : Nat} {l : List (Nat × Nat)} (h : fr l σ σ') (hd : fp_dj l (fp_D ++ (fp_TC ++ (fp_TM ++ (fp_TL ++ (fp_C ++ (fp_M ++ (fp_R ++ (fp_B ++ fp_X)))))))) = true) (r : RR xs L σ) : RR xs L σ' := by
  obtain ⟨a1, a2, a3, a4, a5, a6, a7⟩ := r
  have A := fr_ag h hd
  have sub : ∀ f, (∀ k j, fp_in f k j = true → fp_in (fp_D ++ (fp_TC ++ (fp_TM ++ (fp_TL ++ (fp_C ++ (fp_M ++ (fp_R ++ (fp_B ++ fp_X)))))))) k j = true) → Jvm.Pilot.CUnitDeskLaw_law_r2931_f0b6bc.ag f σ σ' := fun f hf k i j hk => A k i j (hf k j hk)
  have app : ∀ (f g : List (Nat × Nat)) (k j : Nat), fp_in (f ++ g) k j = (fp_in f k j || fp_in g k j) := by
    intro f g k j
    induction f with
    | nil => rfl
    | cons p f ih => simp only [List.cons_append, fp_in, ih, Bool.or_assoc]
  refine ⟨a1.ag (sub _ fun k j hk => ?_), a2.ag (sub _ fun k j hk => ?_) (sub _ fun k j hk => ?_) (sub _ fun k j hk => ?_), a3.ag (sub _ fun k j hk => ?_), a4.ag (sub _ fun k j hk => ?_), a5.ag (sub _ fun k j hk => ?_), a6.ag h.1 (sub _ fun k j hk => ?_), a7.ag h.1 (sub _ fun k j hk => ?_)⟩
  all_goals simp only [app, hk, Bool.true_or, Bool.or_true]
