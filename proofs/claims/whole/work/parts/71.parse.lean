/-! LINES: digits and letters -/
def dgv (r : Nat → Int32) : Nat → Nat → Nat → Option Nat
  | 0, _, acc => some acc
  | d + 1, i, acc => if r i < 48 ∨ (57 : Int32) < r i then none else dgv r d (i + 1) (10 * acc + (r i).toNatClampNeg - 48)
def dg (r : Nat → Int32) (a b : Nat) : Option Nat := if b ≤ a ∨ 5 < b - a ∨ (1 < b - a ∧ r a = 48) then none else dgv r (b - a) a 0
def ltv (r : Nat → Int32) : Nat → Nat → Nat → Option Nat
  | 0, _, acc => some acc
  | d + 1, i, acc => if r i < 97 ∨ (122 : Int32) < r i then none else ltv r d (i + 1) (27 * acc + (r i).toNatClampNeg - 96)
def lt6 (r : Nat → Int32) (a b : Nat) : Option Nat := if a = b ∨ 6 < b - a then none else ltv r (b - a) a 0
theorem ch_of {x : Int32} {lo hi : Nat} (hlo : lo < 2147483648) (hhi : hi < 2147483648) (h1 : ¬ x < Int32.ofNat lo) (h2 : ¬ Int32.ofNat hi < x) : ∃ v, lo ≤ v ∧ v ≤ hi ∧ x = Int32.ofNat v := by
  have h0 : ¬ x < 0 := fun z => h1 (z_lt.mpr (by
    have := z_lt.mp z
    rw [n_toInt hlo]
    have h00 : (0 : Int32).toInt = 0 := rfl
    omega))
  obtain ⟨v, hv, rfl⟩ := n_of' h0
  rw [n_lt hv hlo] at h1
  rw [n_lt hhi hv] at h2
  exact ⟨v, by omega, by omega, rfl⟩
theorem dgv_lt {r : Nat → Int32} : ∀ d i acc v, dgv r d i acc = some v → v < (acc + 1) * 10 ^ d
  | 0, i, acc, v, h => by cases h; rw [Nat.pow_zero, Nat.mul_one]; exact Nat.lt_succ_self _
  | d + 1, i, acc, v, h => by
    have h' : (if r i < 48 ∨ (57 : Int32) < r i then none else dgv r d (i + 1) (10 * acc + (r i).toNatClampNeg - 48)) = some v := h
    by_cases hc : r i < 48 ∨ (57 : Int32) < r i
    · rw [if_pos hc] at h'; cases h'
    · rw [if_neg hc] at h'
      obtain ⟨c, h1, h2, h3⟩ := ch_of (lo := 48) (hi := 57) (by omega) (by omega) (fun z => hc (Or.inl z)) (fun z => hc (Or.inr z))
      rw [h3, n_cl (by omega)] at h'
      have ih := dgv_lt d _ _ _ h'
      have : (10 * acc + c - 48 + 1) * 10 ^ d ≤ (acc + 1) * 10 * 10 ^ d := Nat.mul_le_mul_right _ (by omega)
      have h10 : (acc + 1) * 10 * 10 ^ d = (acc + 1) * 10 ^ (d + 1) := by rw [Nat.pow_succ, Nat.mul_assoc, Nat.mul_comm (10 ^ d) 10]
      rw [h10] at this
      exact Nat.lt_of_lt_of_le ih this
theorem dg_lt {r : Nat → Int32} {a b v : Nat} (h : dg r a b = some v) : v < 100000 := by
  unfold dg at h
  by_cases hc : b ≤ a ∨ 5 < b - a ∨ (1 < b - a ∧ r a = 48)
  · rw [if_pos hc] at h; cases h
  · rw [if_neg hc] at h
    have := dgv_lt _ _ _ _ h
    have h5 : b - a = 1 ∨ b - a = 2 ∨ b - a = 3 ∨ b - a = 4 ∨ b - a = 5 := by omega
    rcases h5 with z | z | z | z | z <;> rw [z] at this <;> simp at this <;> omega
theorem ltv_lt {r : Nat → Int32} : ∀ d i acc v, ltv r d i acc = some v → v < (acc + 1) * 27 ^ d ∧ acc ≤ v
  | 0, i, acc, v, h => by cases h; rw [Nat.pow_zero, Nat.mul_one]; exact ⟨Nat.lt_succ_self _, Nat.le_refl _⟩
  | d + 1, i, acc, v, h => by
    have h' : (if r i < 97 ∨ (122 : Int32) < r i then none else ltv r d (i + 1) (27 * acc + (r i).toNatClampNeg - 96)) = some v := h
    by_cases hc : r i < 97 ∨ (122 : Int32) < r i
    · rw [if_pos hc] at h'; cases h'
    · rw [if_neg hc] at h'
      obtain ⟨c, h1, h2, h3⟩ := ch_of (lo := 97) (hi := 122) (by omega) (by omega) (fun z => hc (Or.inl z)) (fun z => hc (Or.inr z))
      rw [h3, n_cl (by omega)] at h'
      have ih := ltv_lt d _ _ _ h'
      have : (27 * acc + c - 96 + 1) * 27 ^ d ≤ (acc + 1) * 27 * 27 ^ d := Nat.mul_le_mul_right _ (by omega)
      have h27 : (acc + 1) * 27 * 27 ^ d = (acc + 1) * 27 ^ (d + 1) := by rw [Nat.pow_succ, Nat.mul_assoc, Nat.mul_comm (27 ^ d) 27]
      rw [h27] at this
      exact ⟨Nat.lt_of_lt_of_le ih.1 this, by have := ih.2; omega⟩
theorem lt6_b {r : Nat → Int32} {a b v : Nat} (hab : a ≤ b) (h : lt6 r a b = some v) : 1 ≤ v ∧ v < 387420489 := by
  unfold lt6 at h
  by_cases hc : a = b ∨ 6 < b - a
  · rw [if_pos hc] at h; cases h
  · rw [if_neg hc] at h
    have h1 := (ltv_lt _ _ _ _ h).1
    have h6 : b - a = 1 ∨ b - a = 2 ∨ b - a = 3 ∨ b - a = 4 ∨ b - a = 5 ∨ b - a = 6 := by omega
    obtain ⟨d, hd⟩ : ∃ d, b - a = d + 1 := ⟨b - a - 1, by omega⟩
    refine ⟨?_, by rcases h6 with z | z | z | z | z | z <;> rw [z] at h1 <;> simp at h1 <;> omega⟩
    rw [hd] at h
    have h' : (if r a < 97 ∨ (122 : Int32) < r a then none else ltv r d (a + 1) (27 * 0 + (r a).toNatClampNeg - 96)) = some v := h
    by_cases hc2 : r a < 97 ∨ (122 : Int32) < r a
    · rw [if_pos hc2] at h'; cases h'
    · rw [if_neg hc2] at h'
      obtain ⟨c, q1, q2, q3⟩ := ch_of (lo := 97) (hi := 122) (by omega) (by omega) (fun z => hc2 (Or.inl z)) (fun z => hc2 (Or.inr z))
      rw [q3, n_cl (by omega)] at h'
      have := (ltv_lt _ _ _ _ h').2
      omega
theorem s_cdg39 {n b : Nat} {r : Nat → Int32} (hn : n ≤ 40) (hb : b ≤ n) {σ : st_S} (h4 : ∀ j, j < n → σ.1 4 0 j = r j) {Q : st_S → Option eg_V → Prop} : ∀ d i acc, i + d = b →
    (dgv r d i acc = none → Q σ (some (.inl (-2147483648)))) → (∀ v, dgv r d i acc = some v → Q σ (some (.inl (Int32.ofNat v)))) →
    pw_E 36 39 σ (0, 0) [(0, .inr (3, 0)), (2, .inl (Int32.ofNat b)), (4, .inl (Int32.ofNat acc)), (5, .inl (Int32.ofNat i))] [] Q := by
  intro d
  induction d with
  | zero =>
    intro i acc hd K0 K1
    have hle : Int32.ofNat b ≤ Int32.ofNat i := by rw [n_le (by omega) (by omega)]; omega
    exact w_Draft_digits_39 (fun _ => K1 acc rfl) (fun h => absurd hle h) (fun h => absurd hle h) (fun h => absurd hle h) (fun h => absurd hle h)
  | succ d ih =>
    intro i acc hd K0 K1
    have hle : ¬ Int32.ofNat b ≤ Int32.ofNat i := by rw [n_le (by omega) (by omega)]; omega
    have hcl : (Int32.ofNat i).toNatClampNeg = i := n_cl (by omega)
    have hr := h4 i (by omega)
    have hs : dgv r (d + 1) i acc = if r i < 48 ∨ (57 : Int32) < r i then none else dgv r d (i + 1) (10 * acc + (r i).toNatClampNeg - 48) := rfl
    rw [hs] at K0 K1
    refine w_Draft_digits_39 (fun h => absurd h hle) (fun _ => n_inb (by omega) (by omega)) (fun _ h => ?_) (fun _ h h' => ?_) (fun _ h h' => ?_)
    · rw [hcl, hr] at h
      exact K0 (if_pos (Or.inl h))
    · rw [hcl, hr] at h h' ⊢
      have h2 : ¬ (57 : Int32) < r i := Int32.not_lt.mpr h'
      have hc : ¬ (r i < 48 ∨ (57 : Int32) < r i) := fun z => z.elim h h2
      rw [if_neg hc] at K0 K1
      obtain ⟨c, q1, q2, q3⟩ := ch_of (lo := 48) (hi := 57) (by omega) (by omega) h h2
      rw [q3, n_cl (by omega)] at K0 K1
      rw [q3, show (10 : Int32) = Int32.ofNat 10 from rfl, n_mul, n_add, show (48 : Int32) = Int32.ofNat 48 from rfl, n_sub (by omega), show Int32.ofNat i + 1 = Int32.ofNat (i + 1) from n_add i 1]
      exact ih (i + 1) _ (by omega) K0 K1
    · rw [hcl, hr] at h'
      exact K0 (if_pos (Or.inr (Int32.not_le.mp h')))
theorem s_cdg {n a b : Nat} {r : Nat → Int32} (hn : n ≤ 40) (hb : b ≤ n) (hab : a ≤ b) {σ : st_S} (h4 : ∀ j, j < n → σ.1 4 0 j = r j) {Q : st_S → Option eg_V → Prop}
    (K0 : dg r a b = none → Q σ (some (.inl (-2147483648)))) (K1 : ∀ v, dg r a b = some v → Q σ (some (.inl (Int32.ofNat v)))) :
    pw_E 36 0 σ (0, 0) [(0, .inr (3, 0)), (1, .inl (Int32.ofNat a)), (2, .inl (Int32.ofNat b))] [] Q := by
  have hsub : Int32.ofNat b - Int32.ofNat a = Int32.ofNat (b - a) := n_sub hab
  have hcl : (Int32.ofNat a).toNatClampNeg = a := n_cl (by omega)
  unfold dg at K0 K1
  have go : ¬ (b ≤ a ∨ 5 < b - a ∨ (1 < b - a ∧ r a = 48)) → pw_E 36 39 σ (0, 0) [(0, .inr (3, 0)), (2, .inl (Int32.ofNat b)), (4, .inl 0), (5, .inl (Int32.ofNat a))] [] Q := fun h => by
    rw [if_neg h] at K0 K1
    exact s_cdg39 hn hb h4 (b - a) a 0 (by omega) K0 K1
  refine w_Draft_digits_0 (fun h => ?_) (fun h h' => ?_) (fun h h' g => ?_) (fun h h' g => n_inb (by
    rw [hsub, show (1 : Int32) = Int32.ofNat 1 from rfl, n_lt (by omega) (by omega)] at h; omega) (by omega)) (fun h h' g g' => ?_) (fun h h' g g' => ?_)
  all_goals rw [hsub, show (1 : Int32) = Int32.ofNat 1 from rfl, n_lt (by omega) (by omega)] at h
  · exact K0 (if_pos (Or.inl (by omega)))
  · rw [hsub, show (5 : Int32) = Int32.ofNat 5 from rfl, n_lt (by omega) (by omega)] at h'
    exact K0 (if_pos (Or.inr (Or.inl h')))
  · rw [hsub, show (5 : Int32) = Int32.ofNat 5 from rfl, n_lt (by omega) (by omega)] at h'
    rw [hsub, show (1 : Int32) = Int32.ofNat 1 from rfl, n_le (by omega) (by omega)] at g
    exact go (by omega)
  · rw [hsub, show (1 : Int32) = Int32.ofNat 1 from rfl, n_le (by omega) (by omega)] at g
    rw [hcl, h4 a (by omega)] at g'
    exact K0 (if_pos (Or.inr (Or.inr ⟨by omega, g'⟩)))
  · rw [hsub, show (5 : Int32) = Int32.ofNat 5 from rfl, n_lt (by omega) (by omega)] at h'
    rw [hcl, h4 a (by omega)] at g'
    exact go (fun z => by rcases z with z | z | z; omega; omega; exact g' z.2)
theorem s_mdg37 {n b : Nat} {r : Nat → Int32} (hn : n ≤ 40) (hb : b ≤ n) {σ : st_S} (h4 : ∀ j, j < n → σ.1 27 0 j = r j) {Q : st_S → Option eg_V → Prop} : ∀ d i acc, i + d = b →
    Q σ (some (.inl (tx_sv (dgv r d i acc)))) →
    pw_E 103 37 σ (0, 0) [(0, .inr (26, 0)), (2, .inl (Int32.ofNat b)), (3, .inl (Int32.ofNat acc)), (4, .inl (Int32.ofNat i))] [] Q := by
  intro d
  induction d with
  | zero =>
    intro i acc hd K
    have hle : Int32.ofNat b ≤ Int32.ofNat i := by rw [n_le (by omega) (by omega)]; omega
    exact w_M_digits_37 (fun _ => K) (fun h => absurd hle h) (fun h => absurd hle h) (fun h => absurd hle h) (fun h => absurd hle h)
  | succ d ih =>
    intro i acc hd K
    have hle : ¬ Int32.ofNat b ≤ Int32.ofNat i := by rw [n_le (by omega) (by omega)]; omega
    have hcl : (Int32.ofNat i).toNatClampNeg = i := n_cl (by omega)
    have hr := h4 i (by omega)
    have hs : dgv r (d + 1) i acc = if r i < 48 ∨ (57 : Int32) < r i then none else dgv r d (i + 1) (10 * acc + (r i).toNatClampNeg - 48) := rfl
    rw [hs] at K
    refine w_M_digits_37 (fun h => absurd h hle) (fun _ => n_inb (by omega) (by omega)) (fun _ h => ?_) (fun _ h h' => ?_) (fun _ h h' => ?_)
    · rw [hcl, hr] at h
      rw [if_pos (Or.inl h)] at K; exact K
    · rw [hcl, hr] at h'
      rw [if_pos (Or.inr h')] at K; exact K
    · rw [hcl, hr] at h h' ⊢
      have hc : ¬ (r i < 48 ∨ (57 : Int32) < r i) := fun z => z.elim h h'
      rw [if_neg hc] at K
      obtain ⟨c, q1, q2, q3⟩ := ch_of (lo := 48) (hi := 57) (by omega) (by omega) h h'
      rw [q3, n_cl (by omega)] at K
      rw [q3, show (10 : Int32) = Int32.ofNat 10 from rfl, n_mul, n_add, show (48 : Int32) = Int32.ofNat 48 from rfl, n_sub (by omega), show Int32.ofNat i + 1 = Int32.ofNat (i + 1) from n_add i 1]
      exact ih (i + 1) _ (by omega) K
theorem s_mdg {n a b : Nat} {r : Nat → Int32} (hn : n ≤ 40) (hb : b ≤ n) (hab : a ≤ b) {σ : st_S} (h4 : ∀ j, j < n → σ.1 27 0 j = r j) {Q : st_S → Option eg_V → Prop}
    (K : Q σ (some (.inl (tx_sv (dg r a b))))) :
    pw_E 103 0 σ (0, 0) [(0, .inr (26, 0)), (1, .inl (Int32.ofNat a)), (2, .inl (Int32.ofNat b))] [] Q := by
  have hsub : Int32.ofNat b - Int32.ofNat a = Int32.ofNat (b - a) := n_sub hab
  have hcl : (Int32.ofNat a).toNatClampNeg = a := n_cl (by omega)
  unfold dg at K
  have go : ¬ (b ≤ a ∨ 5 < b - a ∨ (1 < b - a ∧ r a = 48)) → pw_E 103 37 σ (0, 0) [(0, .inr (26, 0)), (2, .inl (Int32.ofNat b)), (3, .inl 0), (4, .inl (Int32.ofNat a))] [] Q := fun h => by
    rw [if_neg h] at K
    exact s_mdg37 hn hb h4 (b - a) a 0 (by omega) K
  have bad : (b ≤ a ∨ 5 < b - a ∨ (1 < b - a ∧ r a = 48)) → Q σ (some (.inl (-1))) := fun h => by rw [if_pos h] at K; exact K
  have le : (Int32.ofNat b ≤ Int32.ofNat a) = (b ≤ a) := n_le (by omega) (by omega)
  have l5 : ((5 : Int32) < Int32.ofNat b - Int32.ofNat a) = (5 < b - a) := by rw [hsub]; exact n_lt (a := 5) (by omega) (by omega)
  have l1 : (Int32.ofNat b - Int32.ofNat a ≤ (1 : Int32)) = (b - a ≤ 1) := by rw [hsub]; exact n_le (b := 1) (by omega) (by omega)
  refine w_M_digits_0 (fun h => ?_) (fun h h' => ?_) (fun h h' => n_inb (by rw [le] at h; omega) (by omega)) (fun h h' g g' => ?_) (fun h h' g g' => ?_) (fun h h' g => ?_)
  · rw [le] at h; exact bad (Or.inl h)
  · rw [l5] at h'; exact bad (Or.inr (Or.inl h'))
  · rw [le] at h; rw [l5] at h'; rw [l1] at g'
    exact go (by omega)
  · rw [le] at h; rw [l1] at g'
    rw [hcl, h4 a (by omega)] at g
    exact bad (Or.inr (Or.inr ⟨by omega, g⟩))
  · rw [le] at h; rw [l5] at h'
    rw [hcl, h4 a (by omega)] at g
    exact go (fun z => by rcases z with z | z | z; omega; omega; exact g z.2)
/-- letters -/
theorem s_mlt20 {n b : Nat} {r : Nat → Int32} (hn : n ≤ 40) (hb : b ≤ n) {σ : st_S} (h4 : ∀ j, j < n → σ.1 27 0 j = r j) {Q : st_S → Option eg_V → Prop} : ∀ d i acc, i + d = b →
    Q σ (some (.inl (tx_sv (ltv r d i acc)))) →
    pw_E 92 20 σ (0, 0) [(0, .inr (26, 0)), (2, .inl (Int32.ofNat b)), (3, .inl (Int32.ofNat acc)), (4, .inl (Int32.ofNat i))] [] Q := by
  intro d
  induction d with
  | zero =>
    intro i acc hd K
    have hle : Int32.ofNat b ≤ Int32.ofNat i := by rw [n_le (by omega) (by omega)]; omega
    exact w_M_letters_20 (fun _ => K) (fun h => absurd hle h) (fun h => absurd hle h) (fun h => absurd hle h) (fun h => absurd hle h)
  | succ d ih =>
    intro i acc hd K
    have hle : ¬ Int32.ofNat b ≤ Int32.ofNat i := by rw [n_le (by omega) (by omega)]; omega
    have hcl : (Int32.ofNat i).toNatClampNeg = i := n_cl (by omega)
    have hr := h4 i (by omega)
    have hs : ltv r (d + 1) i acc = if r i < 97 ∨ (122 : Int32) < r i then none else ltv r d (i + 1) (27 * acc + (r i).toNatClampNeg - 96) := rfl
    rw [hs] at K
    refine w_M_letters_20 (fun h => absurd h hle) (fun _ => n_inb (by omega) (by omega)) (fun _ h => ?_) (fun _ h h' => ?_) (fun _ h h' => ?_)
    · rw [hcl, hr] at h
      rw [if_pos (Or.inl h)] at K; exact K
    · rw [hcl, hr] at h'
      rw [if_pos (Or.inr h')] at K; exact K
    · rw [hcl, hr] at h h' ⊢
      have hc : ¬ (r i < 97 ∨ (122 : Int32) < r i) := fun z => z.elim h h'
      rw [if_neg hc] at K
      obtain ⟨c, q1, q2, q3⟩ := ch_of (lo := 97) (hi := 122) (by omega) (by omega) h h'
      rw [q3, n_cl (by omega)] at K
      rw [q3, show (27 : Int32) = Int32.ofNat 27 from rfl, n_mul, n_add, show (96 : Int32) = Int32.ofNat 96 from rfl, n_sub (by omega), show Int32.ofNat i + 1 = Int32.ofNat (i + 1) from n_add i 1]
      exact ih (i + 1) _ (by omega) K
theorem s_mlt {n a b : Nat} {r : Nat → Int32} (hn : n ≤ 40) (hb : b ≤ n) (hab : a ≤ b) {σ : st_S} (h4 : ∀ j, j < n → σ.1 27 0 j = r j) {Q : st_S → Option eg_V → Prop}
    (K : Q σ (some (.inl (tx_sv (lt6 r a b))))) :
    pw_E 92 0 σ (0, 0) [(0, .inr (26, 0)), (1, .inl (Int32.ofNat a)), (2, .inl (Int32.ofNat b))] [] Q := by
  have hsub : Int32.ofNat b - Int32.ofNat a = Int32.ofNat (b - a) := n_sub hab
  unfold lt6 at K
  have eq : (Int32.ofNat a = Int32.ofNat b) = (a = b) := n_inj (by omega) (by omega)
  have l6 : (Int32.ofNat b - Int32.ofNat a ≤ (6 : Int32)) = (b - a ≤ 6) := by rw [hsub]; exact n_le (b := 6) (by omega) (by omega)
  refine w_M_letters_0 (fun h => ?_) (fun h h' => ?_) (fun h h' => ?_)
  · rw [eq] at h
    rw [if_pos (Or.inl h)] at K; exact K
  · rw [eq] at h; rw [l6] at h'
    rw [if_neg (by omega)] at K
    exact s_mlt20 hn hb h4 (b - a) a 0 (by omega) K
  · rw [eq] at h; rw [l6] at h'
    rw [if_pos (Or.inr (by omega))] at K; exact K
def lab (r : Nat → Int32) (a b : Nat) : Option Nat := if r a = 58 then lt6 r (a + 1) b else none
/-- a name, 0 for none -/
def nv : Option Nat → Int32
  | none => 0
  | some v => Int32.ofNat v
theorem s_clab53 {n b wd : Nat} {r : Nat → Int32} (hn : n ≤ 40) (hb : b ≤ n) (hwd : wd < 40) {σ : st_S} (h4 : ∀ j, j < n → σ.1 4 0 j = r j) (h6 : σ.1 6 0 wd = Int32.ofNat b) {Q : st_S → Option eg_V → Prop} : ∀ d i acc, i + d = b →
    Q σ (some (.inl (nv (ltv r d i acc)))) →
    pw_E 14 53 σ (0, 0) [(0, .inr (3, 0)), (1, .inl (Int32.ofNat wd)), (4, .inl (Int32.ofNat acc)), (5, .inl (Int32.ofNat i))] [] Q := by
  have hclw : (Int32.ofNat wd).toNatClampNeg = wd := n_cl (by omega)
  intro d
  induction d with
  | zero =>
    intro i acc hd K
    have hle : σ.1 6 0 (Int32.ofNat wd).toNatClampNeg ≤ Int32.ofNat i := by rw [hclw, h6, n_le (by omega) (by omega)]; omega
    exact w_Draft_labelName_53 (n_inb hwd (by omega)) (fun _ => K) (fun h => absurd hle h) (fun h => absurd hle h) (fun h => absurd hle h) (fun h => absurd hle h)
  | succ d ih =>
    intro i acc hd K
    have hle : ¬ σ.1 6 0 (Int32.ofNat wd).toNatClampNeg ≤ Int32.ofNat i := by rw [hclw, h6, n_le (by omega) (by omega)]; omega
    have hcl : (Int32.ofNat i).toNatClampNeg = i := n_cl (by omega)
    have hr := h4 i (by omega)
    have hs : ltv r (d + 1) i acc = if r i < 97 ∨ (122 : Int32) < r i then none else ltv r d (i + 1) (27 * acc + (r i).toNatClampNeg - 96) := rfl
    rw [hs] at K
    refine w_Draft_labelName_53 (n_inb hwd (by omega)) (fun h => absurd h hle) (fun _ => n_inb (by omega) (by omega)) (fun _ h => ?_) (fun _ h h' => ?_) (fun _ h h' => ?_)
    · rw [hcl, hr] at h
      rw [if_pos (Or.inl h)] at K; exact K
    · rw [hcl, hr] at h h' ⊢
      have h2 : ¬ (122 : Int32) < r i := Int32.not_lt.mpr h'
      have hc : ¬ (r i < 97 ∨ (122 : Int32) < r i) := fun z => z.elim h h2
      rw [if_neg hc] at K
      obtain ⟨c, q1, q2, q3⟩ := ch_of (lo := 97) (hi := 122) (by omega) (by omega) h h2
      rw [q3, n_cl (by omega)] at K
      rw [q3, show (27 : Int32) = Int32.ofNat 27 from rfl, n_mul, n_add, show (97 : Int32) = Int32.ofNat 97 from rfl, n_sub (by omega), show Int32.ofNat (27 * acc + c - 97) + 1 = Int32.ofNat (27 * acc + c - 97 + 1) from n_add _ 1, show Int32.ofNat i + 1 = Int32.ofNat (i + 1) from n_add i 1, show 27 * acc + c - 97 + 1 = 27 * acc + c - 96 by omega]
      exact ih (i + 1) _ (by omega) K
    · rw [hcl, hr] at h'
      rw [if_pos (Or.inr (Int32.not_le.mp h'))] at K; exact K
theorem s_clab {n a b wd : Nat} {r : Nat → Int32} (hn : n ≤ 40) (hb : b ≤ n) (hab : a < b) (hwd : wd < 40) {σ : st_S} (h4 : ∀ j, j < n → σ.1 4 0 j = r j) (h5 : σ.1 5 0 wd = Int32.ofNat a) (h6 : σ.1 6 0 wd = Int32.ofNat b) {Q : st_S → Option eg_V → Prop}
    (K : Q σ (some (.inl (nv (lab r a b))))) : pw_E 14 0 σ (0, 0) [(0, .inr (3, 0)), (1, .inl (Int32.ofNat wd))] [] Q := by
  have hclw : (Int32.ofNat wd).toNatClampNeg = wd := n_cl (by omega)
  have hcla : (Int32.ofNat a).toNatClampNeg = a := n_cl (by omega)
  have e1 : Int32.ofNat a + 1 = Int32.ofNat (a + 1) := n_add a 1
  have hsub : Int32.ofNat b - Int32.ofNat (a + 1) = Int32.ofNat (b - (a + 1)) := n_sub hab
  unfold lab lt6 at K
  refine w_Draft_labelName_0 (n_inb hwd (by omega)) (by rw [hclw, h5]; exact n_inb (by omega) (by omega)) (fun g h => ?_) (fun g h h' => ?_) (fun g h h' => ?_) (fun g => ?_)
  all_goals rw [hclw, h5, hcla, h4 a (by omega)] at g
  · rw [hclw, h5, h6, e1, hsub, show (1 : Int32) = Int32.ofNat 1 from rfl, n_lt (by omega) (by omega)] at h
    rw [if_pos g, if_pos (by omega)] at K; exact K
  · rw [hclw, h5, h6, e1, hsub, show (1 : Int32) = Int32.ofNat 1 from rfl, n_lt (by omega) (by omega)] at h
    rw [hclw, h5, h6, e1, hsub, show (6 : Int32) = Int32.ofNat 6 from rfl, n_le (by omega) (by omega)] at h'
    rw [if_pos g, if_neg (by omega)] at K
    rw [hclw, h5, e1]
    exact s_clab53 hn hb hwd h4 h6 (b - (a + 1)) (a + 1) 0 (by omega) K
  · rw [hclw, h5, h6, e1, hsub, show (6 : Int32) = Int32.ofNat 6 from rfl, n_le (by omega) (by omega)] at h'
    rw [if_pos g, if_pos (by omega)] at K; exact K
  · rw [if_neg g] at K; exact K
theorem s_mlab {n a b wd : Nat} {r : Nat → Int32} (hn : n ≤ 40) (hb : b ≤ n) (hab : a < b) (hwd : wd < 24) {σ : st_S} (h4 : ∀ j, j < n → σ.1 27 0 j = r j) (h5 : σ.1 28 0 wd = Int32.ofNat a) (h6 : σ.1 29 0 wd = Int32.ofNat b) {Q : st_S → Option eg_V → Prop}
    (K : Q σ (some (.inl (tx_sv (lab r a b))))) : pw_E 91 0 σ (0, 0) [(0, .inr (26, 0)), (1, .inl (Int32.ofNat wd))] [] Q := by
  have hclw : (Int32.ofNat wd).toNatClampNeg = wd := n_cl (by omega)
  have hcla : (Int32.ofNat a).toNatClampNeg = a := n_cl (by omega)
  have e1 : Int32.ofNat a + 1 = Int32.ofNat (a + 1) := n_add a 1
  unfold lab at K
  refine w_M_labelIn_0 (n_inb hwd (by omega)) (by rw [hclw, h5]; exact n_inb (by omega) (by omega)) (fun g => ?_) (fun g => ?_)
  · rw [hclw, h5, hcla, h4 a (by omega)] at g
    rw [if_pos g] at K
    rw [hclw, h5, h6, e1]
    exact s_mlt hn hb hab h4 (w_M_labelIn_34 K)
  · rw [hclw, h5, hcla, h4 a (by omega)] at g
    rw [if_neg g] at K; exact K
theorem lab_b {r : Nat → Int32} {a b v : Nat} (hab : a < b) (h : lab r a b = some v) : 1 ≤ v ∧ v < 387420489 := by
  unfold lab at h
  by_cases hc : r a = 58
  · rw [if_pos hc] at h; exact lt6_b hab h
  · rw [if_neg hc] at h; cases h
/-! registers -/
def rgP (r : Nat → Int32) (a b : Nat) : Option Nat := if r a = 118 then (match dg r (a + 1) b with
  | some v => if v < 16 then some v else none
  | none => none) else none
theorem rgP_lt {r : Nat → Int32} {a b v : Nat} (h : rgP r a b = some v) : v < 16 := by
  unfold rgP at h
  by_cases hc : r a = 118
  · rw [if_pos hc] at h
    cases hd : dg r (a + 1) b with
    | none => rw [hd] at h; cases h
    | some u =>
      rw [hd] at h
      have h' : (if u < 16 then some u else none) = some v := h
      by_cases hu : u < 16
      · rw [if_pos hu] at h'; cases h'; exact hu
      · rw [if_neg hu] at h'; cases h'
  · rw [if_neg hc] at h; cases h
theorem s_creg {n a b wd : Nat} {r : Nat → Int32} (hn : n ≤ 40) (hb : b ≤ n) (hab : a < b) (hwd : wd < 40) {σ : st_S} (h4 : ∀ j, j < n → σ.1 4 0 j = r j) (h5 : σ.1 5 0 wd = Int32.ofNat a) (h6 : σ.1 6 0 wd = Int32.ofNat b) {Q : st_S → Option eg_V → Prop}
    (K : Q σ (some (.inl (tx_sv (rgP r a b))))) : pw_E 40 0 σ (0, 0) [(0, .inr (3, 0)), (1, .inl (Int32.ofNat wd))] [] Q := by
  have hclw : (Int32.ofNat wd).toNatClampNeg = wd := n_cl (by omega)
  have hcla : (Int32.ofNat a).toNatClampNeg = a := n_cl (by omega)
  have e1 : Int32.ofNat a + 1 = Int32.ofNat (a + 1) := n_add a 1
  unfold rgP at K
  refine w_Draft_register_0 (n_inb hwd (by omega)) (by rw [hclw, h5]; exact n_inb (by omega) (by omega)) (fun g => ?_) (fun g => ?_)
  · rw [hclw, h5, hcla, h4 a (by omega)] at g
    rw [if_pos g] at K
    rw [hclw, h5, h6, e1]
    refine s_cdg hn hb hab h4 (fun z => ?_) (fun v z => ?_)
    · rw [z] at K
      exact w_Draft_register_36 (fun _ => K) (fun y => absurd (by decide) y) (fun y => absurd (by decide) y)
    · rw [z] at K
      have hv := dg_lt z
      have K : Q σ (some (.inl (tx_sv (if v < 16 then some v else none)))) := K
      refine w_Draft_register_36 (fun y => absurd y (n_n0 (by omega))) (fun _ y => ?_) (fun _ y => ?_)
      · rw [show (16 : Int32) = Int32.ofNat 16 from rfl, n_le (by omega) (by omega)] at y
        rw [if_neg (by omega)] at K; exact K
      · rw [show (16 : Int32) = Int32.ofNat 16 from rfl, n_le (by omega) (by omega)] at y
        rw [if_pos (by omega)] at K; exact K
  · rw [hclw, h5, hcla, h4 a (by omega)] at g
    rw [if_neg g] at K; exact K
theorem s_mreg' {n a b wd W : Nat} {r : Nat → Int32} (hn : n ≤ 40) (hb : b ≤ n) (hab : a < b) (hwd : wd < W) (hW : W ≤ 24) {σ : st_S} (h4 : ∀ j, j < n → σ.1 27 0 j = r j) (hw : σ.1 26 0 4 = Int32.ofNat W) (h5 : σ.1 28 0 wd = Int32.ofNat a) (h6 : σ.1 29 0 wd = Int32.ofNat b) {Q : st_S → Option eg_V → Prop}
    (K : Q σ (some (.inl (tx_sv (rgP r a b))))) : pw_E 102 0 σ (0, 0) [(0, .inr (26, 0)), (1, .inl (Int32.ofNat wd))] [] Q := by
  have hclw : (Int32.ofNat wd).toNatClampNeg = wd := n_cl (by omega)
  have hcla : (Int32.ofNat a).toNatClampNeg = a := n_cl (by omega)
  have e1 : Int32.ofNat a + 1 = Int32.ofNat (a + 1) := n_add a 1
  have hle : ¬ σ.1 26 0 4 ≤ Int32.ofNat wd := by rw [hw, n_le (by omega) (by omega)]; omega
  unfold rgP at K
  refine w_M_registerIn_0 (fun z => absurd z hle) (fun _ => n_inb (by omega) (by omega)) (fun _ => by rw [hclw, h5]; exact n_inb (by omega) (by omega)) (fun _ g => ?_) (fun _ g => ?_)
  · rw [hclw, h5, hcla, h4 a (by omega)] at g
    rw [if_pos g] at K
    rw [hclw, h5, h6, e1]
    refine s_mdg hn hb hab h4 ?_
    cases z : dg r (a + 1) b with
    | none =>
      rw [z] at K
      exact w_M_registerIn_44 (fun _ => K) (fun y => absurd (by decide) y)
    | some v =>
      rw [z] at K
      have hv := dg_lt z
      have K : Q σ (some (.inl (tx_sv (if v < 16 then some v else none)))) := K
      refine w_M_registerIn_44 (fun y => ?_) (fun y => ?_)
      · have y : Int32.ofNat v ≤ 15 := y
        rw [show (15 : Int32) = Int32.ofNat 15 from rfl, n_le (by omega) (by omega)] at y
        rw [if_pos (by omega)] at K; exact K
      · have y : ¬ Int32.ofNat v ≤ 15 := y
        rw [show (15 : Int32) = Int32.ofNat 15 from rfl, n_le (by omega) (by omega)] at y
        rw [if_neg (by omega)] at K; exact K
  · rw [hclw, h5, hcla, h4 a (by omega)] at g
    rw [if_neg g] at K; exact K
/-! numbers -/
def nmP (r : Nat → Int32) (a b : Nat) : Option Int32 := if r a = 45 then (match dg r (a + 1) b with
  | some v => if v = 0 then none else some (-(Int32.ofNat v))
  | none => none) else (match dg r a b with
  | some v => some (Int32.ofNat v)
  | none => none)
def hold (e : Nat) (x : Int32) : Prop := if e = 8 then (-128 ≤ x.toInt ∧ x.toInt ≤ 127) else (-32768 ≤ x.toInt ∧ x.toInt ≤ 32767)
def nmV : Option Int32 → Int32
  | none => -2147483648
  | some x => x
theorem nmP_b {r : Nat → Int32} {a b : Nat} {x : Int32} (h : nmP r a b = some x) : -99999 ≤ x.toInt ∧ x.toInt ≤ 99999 := by
  unfold nmP at h
  by_cases hc : r a = 45
  · rw [if_pos hc] at h
    cases hd : dg r (a + 1) b with
    | none => rw [hd] at h; cases h
    | some v =>
      rw [hd] at h
      have hv := dg_lt hd
      have h' : (if v = 0 then none else some (-(Int32.ofNat v))) = some x := h
      by_cases hv0 : v = 0
      · rw [if_pos hv0] at h'; cases h'
      · rw [if_neg hv0] at h'
        cases h'
        rw [z_neg (by rw [n_toInt (by omega)]; omega), n_toInt (by omega)]
        omega
  · rw [if_neg hc] at h
    cases hd : dg r a b with
    | none => rw [hd] at h; cases h
    | some v =>
      rw [hd] at h
      have hv := dg_lt hd
      cases h
      rw [n_toInt (by omega)]; omega
theorem s_cnum {n a b wd : Nat} {r : Nat → Int32} (hn : n ≤ 40) (hb : b ≤ n) (hab : a < b) (hwd : wd < 40) {σ : st_S} (h4 : ∀ j, j < n → σ.1 4 0 j = r j) (h5 : σ.1 5 0 wd = Int32.ofNat a) (h6 : σ.1 6 0 wd = Int32.ofNat b) {Q : st_S → Option eg_V → Prop}
    (K : Q σ (some (.inl (nmV (nmP r a b))))) : pw_E 35 0 σ (0, 0) [(0, .inr (3, 0)), (1, .inl (Int32.ofNat wd))] [] Q := by
  have hclw : (Int32.ofNat wd).toNatClampNeg = wd := n_cl (by omega)
  have hcla : (Int32.ofNat a).toNatClampNeg = a := n_cl (by omega)
  have e1 : Int32.ofNat a + 1 = Int32.ofNat (a + 1) := n_add a 1
  have e0 : Int32.ofNat a + 0 = Int32.ofNat a := n_add a 0
  have nmin : ∀ v, v < 100000 → ¬ Int32.ofNat v = -2147483648 := fun v hv z => by
    have := n_n0 (a := v) (by omega)
    rw [z] at this
    exact this (by decide)
  unfold nmP at K
  refine w_Draft_number_0 (n_inb hwd (by omega)) (by rw [hclw, h5]; exact n_inb (by omega) (by omega)) (fun g => ?_) (fun g => ?_)
  · rw [hclw, h5, hcla, h4 a (by omega)] at g
    rw [if_pos g] at K
    rw [hclw, h5, h6, e1]
    refine s_cdg hn hb hab h4 (fun z => ?_) (fun v z => ?_)
    · rw [z] at K
      exact w_Draft_number_48 (fun _ => K) (fun y => absurd rfl y) (fun y => absurd rfl y) (fun y => absurd rfl y)
    · rw [z] at K
      have hv := dg_lt z
      have K : Q σ (some (.inl (nmV (if v = 0 then none else some (-(Int32.ofNat v)))))) := K
      refine w_Draft_number_48 (fun y => absurd y (nmin v hv)) (fun _ y => absurd y (by decide)) (fun _ _ y => ?_) (fun _ _ y => ?_)
      · rw [show (0 : Int32) = Int32.ofNat 0 from rfl, n_inj (by omega) (by omega)] at y
        rw [if_pos y] at K; exact K
      · rw [show (0 : Int32) = Int32.ofNat 0 from rfl, n_inj (by omega) (by omega)] at y
        rw [if_neg y] at K; exact K
  · rw [hclw, h5, hcla, h4 a (by omega)] at g
    rw [if_neg g] at K
    rw [hclw, h5, h6, e0]
    refine s_cdg hn hb (by omega) h4 (fun z => ?_) (fun v z => ?_)
    · rw [z] at K
      exact w_Draft_number_48 (fun _ => K) (fun y => absurd rfl y) (fun y => absurd rfl y) (fun y => absurd rfl y)
    · rw [z] at K
      exact w_Draft_number_48 (fun y => absurd y (nmin v (dg_lt z))) (fun _ _ => K) (fun _ y => absurd rfl y) (fun _ y => absurd rfl y)
def nm9 (e : Nat) (o : Option Int32) : Int32 := match o with
  | none => 99999999
  | some x => if (if e = 8 then (-128 ≤ x.toInt ∧ x.toInt ≤ 127) else (-32768 ≤ x.toInt ∧ x.toInt ≤ 32767)) then x else 99999999
theorem s_mnum {n a b wd W e : Nat} {r : Nat → Int32} {lo hi : Int32} (hn : n ≤ 40) (hb : b ≤ n) (hab : a < b) (hwd : wd < W) (hW : W ≤ 24) (hlh : (lo, hi) = if e = 8 then (-128, 127) else (-32768, 32767)) {σ : st_S} (h4 : ∀ j, j < n → σ.1 27 0 j = r j) (hw : σ.1 26 0 4 = Int32.ofNat W) (h5 : σ.1 28 0 wd = Int32.ofNat a) (h6 : σ.1 29 0 wd = Int32.ofNat b) {Q : st_S → Option eg_V → Prop}
    (K : Q σ (some (.inl (nm9 e (nmP r a b))))) : pw_E 104 0 σ (0, 0) [(0, .inr (26, 0)), (1, .inl (Int32.ofNat wd)), (2, .inl lo), (3, .inl hi)] [] Q := by
  have hclw : (Int32.ofNat wd).toNatClampNeg = wd := n_cl (by omega)
  have hcla : (Int32.ofNat a).toNatClampNeg = a := n_cl (by omega)
  have e1 : Int32.ofNat a + 1 = Int32.ofNat (a + 1) := n_add a 1
  have hlt : Int32.ofNat wd < σ.1 26 0 4 := by rw [hw, n_lt (by omega) (by omega)]; omega
  have rng : ∀ x : Int32, (¬ x < lo ∧ ¬ hi < x) ↔ (if e = 8 then (-128 ≤ x.toInt ∧ x.toInt ≤ 127) else (-32768 ≤ x.toInt ∧ x.toInt ≤ 32767)) := fun x => by
    by_cases h8 : e = 8
    · rw [if_pos h8] at hlh ⊢
      cases hlh
      rw [z_lt, z_lt]
      show (¬ x.toInt < -128 ∧ ¬ (127 : Int) < x.toInt) ↔ _
      omega
    · rw [if_neg h8] at hlh ⊢
      cases hlh
      rw [z_lt, z_lt]
      show (¬ x.toInt < -32768 ∧ ¬ (32767 : Int) < x.toInt) ↔ _
      omega
  have fin : ∀ x, (Q σ (some (.inl (nm9 e (some x))))) → (x < lo → Q σ (some (.inl 99999999))) ∧ (hi < x → Q σ (some (.inl 99999999))) ∧ (¬ x < lo → ¬ hi < x → Q σ (some (.inl x))) := fun x K => by
    have K : Q σ (some (.inl (if (if e = 8 then (-128 ≤ x.toInt ∧ x.toInt ≤ 127) else (-32768 ≤ x.toInt ∧ x.toInt ≤ 32767)) then x else 99999999))) := K
    refine ⟨fun h => ?_, fun h => ?_, fun h h' => ?_⟩
    · rw [if_neg (fun z => ((rng x).mpr z).1 h)] at K; exact K
    · rw [if_neg (fun z => ((rng x).mpr z).2 h)] at K; exact K
    · rw [if_pos ((rng x).mp ⟨h, h'⟩)] at K; exact K
  unfold nmP at K
  refine w_M_numberIn_0 (fun _ => n_inb (by omega) (by omega)) (fun _ => by rw [hclw, h5]; exact n_inb (by omega) (by omega)) (fun _ g => ?_) (fun _ g => ?_) (fun z => absurd hlt z)
  · rw [hclw, h5, hcla, h4 a (by omega)] at g
    rw [if_pos g] at K
    rw [hclw, h5, h6, e1]
    refine s_mdg hn hb hab h4 ?_
    cases z : dg r (a + 1) b with
    | none =>
      rw [z] at K
      exact w_M_numberIn_66 (fun _ => K) (fun y => absurd (by decide) y) (fun y => absurd (by decide) y) (fun y => absurd (by decide) y) (fun y => absurd (by decide) y) (fun y => absurd (by decide) y) (fun y => absurd (by decide) y) (fun y => absurd (by decide) y)
    | some v =>
      rw [z] at K
      have hv := dg_lt z
      have K : Q σ (some (.inl (nm9 e (if v = 0 then none else some (-(Int32.ofNat v)))))) := K
      have nn : ¬ Int32.ofNat v < 0 := n_n0 (by omega)
      have z0 : (Int32.ofNat v = 0) = (v = 0) := n_inj (b := 0) (by omega) (by omega)
      refine w_M_numberIn_66 (fun y => absurd y nn) (fun _ y => absurd y (by decide)) (fun _ y => absurd y (by decide)) (fun _ y => absurd y (by decide)) (fun _ _ y => ?_) (fun _ _ y h => ?_) (fun _ _ y _ h => ?_) (fun _ _ y h h' => ?_)
      · have y : Int32.ofNat v = 0 := y
        rw [z0] at y; rw [if_pos y] at K; exact K
      · have y : ¬ Int32.ofNat v = 0 := y
        rw [z0] at y; rw [if_neg y] at K; exact (fin _ K).1 h
      · have y : ¬ Int32.ofNat v = 0 := y
        rw [z0] at y; rw [if_neg y] at K; exact (fin _ K).2.1 h
      · have y : ¬ Int32.ofNat v = 0 := y
        rw [z0] at y; rw [if_neg y] at K; exact (fin _ K).2.2 h h'
  · rw [hclw, h5, hcla, h4 a (by omega)] at g
    rw [if_neg g] at K
    rw [hclw, h5, h6]
    refine s_mdg hn hb (by omega) h4 ?_
    cases z : dg r a b with
    | none =>
      rw [z] at K
      exact w_M_numberIn_66 (fun _ => K) (fun y => absurd (by decide) y) (fun y => absurd (by decide) y) (fun y => absurd (by decide) y) (fun y => absurd (by decide) y) (fun y => absurd (by decide) y) (fun y => absurd (by decide) y) (fun y => absurd (by decide) y)
    | some v =>
      rw [z] at K
      have hv := dg_lt z
      have nn : ¬ Int32.ofNat v < 0 := n_n0 (by omega)
      exact w_M_numberIn_66 (fun y => absurd y nn) (fun _ _ h => (fin _ K).1 h) (fun _ _ _ h => (fin _ K).2.1 h) (fun _ _ h h' => (fin _ K).2.2 h h') (fun _ y => absurd rfl y) (fun _ y => absurd rfl y) (fun _ y => absurd rfl y) (fun _ y => absurd rfl y)
