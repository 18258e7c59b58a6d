/-! TELLING: numbers in tens -/
def dg10 (v : Nat) : Nat → List Nat
  | 0 => [48 + v % 10]
  | k + 1 => (48 + v / 10 ^ (k + 1) % 10) :: dg10 v k
def nd (v : Nat) : Nat := if v < 10 then 0 else if v < 100 then 1 else if v < 1000 then 2 else if v < 10000 then 3 else 4
abbrev dN (v : Nat) : List Nat := dg10 v (nd v)
theorem dg10_len (v : Nat) : ∀ k, (dg10 v k).length = k + 1
  | 0 => rfl
  | k + 1 => by
    show (dg10 v k).length + 1 = _
    rw [dg10_len v k]
theorem dg10_lt (v : Nat) : ∀ k, ∀ c ∈ dg10 v k, c < 128
  | 0, c, h => by
    have := List.mem_singleton.mp h
    omega
  | k + 1, c, h => by
    rcases List.mem_cons.mp h with z | z
    · omega
    · exact dg10_lt v k c z
theorem dg10_split (v : Nat) : ∀ k, dg10 v (k + 2) = dg10 (v / 100) k ++ [48 + v / 10 % 10, 48 + v % 10]
  | 0 => rfl
  | k + 1 => by
    show (48 + v / 10 ^ (k + 2 + 1) % 10) :: dg10 v (k + 2) = (48 + v / 100 / 10 ^ (k + 1) % 10) :: (dg10 (v / 100) k ++ [48 + v / 10 % 10, 48 + v % 10])
    rw [dg10_split v k, Nat.div_div_eq_div_mul, show 10 ^ (k + 2 + 1) = 100 * 10 ^ (k + 1) from by rw [show k + 2 + 1 = 2 + (k + 1) by omega, Nat.pow_add]]
theorem nd_split {v : Nat} (h1 : 100 ≤ v) (h2 : v < 100000) : nd v = nd (v / 100) + 2 := by
  unfold nd
  rw [if_neg (by omega), if_neg (by omega)]
  by_cases a : v < 1000
  · rw [if_pos a, if_pos (by omega)]
  · rw [if_neg a, if_neg (show ¬ v / 100 < 10 by omega)]
    by_cases b : v < 10000
    · rw [if_pos b, if_pos (show v / 100 < 100 by omega)]
    · rw [if_neg b, if_neg (show ¬ v / 100 < 100 by omega), if_pos (show v / 100 < 1000 by omega)]
theorem nd_of {v k : Nat} (hk : k ≤ 4) (h1 : v < 10 ^ (k + 1)) (h2 : k = 0 ∨ 10 ^ k ≤ v) : nd v = k := by
  have : k = 0 ∨ k = 1 ∨ k = 2 ∨ k = 3 ∨ k = 4 := by omega
  unfold nd
  rcases this with rfl | rfl | rfl | rfl | rfl
  · have h1 : v < 10 := h1
    rw [if_pos h1]
  · have h1 : v < 100 := h1
    have h2 : 10 ≤ v := h2.resolve_left (by decide)
    rw [if_neg (by omega), if_pos h1]
  · have h1 : v < 1000 := h1
    have h2 : 100 ≤ v := h2.resolve_left (by decide)
    rw [if_neg (by omega), if_neg (by omega), if_pos h1]
  · have h1 : v < 10000 := h1
    have h2 : 1000 ≤ v := h2.resolve_left (by decide)
    rw [if_neg (by omega), if_neg (by omega), if_neg (by omega), if_pos h1]
  · have h2 : 10000 ≤ v := h2.resolve_left (by decide)
    rw [if_neg (by omega), if_neg (by omega), if_neg (by omega), if_neg (by omega)]
theorem nd_le (v : Nat) : nd v ≤ 4 := by
  unfold nd
  split
  · omega
  · split
    · omega
    · split
      · omega
      · split <;> omega
/-- the text of a number -/
def dec (x : Int32) : List Nat := if x.toInt < 0 then 45 :: dN (-x.toInt).toNat else dN x.toInt.toNat
theorem dec_pos {v : Nat} (hv : v < 100000) : dec (Int32.ofNat v) = dN v := by
  unfold dec
  rw [n_toInt (by omega), if_neg (by omega)]
  rfl
theorem z_ng {a : Nat} (h : a < 2147483648) : (-(Int32.ofNat a)).toInt = -(a : Int) := by
  rw [z_neg (by rw [n_toInt h]; omega), n_toInt h]
theorem dec_neg {v : Nat} (h0 : 1 ≤ v) (hv : v < 100000) : dec (-(Int32.ofNat v)) = 45 :: dN v := by
  unfold dec
  rw [z_ng (by omega), if_pos (by omega), Int.neg_neg]
  rfl
theorem i_cases {x : Int32} (h1 : -99999 ≤ x.toInt) (h2 : x.toInt ≤ 99999) : (∃ v, v < 100000 ∧ x = Int32.ofNat v) ∨ ∃ v, 1 ≤ v ∧ v < 100000 ∧ x = -(Int32.ofNat v) := by
  rcases Int.lt_or_le x.toInt 0 with z | z
  · refine Or.inr ⟨(-x.toInt).toNat, by omega, by omega, z_eq.mpr ?_⟩
    rw [z_ng (by omega)]; omega
  · refine Or.inl ⟨x.toInt.toNat, by omega, z_eq.mpr ?_⟩
    rw [n_toInt (by omega)]; omega
theorem dec_len {x : Int32} (h1 : -99999 ≤ x.toInt) (h2 : x.toInt ≤ 99999) : (dec x).length ≤ 6 ∧ ∀ c ∈ dec x, c < 128 := by
  rcases i_cases h1 h2 with ⟨v, hv, rfl⟩ | ⟨v, h0, hv, rfl⟩
  · rw [dec_pos hv]
    have := nd_le v
    exact ⟨by rw [dg10_len]; omega, dg10_lt v _⟩
  · rw [dec_neg h0 hv]
    have := nd_le v
    refine ⟨by rw [List.length_cons, dg10_len]; omega, fun c hc => ?_⟩
    rcases List.mem_cons.mp hc with z | z
    · omega
    · exact dg10_lt v _ c z
theorem z_mul {x y : Int32} (h1 : -2147483648 ≤ x.toInt * y.toInt) (h2 : x.toInt * y.toInt < 2147483648) : (x * y).toInt = x.toInt * y.toInt := by
  rw [Int32.toInt_mul]
  exact Int.bmod_eq_of_le (by omega) (by omega)
theorem ng_le {a b : Nat} (ha : a < 2147483648) (hb : b < 2147483648) : (-(Int32.ofNat a) ≤ -(Int32.ofNat b)) = (b ≤ a) := by
  rw [z_le, z_ng ha, z_ng hb]
  apply propext
  omega
theorem ng_mul10 {P : Nat} (h : P ≤ 1000000) : (10 : Int32) * -(Int32.ofNat P) = -(Int32.ofNat (10 * P)) := by
  apply z_eq.mpr
  have e : (10 : Int32).toInt = 10 := rfl
  rw [z_mul (by rw [e, z_ng (by omega)]; omega) (by rw [e, z_ng (by omega)]; omega), e, z_ng (by omega), z_ng (by omega)]
  omega
theorem ng_div {v : Nat} (h : v < 2147483648) : -(Int32.ofNat v) / 100 = -(Int32.ofNat (v / 100)) := by
  apply z_eq.mpr
  rw [Int32.toInt_div, z_ng h, z_ng (by omega), show (100 : Int32).toInt = 100 from rfl, Int.neg_tdiv, show ((v : Int).tdiv 100) = ((v / 100 : Nat) : Int) from rfl]
  generalize hq : v / 100 = q
  exact Int.bmod_eq_of_le (by omega) (by omega)
theorem ng_rem {v : Nat} (h : v < 100000) : -(Int32.ofNat v) / 100 * 100 - -(Int32.ofNat v) = Int32.ofNat (v % 100) := by
  apply z_eq.mpr
  have e : (100 : Int32).toInt = 100 := rfl
  have em : (-(Int32.ofNat (v / 100)) * 100).toInt = -((v / 100 : Nat) : Int) * 100 := by
    rw [z_mul (by rw [e, z_ng (by omega)]; omega) (by rw [e, z_ng (by omega)]; omega), e, z_ng (by omega)]
  rw [ng_div (by omega), z_sub (by rw [em, z_ng (by omega)]; omega) (by rw [em, z_ng (by omega)]; omega), em, z_ng (by omega), n_toInt (by omega)]
  omega
theorem s_ssz {σ : st_S} {v d : Nat} (hv : v < 100000) (hd : d ≤ 1) {Q : st_S → Option eg_V → Prop} (K : Q σ (some (.inl (Int32.ofNat (nd v + 1 + d))))) : ∀ f k, k + f = 4 → (k = 0 ∨ 10 ^ k ≤ v) →
    pw_E 170 16 σ (0, 0) [(0, .inl (-(Int32.ofNat v))), (1, .inl (Int32.ofNat d)), (2, .inl (-(Int32.ofNat (10 ^ (k + 1))))), (3, .inl (Int32.ofNat (k + 1)))] [] Q := by
  have pw : ∀ k, k ≤ 4 → 10 ^ (k + 1) ≤ 100000 := fun k hk => by
    have : k = 0 ∨ k = 1 ∨ k = 2 ∨ k = 3 ∨ k = 4 := by omega
    rcases this with rfl | rfl | rfl | rfl | rfl <;> decide
  have fin : ∀ k, k ≤ 4 → (k = 0 ∨ 10 ^ k ≤ v) → ¬ -(Int32.ofNat v) ≤ -(Int32.ofNat (10 ^ (k + 1))) → Q σ (some (.inl (Int32.ofNat (k + 1) + Int32.ofNat d))) := fun k hk h z => by
    have := pw k hk
    rw [ng_le (by omega) (by omega)] at z
    rw [n_add, ← nd_of hk (by omega) h]
    exact K
  intro f
  induction f with
  | zero =>
    intro k hk h
    have : k = 4 := by omega
    subst this
    have h10 : ¬ (10 : Int32) ≤ Int32.ofNat (4 + 1) := by decide
    have hn : ¬ -(Int32.ofNat v) ≤ -(Int32.ofNat (10 ^ (4 + 1))) := by
      rw [ng_le (by omega) (by decide)]
      show ¬ 100000 ≤ v
      omega
    exact w_Integer_stringSize_16 (fun z => absurd z h10) (fun _ z => absurd z hn) (fun _ z => fin 4 (by omega) h z)
  | succ f ih =>
    intro k hk h
    have hp := pw k (by omega)
    have h10 : ¬ (10 : Int32) ≤ Int32.ofNat (k + 1) := by rw [show (10 : Int32) = Int32.ofNat 10 from rfl, n_le (by omega) (by omega)]; omega
    refine w_Integer_stringSize_16 (fun z => absurd z h10) (fun _ z => ?_) (fun _ z => fin k (by omega) h z)
    rw [ng_le (by omega) (by omega)] at z
    rw [ng_mul10 (by omega), show 10 * 10 ^ (k + 1) = 10 ^ (k + 1 + 1) from by rw [Nat.pow_succ (n := 10) (m := k + 1), Nat.mul_comm], show Int32.ofNat (k + 1) + 1 = Int32.ofNat (k + 1 + 1) from n_add _ 1]
    exact ih (k + 1) (by omega) (Or.inr z)
theorem k_dig : ∀ r, r < 100 → (Int32.toInt8 (kd_ones r)).toInt32 = Int32.ofNat (48 + r % 10) ∧ (Int32.toInt8 (kd_tens r)).toInt32 = Int32.ofNat (48 + r / 10) := by decide +kernel
def sgl (s : Bool) : List Nat := if s = true then [45] else []
theorem m1_sub {p : Nat} (h : 1 ≤ p) : Int32.ofNat p + (-1) = Int32.ofNat (p - 1) := by
  rw [show Int32.ofNat p + (-1) = Int32.ofNat p - Int32.ofNat 1 from (Int32.sub_eq_add_neg ..).symm, n_sub h]
theorem s_gch0 {σ0 σ : st_S} {cur p v s0 : Nat} {s : Bool} {l : List Nat} (hv : v < 100) (hp : p = s0 + (sgl s ++ dN v).length) (hcap : p ≤ σ.2.2.1 cur) (h200 : σ.2.2.1 cur ≤ 200) (hw : WR cur p l σ0 σ) {Q : st_S → Option eg_V → Prop} (K : ∀ σ' y, WR cur s0 (sgl s ++ dN v ++ l) σ0 σ' → Q σ' (some (.inl y))) :
    pw_E 171 22 σ (0, 0) [(0, .inl (-(Int32.ofNat v))), (2, .inr (25, cur)), (5, .inl (Int32.ofNat p)), (6, .inl (tx_b s))] [] Q := by
  have hlt : (-100 : Int32) < -(Int32.ofNat v) := by
    rw [z_lt, z_ng (by omega)]
    show (-100 : Int) < _
    omega
  have c9 : ((-9 : Int32) ≤ -(Int32.ofNat v)) = (v < 10) := by
    rw [z_le, z_ng (by omega)]
    apply propext
    show (-9 : Int) ≤ _ ↔ _
    omega
  have hneg : -(-(Int32.ofNat v)) = Int32.ofNat v := Int32.neg_neg
  have hcl : (Int32.ofNat v).toNatClampNeg = v := n_cl (by omega)
  have hlen : (sgl s ++ dN v).length = (if s = true then 1 else 0) + (nd v + 1) := by
    rw [List.length_append, dg10_len]
    cases s <;> rfl
  rw [hlen] at hp
  obtain ⟨k1, k2⟩ := k_dig v hv
  have p1 : 1 ≤ p := by omega
  by_cases h10 : v < 10
  · have hnd : nd v = 0 := by unfold nd; rw [if_pos h10]
    have hdN : dN v = [48 + v % 10] := by show dg10 v (nd v) = _; rw [hnd]; rfl
    rw [hnd] at hp
    cases s with
    | false =>
      have hp : p = s0 + 1 := by rw [hp, if_neg (by decide)]
      have h9 : (-9 : Int32) ≤ -(Int32.ofNat v) := by rw [c9]; exact h10
      refine w_Integer_getChars_22 (fun _ => by rw [hneg]; exact n_inb hv (by omega)) (fun _ => by rw [m1_sub p1]; exact n_inb (by omega) (by omega)) (fun _ _ _ => ?_) (fun _ _ z => absurd rfl z) (fun _ _ z => absurd rfl z) (fun _ z => absurd h9 z) (fun _ z => absurd h9 z) (fun _ z => absurd h9 z) (fun _ z => absurd h9 z) (fun z => absurd hlt z) (fun z => absurd hlt z) (fun z => absurd hlt z) (fun z => absurd hlt z)
      rw [hneg, hcl, k1, m1_sub p1, n_cl (by omega), show p - 1 = s0 by omega]
      refine K _ _ ?_
      rw [hdN]
      rw [hp] at hw
      exact WR_cons hw
    | true =>
      have hp : p = s0 + 2 := by rw [hp, if_pos rfl]
      have h9 : (-9 : Int32) ≤ -(Int32.ofNat v) := by rw [c9]; exact h10
      refine w_Integer_getChars_22 (fun _ => by rw [hneg]; exact n_inb hv (by omega)) (fun _ => by rw [m1_sub p1]; exact n_inb (by omega) (by omega)) (fun _ _ z => absurd z (by decide)) (fun _ _ _ => by rw [m1_sub p1, m1_sub (by omega)]; exact n_inb (by omega) (by omega)) (fun _ _ _ => ?_) (fun _ z => absurd h9 z) (fun _ z => absurd h9 z) (fun _ z => absurd h9 z) (fun _ z => absurd h9 z) (fun z => absurd hlt z) (fun z => absurd hlt z) (fun z => absurd hlt z) (fun z => absurd hlt z)
      rw [hneg, hcl, k1, m1_sub p1, m1_sub (by omega), n_cl (by omega), n_cl (by omega), show p - 1 - 1 = s0 by omega, show p - 1 = s0 + 1 by omega]
      refine K _ _ ?_
      rw [hdN]
      rw [hp] at hw
      exact WR_cons (c := 45) (WR_cons hw)
  · have hnd : nd v = 1 := by unfold nd; rw [if_neg h10, if_pos hv]
    have hdN : dN v = [48 + v / 10, 48 + v % 10] := by
      show dg10 v (nd v) = _
      rw [hnd]
      show [48 + v / 10 ^ 1 % 10, 48 + v % 10] = _
      rw [show v / 10 ^ 1 % 10 = v / 10 by simp only [Nat.pow_one]; omega]
    rw [hnd] at hp
    have h9 : ¬ (-9 : Int32) ≤ -(Int32.ofNat v) := by rw [c9]; exact h10
    cases s with
    | false =>
      have hp : p = s0 + 2 := by rw [hp, if_neg (by decide)]
      refine w_Integer_getChars_22 (fun _ => by rw [hneg]; exact n_inb hv (by omega)) (fun _ => by rw [m1_sub p1]; exact n_inb (by omega) (by omega)) (fun _ z => absurd z h9) (fun _ z => absurd z h9) (fun _ z => absurd z h9) (fun _ _ => by rw [m1_sub p1, m1_sub (by omega)]; exact n_inb (by omega) (by omega)) (fun _ _ _ => ?_) (fun _ _ z => absurd rfl z) (fun _ _ z => absurd rfl z) (fun z => absurd hlt z) (fun z => absurd hlt z) (fun z => absurd hlt z) (fun z => absurd hlt z)
      rw [hneg, hcl, k1, k2, m1_sub p1, m1_sub (by omega), n_cl (by omega), n_cl (by omega), show p - 1 - 1 = s0 by omega, show p - 1 = s0 + 1 by omega]
      refine K _ _ ?_
      rw [hdN]
      rw [hp] at hw
      exact WR_cons (WR_cons hw)
    | true =>
      have hp : p = s0 + 3 := by rw [hp, if_pos rfl]
      refine w_Integer_getChars_22 (fun _ => by rw [hneg]; exact n_inb hv (by omega)) (fun _ => by rw [m1_sub p1]; exact n_inb (by omega) (by omega)) (fun _ z => absurd z h9) (fun _ z => absurd z h9) (fun _ z => absurd z h9) (fun _ _ => by rw [m1_sub p1, m1_sub (by omega)]; exact n_inb (by omega) (by omega)) (fun _ _ z => absurd z (by decide)) (fun _ _ _ => by rw [m1_sub p1, m1_sub (by omega), m1_sub (by omega)]; exact n_inb (by omega) (by omega)) (fun _ _ _ => ?_) (fun z => absurd hlt z) (fun z => absurd hlt z) (fun z => absurd hlt z) (fun z => absurd hlt z)
      rw [hneg, hcl, k1, k2, m1_sub p1, m1_sub (by omega), m1_sub (by omega), n_cl (by omega), n_cl (by omega), n_cl (by omega), show p - 1 - 1 - 1 = s0 by omega, show p - 1 - 1 = s0 + 1 by omega, show p - 1 = s0 + 1 + 1 by omega]
      refine K _ _ ?_
      rw [hdN]
      rw [hp] at hw
      exact WR_cons (c := 45) (WR_cons (WR_cons hw))
theorem s_gchS {σ0 σ : st_S} {cur p v : Nat} {s : Bool} {l : List Nat} (h100 : 100 ≤ v) (hv : v < 100000) (hp : 2 ≤ p) (hcap : p ≤ σ.2.2.1 cur) (h200 : σ.2.2.1 cur ≤ 200) (hw : WR cur p l σ0 σ) {Q : st_S → Option eg_V → Prop}
    (K : ∀ σ', σ'.2 = σ.2 → WR cur (p - 2) ([48 + v / 10 % 10, 48 + v % 10] ++ l) σ0 σ' → pw_E 171 22 σ' (0, 0) [(0, .inl (-(Int32.ofNat (v / 100)))), (2, .inr (25, cur)), (5, .inl (Int32.ofNat (p - 2))), (6, .inl (tx_b s))] [] Q) :
    pw_E 171 22 σ (0, 0) [(0, .inl (-(Int32.ofNat v))), (2, .inr (25, cur)), (5, .inl (Int32.ofNat p)), (6, .inl (tx_b s))] [] Q := by
  have hlt : ¬ (-100 : Int32) < -(Int32.ofNat v) := by
    rw [z_lt, z_ng (by omega)]
    show ¬ (-100 : Int) < _
    omega
  obtain ⟨k1, k2⟩ := k_dig (v % 100) (by omega)
  refine w_Integer_getChars_22 (fun z => absurd z hlt) (fun z => absurd z hlt) (fun z => absurd z hlt) (fun z => absurd z hlt) (fun z => absurd z hlt) (fun z => absurd z hlt) (fun z => absurd z hlt) (fun z => absurd z hlt) (fun z => absurd z hlt) (fun _ => by rw [ng_rem hv]; exact n_inb (by omega) (by omega)) (fun _ => by rw [m1_sub (by omega)]; exact n_inb (by omega) (by omega)) (fun _ => by rw [m1_sub (by omega), m1_sub (by omega)]; exact n_inb (by omega) (by omega)) (fun _ => ?_)
  rw [ng_rem hv, ng_div (by omega), n_cl (a := v % 100) (by omega), k1, k2, m1_sub (by omega), m1_sub (by omega), n_cl (by omega), n_cl (by omega), show p - 1 - 1 = p - 2 by omega, show p - 1 = p - 2 + 1 by omega, show v % 100 % 10 = v % 10 by omega, show v % 100 / 10 = v / 10 % 10 by omega]
  refine K _ rfl ?_
  have hw' : WR cur (p - 2 + 1 + 1) l σ0 σ := by rw [show p - 2 + 1 + 1 = p by omega]; exact hw
  exact WR_cons (WR_cons hw')
theorem s_gch {σ : st_S} {cur p v s0 : Nat} {s : Bool} (hv : v < 100000) (hp : p = s0 + (sgl s ++ dN v).length) (hcap : p ≤ σ.2.2.1 cur) (h200 : σ.2.2.1 cur ≤ 200) {Q : st_S → Option eg_V → Prop} (K : ∀ σ' y, WR cur s0 (sgl s ++ dN v) σ σ' → Q σ' (some (.inl y))) :
    pw_E 171 22 σ (0, 0) [(0, .inl (-(Int32.ofNat v))), (2, .inr (25, cur)), (5, .inl (Int32.ofNat p)), (6, .inl (tx_b s))] [] Q := by
  have hsp : ∀ u, 100 ≤ u → u < 100000 → dN u = dN (u / 100) ++ [48 + u / 10 % 10, 48 + u % 10] := fun u h1 h2 => by
    show dg10 u (nd u) = _
    rw [nd_split h1 h2, dg10_split]
  by_cases h1 : v < 100
  · exact s_gch0 (l := []) h1 hp hcap h200 WR_nil (fun σ' y h => K σ' y (by rw [List.append_nil] at h; exact h))
  · have e1 := hsp v (by omega) hv
    have l1 : (sgl s ++ dN v).length = (sgl s ++ dN (v / 100)).length + 2 := by rw [e1, ← List.append_assoc, List.length_append]; rfl
    rw [l1] at hp
    refine s_gchS (σ0 := σ) (l := []) (by omega) hv (by omega) hcap h200 WR_nil (fun σ1 q1 w1 => ?_)
    rw [List.append_nil] at w1
    by_cases h2 : v / 100 < 100
    · refine s_gch0 (s0 := s0) h2 (by omega) (by rw [q1]; omega) (by rw [q1]; exact h200) w1 (fun σ' y h => K σ' y ?_)
      rw [e1, ← List.append_assoc]; exact h
    · have e2 := hsp (v / 100) (by omega) (by omega)
      have l2 : (sgl s ++ dN (v / 100)).length = (sgl s ++ dN (v / 100 / 100)).length + 2 := by rw [e2, ← List.append_assoc, List.length_append]; rfl
      refine s_gchS (σ0 := σ) (by omega) (by omega) (by omega) (by rw [q1]; omega) (by rw [q1]; exact h200) w1 (fun σ2 q2 w2 => ?_)
      refine s_gch0 (s0 := s0) (by omega) (by omega) (by rw [q2, q1]; omega) (by rw [q2, q1]; exact h200) w2 (fun σ' y h => K σ' y ?_)
      rw [e1, e2, ← List.append_assoc, ← List.append_assoc, List.append_assoc (sgl s ++ dN (v / 100 / 100))]; exact h
/-- the class appends a number -/
theorem s_appi {t : List Nat} {σ : st_S} {x : Int32} (hB : BU t σ) (h1 : -99999 ≤ x.toInt) (h2 : x.toInt ≤ 99999) (hl : t.length + 6 ≤ 60) {Q : st_S → Option eg_V → Prop} (K : ∀ σ', fbb σ σ' → BU (t ++ dec x) σ' → Q σ' (some (.inr (24, 0)))) : pw_E 151 0 σ (0, 0) [(0, .inr (24, 0)), (1, .inl x)] [] Q := by
  have dl := dec_len h1 h2
  obtain ⟨v, s, hv, hs0, hx0, hxs, hdec⟩ : ∃ (v : Nat) (s : Bool), v < 100000 ∧ (s = false → x = Int32.ofNat v) ∧ (s = true → x = -(Int32.ofNat v) ∧ 1 ≤ v) ∧ (s = true ∨ s = false) ∧ dec x = sgl s ++ dN v := by
    rcases i_cases h1 h2 with ⟨v, hv, rfl⟩ | ⟨v, h0, hv, rfl⟩
    · exact ⟨v, false, hv, fun _ => rfl, fun z => (by cases z), Or.inr rfl, dec_pos hv⟩
    · exact ⟨v, true, hv, fun z => (by cases z), fun _ => ⟨rfl, h0⟩, Or.inl rfl, dec_neg h0 hv⟩
  have hlen : (sgl s ++ dN v).length = nd v + 1 + (if s = true then 1 else 0) := by
    rw [List.length_append, dg10_len]
    cases s with
    | true => show 1 + (nd v + 1) = _; rw [if_pos rfl]; omega
    | false => show 0 + (nd v + 1) = _; rw [if_neg (by decide)]; omega
  rw [hdec] at dl
  refine w_SB_append2_0 (w_ASB_append2_0 ?_)
  have rest : pw_E 158 10 σ (0, 0) [(0, .inr (24, 0)), (1, .inl x), (2, .inl (σ.1 24 0 3))] [.inl (Int32.ofNat (sgl s ++ dN v).length), .inl (σ.1 24 0 3)] (fun σ1 r1 => pw_E 151 5 σ1 (1, 200) [(0, .inr (24, 0))] (r1.toList ++ []) Q) := by
    refine w_ASB_append2_10 rfl ?_
    rw [hB.2.2.1, n_add]
    refine s_ens hB (by omega) (fun σ1 f1 B1 r1 => ?_)
    have c0 := B1.1.1
    have hcap := B1.1.2.2.2.1
    refine w_ASB_append2_17 rfl (fun _ => ?_) (fun z => absurd c0 z)
    have fin : ∀ σ2 y, WR σ1.2.2.2.1 t.length (sgl s ++ dN v) σ1 σ2 → pw_E 158 33 σ2 (1, 200) [(0, .inr (24, 0)), (3, .inl (Int32.ofNat (t.length + (sgl s ++ dN v).length)))] [.inl y] (fun σ1 r1 => pw_E 151 5 σ1 (1, 200) [(0, .inr (24, 0))] (r1.toList ++ []) Q) := fun σ2 y hw => by
      have := BU_WR (x := Int32.ofNat (t.length + (sgl s ++ dN v).length)) B1 hw dl.2 r1 rfl
      rw [← hdec] at this
      refine w_ASB_append2_33 (w_SB_append2_5 (K _ (fbb_tr f1 ?_) ?_))
      · rw [← hdec]; exact this.2
      · rw [← hdec]; exact this.1
    have go := s_gch (σ := σ1) (cur := σ1.2.2.2.1) (s := s) hv rfl r1 hcap (Q := fun σ1 r1 => pw_E 158 33 σ1 (1, 200) [(0, .inr (24, 0)), (3, .inl (Int32.ofNat (t.length + (sgl s ++ dN v).length)))] (r1.toList ++ []) (fun σ1 r1 => pw_E 151 5 σ1 (1, 200) [(0, .inr (24, 0))] (r1.toList ++ []) Q)) fin
    cases s with
    | false =>
      rw [hs0 rfl]
      refine w_Integer_getChars_0 (fun _ => go) (fun z => absurd (n_0le (by omega)) z)
    | true =>
      obtain ⟨hx, h0⟩ := hx0 rfl
      rw [hx]
      refine w_Integer_getChars_0 (fun z => ?_) (fun _ => go)
      rw [z_le, z_ng (by omega)] at z
      have z : (0 : Int) ≤ _ := z
      omega
  cases s with
  | false =>
    rw [hs0 rfl] at rest ⊢
    rw [hlen, if_neg (by decide)] at rest
    exact w_Integer_stringSize_0 (fun z => absurd z (n_n0 (by omega))) (fun _ => s_ssz (d := 0) hv (by omega) rest 4 0 (by omega) (Or.inl rfl))
  | true =>
    obtain ⟨hx, h0⟩ := hx0 rfl
    rw [hx] at rest ⊢
    rw [hlen, if_pos rfl] at rest
    refine w_Integer_stringSize_0 (fun _ => s_ssz (d := 1) hv (by omega) rest 4 0 (by omega) (Or.inl rfl)) (fun z => absurd ?_ z)
    rw [z_lt, z_ng (by omega)]
    show _ < (0 : Int)
    omega
/-! the reference's letters -/
def TU (t : List Nat) (σ : st_S) : Prop := σ.1 26 0 39 = Int32.ofNat t.length ∧ ∀ j, j < t.length → σ.1 45 0 j = Int32.ofNat (t.getD j 0)
abbrev fp_T : List (Nat × Nat) := [(45, 999), (26, 39)]
theorem s_letter {t : List Nat} {σ : st_S} {c : Nat} (hT : TU t σ) (hl : t.length < 80) {Q : st_S → Option eg_V → Prop} (K : ∀ σ', fr fp_T σ σ' → TU (t ++ [c]) σ' → Q σ' none) : pw_E 125 0 σ (0, 0) [(0, .inr (26, 0)), (1, .inl (Int32.ofNat c))] [] Q := by
  refine w_M_letter_0 (by rw [hT.1]; exact n_inb hl (by omega)) ?_
  rw [hT.1, n_cl (by omega), show Int32.ofNat t.length + 1 = Int32.ofNat (t.length + 1) from n_add _ 1]
  refine K _ (fr_up (fr_up fr_rf rfl) rfl) ⟨by rw [List.length_append]; exact up_eq .., fun j hj => ?_⟩
  rw [List.length_append] at hj
  have hj : j < t.length + 1 := hj
  rw [up_k (by decide), l_getD_app]
  by_cases hlt : j < t.length
  · rw [if_pos hlt, up_j (by omega)]; exact hT.2 j hlt
  · have : j = t.length := by omega
    rw [if_neg hlt, this, Nat.sub_self]; exact up_eq ..
theorem s_m39 {v : Nat} (hv : v < 100000) {Q : st_S → Option eg_V → Prop} : ∀ k (t : List Nat) (σ : st_S), k ≤ 4 → t.length + k + 1 ≤ 70 → TU t σ → (∀ σ', fr fp_T σ σ' → TU (t ++ dg10 v k) σ' → Q σ' none) →
    pw_E 127 39 σ (0, 0) [(0, .inr (26, 0)), (2, .inl (Int32.ofNat (10 ^ k))), (3, .inl (Int32.ofNat v))] [] Q := by
  have pw : ∀ k, k ≤ 4 → 1 ≤ 10 ^ k ∧ 10 ^ k ≤ 10000 := fun k hk => by
    have : k = 0 ∨ k = 1 ∨ k = 2 ∨ k = 3 ∨ k = 4 := by omega
    rcases this with rfl | rfl | rfl | rfl | rfl <;> decide
  intro k
  induction k with
  | zero =>
    intro t σ _ hl hT K
    have hn : ¬ Int32.ofNat (10 ^ 0) ≤ 0 := by decide
    refine w_M_tell_39 (fun z => absurd z hn) (fun _ => by decide) (fun _ => ?_)
    have hq : Int32.ofNat v / Int32.ofNat (10 ^ 0) = Int32.ofNat v := by rw [n_div (by omega) (by decide), Nat.pow_zero, Nat.div_one]
    rw [hq, show Int32.ofNat v - Int32.ofNat v / 10 * 10 = Int32.ofNat (v % 10) from n_rem (b := 10) (by omega) (by omega), show (48 : Int32) = Int32.ofNat 48 from rfl, n_add]
    refine s_letter hT (by omega) (fun σ1 f1 T1 => w_M_tell_56 ?_)
    rw [show Int32.ofNat (10 ^ 0) / 10 = 0 from by decide]
    exact w_M_tell_39 (fun _ => K σ1 f1 T1) (fun z => absurd (by decide) z) (fun z => absurd (by decide) z)
  | succ k ih =>
    intro t σ hk hl hT K
    obtain ⟨p1, p2⟩ := pw (k + 1) hk
    have hn : ¬ Int32.ofNat (10 ^ (k + 1)) ≤ 0 := by rw [show (0 : Int32) = Int32.ofNat 0 from rfl, n_le (by omega) (by omega)]; omega
    have hn0 : ¬ Int32.ofNat (10 ^ (k + 1)) = 0 := by rw [show (0 : Int32) = Int32.ofNat 0 from rfl, n_inj (by omega) (by omega)]; omega
    refine w_M_tell_39 (fun z => absurd z hn) (fun _ => by rw [decide_eq_false hn0]; rfl) (fun _ => ?_)
    have hq : v / 10 ^ (k + 1) ≤ v := Nat.div_le_self _ _
    rw [n_div (by omega) (by omega), show Int32.ofNat (v / 10 ^ (k + 1)) - Int32.ofNat (v / 10 ^ (k + 1)) / 10 * 10 = Int32.ofNat (v / 10 ^ (k + 1) % 10) from n_rem (b := 10) (by omega) (by omega), show (48 : Int32) = Int32.ofNat 48 from rfl, n_add]
    refine s_letter hT (by omega) (fun σ1 f1 T1 => w_M_tell_56 ?_)
    rw [show Int32.ofNat (10 ^ (k + 1)) / 10 = Int32.ofNat (10 ^ k) from by rw [show (10 : Int32) = Int32.ofNat 10 from rfl, n_div (by omega) (by omega), Nat.pow_succ, Nat.mul_div_cancel _ (by omega)]]
    refine ih (t ++ [48 + v / 10 ^ (k + 1) % 10]) σ1 (by omega) (by rw [List.length_append]; show t.length + 1 + k + 1 ≤ 70; omega) T1 (fun σ' f T => K σ' (fr_tr f1 f) ?_)
    rw [List.append_assoc] at T; exact T
theorem s_m23 {v : Nat} (hv : v < 100000) {t : List Nat} {σ : st_S} (hl : t.length + 5 ≤ 70) (hT : TU t σ) {Q : st_S → Option eg_V → Prop} (K : ∀ σ', fr fp_T σ σ' → TU (t ++ dN v) σ' → Q σ' none) : ∀ f k, k + f = 4 → (k = 0 ∨ 10 ^ k ≤ v) →
    pw_E 127 23 σ (0, 0) [(0, .inr (26, 0)), (2, .inl (Int32.ofNat (10 ^ k))), (3, .inl (Int32.ofNat v))] [] Q := by
  have pw : ∀ k, k ≤ 4 → 1 ≤ 10 ^ k ∧ 10 ^ k ≤ 10000 := fun k hk => by
    have : k = 0 ∨ k = 1 ∨ k = 2 ∨ k = 3 ∨ k = 4 := by omega
    rcases this with rfl | rfl | rfl | rfl | rfl <;> decide
  have nz : ∀ k, k ≤ 4 → (!(decide (Int32.ofNat (10 ^ k) = 0))) = true := fun k hk => by
    obtain ⟨p1, p2⟩ := pw k hk
    rw [decide_eq_false (by rw [show (0 : Int32) = Int32.ofNat 0 from rfl, n_inj (by omega) (by omega)]; omega)]; rfl
  have lt10 : ∀ k, k ≤ 4 → ((Int32.ofNat v / Int32.ofNat (10 ^ k) < (10 : Int32)) = (v < 10 ^ (k + 1))) := fun k hk => by
    obtain ⟨p1, p2⟩ := pw k hk
    have hq : v / 10 ^ k ≤ v := Nat.div_le_self _ _
    rw [n_div (by omega) (by omega), show (10 : Int32) = Int32.ofNat 10 from rfl, n_lt (by omega) (by omega), Nat.div_lt_iff_lt_mul (by omega), Nat.pow_succ, Nat.mul_comm]
  have fin : ∀ k, k ≤ 4 → (k = 0 ∨ 10 ^ k ≤ v) → v < 10 ^ (k + 1) → pw_E 127 39 σ (0, 0) [(0, .inr (26, 0)), (2, .inl (Int32.ofNat (10 ^ k))), (3, .inl (Int32.ofNat v))] [] Q := fun k hk h1 h2 => by
    refine s_m39 hv k t σ hk (by omega) hT (fun σ' f T => K σ' f ?_)
    show TU (t ++ dg10 v (nd v)) σ'
    rw [nd_of hk h2 h1]; exact T
  intro f
  induction f with
  | zero =>
    intro k hk h
    have : k = 4 := by omega
    subst this
    have hlt : v < 10 ^ (4 + 1) := hv
    exact w_M_tell_23 (nz 4 (by omega)) (fun _ => fin 4 (by omega) h hlt) (fun z => absurd (by rw [lt10 4 (by omega)]; exact hlt) z)
  | succ f ih =>
    intro k hk h
    refine w_M_tell_23 (nz k (by omega)) (fun z => ?_) (fun z => ?_)
    · rw [lt10 k (by omega)] at z
      exact fin k (by omega) h z
    · rw [lt10 k (by omega)] at z
      rw [show Int32.ofNat (10 ^ k) * 10 = Int32.ofNat (10 ^ (k + 1)) from by rw [show (10 : Int32) = Int32.ofNat 10 from rfl, n_mul, Nat.pow_succ]]
      exact ih (k + 1) (by omega) (Or.inr (by omega))
/-- the reference tells a number -/
theorem s_mtell {t : List Nat} {σ : st_S} {x : Int32} (hT : TU t σ) (h1 : -99999 ≤ x.toInt) (h2 : x.toInt ≤ 99999) (hl : t.length + 6 ≤ 70) {Q : st_S → Option eg_V → Prop} (K : ∀ σ', fr fp_T σ σ' → TU (t ++ dec x) σ' → Q σ' none) : pw_E 127 0 σ (0, 0) [(0, .inr (26, 0)), (1, .inl x)] [] Q := by
  rcases i_cases h1 h2 with ⟨v, hv, rfl⟩ | ⟨v, h0, hv, rfl⟩
  · rw [dec_pos hv] at K
    exact w_M_tell_0 (fun _ => s_m23 hv (by omega) hT K 4 0 (by omega) (Or.inl rfl)) (fun z => absurd (n_0le (by omega)) z)
  · rw [dec_neg h0 hv] at K
    refine w_M_tell_0 (fun z => ?_) (fun _ => ?_)
    · rw [z_le, z_ng (by omega)] at z
      have z : (0 : Int) ≤ _ := z
      omega
    · rw [Int32.neg_neg]
      refine s_letter (c := 45) hT (by omega) (fun σ1 f1 T1 => s_m23 hv (by rw [List.length_append]; show t.length + 1 + 5 ≤ 70; omega) T1 (fun σ' f T => K σ' (fr_tr f1 f) ?_) 4 0 (by omega) (Or.inl rfl))
      rw [List.append_assoc] at T; exact T
