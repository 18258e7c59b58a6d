/-! LINES: which kind a word names -/
def b27 : List Nat → Nat → Nat
  | [], acc => acc
  | x :: l, acc => b27 l (27 * acc + x)
theorem b27_snoc : ∀ l x acc, b27 (l ++ [x]) acc = 27 * b27 l acc + x
  | [], _, _ => rfl
  | y :: l, x, acc => b27_snoc l x (27 * acc + y)
theorem l_snoc : ∀ l : List Nat, l = [] ∨ ∃ l' x, l = l' ++ [x]
  | [] => Or.inl rfl
  | a :: l => by
    rcases l_snoc l with h | ⟨l', x, h⟩
    · exact Or.inr ⟨[], a, by rw [h]; rfl⟩
    · exact Or.inr ⟨a :: l', x, by rw [h]; rfl⟩
def dgs (l : List Nat) : Prop := ∀ x ∈ l, 1 ≤ x ∧ x ≤ 26
theorem b27_inj : ∀ N (l l' : List Nat), l.length ≤ N → dgs l → dgs l' → b27 l 0 = b27 l' 0 → l = l' := by
  intro N
  induction N with
  | zero =>
    intro l l' h0 h1 h2 h
    have : l = [] := List.length_eq_zero_iff.mp (by omega)
    subst this
    rcases l_snoc l' with z | ⟨m, x, z⟩
    · exact z.symm
    · subst z
      rw [b27_snoc] at h
      have := h2 x (List.mem_append_right _ List.mem_cons_self)
      have h : 0 = 27 * b27 m 0 + x := h
      omega
  | succ N ih =>
    intro l l' h0 h1 h2 h
    rcases l_snoc l with z | ⟨m, x, z⟩
    · subst z
      rcases l_snoc l' with y | ⟨m, x, y⟩
      · exact y.symm
      · subst y
        rw [b27_snoc] at h
        have := h2 x (List.mem_append_right _ List.mem_cons_self)
        have h : 0 = 27 * b27 m 0 + x := h
        omega
    · subst z
      have hx := h1 x (List.mem_append_right _ List.mem_cons_self)
      rcases l_snoc l' with y | ⟨m', x', y⟩
      · subst y
        rw [b27_snoc] at h
        have h : 27 * b27 m 0 + x = 0 := h
        omega
      · subst y
        have hx' := h2 x' (List.mem_append_right _ List.mem_cons_self)
        rw [b27_snoc, b27_snoc] at h
        have e1 : x = x' := by omega
        have e2 : b27 m 0 = b27 m' 0 := by omega
        rw [List.length_append] at h0
        have hl : m.length ≤ N := by
          have : [x].length = 1 := rfl
          omega
        rw [ih m m' hl (fun y hy => h1 y (List.mem_append_left _ hy)) (fun y hy => h2 y (List.mem_append_left _ hy)) e2, e1]
theorem ltv_iff {r : Nat → Int32} : ∀ d i acc v, ltv r d i acc = some v ↔ ∃ ds : List Nat, ds.length = d ∧ dgs ds ∧ (∀ j, j < d → r (i + j) = Int32.ofNat (96 + ds.getD j 0)) ∧ v = b27 ds acc
  | 0, i, acc, v => by
    constructor
    · intro h; cases h
      exact ⟨[], rfl, fun x hx => (nomatch hx), fun j hj => absurd hj (Nat.not_lt_zero j), rfl⟩
    · rintro ⟨ds, h1, -, -, h4⟩
      have : ds = [] := List.length_eq_zero_iff.mp h1
      subst this
      rw [h4]; rfl
  | d + 1, i, acc, v => by
    have hs : ltv r (d + 1) i acc = if r i < 97 ∨ (122 : Int32) < r i then none else ltv r d (i + 1) (27 * acc + (r i).toNatClampNeg - 96) := rfl
    rw [hs]
    constructor
    · intro h
      by_cases hc : r i < 97 ∨ (122 : Int32) < r i
      · rw [if_pos hc] at h; cases h
      · rw [if_neg hc] at h
        obtain ⟨c, q1, q2, q3⟩ := ch_of (lo := 97) (hi := 122) (by omega) (by omega) (fun z => hc (Or.inl z)) (fun z => hc (Or.inr z))
        rw [q3, n_cl (by omega)] at h
        obtain ⟨ds, h1, h2, h3, h4⟩ := (ltv_iff d (i + 1) _ v).mp h
        refine ⟨(c - 96) :: ds, by rw [List.length_cons, h1], fun x hx => ?_, fun j hj => ?_, ?_⟩
        · rcases List.mem_cons.mp hx with z | z
          · rw [z]; omega
          · exact h2 x z
        · cases j with
          | zero =>
            rw [Nat.add_zero, q3, List.getD_cons_zero]; congr 1; omega
          | succ j =>
            rw [List.getD_cons_succ, ← h3 j (by omega)]
            congr 1; omega
        · rw [h4, show 27 * acc + c - 96 = 27 * acc + (c - 96) by omega]; rfl
    · rintro ⟨ds, h1, h2, h3, h4⟩
      cases ds with
      | nil => cases h1
      | cons x ds =>
        have hx := h2 x List.mem_cons_self
        have hr := h3 0 (by omega)
        rw [Nat.add_zero, List.getD_cons_zero] at hr
        have hc : ¬ (r i < 97 ∨ (122 : Int32) < r i) := by
          rw [hr, show (97 : Int32) = Int32.ofNat 97 from rfl, show (122 : Int32) = Int32.ofNat 122 from rfl, n_lt (by omega) (by omega), n_lt (by omega) (by omega)]
          omega
        rw [if_neg hc, hr, n_cl (by omega)]
        refine (ltv_iff d (i + 1) _ v).mpr ⟨ds, by rw [List.length_cons] at h1; omega, fun y hy => h2 y (List.mem_cons_of_mem _ hy), fun j hj => ?_, ?_⟩
        · have := h3 (j + 1) (by omega)
          rw [List.getD_cons_succ] at this
          rw [← this]; congr 1; omega
        · rw [h4, show 27 * acc + (96 + x) - 96 = 27 * acc + x by omega]; rfl
def kz (k : Nat) : List Nat := ([[14, 15, 16], [13, 15, 22, 5], [18, 5, 20], [3, 15, 14, 19, 20], [3, 15, 14, 19, 20], [1, 4, 4], [19, 21, 2], [13, 21, 12], [1, 4, 4, 9], [10, 21, 13, 16], [10, 21, 13, 16], [10, 5, 17], [10, 12, 20], [10, 26], [20, 1, 2, 12, 5], [3, 1, 19, 5, 19]] : List (List Nat)).getD k []
theorem kz_ok : ∀ k, k < 16 → (kz k).length = (kd_txt (kd_word k)).length ∧ 1 ≤ (kz k).length ∧ (kz k).length ≤ 5 ∧ (kz k).all (fun x => decide (1 ≤ x ∧ x ≤ 26)) = true ∧ ∀ j, j < (kz k).length → (kd_txt (kd_word k)).getD j 0 = Int32.ofNat (96 + (kz k).getD j 0) := by decide +kernel
theorem kz_dgs {k : Nat} (hk : k < 16) : dgs (kz k) := fun x hx => of_decide_eq_true (List.all_eq_true.mp (kz_ok k hk).2.2.2.1 x hx)
def fw (r : Nat → Int32) (a b k : Nat) : Prop := b - a = (kz k).length ∧ ∀ j, j < (kz k).length → r (a + j) = Int32.ofNat (96 + (kz k).getD j 0)
theorem l_ext : ∀ (l l' : List Nat), l.length = l'.length → (∀ j, j < l.length → l.getD j 0 = l'.getD j 0) → l = l'
  | [], [], _, _ => rfl
  | [], _ :: _, h, _ => nomatch h
  | _ :: _, [], h, _ => nomatch h
  | a :: l, b :: l', h, g => by
    have h0 := g 0 (Nat.succ_pos _)
    rw [List.getD_cons_zero, List.getD_cons_zero] at h0
    rw [h0, l_ext l l' (by rw [List.length_cons, List.length_cons] at h; omega) (fun j hj => by
      have := g (j + 1) (by rw [List.length_cons]; omega)
      rw [List.getD_cons_succ, List.getD_cons_succ] at this
      exact this)]
theorem fw_iff {r : Nat → Int32} {a b k : Nat} (hab : a < b) (hk : k < 16) : fw r a b k ↔ lt6 r a b = some (b27 (kz k) 0) := by
  obtain ⟨-, k1, k2, -, -⟩ := kz_ok k hk
  constructor
  · rintro ⟨h1, h2⟩
    unfold lt6
    rw [if_neg (by omega)]
    exact (ltv_iff _ _ _ _).mpr ⟨kz k, h1.symm, kz_dgs hk, fun j hj => h2 j (by omega), rfl⟩
  · intro h
    unfold lt6 at h
    by_cases hc : a = b ∨ 6 < b - a
    · rw [if_pos hc] at h; cases h
    · rw [if_neg hc] at h
      obtain ⟨ds, h1, h2, h3, h4⟩ := (ltv_iff _ _ _ _).mp h
      have := b27_inj ds.length ds (kz k) (Nat.le_refl _) h2 (kz_dgs hk) h4.symm
      subst this
      exact ⟨h1.symm, fun j hj => h3 j (by omega)⟩
theorem t_ch : ∀ i, i < 25 → ∀ j, j < (kd_txt i).length → (Int32.toUInt32 (((kd_txt i).getD j 0) &&& 255) % 65536).toInt32 = (kd_txt i).getD j 0 ∧ eg_rf 3 ((kd_txt i).getD j 0) = true := by decide +kernel
theorem s_charAt {σ : st_S} {i j : Nat} (hi : i < 25) (hj : j < (kd_txt i).length) {Q : st_S → Option eg_V → Prop} (K : Q σ (some (.inl ((kd_txt i).getD j 0)))) : pw_E 137 0 σ (0, 0) [(0, .inr (53, i)), (1, .inl (Int32.ofNat j))] [] Q := by
  have hl := t_len i hi
  have hcl : (Int32.ofNat j).toNatClampNeg = j := n_cl (by omega)
  have h0 : ¬ Int32.ofNat j < 0 := n_n0 (by omega)
  have hlt : Int32.ofNat j < Int32.ofNat (kd_txt i).length := by rw [n_lt (by omega) (by omega)]; exact hj
  refine w_String_charAt_0 (fun h => absurd h h0) (fun _ _ => n_inb hj (by omega)) (fun _ _ => ?_) (fun _ _ => ?_) (fun _ h => absurd hlt h)
  · rw [hcl, (t_ch i hi j hj).1]; exact (t_ch i hi j hj).2
  · rw [hcl, (t_ch i hi j hj).1]; exact K
theorem t_wd : ∀ e, e < 16 → kd_word e < 25 := by decide +kernel
theorem s_fw26 {n a b k : Nat} {r : Nat → Int32} (hn : n ≤ 40) (hb : b ≤ n) (hk : k < 16) (hl : b - a = (kz k).length) (hab : a < b) {σ : st_S} (h4 : ∀ j, j < n → σ.1 4 0 j = r j) {Q : st_S → Option eg_V → Prop}
    (K0 : ¬ fw r a b k → Q σ (some (.inl 0))) (K1 : fw r a b k → Q σ (some (.inl 1))) : ∀ d j, j + d = (kz k).length → (∀ q, q < j → r (a + q) = Int32.ofNat (96 + (kz k).getD q 0)) →
    pw_E 27 26 σ (0, 0) [(0, .inr (3, 0)), (1, .inr (53, kd_word k)), (2, .inl (Int32.ofNat a)), (3, .inl (Int32.ofNat j))] [] Q := by
  obtain ⟨w1, w2, w3, -, w5⟩ := kz_ok k hk
  intro d
  induction d with
  | zero =>
    intro j hd hq
    have : j = (kz k).length := by omega
    refine w_Draft_firstWordIs_26 (s_len (w_Draft_firstWordIs_31 (fun _ => K1 ⟨hl, fun q h => hq q (by omega)⟩) (fun h => absurd ?_ h) (fun h => absurd ?_ h)))
    all_goals (rw [← w1, n_le (by omega) (by omega)]; omega)
  | succ d ih =>
    intro j hd hq
    have hle : ¬ Int32.ofNat (kd_txt (kd_word k)).length ≤ Int32.ofNat j := by rw [← w1, n_le (by omega) (by omega)]; omega
    refine w_Draft_firstWordIs_26 (s_len (w_Draft_firstWordIs_31 (fun h => absurd h hle) (fun _ => ?_) (fun _ => ?_)))
    · rw [n_add]; exact n_inb (by omega) (by omega)
    · rw [n_add, n_cl (by omega), h4 _ (by omega)]
      refine s_charAt (t_wd k hk) (by omega) (w_Draft_firstWordIs_47 (fun h => ?_) (fun h => K0 (fun z => h ?_)))
      · rw [show Int32.ofNat j + 1 = Int32.ofNat (j + 1) from n_add j 1]
        refine ih (j + 1) (by omega) (fun q hqj => ?_)
        by_cases hqe : q = j
        · rw [hqe, h, w5 j (by omega)]
        · exact hq q (by omega)
      · rw [z.2 j (by omega), w5 j (by omega)]
theorem s_fwis {n a b k : Nat} {r : Nat → Int32} (hn : n ≤ 40) (hb : b ≤ n) (hk : k < 16) (hab : a < b) {σ : st_S} (h4 : ∀ j, j < n → σ.1 4 0 j = r j) (h5 : σ.1 5 0 0 = Int32.ofNat a) (h6 : σ.1 6 0 0 = Int32.ofNat b) {Q : st_S → Option eg_V → Prop}
    (K0 : ¬ fw r a b k → Q σ (some (.inl 0))) (K1 : fw r a b k → Q σ (some (.inl 1))) : pw_E 27 0 σ (0, 0) [(0, .inr (3, 0)), (1, .inr (53, kd_word k))] [] Q := by
  obtain ⟨w1, w2, w3, -, w5⟩ := kz_ok k hk
  refine w_Draft_firstWordIs_0 (s_len (w_Draft_firstWordIs_19 (fun h => ?_) (fun h => K0 (fun z => h ?_))))
  · rw [h5, h6, n_sub (by omega), ← w1, n_inj (by omega) (by omega)] at h
    rw [h5]
    exact s_fw26 hn hb hk h hab h4 K0 K1 (kz k).length 0 (by omega) (fun q hq => by omega)
  · rw [h5, h6, n_sub (by omega), ← w1, z.1]
theorem s_kindw {n a b : Nat} {r : Nat → Int32} (hn : n ≤ 40) (hb : b ≤ n) (hab : a < b) {σ : st_S} (h4 : ∀ j, j < n → σ.1 4 0 j = r j) (h5 : σ.1 5 0 0 = Int32.ofNat a) (h6 : σ.1 6 0 0 = Int32.ofNat b) {Q : st_S → Option eg_V → Prop}
    (K0 : (∀ k, k < 16 → ¬ fw r a b k) → Q σ (some (.inr (0, 0)))) (K1 : ∀ k, k < 16 → fw r a b k → (∀ q, q < k → ¬ fw r a b q) → Q σ (some (.inr (50, k)))) : ∀ d k, k + d = 16 → (∀ q, q < k → ¬ fw r a b q) →
    pw_E 26 2 σ (0, 0) [(0, .inr (3, 0)), (1, .inl (Int32.ofNat k))] [] Q := by
  intro d
  induction d with
  | zero =>
    intro k hd hq
    have : k = 16 := by omega
    subst this
    exact w_Draft_kindOfFirstWord_2 (fun _ => K0 hq) (fun h => absurd (by decide) h) (fun h => absurd (by decide) h)
  | succ d ih =>
    intro k hd hq
    have hle : ¬ (16 : Int32) ≤ Int32.ofNat k := by rw [show (16 : Int32) = Int32.ofNat 16 from rfl, n_le (by omega) (by omega)]; omega
    have hcl : (Int32.ofNat k).toNatClampNeg = k := n_cl (by omega)
    refine w_Draft_kindOfFirstWord_2 (fun h => absurd h hle) (fun _ => n_inb (by omega) (by omega)) (fun _ => ?_)
    rw [hcl]
    refine s_fwis hn hb (by omega) hab h4 h5 h6 (fun z => w_Draft_kindOfFirstWord_22 (fun _ => ?_) (fun y => absurd rfl y) (fun y => absurd rfl y)) (fun z => w_Draft_kindOfFirstWord_22 (fun y => absurd y (by decide)) (fun _ => n_inb (by omega) (by omega)) (fun _ => ?_))
    · rw [show Int32.ofNat k + 1 = Int32.ofNat (k + 1) from n_add k 1]
      refine ih (k + 1) (by omega) (fun q hqk => ?_)
      by_cases hqe : q = k
      · rw [hqe]; exact z
      · exact hq q (by omega)
    · rw [hcl]
      exact K1 k (by omega) z hq
/-! the reference's names -/
def nmo (o : Nat) : Nat := if o = 0 then 10627 else if o = 1 then 267413 else if o = 15 then 13277 else if o = 18 then 1900307 else if o = 40 then 212506 else if o = 43 then 10650290 else if o = 50 then 7442 else if o = 51 then 7634 else if o = 56 then 296 else if o = 144 then 841 else if o = 145 then 14420 else if o = 146 then 10056 else if o = 216 then 22716 else if o = 256 then 1628011 else 0
def opn (k : Nat) : Nat := ([0, 1, 15, 18, 19, 144, 145, 146, 216, 40, 41, 50, 51, 56, 43, 256] : List Nat).getD k 0
theorem nmo_k : ∀ k, k < 16 → k ≠ 4 → k ≠ 10 → nmo (opn k) = b27 (kz k) 0 ∧ opn k ≤ 256 ∧ kd_op k = Int32.ofNat (opn k) := by decide +kernel
theorem nmo_f : ∀ o, o < 257 → nmo o < 20000000 ∧ (nmo o = 0 ∨ ∃ k, k < 16 ∧ k ≠ 4 ∧ k ≠ 10 ∧ o = opn k) := by decide +kernel
theorem kz_inj0 : ∀ k, k < 16 → ∀ q, q < 16 → (k = 4 ∨ k = 10 ∨ q = 4 ∨ q = 10 ∨ b27 (kz k) 0 ≠ b27 (kz q) 0 ∨ k = q) := by decide +kernel
theorem kz_inj (k : Nat) (hk : k < 16) (q : Nat) (hq : q < 16) (h1 : k ≠ 4) (h2 : k ≠ 10) (h3 : q ≠ 4) (h4 : q ≠ 10) (h : b27 (kz k) 0 = b27 (kz q) 0) : k = q := by
  rcases kz_inj0 k hk q hq with z | z | z | z | z | z
  · exact absurd z h1
  · exact absurd z h2
  · exact absurd z h3
  · exact absurd z h4
  · exact absurd h z
  · exact z
theorem s_nameOf {σ : st_S} {o : Nat} (ho : o < 257) {Q : st_S → Option eg_V → Prop} (K : Q σ (some (.inl (Int32.ofNat (nmo o))))) : pw_E 97 0 σ (0, 0) [(0, .inl (Int32.ofNat o))] [] Q := by
  have q : ∀ c, c < 300 → Int32.ofNat o = Int32.ofNat c → o = c := fun c hc h => by rw [n_inj (by omega) (by omega)] at h; exact h
  have nq : ∀ c, c < 300 → ¬ Int32.ofNat o = Int32.ofNat c → o ≠ c := fun c hc h => by rw [n_inj (by omega) (by omega)] at h; exact h
  refine w_M_nameOf_0 (fun h => ?_) (fun h => ?_) (fun h => ?_) (fun h => ?_) (fun h => ?_) (fun h => ?_) (fun h => ?_) (fun h => ?_) (fun h => ?_) (fun h => ?_) (fun h => ?_) (fun h => ?_) (fun h => ?_) (fun h => ?_) (fun h0 h1 h2 h3 h4 h5 h6 h7 h8 h9 h10 h11 h12 h13 => ?_)
  · have := q 0 (by omega) h; subst this; exact K
  · have := q 1 (by omega) h; subst this; exact K
  · have := q 15 (by omega) h; subst this; exact K
  · have := q 18 (by omega) h; subst this; exact K
  · have := q 40 (by omega) h; subst this; exact K
  · have := q 43 (by omega) h; subst this; exact K
  · have := q 50 (by omega) h; subst this; exact K
  · have := q 51 (by omega) h; subst this; exact K
  · have := q 56 (by omega) h; subst this; exact K
  · have := q 144 (by omega) h; subst this; exact K
  · have := q 145 (by omega) h; subst this; exact K
  · have := q 146 (by omega) h; subst this; exact K
  · have := q 216 (by omega) h; subst this; exact K
  · have := q 256 (by omega) h; subst this; exact K
  · have : nmo o = 0 := by
      unfold nmo
      rw [if_neg (nq 0 (by omega) h0), if_neg (nq 1 (by omega) h1), if_neg (nq 15 (by omega) h2), if_neg (nq 18 (by omega) h3), if_neg (nq 40 (by omega) h4), if_neg (nq 43 (by omega) h5), if_neg (nq 50 (by omega) h6), if_neg (nq 51 (by omega) h7), if_neg (nq 56 (by omega) h8), if_neg (nq 144 (by omega) h9), if_neg (nq 145 (by omega) h10), if_neg (nq 146 (by omega) h11), if_neg (nq 216 (by omega) h12), if_neg (nq 256 (by omega) h13)]
    rw [this] at K; exact K
/-- the first op with that name -/
theorem s_opNamed {σ : st_S} {v : Option Nat} (hv : ∀ u, v = some u → 1 ≤ u ∧ u < 387420489) {Q : st_S → Option eg_V → Prop} (K0 : (∀ k, k < 16 → v ≠ some (b27 (kz k) 0)) → Q σ (some (.inl (-1)))) (K1 : ∀ k, k < 16 → k ≠ 4 → k ≠ 10 → v = some (b27 (kz k) 0) → Q σ (some (.inl (kd_op k)))) : ∀ d o, o + d = 257 → (∀ q, q < o → v ≠ some (nmo q)) →
    pw_E 96 2 σ (0, 0) [(0, .inl (tx_sv v)), (1, .inl (Int32.ofNat o))] [] Q := by
  intro d
  induction d with
  | zero =>
    intro o hd hq
    have : o = 257 := by omega
    subst this
    refine w_M_opNamed_2 (fun _ => K0 (fun k hk z => ?_)) (fun h => absurd (by decide) h)
    by_cases h4 : k = 4
    · subst h4
      exact hq 18 (by omega) z
    · by_cases h10 : k = 10
      · subst h10
        exact hq 40 (by omega) z
      · obtain ⟨a1, a2, -⟩ := nmo_k k hk h4 h10
        exact hq (opn k) (by omega) (by rw [a1]; exact z)
  | succ d ih =>
    intro o hd hq
    have hle : ¬ (256 : Int32) < Int32.ofNat o := by rw [show (256 : Int32) = Int32.ofNat 256 from rfl, n_lt (by omega) (by omega)]; omega
    obtain ⟨f1, f2⟩ := nmo_f o (by omega)
    have e1 : Int32.ofNat o + 1 = Int32.ofNat (o + 1) := n_add o 1
    have nxt : v ≠ some (nmo o) → pw_E 96 2 σ (0, 0) [(0, .inl (tx_sv v)), (1, .inl (Int32.ofNat o + 1))] [] Q := fun h => by
      rw [e1]
      refine ih (o + 1) (by omega) (fun q hqo => ?_)
      by_cases hqe : q = o
      · rw [hqe]; exact h
      · exact hq q (by omega)
    refine w_M_opNamed_2 (fun h => absurd h hle) (fun _ => s_nameOf (by omega) (w_M_opNamed_13 (fun h h' => ?_) (fun h h' => ?_) (fun h => ?_)))
    · refine nxt (fun z => ?_)
      rw [z] at h'
      have h' : Int32.ofNat (nmo o) ≤ 0 := h'
      rw [show (0 : Int32) = Int32.ofNat 0 from rfl, n_le (by omega) (by omega)] at h'
      have := (hv _ z).1
      omega
    · cases hvv : v with
      | none => rw [hvv] at h'; exact absurd (by decide) h'
      | some u =>
        have hu := hv u hvv
        rw [hvv] at h h'
        have h : Int32.ofNat (nmo o) = Int32.ofNat u := h
        rw [n_inj (by omega) (by omega)] at h
        rcases f2 with z | ⟨k, k1, k2, k3, k4⟩
        · omega
        · obtain ⟨a1, a2, a3⟩ := nmo_k k k1 k2 k3
          rw [k4, ← a3]
          exact K1 k k1 k2 k3 (by rw [hvv, ← h, k4, a1])
    · refine nxt (fun z => h ?_)
      rw [z]; rfl
