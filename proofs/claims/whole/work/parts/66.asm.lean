/-! THE CALL assemble -/
section
variable {c l : Nat} {e : Nat → Nat} {rg : Nat → Nat → Nat} {n : Nat → Int32} {m : Nat → Nat} {lb : Nat → Nat → Nat} {na : Nat → Int32} {sb : Nat → Option Nat}
theorem sv_1 {o : Option Nat} (h : ∀ b, o = some b → b ≤ 40) : (tx_sv o = -1 ↔ o = none) ∧ ((0 : Int32) ≤ tx_sv o ↔ o ≠ none) := by
  cases o with
  | none => exact ⟨⟨fun _ => rfl, fun _ => rfl⟩, ⟨fun z => absurd z (by decide), fun z => absurd rfl z⟩⟩
  | some b =>
    have := h b rfl
    refine ⟨⟨fun z => ?_, fun z => (by cases z)⟩, ⟨fun _ z => (by cases z), fun _ => n_0le (by omega)⟩⟩
    have h0 := n_n0 (a := b) (by omega)
    rw [show Int32.ofNat b = -1 from z] at h0
    exact absurd (by decide) h0
theorem s_allset {σ : st_S} (hV : tx_V c l e rg n m lb sb) (hC : tx_C c l e rg n m lb na sb σ) {Q : st_S → Option eg_V → Prop} (K0 : (∃ k, k < l ∧ sb k = none) → Q σ (some (.inl 0))) (K1 : (∀ k, k < l → sb k ≠ none) → Q σ (some (.inl 1))) : ∀ d i, i + d = l → (∀ k, k < i → sb k ≠ none) →
    pw_E 48 2 σ (0, 0) [(0, .inr (13, 0)), (1, .inl (Int32.ofNat i))] [] Q := by
  have hl := hV.2.1
  have hc40 := hV.1
  intro d
  induction d with
  | zero =>
    intro i hd h
    have : i = l := by omega
    subst this
    have hle : σ.1 13 0 2 ≤ Int32.ofNat i := by rw [hC.2.1]; exact Int32.le_refl _
    exact w_Labels_allAreSet_2 (fun _ => K1 h) (fun h => absurd hle h) (fun h => absurd hle h) (fun h => absurd hle h)
  | succ d ih =>
    intro i hd h
    have hle : ¬ σ.1 13 0 2 ≤ Int32.ofNat i := by rw [hC.2.1, n_le (by omega) (by omega)]; omega
    have hs := (hC.2.2.1 i (by omega)).2
    have sv := sv_1 (o := sb i) (fun b hb => by have := hV.2.2.2 i b (by omega) hb; omega)
    refine w_Labels_allAreSet_2 (fun h => absurd h hle) (fun _ => n_inb (by omega) (by omega)) (fun _ g => ?_) (fun _ g => ?_)
    · rw [n_cl (by omega), hs, sv.1] at g
      exact K0 ⟨i, by omega, g⟩
    · rw [n_cl (by omega), hs, sv.1] at g
      rw [show Int32.ofNat i + 1 = Int32.ofNat (i + 1) from n_add i 1]
      refine ih (i + 1) (by omega) (fun k hk => ?_)
      by_cases hki : k = i
      · rw [hki]; exact g
      · exact h k (by omega)
theorem s_mset {σ : st_S} (hV : tx_V c l e rg n m lb sb) (hM : tx_M c l e rg n m lb na sb σ) {Q : st_S → Option eg_V → Prop} (K0 : (∃ k, k < l ∧ sb k = none) → Q σ (some (.inl (-6)))) (K1 : (∀ k, k < l → sb k ≠ none) → pw_E 108 0 σ (0, 0) [(0, .inr (26, 0))] [] (fun σ1 r1 => pw_E 107 32 σ1 (0, 0) [(0, .inr (26, 0))] (r1.toList ++ []) Q)) : ∀ d i, i + d = l → (∀ k, k < i → sb k ≠ none) →
    pw_E 107 2 σ (0, 0) [(0, .inr (26, 0)), (1, .inl (Int32.ofNat i))] [] Q := by
  have hl := hV.2.1
  have hc40 := hV.1
  intro d
  induction d with
  | zero =>
    intro i hd h
    have : i = l := by omega
    subst this
    have hle : σ.1 26 0 15 ≤ Int32.ofNat i := by rw [hM.2.1]; exact Int32.le_refl _
    exact w_M_assemble_2 (fun _ => K1 h) (fun h => absurd hle h) (fun h => absurd hle h) (fun h => absurd hle h)
  | succ d ih =>
    intro i hd h
    have hle : ¬ σ.1 26 0 15 ≤ Int32.ofNat i := by rw [hM.2.1, n_le (by omega) (by omega)]; omega
    have hs := (hM.2.2.1 i (by omega)).2
    have sv := sv_1 (o := sb i) (fun b hb => by have := hV.2.2.2 i b (by omega) hb; omega)
    refine w_M_assemble_2 (fun h => absurd h hle) (fun _ => n_inb (by omega) (by omega)) (fun _ g => ?_) (fun _ g => ?_)
    · rw [n_cl (by omega), hs, sv.2] at g
      rw [show Int32.ofNat i + 1 = Int32.ofNat (i + 1) from n_add i 1]
      refine ih (i + 1) (by omega) (fun k hk => ?_)
      by_cases hki : k = i
      · rw [hki]; exact g
      · exact h k (by omega)
    · rw [n_cl (by omega), hs, sv.2] at g
      exact K0 ⟨i, by omega, Classical.byContradiction g⟩
/-- the table i means cases -/
def tg (c : Nat) (e : Nat → Nat) (lb : Nat → Nat → Nat) (sb : Nat → Option Nat) (i : Nat) : Prop := ∃ b, sb (lb i 0) = some b ∧ b < c ∧ e b = 15
theorem s_stands {σ : st_S} {i : Nat} (hV : tx_V c l e rg n m lb sb) (hC : tx_C c l e rg n m lb na sb σ) (hi : i < c) (h14 : e i = 14) {Q : st_S → Option eg_V → Prop} (K0 : ¬ tg c e lb sb i → Q σ (some (.inl 0))) (K1 : tg c e lb sb i → Q σ (some (.inl 1))) :
    pw_E 50 0 σ (0, 0) [(0, .inr (7, 0)), (1, .inl (σ.1 12 i 0))] [] Q := by
  have hl := hV.2.1
  have hc40 := hV.1
  obtain ⟨he, -, -, -, -, -, -, -, hml, -, hlb⟩ := hV.2.2.1 i hi
  have hm1 : m i = 1 := by rw [hml (by omega), h14]; rfl
  have hl0 := hlb 0 (by omega)
  obtain ⟨i0, ir, i3, i4, il⟩ := hC.2.2.2 i hi
  have hs := (hC.2.2.1 _ hl0).2
  have sv := sv_1 (o := sb (lb i 0)) (fun b hb => by have := hV.2.2.2 _ b hl0 hb; omega)
  rw [il 0 (by omega)]
  have hcl : (Int32.ofNat (lb i 0)).toNatClampNeg = lb i 0 := n_cl (by omega)
  refine w_Text_standsBeforeCases_0 (n_inb (by omega) (by omega)) (fun g => ?_) (fun g g' => ?_) (fun g g' => ?_) (fun g g' g'' => ?_) (fun g g' g'' => ?_)
  · rw [hcl, hs, sv.1] at g
    exact K0 (fun ⟨b, hb, _⟩ => by rw [g] at hb; cases hb)
  · rw [hcl, hs] at g g'
    refine K0 (fun ⟨b, hb, h1, _⟩ => ?_)
    rw [hb, hC.1] at g'
    have g' : Int32.ofNat c ≤ Int32.ofNat b := g'
    rw [n_le (by omega) (by omega)] at g'
    omega
  · rw [hcl, hs] at g g' ⊢
    rw [sv.1] at g
    cases hb : sb (lb i 0) with
    | none => exact absurd hb g
    | some b => exact n_inb (by have := hV.2.2.2 _ b hl0 hb; omega) (by omega)
  · rw [hcl, hs] at g g' g''
    rw [sv.1] at g
    cases hb : sb (lb i 0) with
    | none => exact absurd hb g
    | some b =>
      have hbc := hV.2.2.2 _ b hl0 hb
      rw [hb, hC.1] at g'
      have g' : ¬ Int32.ofNat c ≤ Int32.ofNat b := g'
      rw [n_le (by omega) (by omega)] at g'
      rw [hb] at g''
      have g'' : (σ.1 9 (Int32.ofNat b).toNatClampNeg 0).toNatClampNeg = 15 := g''
      rw [n_cl (by omega), (hC.2.2.2 b (by omega)).1, n_cl (by have := (hV.2.2.1 b (by omega)).1; omega)] at g''
      exact K1 ⟨b, hb, by omega, g''⟩
  · rw [hcl, hs] at g g' g''
    refine K0 (fun ⟨b, hb, h1, h2⟩ => ?_)
    rw [hb] at g''
    have g'' : ¬ (σ.1 9 (Int32.ofNat b).toNatClampNeg 0).toNatClampNeg = 15 := g''
    rw [n_cl (by omega), (hC.2.2.2 b (by omega)).1, n_cl (by have := (hV.2.2.1 b (by omega)).1; omega)] at g''
    exact g'' h2
theorem s_tables {σ : st_S} (hV : tx_V c l e rg n m lb sb) (hC : tx_C c l e rg n m lb na sb σ) {Q : st_S → Option eg_V → Prop} (K0 : (∃ i, i < c ∧ e i = 14 ∧ ¬ tg c e lb sb i) → Q σ (some (.inl 0))) (K1 : (∀ i, i < c → e i = 14 → tg c e lb sb i) → Q σ (some (.inl 1))) : ∀ d i, i + d = c → (∀ k, k < i → e k = 14 → tg c e lb sb k) →
    pw_E 49 2 σ (0, 0) [(0, .inr (7, 0)), (1, .inl (Int32.ofNat i))] [] Q := by
  have hc40 := hV.1
  intro d
  induction d with
  | zero =>
    intro i hd h
    have : i = c := by omega
    subst this
    have hle : σ.1 7 0 1 ≤ Int32.ofNat i := by rw [hC.1]; exact Int32.le_refl _
    exact w_Text_allTablesMeanCases_2 (fun _ => K1 h) (fun h => absurd hle h) (fun h => absurd hle h) (fun h => absurd hle h)
  | succ d ih =>
    intro i hd h
    have hic : i < c := by omega
    have hle : ¬ σ.1 7 0 1 ≤ Int32.ofNat i := by rw [hC.1, n_le (by omega) (by omega)]; omega
    have hcl : (Int32.ofNat i).toNatClampNeg = i := n_cl (by omega)
    have e1 : Int32.ofNat i + 1 = Int32.ofNat (i + 1) := n_add i 1
    have hk : (σ.1 9 i 0).toNatClampNeg = e i := by rw [(hC.2.2.2 i hic).1]; exact n_cl (by have := (hV.2.2.1 i hic).1; omega)
    have nxt : (e i = 14 → tg c e lb sb i) → ∀ k, k < i + 1 → e k = 14 → tg c e lb sb k := fun hi k hk hk14 => by
      by_cases hki : k = i
      · rw [hki]; exact hi (by rw [← hki]; exact hk14)
      · exact h k (by omega) hk14
    refine w_Text_allTablesMeanCases_2 (fun h => absurd h hle) (fun _ => n_inb (by omega) (by omega)) (fun _ g => ?_) (fun _ g => ?_)
    · rw [hcl, hk] at g
      rw [hcl]
      refine s_stands hV hC hic g (fun z => w_Text_allTablesMeanCases_40 (fun _ => K0 ⟨i, hic, g, z⟩) (fun y => absurd rfl y)) (fun z => w_Text_allTablesMeanCases_40 (fun y => absurd y (by decide)) (fun _ => ?_))
      rw [e1]
      exact ih (i + 1) (by omega) (nxt (fun _ => z))
    · rw [hcl, hk] at g
      rw [e1]
      exact ih (i + 1) (by omega) (nxt (fun z => absurd z g))
theorem Lad_lt (hV : tx_V c l e rg n m lb sb) {lg : Nat → Bool} {i j : Nat} (hij : i < j) (hj : i < c) : Lad e n m lg i < Lat e n m lg j := by
  have h1 := Lsz_pos hV (lg := lg) hj
  have h2 := Lat_mono' (e := e) (n := n) (m := m) (lg := lg) (i := i + 1) (j := j) hij
  have h3 : Lat e n m lg (i + 1) = Lad e n m lg i + Lsz e n m lg i := rfl
  omega
theorem Lad_inj (hV : tx_V c l e rg n m lb sb) {lg : Nat → Bool} {i j : Nat} (hi : i < c) (hj : j < c) (h : Lad e n m lg i = Lad e n m lg j) : i = j := by
  rcases Nat.lt_trichotomy i j with z | z | z
  · have := Lad_lt hV (lg := lg) z hi
    have := (Lad_ge (e := e) (n := n) (m := m) (lg := lg) (i := j)).1
    omega
  · exact z
  · have := Lad_lt hV (lg := lg) z hj
    have := (Lad_ge (e := e) (n := n) (m := m) (lg := lg) (i := i)).1
    omega
theorem s_isCases {σ : st_S} {lg : Nat → Bool} {v : Nat} (hV : tx_V c l e rg n m lb sb) (hv : v ≤ 321) (hM : tx_M c l e rg n m lb na sb σ) (hA : MA c e n m lg σ) {Q : st_S → Option eg_V → Prop} (K0 : (∀ i, i < c → e i = 15 → Lad e n m lg i ≠ v) → Q σ (some (.inl 0))) (K1 : (∃ i, i < c ∧ e i = 15 ∧ Lad e n m lg i = v) → Q σ (some (.inl 1))) : ∀ d i, i + d = c → (∀ k, k < i → e k = 15 → Lad e n m lg k ≠ v) →
    pw_E 113 2 σ (0, 0) [(0, .inr (26, 0)), (1, .inl (Int32.ofNat v)), (2, .inl (Int32.ofNat i))] [] Q := by
  have hc40 := hV.1
  intro d
  induction d with
  | zero =>
    intro i hd h
    have : i = c := by omega
    subst this
    have hle : σ.1 26 0 12 ≤ Int32.ofNat i := by rw [hM.1]; exact Int32.le_refl _
    exact w_M_isCasesAt_2 (fun _ => K0 h) (fun h => absurd hle h) (fun h => absurd hle h) (fun h => absurd hle h) (fun h => absurd hle h) (fun h => absurd hle h)
  | succ d ih =>
    intro i hd h
    have hic : i < c := by omega
    have hle : ¬ σ.1 26 0 12 ≤ Int32.ofNat i := by rw [hM.1, n_le (by omega) (by omega)]; omega
    have hcl : (Int32.ofNat i).toNatClampNeg = i := n_cl (by omega)
    have e1 : Int32.ofNat i + 1 = Int32.ofNat (i + 1) := n_add i 1
    have he := (hV.2.2.1 i hic).1
    have a1 := (hM.2.2.2 i hic).1
    have hb := Lad_le hV (lg := lg) hic
    have nxt : (e i = 15 → Lad e n m lg i ≠ v) → ∀ k, k < i + 1 → e k = 15 → Lad e n m lg k ≠ v := fun hi k hk hk14 => by
      by_cases hki : k = i
      · rw [hki]; exact hi (by rw [← hki]; exact hk14)
      · exact h k (by omega) hk14
    refine w_M_isCasesAt_2 (fun h => absurd h hle) (fun _ => n_inb (by omega) (by omega)) (fun _ _ => n_inb (by omega) (by omega)) (fun _ g g' => ?_) (fun _ g g' => ?_) (fun _ g => ?_)
    · rw [hcl, a1, (k_opn (e i) he).2.1] at g
      rw [hcl, hA.1 i hic, n_inj (by omega) (by omega)] at g'
      exact K1 ⟨i, hic, g, g'⟩
    · rw [hcl, a1, (k_opn (e i) he).2.1] at g
      rw [hcl, hA.1 i hic, n_inj (by omega) (by omega)] at g'
      rw [e1]
      exact ih (i + 1) (by omega) (nxt (fun _ => g'))
    · rw [hcl, a1, (k_opn (e i) he).2.1] at g
      rw [e1]
      exact ih (i + 1) (by omega) (nxt (fun z => absurd z g))
theorem tg_iff (hV : tx_V c l e rg n m lb sb) {lg : Nat → Bool} {i : Nat} (hi : i < c) (h14 : e i = 14) (hset : ∀ k, k < l → sb k ≠ none) : tg c e lb sb i ↔ ∃ j, j < c ∧ e j = 15 ∧ Lad e n m lg j = Lmn c e n m lg (sb (lb i 0)) := by
  obtain ⟨he, -, -, -, -, -, -, -, hml, -, hlb⟩ := hV.2.2.1 i hi
  have hm1 : m i = 1 := by rw [hml (by omega), h14]; rfl
  have hl0 := hlb 0 (by omega)
  cases hb : sb (lb i 0) with
  | none => exact absurd hb (hset _ hl0)
  | some b =>
    have hbc := hV.2.2.2 _ b hl0 hb
    have hmn : Lmn c e n m lg (some b) = if b < c then Lad e n m lg b else Lat e n m lg c := rfl
    rw [hmn]
    constructor
    · rintro ⟨b', h1, h2, h3⟩
      rw [hb] at h1
      cases h1
      exact ⟨b, h2, h3, by rw [if_pos h2]⟩
    · rintro ⟨j, h1, h2, h3⟩
      by_cases hlt : b < c
      · rw [if_pos hlt] at h3
        have := Lad_inj hV h1 hlt h3
        subst this
        exact ⟨j, hb, h1, h2⟩
      · rw [if_neg hlt] at h3
        have := Lad_lt hV (lg := lg) h1 h1
        omega
theorem s_mtables {lg : Nat → Bool} {σ : st_S} (hV : tx_V c l e rg n m lb sb) (hset : ∀ k, k < l → sb k ≠ none) (hM : tx_M c l e rg n m lb na sb σ) (hA : MA c e n m lg σ) {Q : st_S → Option eg_V → Prop} (K0 : (∃ i, i < c ∧ e i = 14 ∧ ¬ tg c e lb sb i) → Q σ (some (.inl (-7)))) (K1 : (∀ i, i < c → e i = 14 → tg c e lb sb i) → ¬ Lat e n m lg c ≤ 200 → Q σ (some (.inl (-3)))) (K2 : (∀ i, i < c → e i = 14 → tg c e lb sb i) → Lat e n m lg c ≤ 200 → pw_E 107 116 (st_up σ 26 0 27 (Int32.ofNat (Lat e n m lg c))) (0, 0) [(0, .inr (26, 0)), (1, .inl 0), (2, .inl 0)] [] Q) : ∀ d i, i + d = c → (∀ k, k < i → e k = 14 → tg c e lb sb k) →
    pw_E 107 34 σ (0, 0) [(0, .inr (26, 0)), (1, .inl (Int32.ofNat i))] [] Q := by
  have hc40 := hV.1
  intro d
  induction d with
  | zero =>
    intro i hd h
    have : i = c := by omega
    subst this
    have hat := Lat_le hV (lg := lg) (Nat.le_refl i)
    have hle : σ.1 26 0 12 ≤ Int32.ofNat i := by rw [hM.1]; exact Int32.le_refl _
    refine w_M_assemble_34 (fun _ g => ?_) (fun _ g => ?_) (fun h => absurd hle h) (fun h => absurd hle h) (fun h => absurd hle h) (fun h => absurd hle h)
    · rw [hA.2, show (200 : Int32) = Int32.ofNat 200 from rfl, n_le (by omega) (by omega)] at g
      rw [hA.2]; exact K2 h g
    · rw [hA.2, show (200 : Int32) = Int32.ofNat 200 from rfl, n_le (by omega) (by omega)] at g
      exact K1 h g
  | succ d ih =>
    intro i hd h
    have hic : i < c := by omega
    have hle : ¬ σ.1 26 0 12 ≤ Int32.ofNat i := by rw [hM.1, n_le (by omega) (by omega)]; omega
    have hcl : (Int32.ofNat i).toNatClampNeg = i := n_cl (by omega)
    have e1 : Int32.ofNat i + 1 = Int32.ofNat (i + 1) := n_add i 1
    obtain ⟨he, -, -, -, -, -, -, -, hml, -, hlb⟩ := hV.2.2.1 i hic
    have a1 := (hM.2.2.2 i hic).1
    have nxt : (e i = 14 → tg c e lb sb i) → ∀ k, k < i + 1 → e k = 14 → tg c e lb sb k := fun hi k hk hk14 => by
      by_cases hki : k = i
      · rw [hki]; exact hi (by rw [← hki]; exact hk14)
      · exact h k (by omega) hk14
    refine w_M_assemble_34 (fun h => absurd h hle) (fun h => absurd h hle) (fun _ => n_inb (by omega) (by omega)) (fun _ _ => n_inb (by omega) (by omega)) (fun _ g => ?_) (fun _ g => ?_)
    · rw [hcl, a1, (k_opn (e i) he).2.2] at g
      rw [hcl, hA.1 i hic]
      have hm1 : m i = 1 := by rw [hml (by omega), g]; rfl
      refine s_dist hV hic (by omega) hM hA (w_M_assemble_65 ?_)
      rw [Int32.add_comm, Int32.sub_add_cancel]
      refine w_M_isCasesAt_0 (s_isCases (lg := lg) hV (Lmn_le hV _) hM hA (fun z => w_M_assemble_69 (fun _ => K0 ⟨i, hic, g, fun y => ?_⟩) (fun y => absurd rfl y)) (fun z => w_M_assemble_69 (fun y => absurd y (by decide)) (fun _ => ?_)) c 0 (by omega) (fun k hk => by omega))
      · obtain ⟨j, h1, h2, h3⟩ := (tg_iff hV (lg := lg) hic g hset).mp y
        exact z j h1 h2 h3
      · rw [e1]
        exact ih (i + 1) (by omega) (nxt (fun _ => (tg_iff hV (lg := lg) hic g hset).mpr z))
    · rw [hcl, a1, (k_opn (e i) he).2.2] at g
      rw [e1]
      exact ih (i + 1) (by omega) (nxt (fun z => absurd z g))
theorem s_mzero {T : Nat} (hT : T ≤ 200) {Q : st_S → Option eg_V → Prop} : ∀ d x (σ : st_S), x + d = T → σ.1 26 0 27 = Int32.ofNat T → (∀ j, j < x → σ.1 42 0 j = 0) →
    (∀ σ', fr [(42, 999)] σ σ' → (∀ j, j < T → σ'.1 42 0 j = 0) → pw_E 107 139 σ' (0, 0) [(0, .inr (26, 0)), (1, .inl 0), (2, .inl 0)] [] Q) →
    pw_E 107 116 σ (0, 0) [(0, .inr (26, 0)), (1, .inl 0), (2, .inl (Int32.ofNat x))] [] Q := by
  intro d
  induction d with
  | zero =>
    intro x σ hd h27 h0 K
    have : x = T := by omega
    subst this
    have hle : σ.1 26 0 27 ≤ Int32.ofNat x := by rw [h27]; exact Int32.le_refl _
    exact w_M_assemble_116 (fun _ => K σ fr_rf h0) (fun h => absurd hle h) (fun h => absurd hle h)
  | succ d ih =>
    intro x σ hd h27 h0 K
    have hle : ¬ σ.1 26 0 27 ≤ Int32.ofNat x := by rw [h27, n_le (by omega) (by omega)]; omega
    refine w_M_assemble_116 (fun h => absurd h hle) (fun _ => n_inb (by omega) (by omega)) (fun _ => ?_)
    rw [n_cl (by omega), show Int32.ofNat x + 1 = Int32.ofNat (x + 1) from n_add x 1]
    refine ih (x + 1) _ (by omega) h27 (fun j hj => ?_) (fun σ' f => K σ' (fr_tr (fr_up fr_rf rfl) f))
    by_cases hjx : j = x
    · subst hjx; exact up_eq ..
    · exact (up_j hjx).trans (h0 j (by omega))
theorem s_mwall {lg : Nat → Bool} (hV : tx_V c l e rg n m lb sb) (hT : Lat e n m lg c ≤ 200) {Q : st_S → Option eg_V → Prop} : ∀ d i (σ : st_S), i + d = c → WH c l e rg n m lb na sb lg σ → (∀ x, x < Lat e n m lg c → σ.1 42 0 x = Int32.ofNat (cd c e rg n m lb sb lg i x)) →
    (∀ σ', fr [(42, 999)] σ σ' → (∀ x, x < Lat e n m lg c → σ'.1 42 0 x = Int32.ofNat (cd c e rg n m lb sb lg c x)) → pw_E 107 199 (st_up (st_up (st_up (st_up σ' 26 0 41 0) 26 0 42 0) 26 0 43 0) 26 0 44 0) (0, 0) [(0, .inr (26, 0)), (2, .inl 0)] [] Q) →
    pw_E 107 139 σ (0, 0) [(0, .inr (26, 0)), (1, .inl (Int32.ofNat (tb e n m lg i))), (2, .inl (Int32.ofNat i))] [] Q := by
  have hc40 := hV.1
  intro d
  induction d with
  | zero =>
    intro i σ hd hW hm K
    have : i = c := by omega
    subst this
    have hle : σ.1 26 0 12 ≤ Int32.ofNat i := by rw [hW.1.1]; exact Int32.le_refl _
    exact w_M_assemble_139 (fun _ => K σ fr_rf hm) (fun h => absurd hle h) (fun h => absurd hle h) (fun h => absurd hle h) (fun h => absurd hle h)
  | succ d ih =>
    intro i σ hd hW hm K
    have hic : i < c := by omega
    have hle : ¬ σ.1 26 0 12 ≤ Int32.ofNat i := by rw [hW.1.1, n_le (by omega) (by omega)]; omega
    have hcl : (Int32.ofNat i).toNatClampNeg = i := n_cl (by omega)
    have e1 : Int32.ofNat i + 1 = Int32.ofNat (i + 1) := n_add i 1
    have he := (hV.2.2.1 i hic).1
    have a1 := (hW.1.2.2.2 i hic).1
    have hend : Lad e n m lg i + Lsz e n m lg i ≤ Lat e n m lg c := Lat_mono' (i := i + 1) (j := c) hic
    have htb : tb e n m lg (i + 1) = if e i = 14 then Lad e n m lg i else tb e n m lg i := rfl
    refine w_M_assemble_139 (fun h => absurd h hle) (fun _ => n_inb (by omega) (by omega)) (fun _ _ => n_inb (by omega) (by omega)) (fun _ g => ?_) (fun _ g => ?_)
    · rw [hcl, a1, (k_opn (e i) he).2.2] at g
      rw [hcl, hW.2.2.1 i hic]
      rw [if_pos g] at htb
      refine s_mwrite hV hic hend hT (fun z => by omega) hW hm (fun σ1 f1 m1 => w_M_assemble_171 ?_)
      rw [e1, ← htb]
      exact ih (i + 1) σ1 (by omega) (hW.fr f1) m1 (fun σ' f => K σ' (fr_tr f1 f))
    · rw [hcl, a1, (k_opn (e i) he).2.2] at g
      rw [if_neg g] at htb
      refine s_mwrite hV hic hend hT (fun _ => rfl) hW hm (fun σ1 f1 m1 => w_M_assemble_171 ?_)
      rw [e1, ← htb]
      exact ih (i + 1) σ1 (by omega) (hW.fr f1) m1 (fun σ' f => K σ' (fr_tr f1 f))
theorem s_mreg {Q : st_S → Option eg_V → Prop} : ∀ d x (σ : st_S), x + d = 16 → (∀ j, j < x → σ.1 46 0 j = 0) →
    (∀ σ', fr [(46, 999)] σ σ' → (∀ j, j < 16 → σ'.1 46 0 j = 0) → Q σ' (some (.inl (σ'.1 26 0 27)))) →
    pw_E 107 199 σ (0, 0) [(0, .inr (26, 0)), (2, .inl (Int32.ofNat x))] [] Q := by
  intro d
  induction d with
  | zero =>
    intro x σ hd h0 K
    have : x = 16 := by omega
    subst this
    exact w_M_assemble_199 (fun _ => K σ fr_rf h0) (fun h => absurd (by decide) h) (fun h => absurd (by decide) h)
  | succ d ih =>
    intro x σ hd h0 K
    have hle : ¬ (16 : Int32) ≤ Int32.ofNat x := by rw [show (16 : Int32) = Int32.ofNat 16 from rfl, n_le (by omega) (by omega)]; omega
    refine w_M_assemble_199 (fun h => absurd h hle) (fun _ => n_inb (by omega) (by omega)) (fun _ => ?_)
    rw [n_cl (by omega), show Int32.ofNat x + 1 = Int32.ofNat (x + 1) from n_add x 1]
    refine ih (x + 1) _ (by omega) (fun j hj => ?_) (fun σ' f => K σ' (fr_tr (fr_up fr_rf rfl) f))
    by_cases hjx : j = x
    · subst hjx; exact up_eq ..
    · exact (up_j hjx).trans (h0 j (by omega))
theorem s_anew {Q : st_S → Option eg_V → Prop} : ∀ d x (σ : st_S), x + d = 16 → (∀ j, j < x → σ.1 23 0 j = 0) →
    (∀ σ', fr [(22, 999), (23, 999)] σ σ' → (∀ j, j < 16 → σ'.1 23 0 j = 0) → σ'.1 22 0 1 = 0 → σ'.1 22 0 2 = 0 → σ'.1 22 0 3 = 0 → σ'.1 22 0 4 = 0 → Q σ' none) →
    pw_E 56 2 σ (0, 0) [(0, .inr (22, 0)), (1, .inl (Int32.ofNat x))] [] Q := by
  intro d
  induction d with
  | zero =>
    intro x σ hd h0 K
    have : x = 16 := by omega
    subst this
    exact w_Machine_startAnew_2 (fun _ => K _ (fr_up (fr_up (fr_up (fr_up fr_rf rfl) rfl) rfl) rfl) h0 rfl rfl rfl rfl) (fun h => absurd (by decide) h) (fun h => absurd (by decide) h)
  | succ d ih =>
    intro x σ hd h0 K
    have hle : ¬ (16 : Int32) ≤ Int32.ofNat x := by rw [show (16 : Int32) = Int32.ofNat 16 from rfl, n_le (by omega) (by omega)]; omega
    refine w_Machine_startAnew_2 (fun h => absurd h hle) (fun _ => n_inb (by omega) (by omega)) (fun _ => ?_)
    rw [n_cl (by omega), show Int32.ofNat x + 1 = Int32.ofNat (x + 1) from n_add x 1]
    refine ih (x + 1) _ (by omega) (fun j hj => ?_) (fun σ' f => K σ' (fr_tr (fr_up fr_rf rfl) f))
    by_cases hjx : j = x
    · subst hjx; exact up_eq ..
    · exact (up_j hjx).trans (h0 j (by omega))
end
theorem eg_rf01 : eg_rf 2 0 = true ∧ eg_rf 2 1 = true := by decide
theorem cs_assemble (xs : Nat → Int32) (L : Nat) : CallS xs L 46 107 [] := by
  intro σ r
  have r' := r
  obtain ⟨a1, ⟨c, l, e, rg, n, m, lb, na, sb, hV, hC, hM, hL⟩, a3, a4, a5, a6, a7⟩ := r'
  obtain ⟨lg, hfx, hL1, hL2, hL3⟩ := hL
  have hL2 : σ.1 7 0 3 = Int32.ofNat (Lat e n m lg c) := hL2
  have hat := Lat_le hV (lg := lg) (Nat.le_refl c)
  have hA : LA c e n m lg σ := ⟨fun j hj => (hL1 j hj).2, hL2⟩
  refine w_U_assemble_0 (w_Text_allLabelsAreSet_0 (w_Labels_allAreSet_0 (s_allset hV hC (fun h0 => ?_) (fun hset => ?_) l 0 (by omega) (fun k hk => by omega))))
  · refine w_Text_allLabelsAreSet_7 eg_rf01.1 (w_U_assemble_7 (fun _ => ⟨_, rfl, ?_⟩) (fun z => absurd rfl z))
    refine w_M_assemble_0 (s_mset hV hM (fun _ => ⟨rfl, r⟩) (fun z => ?_) l 0 (by omega) (fun k hk => by omega))
    obtain ⟨k, h1, h2⟩ := h0
    exact absurd h2 (z k h1)
  · refine w_Text_allLabelsAreSet_7 eg_rf01.2 (w_U_assemble_7 (fun z => absurd z (by decide)) (fun _ => ?_))
    have ref : ∀ {σ1 : st_S} {Q : st_S → Option eg_V → Prop}, tx_M c l e rg n m lb na sb σ1 → (∀ σ2, fr [(40, 999), (41, 999), (26, 25)] σ1 σ2 → WH c l e rg n m lb na sb lg σ2 → pw_E 107 34 σ2 (0, 0) [(0, .inr (26, 0)), (1, .inl 0)] [] Q) → pw_E 107 0 σ1 (0, 0) [(0, .inr (26, 0))] [] Q := fun {σ1 Q} hM1 K => by
      refine w_M_assemble_0 (s_mset hV hM1 (fun ⟨k, h1, h2⟩ => absurd h2 (hset k h1)) (fun _ => s_settle hV hM1 (fun σ2 lg' f2 hfx2 hF2 hA2 => w_M_assemble_32 ?_)) l 0 (by omega) (fun k hk => by omega))
      have := ly_fix_un _ _ _ _ _ hfx hfx2
      subst this
      exact K σ2 f2 ⟨hM1.ag (fr_ag f2 rfl), hF2, hA2⟩
    refine w_Text_allTablesMeanCases_0 (s_tables hV hC (fun ht => ?_) (fun ht => ?_) c 0 (by omega) (fun k hk => by omega))
    · refine w_U_assemble_20 (fun _ => ⟨_, rfl, ?_⟩) (fun z => absurd rfl z) (fun z => absurd rfl z)
      refine ref hM (fun σ2 f2 hW => s_mtables hV hset hW.1 hW.2.2 (fun _ => ⟨rfl, RR_S f2 r⟩) (fun z _ => ?_) (fun z _ => ?_) c 0 (by omega) (fun k hk => by omega))
      all_goals (obtain ⟨i, h1, h2, h3⟩ := ht; exact absurd (z i h1 h2) h3)
    refine w_U_assemble_20 (fun z => absurd z (by decide)) (fun _ g => ?_) (fun _ g => ⟨_, rfl, ?_⟩)
    · rw [hL2, show (200 : Int32) = Int32.ofNat 200 from rfl, n_le (by omega) (by omega)] at g
      refine w_Text_writeTo_0 ?_
      have hC0 : tx_C c l e rg n m lb na sb (st_up σ 16 0 1 0) := hC.ag (fr_ag (l := [(16, 1)]) (fr_up fr_rf rfl) rfl)
      refine s_wto (lg := lg) hV g c 0 (st_up σ 16 0 1 0) (by omega) hC0 (fun j hj => (hL1 j hj).1) hA ⟨up_eq .., fun j hj => absurd hj (Nat.not_lt_zero j)⟩ (fun σ1 f1 c1 => w_U_assemble_53 (w_Machine_startAnew_0 (s_anew 16 0 σ1 (by omega) (fun j hj => by omega) (fun σ2 f2 q0 q1 q2 q3 q4 => w_U_assemble_60 ⟨_, rfl, ?_⟩))))
      have F2 : fr [(16, 1), (17, 999), (22, 999), (23, 999)] σ σ2 := fr_tr (fr_up fr_rf rfl) (fr_tr (fr_w _ f1 rfl) (fr_w _ f2 rfl))
      have c2 : cc_C (Lat e n m lg c) (cd c e rg n m lb sb lg c) σ2 := c1.ag (fr_ag f2 rfl)
      refine ref (hM.ag (fr_ag F2 rfl)) (fun σ3 f3 hW3 => s_mtables hV hset hW3.1 hW3.2.2 (fun ⟨i, h1, h2, h3⟩ => absurd (ht i h1 h2) h3) (fun _ z => absurd g z) (fun _ _ => ?_) c 0 (by omega) (fun k hk => by omega))
      refine s_mzero g (Lat e n m lg c) 0 _ (by omega) (up_eq ..) (fun j hj => by omega) (fun σ4 f4 z4 => ?_)
      have hW4 : WH c l e rg n m lb na sb lg σ4 := WH.fr (σ := st_up σ3 26 0 27 (Int32.ofNat (Lat e n m lg c))) ⟨hW3.1.ag (fr_ag (l := [(26, 27)]) (fr_up fr_rf rfl) rfl), hW3.2.1, hW3.2.2⟩ f4
      refine s_mwall (lg := lg) hV g c 0 σ4 (by omega) hW4 (fun x hx => z4 x hx) (fun σ5 f5 m5 => s_mreg 16 0 _ (by omega) (fun j hj => by omega) (fun σ6 f6 r6 => ⟨?_, ?_⟩))
      · rw [c2.1, f6.2 26 0 27 rfl]
        show some (Sum.inl (σ5.1 26 0 27)) = _
        rw [f5.2 26 0 27 rfl, f4.2 26 0 27 rfl]
        rfl
      · have F6 : fr [(26, 27), (26, 41), (26, 42), (26, 43), (26, 44), (40, 999), (41, 999), (26, 25), (42, 999), (46, 999)] σ2 σ6 := fr_tr (fr_w _ f3 rfl) (fr_tr (fr_up fr_rf rfl) (fr_tr (fr_w _ f4 rfl) (fr_tr (fr_w _ f5 rfl) (fr_tr (fr_up (fr_up (fr_up (fr_up fr_rf rfl) rfl) rfl) rfl) (fr_w _ f6 rfl)))))
        have h27 : σ6.1 26 0 27 = Int32.ofNat (Lat e n m lg c) := (f6.2 26 0 27 rfl).trans ((f5.2 26 0 27 rfl).trans ((f4.2 26 0 27 rfl).trans (up_eq ..)))
        refine ⟨(a1.ag (fr_ag F2 rfl)).ag (fr_ag F6 rfl), ?_, ⟨Lat e n m lg c, cd c e rg n m lb sb lg c, ⟨g, fun j _ => cd_lt hV c j (Nat.le_refl c)⟩, c2.ag (fr_ag F6 rfl), ⟨h27, fun j hj => (f6.2 42 0 j rfl).trans (m5 j hj)⟩⟩, ⟨?_, ?_, ?_, ?_, fun j hj => ?_⟩, (a5.ag (fr_ag F2 rfl)).ag (fr_ag F6 rfl), (a6.ag F2.1 (fr_ag F2 rfl)).ag F6.1 (fr_ag F6 rfl), (a7.ag F2.1 (fr_ag F2 rfl)).ag F6.1 (fr_ag F6 rfl)⟩
        · exact (r.2.1.ag (fr_ag F2 rfl) (fr_ag F2 rfl) (fr_ag F2 rfl)).ag (fr_ag F6 rfl) (fr_ag F6 rfl) (fr_ag F6 rfl)
        · exact ((F6.2 22 0 1 rfl).trans q1).trans (f6.2 26 0 41 rfl).symm
        · exact ((F6.2 22 0 2 rfl).trans q2).trans (f6.2 26 0 42 rfl).symm
        · exact ((F6.2 22 0 3 rfl).trans q3).trans (f6.2 26 0 43 rfl).symm
        · exact ((F6.2 22 0 4 rfl).trans q4).trans (f6.2 26 0 44 rfl).symm
        · exact ((F6.2 23 0 j rfl).trans (q0 j hj)).trans (r6 j hj).symm
    · rw [hL2, show (200 : Int32) = Int32.ofNat 200 from rfl, n_le (by omega) (by omega)] at g
      exact ref hM (fun σ2 f2 hW => s_mtables hV hset hW.1 hW.2.2 (fun ⟨i, h1, h2, h3⟩ => absurd (ht i h1 h2) h3) (fun _ _ => ⟨rfl, RR_S f2 r⟩) (fun _ z => absurd z g) c 0 (by omega) (fun k hk => by omega))
