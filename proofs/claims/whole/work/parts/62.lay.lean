/-! LAYOUT, the class's way -/
section
variable {c l : Nat} {e : Nat → Nat} {rg : Nat → Nat → Nat} {n : Nat → Int32} {m : Nat → Nat} {lb : Nat → Nat → Nat} {na : Nat → Int32} {sb : Nat → Option Nat}
abbrev Lat (e : Nat → Nat) (n : Nat → Int32) (m : Nat → Nat) (lg : Nat → Bool) (i : Nat) : Nat := ly_at (tx_s0 e n m) (tx_jp e) (tx_cs e) lg i
abbrev Lad (e : Nat → Nat) (n : Nat → Int32) (m : Nat → Nat) (lg : Nat → Bool) (i : Nat) : Nat := ly_ad (tx_s0 e n m) (tx_jp e) (tx_cs e) lg i
abbrev Lsz (e : Nat → Nat) (n : Nat → Int32) (m : Nat → Nat) (lg : Nat → Bool) (i : Nat) : Nat := ly_sz (tx_s0 e n m) (tx_jp e) lg i
abbrev Lmn (c : Nat) (e : Nat → Nat) (n : Nat → Int32) (m : Nat → Nat) (lg : Nat → Bool) (o : Option Nat) : Nat := ly_mean c (tx_s0 e n m) (tx_jp e) (tx_cs e) lg o
abbrev Lnx (c : Nat) (e : Nat → Nat) (n : Nat → Int32) (m : Nat → Nat) (lb : Nat → Nat → Nat) (sb : Nat → Option Nat) (lg : Nat → Bool) (i : Nat) : Bool := ly_nx c (tx_s0 e n m) (tx_jp e) (tx_cs e) (tx_tg lb sb) lg i
abbrev LLG (c : Nat) (e : Nat → Nat) (n : Nat → Int32) (m : Nat → Nat) (lb : Nat → Nat → Nat) (sb : Nat → Option Nat) (k : Nat) : Nat → Bool := ly_LG c (tx_s0 e n m) (tx_jp e) (tx_cs e) (tx_tg lb sb) k
abbrev Lst (c : Nat) (e : Nat → Nat) (n : Nat → Int32) (m : Nat → Nat) (lb : Nat → Nat → Nat) (sb : Nat → Option Nat) (lg : Nat → Bool) : Prop := ly_st c (tx_s0 e n m) (tx_jp e) (tx_cs e) (tx_tg lb sb) lg
abbrev Lfx (c : Nat) (e : Nat → Nat) (n : Nat → Int32) (m : Nat → Nat) (lb : Nat → Nat → Nat) (sb : Nat → Option Nat) (lg : Nat → Bool) : Prop := ly_fix c (tx_s0 e n m) (tx_jp e) (tx_cs e) (tx_tg lb sb) lg
abbrev Lrc (c : Nat) (e : Nat → Nat) (n : Nat → Int32) (m : Nat → Nat) (lb : Nat → Nat → Nat) (sb : Nat → Option Nat) (lg : Nat → Bool) (i : Nat) : Bool := ly_reach c (tx_s0 e n m) (tx_jp e) (tx_cs e) (tx_tg lb sb) lg i
theorem k_un2 : ∀ e, e < 16 → kd_units e = Int32.ofNat (ku e) ∧ ku e ≤ 3 ∧ 1 ≤ ku e := by decide +kernel
theorem tx_s7 (hV : tx_V c l e rg n m lb sb) : ∀ i, i < c → tx_s0 e n m i ≤ 7 := by
  intro i hi
  obtain ⟨h1, -, -, -, -, -, -, -, -, h2, -⟩ := hV.2.2.1 i hi
  unfold tx_s0
  split
  · rename_i h; have := h2 h; omega
  · split
    · split <;> omega
    · have := (k_un2 (e i) h1).2.1; omega
theorem Lat_le (hV : tx_V c l e rg n m lb sb) {lg : Nat → Bool} {i : Nat} (hi : i ≤ c) : Lat e n m lg i ≤ 320 := by
  have := ly_at_le c (tx_s0 e n m) (tx_jp e) (tx_cs e) (lg := lg) (tx_s7 hV) i hi
  have := hV.1
  show ly_at (tx_s0 e n m) (tx_jp e) (tx_cs e) lg i ≤ 320
  omega
theorem Lat_succ {lg : Nat → Bool} {i : Nat} : Lat e n m lg (i + 1) = Lad e n m lg i + Lsz e n m lg i := rfl
theorem Lad_le (hV : tx_V c l e rg n m lb sb) {lg : Nat → Bool} {i : Nat} (hi : i < c) : Lad e n m lg i ≤ 321 := by
  have := Lat_le hV (lg := lg) (Nat.le_of_lt hi)
  show ly_pad (tx_cs e) (Lat e n m lg i) i ≤ 321
  unfold ly_pad
  split <;> omega
theorem Lsz_le (hV : tx_V c l e rg n m lb sb) {lg : Nat → Bool} {i : Nat} (hi : i < c) : Lsz e n m lg i ≤ 7 := by
  have := tx_s7 hV i hi
  show ly_sz (tx_s0 e n m) (tx_jp e) lg i ≤ 7
  unfold ly_sz
  split <;> omega
theorem s_units {σ : st_S} {lg : Nat → Bool} {i : Nat} (hV : tx_V c l e rg n m lb sb) (hi : i < c) (h0 : σ.1 9 i 0 = Int32.ofNat (e i)) (h1 : σ.1 9 i 1 = tx_lgv e n lg i) (h4 : σ.1 9 i 4 = Int32.ofNat (m i)) {Q : st_S → Option eg_V → Prop}
    (K : Q σ (some (.inl (Int32.ofNat (Lsz e n m lg i))))) : pw_E 21 0 σ (0, 0) [(0, .inr (9, i))] [] Q := by
  obtain ⟨he, hn4, hn10, -⟩ := hV.2.2.1 i hi
  have hk : (σ.1 9 i 0).toNatClampNeg = e i := by rw [h0]; exact n_cl (by omega)
  have hsz : Lsz e n m lg i = if (tx_jp e i && lg i) = true then 2 else tx_s0 e n m i := rfl
  rw [hsz] at K
  refine w_Item_unitCount_0 (fun h => ?_) (fun h => ?_)
  · rw [hk] at h
    rw [hk, h4, h]
    have hj : tx_jp e i = false := beq_ff (by omega)
    have hs : tx_s0 e n m i = 3 + m i := by unfold tx_s0; rw [if_pos h]
    rw [hj, Bool.false_and, if_neg (by decide), hs] at K
    rw [show kd_units 15 = Int32.ofNat 3 from rfl, n_add]
    exact K
  · rw [hk] at h
    refine w_Item_form_0 (fun g => ?_) (fun g g' => ?_) (fun g g' => ?_)
    · rw [hk]
      refine w_Item_unitCount_29 ?_
      rw [h1] at g
      rw [(k_un2 (e i) he).1]
      unfold tx_lgv at g
      by_cases h9 : e i = 9
      · rw [if_pos h9, tx_b0] at g
        rw [g, Bool.and_false, if_neg (by decide)] at K
        have hs : tx_s0 e n m i = ku (e i) := by unfold tx_s0; rw [if_neg h, if_neg (by omega)]
        rw [hs] at K; exact K
      · rw [show tx_jp e i = false from beq_ff h9, Bool.false_and, if_neg (by decide)] at K
        rw [if_neg h9] at g
        by_cases h3 : e i = 3
        · rw [if_pos h3] at g
          by_cases hb : -8 ≤ n i ∧ n i ≤ 7
          · have hs : tx_s0 e n m i = 1 := by unfold tx_s0; rw [if_neg h, if_pos h3, if_pos hb]
            rw [hs] at K
            rw [h3]; exact K
          · rw [if_neg hb] at g; exact absurd g (by decide)
        · have hs : tx_s0 e n m i = ku (e i) := by unfold tx_s0; rw [if_neg h, if_neg h3]
          rw [hs] at K; exact K
    · rw [hk] at g'
      rw [h1] at g
      unfold tx_lgv at g
      rw [if_pos g', tx_b0, Bool.not_eq_false] at g
      refine w_Item_unitCount_29 ?_
      rw [g, Bool.and_true, if_pos (show tx_jp e i = true by unfold tx_jp; rw [g']; rfl)] at K
      exact K
    · rw [hk] at g'
      rw [h1] at g
      unfold tx_lgv at g
      rw [if_neg g'] at g
      refine w_Item_unitCount_29 ?_
      rw [show tx_jp e i = false from beq_ff g', Bool.false_and, if_neg (by decide)] at K
      by_cases h3 : e i = 3
      · rw [if_pos h3] at g
        by_cases hb : -8 ≤ n i ∧ n i ≤ 7
        · rw [if_pos hb] at g; exact absurd rfl g
        · have hs : tx_s0 e n m i = 2 := by unfold tx_s0; rw [if_neg h, if_pos h3, if_neg hb]
          rw [hs] at K; exact K
      · rw [if_neg h3] at g; exact absurd rfl g
theorem n_odd {a : Nat} (h : a < 1000) : (Int32.ofNat a - Int32.ofNat a / 2 * 2 = 1) = (a % 2 = 1) := by
  rw [show (2 : Int32) = Int32.ofNat 2 from rfl, n_rem (by omega) (by omega), show (1 : Int32) = Int32.ofNat 1 from rfl, n_inj (by omega) (by omega)]
theorem s_place {lg : Nat → Bool} (hV : tx_V c l e rg n m lb sb) {Q : st_S → Option eg_V → Prop} : ∀ d i (σ : st_S), i + d = c → σ.1 7 0 1 = Int32.ofNat c → (∀ j, j < c → σ.1 9 j 0 = Int32.ofNat (e j) ∧ σ.1 9 j 1 = tx_lgv e n lg j ∧ σ.1 9 j 4 = Int32.ofNat (m j)) → (∀ j, j < i → σ.1 9 j 7 = Int32.ofNat (Lad e n m lg j)) →
    (∀ σ', fr [(9, 7), (7, 3)] σ σ' → (∀ j, j < c → σ'.1 9 j 7 = Int32.ofNat (Lad e n m lg j)) → σ'.1 7 0 3 = Int32.ofNat (Lat e n m lg c) → Q σ' none) →
    pw_E 20 4 σ (0, 0) [(0, .inr (7, 0)), (1, .inl (Int32.ofNat (Lat e n m lg i))), (2, .inl (Int32.ofNat i))] [] Q := by
  have hc40 := hV.1
  intro d
  induction d with
  | zero =>
    intro i σ hd hc hI hA K
    have : i = c := by omega
    subst this
    have hle : σ.1 7 0 1 ≤ Int32.ofNat i := by rw [hc]; exact Int32.le_refl _
    exact w_Text_placeItems_4 (fun _ => K _ (fr_up fr_rf rfl) hA (up_eq ..)) (fun h => absurd hle h) (fun h => absurd hle h) (fun h => absurd hle h) (fun h => absurd hle h)
  | succ d ih =>
    intro i σ hd hc hI hA K
    have hic : i < c := by omega
    have hle : ¬ σ.1 7 0 1 ≤ Int32.ofNat i := by rw [hc, n_le (by omega) (by omega)]; omega
    have hat := Lat_le hV (lg := lg) (Nat.le_of_lt hic)
    obtain ⟨i0, i1, i4⟩ := hI i hic
    have he := (hV.2.2.1 i hic).1
    have hk : (σ.1 9 i 0).toNatClampNeg = e i := by rw [i0]; exact n_cl (by omega)
    have go : ∀ x, x = Lad e n m lg i → pw_E 21 0 (st_up σ 9 i 7 (Int32.ofNat x)) (0, 0) [(0, .inr (9, i))] [] (fun σ1 r1 => pw_E 20 57 σ1 (0, 0) [(0, .inr (7, 0)), (2, .inl (Int32.ofNat i))] (r1.toList ++ [.inl (Int32.ofNat x)]) Q) := by
      intro x hx
      refine s_units (σ := st_up σ 9 i 7 (Int32.ofNat x)) hV hic i0 i1 i4 (w_Text_placeItems_57 ?_)
      rw [n_add, show Int32.ofNat i + 1 = Int32.ofNat (i + 1) from n_add i 1, hx, ← Lat_succ]
      refine ih (i + 1) _ (by omega) hc hI (fun j hj => ?_) (fun σ' f hf h7 => K σ' (fr_tr (fr_up fr_rf rfl) f) hf h7)
      by_cases hji : j = i
      · subst hji; exact up_eq ..
      · exact (up_i hji).trans (hA j (by omega))
    have hpad : Lad e n m lg i = if tx_cs e i = true ∧ Lat e n m lg i % 2 = 1 then Lat e n m lg i + 1 else Lat e n m lg i := rfl
    refine w_Text_placeItems_4 (fun h => absurd h hle) (fun _ => n_inb (by omega) (by omega)) (fun _ h g => ?_) (fun _ h g => ?_) (fun _ h => ?_)
    · rw [n_cl (by omega), hk] at h
      rw [n_odd (by omega)] at g
      rw [n_cl (by omega), show Int32.ofNat (Lat e n m lg i) + 1 = Int32.ofNat (Lat e n m lg i + 1) from n_add _ 1]
      refine go _ ?_
      rw [hpad, if_pos ⟨by unfold tx_cs; rw [h]; rfl, g⟩]
    · rw [n_cl (by omega), hk] at h
      rw [n_odd (by omega)] at g
      rw [n_cl (by omega)]
      refine go _ ?_
      rw [hpad, if_neg (fun z => g z.2)]
    · rw [n_cl (by omega), hk] at h
      rw [n_cl (by omega)]
      refine go _ ?_
      rw [hpad, if_neg (fun z => by rw [show tx_cs e i = false from beq_ff h] at z; exact absurd z.1 (by decide))]
/-- the class's addresses stand, for lg -/
def LA (c : Nat) (e : Nat → Nat) (n : Nat → Int32) (m : Nat → Nat) (lg : Nat → Bool) (σ : st_S) : Prop := (∀ j, j < c → σ.1 9 j 7 = Int32.ofNat (Lad e n m lg j)) ∧ σ.1 7 0 3 = Int32.ofNat (Lat e n m lg c)
theorem s_addr {σ : st_S} {lg : Nat → Bool} {j : Nat} (hV : tx_V c l e rg n m lb sb) (hj : j < l) (hc : σ.1 7 0 1 = Int32.ofNat c) (hs : σ.1 15 0 j = tx_sv (sb j)) (hA : LA c e n m lg σ) {Q : st_S → Option eg_V → Prop}
    (K : Q σ (some (.inl (Int32.ofNat (Lmn c e n m lg (sb j)))))) : pw_E 25 0 σ (0, 0) [(0, .inr (7, 0)), (1, .inl (Int32.ofNat j))] [] Q := by
  have hl := hV.2.1
  have hc40 := hV.1
  have hb := hV.2.2.2 j
  cases hsb : sb j with
  | none =>
    rw [hsb] at K hs
    have hs : σ.1 15 0 (Int32.ofNat j).toNatClampNeg = -1 := by rw [n_cl (by omega)]; exact hs
    exact w_Text_addressOf_0 (n_inb (by omega) (by omega)) (fun _ => K) (fun h => absurd hs h) (fun h => absurd hs h) (fun h => absurd hs h)
  | some b =>
    have hb := hb b hj hsb
    rw [hsb] at K hs
    have hs : σ.1 15 0 (Int32.ofNat j).toNatClampNeg = Int32.ofNat b := by rw [n_cl (by omega)]; exact hs
    have hn1 : ¬ σ.1 15 0 (Int32.ofNat j).toNatClampNeg = -1 := by
      rw [hs]; intro z
      have := n_n0 (a := b) (by omega)
      rw [z] at this
      exact this (by decide)
    have hmn : Lmn c e n m lg (some b) = if b < c then Lad e n m lg b else Lat e n m lg c := rfl
    rw [hmn] at K
    refine w_Text_addressOf_0 (n_inb (by omega) (by omega)) (fun h => absurd h hn1) (fun _ h => ?_) (fun _ h => ?_) (fun _ h => ?_)
    · rw [hs, hc, n_le (by omega) (by omega)] at h
      rw [if_neg (by omega)] at K
      rw [hA.2]; exact K
    · rw [hs]; exact n_inb (by omega) (by omega)
    · rw [hs, hc, n_le (by omega) (by omega)] at h
      rw [if_pos (by omega)] at K
      rw [hs, n_cl (by omega), hA.1 b (by omega)]; exact K
theorem Lmn_le (hV : tx_V c l e rg n m lb sb) {lg : Nat → Bool} (o : Option Nat) : Lmn c e n m lg o ≤ 321 := by
  cases o with
  | none => exact Nat.zero_le _
  | some b =>
    show (if b < c then Lad e n m lg b else Lat e n m lg c) ≤ 321
    split
    · exact Lad_le hV (by assumption)
    · have := Lat_le hV (lg := lg) (Nat.le_refl c); omega
theorem s_reach {σ : st_S} {lg : Nat → Bool} {i : Nat} (hV : tx_V c l e rg n m lb sb) (hi : i < c) (h9 : e i = 9) (hC : tx_C c l e rg n m lb na sb σ) (hA : LA c e n m lg σ) {Q : st_S → Option eg_V → Prop}
    (K : Q σ (some (.inl (tx_b (Lrc c e n m lb sb lg i))))) : pw_E 24 0 σ (0, 0) [(0, .inr (7, 0)), (1, .inr (9, i))] [] Q := by
  obtain ⟨he, -, -, -, -, -, -, -, hm, -, hlb⟩ := hV.2.2.1 i hi
  have hm1 : m i = 1 := by rw [hm (by omega), h9]; rfl
  obtain ⟨hc, hl, hL, hI⟩ := hC
  obtain ⟨i0, ir, i3, i4, il⟩ := hI i hi
  have hl0 := hlb 0 (by omega)
  refine w_Text_reachesShort_0 ?_
  rw [il 0 (by omega)]
  refine s_addr (lg := lg) hV hl0 hc (hL _ hl0).2 hA ?_
  have b1 := Lmn_le hV (lg := lg) (sb (lb i 0))
  have b2 := Lad_le hV (lg := lg) hi
  have hd : (Int32.ofNat (Lmn c e n m lg (sb (lb i 0))) - σ.1 9 i 7).toInt = ly_d c (tx_s0 e n m) (tx_jp e) (tx_cs e) (tx_tg lb sb) lg i := by
    rw [hA.1 i hi, z_sub (by rw [n_toInt (by omega), n_toInt (by omega)]; omega) (by rw [n_toInt (by omega), n_toInt (by omega)]; omega), n_toInt (by omega), n_toInt (by omega)]
    rfl
  have K' : Q σ (some (.inl (tx_b (decide (ly_d c (tx_s0 e n m) (tx_jp e) (tx_cs e) (tx_tg lb sb) lg i ≠ 0 ∧ -128 ≤ ly_d c (tx_s0 e n m) (tx_jp e) (tx_cs e) (tx_tg lb sb) lg i ∧ ly_d c (tx_s0 e n m) (tx_jp e) (tx_cs e) (tx_tg lb sb) lg i ≤ 127))))) := K
  refine w_Text_reachesShort_10 (fun h => ?_) (fun h1 h2 => ?_) (fun h1 h2 h3 => ?_) (fun h1 h2 h3 => ?_)
  · rw [z_eq, hd] at h
    rw [decide_eq_false (fun z => z.1 h)] at K'
    exact K'
  · rw [z_lt, hd] at h2
    have h2 : _ < (-128 : Int) := h2
    rw [decide_eq_false (by omega)] at K'
    exact K'
  · rw [z_lt, hd] at h3
    have h3 : (127 : Int) < _ := h3
    rw [decide_eq_false (by omega)] at K'
    exact K'
  · rw [z_eq, hd] at h1
    rw [z_lt, hd] at h2 h3
    have h1 : ¬ _ = (0 : Int) := h1
    have h2 : ¬ _ < (-128 : Int) := h2
    have h3 : ¬ (127 : Int) < _ := h3
    rw [decide_eq_true ⟨h1, by omega, by omega⟩] at K'
    exact K'
theorem Lnx_jp {lg : Nat → Bool} {i : Nat} (hi : i < c) : Lnx c e n m lb sb lg i = (lg i || (tx_jp e i && !(Lrc c e n m lb sb lg i))) := by
  show (decide (i < c) && (lg i || (tx_jp e i && !(Lrc c e n m lb sb lg i)))) = _
  rw [decide_eq_true hi, Bool.true_and]
theorem s_len23 {lg : Nat → Bool} (hV : tx_V c l e rg n m lb sb) {Q : st_S → Option eg_V → Prop} : ∀ d i (σ : st_S) X, i + d = c → tx_C c l e rg n m lb na sb σ → LA c e n m lg σ → (∀ j, j < c → σ.1 9 j 1 = tx_lgv e n (fun j => if j < i then Lnx c e n m lb sb lg j else lg j) j) → σ.1 7 0 4 = Int32.ofNat X → X + ly_cnt lg i = ly_cnt lg c + ly_cnt (Lnx c e n m lb sb lg) i →
    (∀ σ', fr [(9, 1), (7, 4)] σ σ' → (∀ j, j < c → σ'.1 9 j 1 = tx_lgv e n (Lnx c e n m lb sb lg) j) → σ'.1 7 0 4 = Int32.ofNat (ly_cnt (Lnx c e n m lb sb lg) c) → Q σ' (some (.inl (tx_b (decide (ly_cnt lg c < ly_cnt (Lnx c e n m lb sb lg) c)))))) →
    pw_E 23 7 σ (0, 0) [(0, .inr (7, 0)), (1, .inl (Int32.ofNat (ly_cnt lg c))), (2, .inl (Int32.ofNat i))] [] Q := by
  have hc40 := hV.1
  have b0 := ly_cnt_n (lg := lg) c
  have b1 := ly_cnt_n (lg := Lnx c e n m lb sb lg) c
  intro d
  induction d with
  | zero =>
    intro i σ X hd hC hA hF hX hc K
    have : i = c := by omega
    subst this
    have hle : σ.1 7 0 1 ≤ Int32.ofNat i := by rw [hC.1]; exact Int32.le_refl _
    have hX' : X = ly_cnt (Lnx i e n m lb sb lg) i := by omega
    have hF' : ∀ j, j < i → σ.1 9 j 1 = tx_lgv e n (Lnx i e n m lb sb lg) j := fun j hj => by
      rw [hF j hj]; unfold tx_lgv
      show (if e j = 9 then tx_b (if j < i then Lnx i e n m lb sb lg j else lg j) else _) = _
      rw [if_pos hj]
    have K := K σ fr_rf hF' (by rw [hX, hX'])
    refine w_Text_lengthenJumps_7 (fun _ h => ?_) (fun _ h => ?_) (fun h => absurd hle h) (fun h => absurd hle h) (fun h => absurd hle h) (fun h => absurd hle h)
    · rw [hX, hX', n_le (by omega) (by omega)] at h
      rw [decide_eq_false (by omega)] at K; exact K
    · rw [hX, hX', n_le (by omega) (by omega)] at h
      rw [decide_eq_true (by omega)] at K; exact K
  | succ d ih =>
    intro i σ X hd hC hA hF hX hc K
    have hic : i < c := by omega
    have hle : ¬ σ.1 7 0 1 ≤ Int32.ofNat i := by rw [hC.1, n_le (by omega) (by omega)]; omega
    have e1 : Int32.ofNat i + 1 = Int32.ofNat (i + 1) := n_add i 1
    obtain ⟨i0, ir, i3, i4, il⟩ := hC.2.2.2 i hic
    have he := (hV.2.2.1 i hic).1
    have hk : (σ.1 9 i 0).toNatClampNeg = e i := by rw [i0]; exact n_cl (by omega)
    have hFi : σ.1 9 i 1 = tx_lgv e n lg i := by
      rw [hF i hic]; unfold tx_lgv
      show (if e i = 9 then tx_b (if i < i then _ else lg i) else _) = _
      rw [if_neg (Nat.lt_irrefl i)]
    have b2 := ly_cnt_n (lg := Lnx c e n m lb sb lg) i
    have hnx := Lnx_jp (c := c) (e := e) (n := n) (m := m) (lb := lb) (sb := sb) (lg := lg) hic
    have same : Lnx c e n m lb sb lg i = lg i → pw_E 23 7 σ (0, 0) [(0, .inr (7, 0)), (1, .inl (Int32.ofNat (ly_cnt lg c))), (2, .inl (Int32.ofNat (i + 1)))] [] Q := fun hs => by
      refine ih (i + 1) σ X (by omega) hC hA (fun j hj => ?_) hX ?_ K
      · rw [hF j hj]; unfold tx_lgv
        by_cases hji : j = i
        · subst hji
          show (if e j = 9 then tx_b (if j < j then _ else lg j) else _) = (if e j = 9 then tx_b (if j < j + 1 then Lnx c e n m lb sb lg j else lg j) else _)
          rw [if_neg (Nat.lt_irrefl j), if_pos (Nat.lt_succ_self j), hs]
        · show (if e j = 9 then tx_b (if j < i then Lnx c e n m lb sb lg j else lg j) else _) = (if e j = 9 then tx_b (if j < i + 1 then Lnx c e n m lb sb lg j else lg j) else _)
          by_cases hlt : j < i
          · rw [if_pos hlt, if_pos (show j < i + 1 by omega)]
          · rw [if_neg hlt, if_neg (show ¬ j < i + 1 by omega)]
      · show X + (ly_cnt lg i + if lg i = true then 1 else 0) = ly_cnt lg c + (ly_cnt (Lnx c e n m lb sb lg) i + if Lnx c e n m lb sb lg i = true then 1 else 0)
        rw [hs]; omega
    refine w_Text_lengthenJumps_7 (fun h => absurd h hle) (fun h => absurd h hle) (fun _ => n_inb (by omega) (by omega)) (fun _ h g => ?_) (fun _ h g => ?_) (fun _ h => ?_)
    · rw [n_cl (by omega), hk] at h
      rw [n_cl (by omega), hFi] at g
      unfold tx_lgv at g
      rw [if_pos h, tx_b0] at g
      rw [n_cl (by omega)]
      have hjp : tx_jp e i = true := by unfold tx_jp; rw [h]; rfl
      refine s_reach hV hic h hC hA (w_Text_lengthenJumps_44 (fun z => ?_) (fun z => ?_))
      · rw [tx_b0] at z
        rw [e1, hX, show Int32.ofNat X + 1 = Int32.ofNat (X + 1) from n_add X 1]
        have hs : Lnx c e n m lb sb lg i = true := by rw [hnx, g, hjp, z]; rfl
        have F : fr [(9, 1), (7, 4)] σ (st_up (st_up σ 9 i 1 1) 7 0 4 (Int32.ofNat (X + 1))) := fr_up (fr_up fr_rf rfl) rfl
        refine ih (i + 1) _ (X + 1) (by omega) (hC.ag (fr_ag F rfl)) ⟨hA.1, hA.2⟩ (fun j hj => ?_) (up_eq ..) ?_ (fun σ' f => K σ' (fr_tr F f))
        · unfold tx_lgv
          by_cases hji : j = i
          · subst hji
            refine (up_k (by decide)).trans ((up_eq ..).trans ?_)
            show _ = (if e j = 9 then tx_b (if j < j + 1 then Lnx c e n m lb sb lg j else lg j) else _)
            rw [if_pos h, if_pos (Nat.lt_succ_self j), hs]; rfl
          · refine (up_k (by decide)).trans ((up_i hji).trans ((hF j hj).trans ?_))
            unfold tx_lgv
            show (if e j = 9 then tx_b (if j < i then Lnx c e n m lb sb lg j else lg j) else _) = (if e j = 9 then tx_b (if j < i + 1 then Lnx c e n m lb sb lg j else lg j) else _)
            by_cases hlt : j < i
            · rw [if_pos hlt, if_pos (show j < i + 1 by omega)]
            · rw [if_neg hlt, if_neg (show ¬ j < i + 1 by omega)]
        · show X + 1 + (ly_cnt lg i + if lg i = true then 1 else 0) = ly_cnt lg c + (ly_cnt (Lnx c e n m lb sb lg) i + if Lnx c e n m lb sb lg i = true then 1 else 0)
          rw [hs, g]; simp only [if_true, Bool.false_eq_true, if_false]; omega
      · rw [tx_b0, Bool.not_eq_false] at z
        rw [e1]
        exact same (by rw [hnx, g, hjp, z]; rfl)
    · rw [n_cl (by omega), hk] at h
      rw [n_cl (by omega), hFi] at g
      unfold tx_lgv at g
      rw [if_pos h, tx_b0, Bool.not_eq_false] at g
      rw [e1]
      exact same (by rw [hnx, g]; rfl)
    · rw [n_cl (by omega), hk] at h
      rw [e1]
      exact same (by rw [hnx, show tx_jp e i = false from beq_ff h, Bool.false_and, Bool.or_false])
theorem LLG_end (k : Nat) {i : Nat} (hi : ¬ i < c) : LLG c e n m lb sb k i = false := by
  cases k with
  | zero => rfl
  | succ k =>
    show (decide (i < c) && _) = false
    rw [decide_eq_false hi, Bool.false_and]
theorem Lst_eq {k : Nat} (h : Lst c e n m lb sb (LLG c e n m lb sb k)) : Lnx c e n m lb sb (LLG c e n m lb sb k) = LLG c e n m lb sb k := by
  funext i
  by_cases hi : i < c
  · exact h i hi
  · rw [LLG_end k hi]
    exact LLG_end (k + 1) hi
theorem s_shorten {Q : st_S → Option eg_V → Prop} (hV : tx_V c l e rg n m lb sb) : ∀ d i (σ : st_S), i + d = c → σ.1 7 0 1 = Int32.ofNat c → (∀ j, j < c → σ.1 9 j 0 = Int32.ofNat (e j)) → (∀ j, j < i → e j = 9 → σ.1 9 j 1 = 0) →
    (∀ σ', fr [(9, 1)] σ σ' → (∀ j, j < c → e j ≠ 9 → σ'.1 9 j 1 = σ.1 9 j 1) → (∀ j, j < c → e j = 9 → σ'.1 9 j 1 = 0) → Q σ' none) →
    pw_E 19 7 σ (0, 0) [(0, .inr (7, 0)), (1, .inl (Int32.ofNat i))] [] Q := by
  have hc40 := hV.1
  intro d
  induction d with
  | zero =>
    intro i σ hd hc h0 h9 K
    have : i = c := by omega
    subst this
    have hle : σ.1 7 0 1 ≤ Int32.ofNat i := by rw [hc]; exact Int32.le_refl _
    exact w_Text_shortenJumps_7 (fun _ => K σ fr_rf (fun _ _ _ => rfl) h9) (fun h => absurd hle h) (fun h => absurd hle h) (fun h => absurd hle h)
  | succ d ih =>
    intro i σ hd hc h0 h9 K
    have hic : i < c := by omega
    have hle : ¬ σ.1 7 0 1 ≤ Int32.ofNat i := by rw [hc, n_le (by omega) (by omega)]; omega
    have e1 : Int32.ofNat i + 1 = Int32.ofNat (i + 1) := n_add i 1
    have he := (hV.2.2.1 i hic).1
    have hk : (σ.1 9 i 0).toNatClampNeg = e i := by rw [h0 i hic]; exact n_cl (by omega)
    refine w_Text_shortenJumps_7 (fun h => absurd h hle) (fun _ => n_inb (by omega) (by omega)) (fun _ h => ?_) (fun _ h => ?_)
    · rw [n_cl (by omega), hk] at h
      rw [n_cl (by omega), e1]
      refine ih (i + 1) _ (by omega) hc h0 (fun j hj hj9 => ?_) (fun σ' f f1 f2 => K σ' (fr_tr (fr_up fr_rf rfl) f) (fun j hj hj9 => ?_) f2)
      · by_cases hji : j = i
        · subst hji; exact up_eq ..
        · exact (up_i hji).trans (h9 j (by omega) hj9)
      · refine (f1 j hj hj9).trans ?_
        exact up_i (fun z => hj9 (by rw [z]; exact h))
    · rw [n_cl (by omega), hk] at h
      rw [e1]
      refine ih (i + 1) σ (by omega) hc h0 (fun j hj hj9 => ?_) K
      by_cases hji : j = i
      · subst hji; exact absurd hj9 h
      · exact h9 j (by omega) hj9
theorem s_lay8 (hV : tx_V c l e rg n m lb sb) {Q : st_S → Option eg_V → Prop} : ∀ d r (σ : st_S), r + d = 41 → tx_C c l e rg n m lb na sb σ → (∀ j, j < r → ¬ Lst c e n m lb sb (LLG c e n m lb sb j)) → (∀ j, j < c → σ.1 9 j 1 = tx_lgv e n (LLG c e n m lb sb r) j) → σ.1 7 0 4 = Int32.ofNat (ly_cnt (LLG c e n m lb sb r) c) →
    (∀ σ', fr fp_TL σ σ' → tx_L c e n m lb sb σ' → Q σ' none) →
    pw_E 18 8 σ (0, 0) [(0, .inr (7, 0)), (1, .inl 0), (2, .inl (Int32.ofNat r))] [] Q := by
  have hc40 := hV.1
  intro d
  induction d with
  | zero =>
    intro r σ hd hC hns
    have := ly_few c (tx_s0 e n m) (tx_jp e) (tx_cs e) (tx_tg lb sb) (k := r) hns
    omega
  | succ d ih =>
    intro r σ hd hC hns hF hX K
    have hr := ly_few c (tx_s0 e n m) (tx_jp e) (tx_cs e) (tx_tg lb sb) (k := r) hns
    have h40 : ¬ (40 : Int32) < Int32.ofNat r := by rw [show (40 : Int32) = Int32.ofNat 40 from rfl, n_lt (by omega) (by omega)]; omega
    refine w_Text_layOut_8 (fun h => absurd h h40) (fun _ _ => w_Text_placeItems_0 ?_) (fun _ h => absurd rfl h)
    refine s_place (lg := LLG c e n m lb sb r) hV c 0 σ (by omega) hC.1 (fun j hj => ⟨(hC.2.2.2 j hj).1, hF j hj, (hC.2.2.2 j hj).2.2.2.1⟩) (fun j hj => by omega) (fun σ1 f1 hA1 hA2 => w_Text_layOut_22 (w_Text_lengthenJumps_0 ?_))
    have hX1 : σ1.1 7 0 4 = Int32.ofNat (ly_cnt (LLG c e n m lb sb r) c) := (f1.2 7 0 4 rfl).trans hX
    rw [hX1]
    have hC1 := hC.ag (fr_ag f1 rfl)
    refine s_len23 (lg := LLG c e n m lb sb r) hV c 0 σ1 _ (by omega) hC1 ⟨hA1, hA2⟩ (fun j hj => ?_) hX1 rfl (fun σ2 f2 hF2 hX2 => ?_)
    · rw [f1.2 9 j 1 rfl, hF j hj]
      rfl
    · have F : fr fp_TL σ σ2 := fr_tr (fr_w _ f1 rfl) (fr_w _ f2 rfl)
      by_cases hst : Lst c e n m lb sb (LLG c e n m lb sb r)
      · have heq := Lst_eq hst
        have hfin : tx_L c e n m lb sb σ2 := by
          refine ⟨LLG c e n m lb sb r, ⟨r, hr, rfl, hst, hns⟩, fun i hi => ⟨?_, ?_⟩, ?_, ?_⟩
          · rw [hF2 i hi, heq]
          · exact (f2.2 9 i 7 rfl).trans (hA1 i hi)
          · exact (f2.2 7 0 3 rfl).trans hA2
          · rw [hX2, heq]
        refine w_Text_layOut_26 (fun _ => ?_) (fun z => absurd ?_ z)
        · exact w_Text_layOut_8 (fun _ => K σ2 F hfin) (fun _ h => absurd h (by decide)) (fun _ _ => K σ2 F hfin)
        · rw [tx_b0]; rw [heq]; exact decide_eq_false (Nat.lt_irrefl _)
      · have hg := ly_grow c (tx_s0 e n m) (tx_jp e) (tx_cs e) (tx_tg lb sb) hst
        refine w_Text_layOut_26 (fun z => ?_) (fun _ => ?_)
        · rw [tx_b0] at z
          exact absurd hg (of_decide_eq_false z)
        · rw [show Int32.ofNat r + 1 = Int32.ofNat (r + 1) from n_add r 1]
          refine ih (r + 1) σ2 (by omega) (hC1.ag (fr_ag f2 rfl)) (fun j hj => ?_) hF2 hX2 (fun σ' f => K σ' (fr_tr F f))
          by_cases hjr : j = r
          · subst hjr; exact hst
          · exact hns j (by omega)
theorem ly_cnt0 : ∀ k, ly_cnt (fun _ => false) k = 0
  | 0 => rfl
  | k + 1 => by
    show ly_cnt (fun _ => false) k + _ = 0
    rw [ly_cnt0 k]; rfl
/-- the class lays out -/
theorem s_layOut {σ : st_S} (hV : tx_V c l e rg n m lb sb) (hC : tx_C c l e rg n m lb na sb σ) (hF : ∀ j, j < c → e j ≠ 9 → σ.1 9 j 1 = tx_lgv e n (fun _ => false) j) {Q : st_S → Option eg_V → Prop}
    (K : ∀ σ', fr fp_TL σ σ' → tx_L c e n m lb sb σ' → Q σ' none) : pw_E 18 0 σ (0, 0) [(0, .inr (7, 0))] [] Q := by
  refine w_Text_layOut_0 (w_Text_shortenJumps_0 ?_)
  refine s_shorten hV c 0 _ (by omega) hC.1 (fun j hj => (hC.2.2.2 j hj).1) (fun j hj => by omega) (fun σ1 f1 h1 h2 => w_Text_layOut_4 ?_)
  have F : fr fp_TL σ σ1 := fr_tr (fr_up fr_rf rfl) (fr_w _ f1 rfl)
  refine s_lay8 hV 41 0 σ1 (by omega) (hC.ag (fr_ag F rfl)) (fun j hj => by omega) (fun j hj => ?_) ?_ (fun σ' f => K σ' (fr_tr F f))
  · show σ1.1 9 j 1 = tx_lgv e n (fun _ => false) j
    by_cases h9 : e j = 9
    · rw [h2 j hj h9]
      unfold tx_lgv; rw [if_pos h9]; rfl
    · rw [h1 j hj h9]
      exact hF j hj h9
  · refine (f1.2 7 0 4 rfl).trans ((up_eq ..).trans ?_)
    rw [show LLG c e n m lb sb 0 = fun _ => false from rfl, ly_cnt0]; rfl
end
