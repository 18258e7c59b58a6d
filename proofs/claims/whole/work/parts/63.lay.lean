/-! LAYOUT, the reference's way -/
section
variable {c l : Nat} {e : Nat → Nat} {rg : Nat → Nat → Nat} {n : Nat → Int32} {m : Nat → Nat} {lb : Nat → Nat → Nat} {na : Nat → Int32} {sb : Nat → Option Nat}
theorem s_size {σ : st_S} {lg : Nat → Bool} {i : Nat} (hV : tx_V c l e rg n m lb sb) (hi : i < c) (hM : tx_M c l e rg n m lb na sb σ) (hL : σ.1 40 0 i = tx_b (lg i)) {Q : st_S → Option eg_V → Prop}
    (K : Q σ (some (.inl (Int32.ofNat (Lsz e n m lg i))))) : pw_E 110 0 σ (0, 0) [(0, .inr (26, 0)), (1, .inl (Int32.ofNat i))] [] Q := by
  have hc40 := hV.1
  obtain ⟨he, hn4, hn10, -⟩ := hV.2.2.1 i hi
  obtain ⟨a1, a2, a3, a4, a5, a6, a7⟩ := hM.2.2.2 i hi
  have hcl : (Int32.ofNat i).toNatClampNeg = i := n_cl (by omega)
  have hsz : Lsz e n m lg i = if (tx_jp e i && lg i) = true then 2 else tx_s0 e n m i := rfl
  rw [hsz] at K
  have opi : ∀ o, o < 16 → σ.1 30 0 (Int32.ofNat i).toNatClampNeg = kd_op o → e i = o := fun o ho h => by
    rw [hcl, a1] at h; exact k_opx (e i) he o ho h
  have nopi : ∀ o, o < 16 → ¬ σ.1 30 0 (Int32.ofNat i).toNatClampNeg = kd_op o → e i ≠ o := fun o ho h z => h (by rw [hcl, a1, z])
  have nj : e i ≠ 9 → Q σ (some (.inl (Int32.ofNat (tx_s0 e n m i)))) := fun h => by
    rw [show tx_jp e i = false from beq_ff h, Bool.false_and, if_neg (by decide)] at K; exact K
  have s0 : e i ≠ 15 → e i ≠ 3 → tx_s0 e n m i = ku (e i) := fun h1 h2 => by unfold tx_s0; rw [if_neg h1, if_neg h2]
  refine w_M_sizeOf_0 (n_inb (by omega) (by omega)) (fun h => ?_) (fun _ h => ?_) (fun _ _ h => ?_) (fun _ _ _ h g => ?_) (fun _ _ _ h g g' => ?_) (fun _ _ _ h g g' => ?_) (fun _ _ _ _ h g => ?_) (fun _ _ _ _ h g => ?_) (fun _ _ _ _ _ h => ?_) (fun h0 h1 h2 h3 h4 h5 => ?_)
  · have z := opi 0 (by omega) h
    have K := nj (by omega)
    rw [s0 (by omega) (by omega), z] at K; exact K
  · have z := opi 1 (by omega) h
    have K := nj (by omega)
    rw [s0 (by omega) (by omega), z] at K; exact K
  · have z := opi 2 (by omega) h
    have K := nj (by omega)
    rw [s0 (by omega) (by omega), z] at K; exact K
  · have z := opi 3 (by omega) h
    rw [hcl, a5] at g
    have K := nj (by omega)
    unfold tx_s0 at K
    rw [if_neg (by omega), if_pos z, if_neg (fun y => absurd y.1 (Int32.not_le.mpr g))] at K; exact K
  · have z := opi 3 (by omega) h
    rw [hcl, a5] at g g'
    have K := nj (by omega)
    unfold tx_s0 at K
    rw [if_neg (by omega), if_pos z, if_neg (fun y => absurd y.2 (Int32.not_le.mpr g'))] at K; exact K
  · have z := opi 3 (by omega) h
    rw [hcl, a5] at g g'
    have K := nj (by omega)
    unfold tx_s0 at K
    rw [if_neg (by omega), if_pos z, if_pos ⟨Int32.not_lt.mp g, Int32.not_lt.mp g'⟩] at K; exact K
  · have z := opi 9 (by omega) h
    rw [hcl, hL, tx_b0] at g
    rw [g, Bool.and_false, if_neg (by decide), s0 (by omega) (by omega), z] at K; exact K
  · have z := opi 9 (by omega) h
    rw [hcl, hL, tx_b0, Bool.not_eq_false] at g
    rw [g, Bool.and_true, if_pos (show tx_jp e i = true by unfold tx_jp; rw [z]; rfl)] at K; exact K
  · have z := opi 15 (by omega) h
    have K := nj (by omega)
    unfold tx_s0 at K
    rw [if_pos z, ← n_add] at K
    rw [hcl, a6]; exact K
  · have z0 := nopi 0 (by omega) h0
    have z1 := nopi 1 (by omega) h1
    have z2 := nopi 2 (by omega) h2
    have z3 := nopi 3 (by omega) h3
    have z4 := nopi 9 (by omega) h4
    have z5 := nopi 15 (by omega) h5
    have K := nj z4
    have hk2 : ku (e i) = 2 := by
      have := (by decide +kernel : ∀ e, e < 16 → (e = 0 ∨ e = 1 ∨ e = 2 ∨ e = 3 ∨ e = 9 ∨ e = 15 ∨ ku e = 2)) (e i) he
      omega
    rw [s0 z5 z3, hk2] at K
    exact K
/-- the reference's addresses stand, for lg -/
def MA (c : Nat) (e : Nat → Nat) (n : Nat → Int32) (m : Nat → Nat) (lg : Nat → Bool) (σ : st_S) : Prop := (∀ j, j < c → σ.1 41 0 j = Int32.ofNat (Lad e n m lg j)) ∧ σ.1 26 0 25 = Int32.ofNat (Lat e n m lg c)
theorem s_mplace {lg : Nat → Bool} (hV : tx_V c l e rg n m lb sb) {Q : st_S → Option eg_V → Prop} : ∀ d i (σ : st_S), i + d = c → tx_M c l e rg n m lb na sb σ → (∀ j, j < c → σ.1 40 0 j = tx_b (lg j)) → (∀ j, j < i → σ.1 41 0 j = Int32.ofNat (Lad e n m lg j)) →
    (∀ σ', fr [(41, 999), (26, 25)] σ σ' → MA c e n m lg σ' → Q σ' none) →
    pw_E 109 4 σ (0, 0) [(0, .inr (26, 0)), (1, .inl (Int32.ofNat (Lat e n m lg i))), (2, .inl (Int32.ofNat i))] [] Q := by
  have hc40 := hV.1
  intro d
  induction d with
  | zero =>
    intro i σ hd hM hI hA K
    have : i = c := by omega
    subst this
    have hle : σ.1 26 0 12 ≤ Int32.ofNat i := by rw [hM.1]; exact Int32.le_refl _
    exact w_M_layOut_4 (fun _ => K _ (fr_up fr_rf rfl) ⟨hA, up_eq ..⟩) (fun h => absurd hle h) (fun h => absurd hle h) (fun h => absurd hle h) (fun h => absurd hle h) (fun h => absurd hle h) (fun h => absurd hle h) (fun h => absurd hle h)
  | succ d ih =>
    intro i σ hd hM hI hA K
    have hic : i < c := by omega
    have hle : ¬ σ.1 26 0 12 ≤ Int32.ofNat i := by rw [hM.1, n_le (by omega) (by omega)]; omega
    have hat := Lat_le hV (lg := lg) (Nat.le_of_lt hic)
    have a1 := (hM.2.2.2 i hic).1
    have he := (hV.2.2.1 i hic).1
    have hcl : (Int32.ofNat i).toNatClampNeg = i := n_cl (by omega)
    have go : ∀ x, x = Lad e n m lg i → pw_E 110 0 (st_up σ 41 0 i (Int32.ofNat x)) (0, 0) [(0, .inr (26, 0)), (1, .inl (Int32.ofNat i))] [] (fun σ1 r1 => pw_E 109 47 σ1 (0, 0) [(0, .inr (26, 0)), (2, .inl (Int32.ofNat i))] (r1.toList ++ [.inl (Int32.ofNat x)]) Q) := by
      intro x hx
      have F : fr [(41, 999), (26, 25)] σ (st_up σ 41 0 i (Int32.ofNat x)) := fr_up fr_rf rfl
      refine s_size (σ := st_up σ 41 0 i (Int32.ofNat x)) (lg := lg) hV hic (hM.ag (fr_ag F rfl)) (hI i hic) (w_M_layOut_47 ?_)
      rw [n_add, show Int32.ofNat i + 1 = Int32.ofNat (i + 1) from n_add i 1, hx, ← Lat_succ]
      refine ih (i + 1) _ (by omega) (hM.ag (fr_ag (hx ▸ F) rfl)) hI (fun j hj => ?_) (fun σ' f hf => K σ' (fr_tr (fr_up fr_rf rfl) f) hf)
      by_cases hji : j = i
      · subst hji; exact up_eq ..
      · exact (up_j hji).trans (hA j (by omega))
    have hpad : Lad e n m lg i = if tx_cs e i = true ∧ Lat e n m lg i % 2 = 1 then Lat e n m lg i + 1 else Lat e n m lg i := rfl
    have inb : eg_inb (Int32.ofNat i) 41 = true := n_inb (by omega) (by omega)
    refine w_M_layOut_4 (fun h => absurd h hle) (fun _ => n_inb (by omega) (by omega)) (fun _ _ _ => inb) (fun _ h g => ?_) (fun _ _ _ => inb) (fun _ h g => ?_) (fun _ _ => inb) (fun _ h => ?_)
    · rw [hcl, a1, (k_opn (e i) he).2.1] at h
      rw [n_odd (by omega)] at g
      rw [hcl, show Int32.ofNat (Lat e n m lg i) + 1 = Int32.ofNat (Lat e n m lg i + 1) from n_add _ 1]
      refine go _ ?_
      rw [hpad, if_pos ⟨by unfold tx_cs; rw [h]; rfl, g⟩]
    · rw [n_odd (by omega)] at g
      rw [hcl]
      refine go _ ?_
      rw [hpad, if_neg (fun z => g z.2)]
    · rw [hcl, a1, (k_opn (e i) he).2.1] at h
      rw [hcl]
      refine go _ ?_
      rw [hpad, if_neg (fun z => by rw [show tx_cs e i = false from beq_ff h] at z; exact absurd z.1 (by decide))]
theorem s_mean {σ : st_S} {lg : Nat → Bool} {j : Nat} (hV : tx_V c l e rg n m lb sb) (hj : j < l) (hM : tx_M c l e rg n m lb na sb σ) (hA : MA c e n m lg σ) {Q : st_S → Option eg_V → Prop}
    (K : Q σ (some (.inl (Int32.ofNat (Lmn c e n m lg (sb j)))))) : pw_E 112 0 σ (0, 0) [(0, .inr (26, 0)), (1, .inl (Int32.ofNat j))] [] Q := by
  have hl := hV.2.1
  have hc40 := hV.1
  have hb := hV.2.2.2 j
  have hs := (hM.2.2.1 j hj).2
  have hcl : (Int32.ofNat j).toNatClampNeg = j := n_cl (by omega)
  cases hsb : sb j with
  | none =>
    rw [hsb] at K hs
    have hs : σ.1 38 0 (Int32.ofNat j).toNatClampNeg = -1 := by rw [hcl]; exact hs
    have hneg : ¬ (0 : Int32) ≤ σ.1 38 0 (Int32.ofNat j).toNatClampNeg := by rw [hs]; decide
    exact w_M_meaning_0 (n_inb (by omega) (by omega)) (fun h => absurd h hneg) (fun h => absurd h hneg) (fun h => absurd h hneg) (fun _ => K)
  | some b =>
    have hb := hb b hj hsb
    rw [hsb] at K hs
    have hs : σ.1 38 0 (Int32.ofNat j).toNatClampNeg = Int32.ofNat b := by rw [hcl]; exact hs
    have hmn : Lmn c e n m lg (some b) = if b < c then Lad e n m lg b else Lat e n m lg c := rfl
    rw [hmn] at K
    refine w_M_meaning_0 (n_inb (by omega) (by omega)) (fun _ h => ?_) (fun _ h => ?_) (fun _ h => ?_) (fun h => absurd ?_ h)
    · rw [hs, hM.1, n_inj (by omega) (by omega)] at h
      rw [if_neg (by omega)] at K
      rw [hA.2]; exact K
    · rw [hs]; exact n_inb (by omega) (by omega)
    · rw [hs, hM.1, n_inj (by omega) (by omega)] at h
      rw [if_pos (by omega)] at K
      rw [hs, n_cl (by omega), hA.1 b (by omega)]; exact K
    · rw [hs]; exact n_0le (by omega)
theorem s_dist {σ : st_S} {lg : Nat → Bool} {i : Nat} (hV : tx_V c l e rg n m lb sb) (hi : i < c) (hm1 : 1 ≤ m i) (hM : tx_M c l e rg n m lb na sb σ) (hA : MA c e n m lg σ) {Q : st_S → Option eg_V → Prop}
    (K : Q σ (some (.inl (Int32.ofNat (Lmn c e n m lg (sb (lb i 0))) - Int32.ofNat (Lad e n m lg i))))) : pw_E 111 0 σ (0, 0) [(0, .inr (26, 0)), (1, .inl (Int32.ofNat i))] [] Q := by
  have hc40 := hV.1
  obtain ⟨he, -, -, -, -, -, -, -, -, -, hlb⟩ := hV.2.2.1 i hi
  obtain ⟨a1, a2, a3, a4, a5, a6, a7⟩ := hM.2.2.2 i hi
  have h4 : (4 : Int32) * Int32.ofNat i = Int32.ofNat (4 * i) := n_mul 4 i
  have hl0 := hlb 0 (by omega)
  refine w_M_distance_0 ?_ ?_
  · rw [h4]; exact n_inb (by omega) (by omega)
  · rw [h4, n_cl (by omega), show σ.1 36 0 (4 * i) = Int32.ofNat (lb i 0) from a7 0 (by omega)]
    refine s_mean hV hl0 hM hA (w_M_distance_12 (n_inb (by omega) (by omega)) ?_)
    rw [n_cl (by omega), hA.1 i hi]
    exact K
theorem Lrc_iff (hV : tx_V c l e rg n m lb sb) {lg : Nat → Bool} {i : Nat} (hi : i < c) : let D := Int32.ofNat (Lmn c e n m lg (sb (lb i 0))) - Int32.ofNat (Lad e n m lg i); Lrc c e n m lb sb lg i = decide (¬ D = 0 ∧ ¬ D < -128 ∧ ¬ (127 : Int32) < D) := by
  have b1 := Lmn_le hV (lg := lg) (sb (lb i 0))
  have b2 := Lad_le hV (lg := lg) hi
  intro D
  have hd : D.toInt = ly_d c (tx_s0 e n m) (tx_jp e) (tx_cs e) (tx_tg lb sb) lg i := by
    show (Int32.ofNat (Lmn c e n m lg (sb (lb i 0))) - Int32.ofNat (Lad e n m lg i)).toInt = _
    rw [z_sub (by rw [n_toInt (by omega), n_toInt (by omega)]; omega) (by rw [n_toInt (by omega), n_toInt (by omega)]; omega), n_toInt (by omega), n_toInt (by omega)]
    rfl
  show decide (ly_d c (tx_s0 e n m) (tx_jp e) (tx_cs e) (tx_tg lb sb) lg i ≠ 0 ∧ -128 ≤ ly_d c (tx_s0 e n m) (tx_jp e) (tx_cs e) (tx_tg lb sb) lg i ∧ ly_d c (tx_s0 e n m) (tx_jp e) (tx_cs e) (tx_tg lb sb) lg i ≤ 127) = _
  rw [← hd]
  apply decide_eq_decide.mpr
  rw [z_eq, z_lt, z_lt]
  show D.toInt ≠ 0 ∧ -128 ≤ D.toInt ∧ D.toInt ≤ 127 ↔ ¬ D.toInt = 0 ∧ ¬ D.toInt < -128 ∧ ¬ (127 : Int) < D.toInt
  omega
theorem s_mlen {lg : Nat → Bool} (hV : tx_V c l e rg n m lb sb) {Q : st_S → Option eg_V → Prop} : ∀ d i (σ : st_S) (b : Bool), i + d = c → tx_M c l e rg n m lb na sb σ → MA c e n m lg σ → (∀ j, j < c → σ.1 40 0 j = tx_b (if j < i then Lnx c e n m lb sb lg j else lg j)) → (b = true ↔ ∃ j, j < i ∧ Lnx c e n m lb sb lg j ≠ lg j) →
    (∀ σ' b', fr [(40, 999)] σ σ' → (∀ j, j < c → σ'.1 40 0 j = tx_b (Lnx c e n m lb sb lg j)) → (b' = true ↔ ¬ Lst c e n m lb sb lg) → pw_E 108 25 σ' (0, 0) [(0, .inr (26, 0)), (1, .inl (tx_b b'))] [] Q) →
    pw_E 108 37 σ (0, 0) [(0, .inr (26, 0)), (1, .inl (tx_b b)), (2, .inl (Int32.ofNat i))] [] Q := by
  have hc40 := hV.1
  intro d
  induction d with
  | zero =>
    intro i σ b hd hM hA hF hb K
    have : i = c := by omega
    subst this
    have hle : σ.1 26 0 12 ≤ Int32.ofNat i := by rw [hM.1]; exact Int32.le_refl _
    refine w_M_settle_37 (fun _ => K σ b fr_rf (fun j hj => ?_) ?_) (fun h => absurd hle h) (fun h => absurd hle h) (fun h => absurd hle h) (fun h => absurd hle h)
    · rw [hF j hj, if_pos hj]
    · rw [hb]
      constructor
      · rintro ⟨j, h1, h2⟩ z; exact h2 (z j h1)
      · intro z
        have z' : ∃ j, ¬ (j < i → Lnx i e n m lb sb lg j = lg j) := Classical.not_forall.mp z
        obtain ⟨j, hj⟩ := z'
        have hji : j < i := Classical.byContradiction fun y => hj (fun x => absurd x y)
        exact ⟨j, hji, fun y => hj (fun _ => y)⟩
  | succ d ih =>
    intro i σ b hd hM hA hF hb K
    have hic : i < c := by omega
    have hle : ¬ σ.1 26 0 12 ≤ Int32.ofNat i := by rw [hM.1, n_le (by omega) (by omega)]; omega
    have e1 : Int32.ofNat i + 1 = Int32.ofNat (i + 1) := n_add i 1
    have a1 := (hM.2.2.2 i hic).1
    obtain ⟨he, -, -, -, -, -, -, -, hmm, -, -⟩ := hV.2.2.1 i hic
    have hcl : (Int32.ofNat i).toNatClampNeg = i := n_cl (by omega)
    have hFi : σ.1 40 0 i = tx_b (lg i) := by rw [hF i hic, if_neg (Nat.lt_irrefl i)]
    have hnx := Lnx_jp (c := c) (e := e) (n := n) (m := m) (lb := lb) (sb := sb) (lg := lg) hic
    have same : Lnx c e n m lb sb lg i = lg i → pw_E 108 37 σ (0, 0) [(0, .inr (26, 0)), (1, .inl (tx_b b)), (2, .inl (Int32.ofNat (i + 1)))] [] Q := fun hs => by
      refine ih (i + 1) σ b (by omega) hM hA (fun j hj => ?_) ?_ K
      · rw [hF j hj]
        by_cases hji : j = i
        · subst hji
          rw [if_neg (Nat.lt_irrefl j), if_pos (Nat.lt_succ_self j), hs]
        · by_cases hlt : j < i
          · rw [if_pos hlt, if_pos (by omega)]
          · rw [if_neg hlt, if_neg (by omega)]
      · rw [hb]
        constructor
        · rintro ⟨j, h1, h2⟩; exact ⟨j, by omega, h2⟩
        · rintro ⟨j, h1, h2⟩
          exact ⟨j, by rcases Nat.lt_or_ge j i with z | z; exact z; exact absurd (by rw [show j = i by omega]; exact hs) h2, h2⟩
    have change : lg i = false → Lnx c e n m lb sb lg i = true → pw_E 108 37 (st_up σ 40 0 i 1) (0, 0) [(0, .inr (26, 0)), (1, .inl 1), (2, .inl (Int32.ofNat (i + 1)))] [] Q := fun h0 hs => by
      have F : fr [(40, 999)] σ (st_up σ 40 0 i 1) := fr_up fr_rf rfl
      refine ih (i + 1) _ true (by omega) (hM.ag (fr_ag F rfl)) ⟨hA.1, hA.2⟩ (fun j hj => ?_) ⟨fun _ => ⟨i, Nat.lt_succ_self i, by rw [h0, hs]; decide⟩, fun _ => rfl⟩ (fun σ' b' f => K σ' b' (fr_tr F f))
      by_cases hji : j = i
      · subst hji
        refine (up_eq ..).trans ?_
        rw [if_pos (Nat.lt_succ_self j), hs]; rfl
      · refine (up_j hji).trans ((hF j hj).trans ?_)
        by_cases hlt : j < i
        · rw [if_pos hlt, if_pos (by omega)]
        · rw [if_neg hlt, if_neg (by omega)]
    refine w_M_settle_37 (fun h => absurd h hle) (fun _ => n_inb (by omega) (by omega)) (fun _ h g => ?_) (fun _ h g => ?_) (fun _ h => ?_)
    · rw [hcl, a1] at h
      have h9 : e i = 9 := k_opx (e i) he 9 (by omega) h
      rw [hcl, hFi, tx_b0] at g
      have hjp : tx_jp e i = true := by unfold tx_jp; rw [h9]; rfl
      have hm1 : m i = 1 := by rw [hmm (by omega), h9]; rfl
      have hrc := Lrc_iff (lb := lb) hV (lg := lg) hic
      refine s_dist hV hic (by omega) hM hA (w_M_settle_73 (fun _ => n_inb (by omega) (by omega)) (fun z => ?_) (fun _ _ => n_inb (by omega) (by omega)) (fun _ z => ?_) (fun _ _ _ => n_inb (by omega) (by omega)) (fun _ _ z => ?_) (fun z1 z2 z3 => ?_))
      · rw [hcl, e1]
        refine change g ?_
        rw [hnx, g, hjp, hrc, decide_eq_false (fun y => y.1 z)]; rfl
      · rw [hcl, e1]
        refine change g ?_
        rw [hnx, g, hjp, hrc, decide_eq_false (fun y => y.2.1 z)]; rfl
      · rw [hcl, e1]
        refine change g ?_
        rw [hnx, g, hjp, hrc, decide_eq_false (fun y => y.2.2 z)]; rfl
      · rw [e1]
        refine same ?_
        rw [hnx, g, hjp, hrc, decide_eq_true ⟨z1, z2, z3⟩]; rfl
    · rw [hcl, hFi, tx_b0, Bool.not_eq_false] at g
      rw [e1]
      exact same (by rw [hnx, g]; rfl)
    · rw [hcl, a1] at h
      rw [e1]
      have h9 : e i ≠ 9 := fun z => h (by rw [z]; rfl)
      exact same (by rw [hnx, show tx_jp e i = false from beq_ff h9, Bool.false_and, Bool.or_false])
theorem s_settle25 (hV : tx_V c l e rg n m lb sb) {Q : st_S → Option eg_V → Prop} : ∀ d r (σ : st_S), r + d = 42 → tx_M c l e rg n m lb na sb σ → (∀ j, j < r → ¬ Lst c e n m lb sb (LLG c e n m lb sb j)) → (∀ j, j < c → σ.1 40 0 j = tx_b (LLG c e n m lb sb r j)) →
    (∀ σ' lg, fr [(40, 999), (41, 999), (26, 25)] σ σ' → Lfx c e n m lb sb lg → (∀ j, j < c → σ'.1 40 0 j = tx_b (lg j)) → MA c e n m lg σ' → Q σ' none) →
    pw_E 108 25 σ (0, 0) [(0, .inr (26, 0)), (1, .inl 1)] [] Q := by
  have hc40 := hV.1
  intro d
  induction d with
  | zero =>
    intro r σ hd hM hns
    have := ly_few c (tx_s0 e n m) (tx_jp e) (tx_cs e) (tx_tg lb sb) (k := r) hns
    omega
  | succ d ih =>
    intro r σ hd hM hns hF K
    have hr := ly_few c (tx_s0 e n m) (tx_jp e) (tx_cs e) (tx_tg lb sb) (k := r) hns
    refine w_M_settle_25 (fun h => absurd h (by decide)) (fun _ => w_M_layOut_0 ?_)
    refine s_mplace (lg := LLG c e n m lb sb r) hV c 0 σ (by omega) hM hF (fun j hj => by omega) (fun σ1 f1 hA1 => w_M_settle_35 ?_)
    have hM1 := hM.ag (fr_ag f1 rfl)
    refine s_mlen (lg := LLG c e n m lb sb r) hV c 0 σ1 false (by omega) hM1 hA1 (fun j hj => ?_) ⟨fun z => absurd z (by decide), fun ⟨j, hj, _⟩ => absurd hj (by omega)⟩ (fun σ2 b' f2 hF2 hb => ?_)
    · rw [f1.2 40 0 j rfl, hF j hj, if_neg (by omega)]
    · have F : fr [(40, 999), (41, 999), (26, 25)] σ σ2 := fr_tr (fr_w _ f1 rfl) (fr_w _ f2 rfl)
      by_cases hst : Lst c e n m lb sb (LLG c e n m lb sb r)
      · have heq := Lst_eq hst
        have hb0 : b' = false := by
          cases b' with
          | false => rfl
          | true => exact absurd hst (hb.mp rfl)
        subst hb0
        refine w_M_settle_25 (fun _ => K σ2 (LLG c e n m lb sb r) F ⟨r, hr, rfl, hst, hns⟩ (fun j hj => ?_) ⟨fun j hj => (f2.2 41 0 j rfl).trans (hA1.1 j hj), (f2.2 26 0 25 rfl).trans hA1.2⟩) (fun h => absurd rfl h)
        rw [hF2 j hj, heq]
      · have hb1 : b' = true := hb.mpr hst
        subst hb1
        refine ih (r + 1) σ2 (by omega) (hM1.ag (fr_ag f2 rfl)) (fun j hj => ?_) hF2 (fun σ' lg f => K σ' lg (fr_tr F f))
        by_cases hjr : j = r
        · subst hjr; exact hst
        · exact hns j (by omega)
theorem s_settle2 (hV : tx_V c l e rg n m lb sb) {Q : st_S → Option eg_V → Prop} : ∀ d i (σ : st_S), i + d = c → tx_M c l e rg n m lb na sb σ → (∀ j, j < i → σ.1 40 0 j = 0) →
    (∀ σ', fr [(40, 999)] σ σ' → (∀ j, j < c → σ'.1 40 0 j = 0) → pw_E 108 25 σ' (0, 0) [(0, .inr (26, 0)), (1, .inl 1)] [] Q) →
    pw_E 108 2 σ (0, 0) [(0, .inr (26, 0)), (1, .inl (Int32.ofNat i))] [] Q := by
  have hc40 := hV.1
  intro d
  induction d with
  | zero =>
    intro i σ hd hM h0 K
    have : i = c := by omega
    subst this
    have hle : σ.1 26 0 12 ≤ Int32.ofNat i := by rw [hM.1]; exact Int32.le_refl _
    exact w_M_settle_2 (fun _ => K σ fr_rf h0) (fun h => absurd hle h) (fun h => absurd hle h)
  | succ d ih =>
    intro i σ hd hM h0 K
    have hle : ¬ σ.1 26 0 12 ≤ Int32.ofNat i := by rw [hM.1, n_le (by omega) (by omega)]; omega
    refine w_M_settle_2 (fun h => absurd h hle) (fun _ => n_inb (by omega) (by omega)) (fun _ => ?_)
    rw [n_cl (by omega), show Int32.ofNat i + 1 = Int32.ofNat (i + 1) from n_add i 1]
    have F : fr [(40, 999)] σ (st_up σ 40 0 i 0) := fr_up fr_rf rfl
    refine ih (i + 1) _ (by omega) (hM.ag (fr_ag F rfl)) (fun j hj => ?_) (fun σ' f => K σ' (fr_tr F f))
    by_cases hji : j = i
    · subst hji; exact up_eq ..
    · exact (up_j hji).trans (h0 j (by omega))
/-- the reference lays out -/
theorem s_settle {σ : st_S} (hV : tx_V c l e rg n m lb sb) (hM : tx_M c l e rg n m lb na sb σ) {Q : st_S → Option eg_V → Prop}
    (K : ∀ σ' lg, fr [(40, 999), (41, 999), (26, 25)] σ σ' → Lfx c e n m lb sb lg → (∀ j, j < c → σ'.1 40 0 j = tx_b (lg j)) → MA c e n m lg σ' → Q σ' none) : pw_E 108 0 σ (0, 0) [(0, .inr (26, 0))] [] Q := by
  refine w_M_settle_0 (s_settle2 hV c 0 σ (by omega) hM (fun j hj => by omega) (fun σ1 f1 h1 => ?_))
  refine s_settle25 hV 42 0 σ1 (by omega) (hM.ag (fr_ag f1 rfl)) (fun j hj => by omega) (fun j hj => ?_) (fun σ' lg f => K σ' lg (fr_tr (fr_w _ f1 rfl) f))
  rw [h1 j hj]; rfl
end
/-! THE CALLS clear, item, state -/
theorem cs_clear (xs : Nat → Int32) (L : Nat) : CallS xs L 44 106 [] := by
  intro σ r
  obtain ⟨a1, ⟨c, l, e, rg, n, m, lb, na, sb, hV, hC, hM, hL⟩, a3, a4, a5, a6, a7⟩ := r
  refine w_U_clear_0 (w_Text_empty_0 ?_)
  have hV0 : tx_V 0 0 e rg n m lb sb := ⟨by omega, by omega, fun i hi => by omega, fun j b hj => by omega⟩
  refine s_layOut (na := na) hV0 ⟨rfl, rfl, fun j hj => by omega, fun i hi => by omega⟩ (fun j hj => by omega) (fun σ1 f1 hL1 => w_Text_empty_17 (w_U_clear_15 ⟨_, rfl, w_M_clear_0 ⟨?_, ?_⟩⟩))
  · rw [hC.1, show σ1.1 26 0 12 = σ.1 26 0 12 from f1.2 26 0 12 rfl, hM.1]
  · have F : fr [(7, 1), (13, 2), (9, 1), (9, 7), (7, 3), (7, 4), (26, 12), (26, 15)] σ (st_up (st_up σ1 26 0 12 0) 26 0 15 0) := fr_up (fr_up (fr_tr (fr_up (fr_up fr_rf rfl) rfl) (fr_w _ f1 rfl)) rfl) rfl
    refine ⟨a1.ag (fr_ag F rfl), ⟨0, 0, e, rg, n, m, lb, na, sb, hV0, ⟨?_, ?_, fun j hj => by omega, fun i hi => by omega⟩, ⟨rfl, rfl, fun j hj => by omega, fun i hi => by omega⟩, ?_⟩, a3.ag (fr_ag F rfl), a4.ag (fr_ag F rfl), a5.ag (fr_ag F rfl), a6.ag F.1 (fr_ag F rfl), a7.ag F.1 (fr_ag F rfl)⟩
    · exact f1.2 7 0 1 rfl
    · exact f1.2 13 0 2 rfl
    · exact hL1
theorem RR_S {xs : Nat → Int32} {L : Nat} {σ σ' : st_S} (f : fr [(40, 999), (41, 999), (26, 25)] σ σ') (r : RR xs L σ) : RR xs L σ' := r.fr f rfl
theorem cs_item (xs : Nat → Int32) (L : Nat) (x y : Int32) : CallS xs L 57 116 [.inl x, .inl y] := by
  intro σ r
  have r' := r
  obtain ⟨a1, ⟨c, l, e, rg, n, m, lb, na, sb, hV, hC, hM, hL⟩, a3, a4, a5, a6, a7⟩ := r'
  have hc40 := hV.1
  have none1 : ¬ y < 0 → ¬ (2 : Int32) < y → (x < 0 ∨ ¬ x < 0 ∧ ¬ x < σ.1 7 0 1) → pw_E 116 0 σ (0, 0) [(0, .inr (26, 0)), (1, .inl x), (2, .inl y)] [] (fun σ2 r2 => r2 = some (.inl (-2)) ∧ RR xs L σ2) := fun h1 h2 h3 => by
    refine w_M_item_0 (fun h => absurd h h1) (fun _ h => absurd h h2) (fun _ _ _ => ⟨rfl, r⟩) (fun _ _ _ _ => ⟨rfl, r⟩) (fun _ _ g1 g2 => ?_)
    rcases h3 with h3 | h3
    · exact absurd h3 g1
    · obtain ⟨k, hk, rfl⟩ := n_of' g1
      rw [hC.1, n_lt hk (by omega)] at h3
      rw [hM.1] at g2
      refine absurd ?_ g2
      rcases Nat.eq_zero_or_pos c with rfl | hp
      · rw [z_lt, n_toInt hk]
        exact Int.lt_of_lt_of_le (by decide : (Int32.ofNat 0 - 1).toInt < 0) (Int.natCast_nonneg k)
      · rw [show (1 : Int32) = Int32.ofNat 1 from rfl, n_sub hp, n_lt (by omega) hk]; omega
  have found : ¬ y < 0 → ¬ (2 : Int32) < y → ∀ i, i < c → x = Int32.ofNat i → ∀ {Q : st_S → Option eg_V → Prop}, (∀ σ' lg, fr [(40, 999), (41, 999), (26, 25)] σ σ' → Lfx c e n m lb sb lg → (∀ j, j < c → σ'.1 40 0 j = tx_b (lg j)) → MA c e n m lg σ' → pw_E 116 32 σ' (0, 0) [(0, .inr (26, 0)), (1, .inl (Int32.ofNat i)), (2, .inl y)] [] Q) → pw_E 116 0 σ (0, 0) [(0, .inr (26, 0)), (1, .inl x), (2, .inl y)] [] Q := fun h1 h2 i hi hx {Q} K => by
    subst hx
    have h0 : ¬ Int32.ofNat i < 0 := n_n0 (by omega)
    have h3 : ¬ σ.1 26 0 12 - 1 < Int32.ofNat i := by rw [hM.1, show (1 : Int32) = Int32.ofNat 1 from rfl, n_sub (by omega), n_lt (by omega) (by omega)]; omega
    exact w_M_item_0 (fun h => absurd h h1) (fun _ h => absurd h h2) (fun _ _ h => absurd h h0) (fun _ _ _ h => absurd h h3) (fun _ _ _ _ => s_settle hV hM K)
  obtain ⟨lg0, hfx, hL1, hL2, hL3⟩ := hL
  refine w_U_item_0 (fun h => ⟨_, rfl, ?_⟩) (fun h1 h2 h3 => ⟨_, rfl, none1 h1 (Int32.not_lt.mpr h2) (Or.inl h3)⟩) (fun h1 h2 h3 h4 => ?_) (fun h1 h2 h3 h4 h5 => ⟨_, rfl, ?_⟩) (fun h1 h2 h3 h4 h5 h6 => ⟨_, rfl, ?_⟩) (fun h1 h2 h3 h4 h5 h6 => ?_) (fun h1 h2 h3 h4 => ⟨_, rfl, none1 h1 (Int32.not_lt.mpr h2) (Or.inr ⟨h3, h4⟩)⟩) (fun h1 h2 => ⟨_, rfl, ?_⟩)
  · exact w_M_item_0 (fun _ => ⟨rfl, r⟩) (fun h' => absurd h h') (fun h' => absurd h h') (fun h' => absurd h h') (fun h' => absurd h h')
  · obtain ⟨i, hi, rfl⟩ := n_of' h3
    rw [hC.1, n_lt hi (by omega)] at h4
    exact n_inb (by omega) (by omega)
  · obtain ⟨i, hi, rfl⟩ := n_of' h3
    rw [hC.1, n_lt hi (by omega)] at h4
    rw [n_cl hi, (hC.2.2.2 i h4).1, n_cl (by have := (hV.2.2.1 i h4).1; omega)]
    refine found h1 (Int32.not_lt.mpr h2) i h4 rfl (fun σ1 lg f hfx' hF hA => w_M_item_32 (fun _ => n_inb (by omega) (by omega)) (fun _ => ⟨?_, RR_S f r⟩) (fun z => absurd h5 z) (fun z => absurd h5 z) (fun z => absurd h5 z))
    rw [n_cl hi, f.2 30 0 i rfl, (hM.2.2.2 i h4).1]
  · obtain ⟨i, hi, rfl⟩ := n_of' h3
    rw [hC.1, n_lt hi (by omega)] at h4
    rw [n_cl hi, (hL1 i h4).2]
    refine found h1 (Int32.not_lt.mpr h2) i h4 rfl (fun σ1 lg f hfx' hF hA => w_M_item_32 (fun z => absurd z h5) (fun z => absurd z h5) (fun _ _ => n_inb (by omega) (by omega)) (fun _ _ => ⟨?_, RR_S f r⟩) (fun _ z => absurd h6 z))
    rw [n_cl hi, hA.1 i h4, ly_fix_un _ _ _ _ _ hfx hfx']
  · obtain ⟨i, hi, rfl⟩ := n_of' h3
    rw [hC.1, n_lt hi (by omega)] at h4
    rw [n_cl hi]
    refine s_units (lg := lg0) hV h4 (hC.2.2.2 i h4).1 (hL1 i h4).1 (hC.2.2.2 i h4).2.2.2.1 (w_U_item_67 ⟨_, rfl, ?_⟩)
    refine found h1 (Int32.not_lt.mpr h2) i h4 rfl (fun σ1 lg f hfx' hF hA => w_M_item_32 (fun z => absurd z h5) (fun z => absurd z h5) (fun _ z => absurd z h6) (fun _ z => absurd z h6) (fun _ _ => ?_))
    have := ly_fix_un _ _ _ _ _ hfx hfx'
    subst this
    exact s_size hV h4 (hM.ag (fr_ag f rfl)) (hF i h4) (w_M_item_64 ⟨rfl, RR_S f r⟩)
  · have h2' : (2 : Int32) < y := Int32.not_le.mp h2
    exact w_M_item_0 (fun _ => ⟨rfl, r⟩) (fun _ _ => ⟨rfl, r⟩) (fun _ h => absurd h2' h) (fun _ h => absurd h2' h) (fun _ h => absurd h2' h)
theorem s_longs {c l : Nat} {e : Nat → Nat} {rg : Nat → Nat → Nat} {n : Nat → Int32} {m : Nat → Nat} {lb : Nat → Nat → Nat} {na : Nat → Int32} {sb : Nat → Option Nat} {lg : Nat → Bool} (hV : tx_V c l e rg n m lb sb) (hj9 : ∀ i, i < c → lg i = true → e i = 9) {Q : st_S → Option eg_V → Prop} {σ : st_S} (hM : tx_M c l e rg n m lb na sb σ) (hF : ∀ j, j < c → σ.1 40 0 j = tx_b (lg j))
    (K : Q σ (some (.inl (Int32.ofNat (ly_cnt lg c))))) : ∀ d i, i + d = c → pw_E 133 8 σ (0, 0) [(0, .inr (26, 0)), (1, .inl (Int32.ofNat (ly_cnt lg i))), (2, .inl (Int32.ofNat i))] [] Q := by
  have hc40 := hV.1
  intro d
  induction d with
  | zero =>
    intro i hd
    have : i = c := by omega
    subst this
    have hle : σ.1 26 0 12 ≤ Int32.ofNat i := by rw [hM.1]; exact Int32.le_refl _
    exact w_M_longs_8 (fun _ => K) (fun h => absurd hle h) (fun h => absurd hle h) (fun h => absurd hle h) (fun h => absurd hle h)
  | succ d ih =>
    intro i hd
    have hic : i < c := by omega
    have hle : ¬ σ.1 26 0 12 ≤ Int32.ofNat i := by rw [hM.1, n_le (by omega) (by omega)]; omega
    have e1 : Int32.ofNat i + 1 = Int32.ofNat (i + 1) := n_add i 1
    have hcl : (Int32.ofNat i).toNatClampNeg = i := n_cl (by omega)
    have a1 := (hM.2.2.2 i hic).1
    have he := (hV.2.2.1 i hic).1
    have hcn : ly_cnt lg (i + 1) = ly_cnt lg i + if lg i = true then 1 else 0 := rfl
    have ih := ih (i + 1) (by omega)
    rw [hcn] at ih
    refine w_M_longs_8 (fun h => absurd h hle) (fun _ => n_inb (by omega) (by omega)) (fun _ h g => ?_) (fun _ h g => ?_) (fun _ h => ?_)
    · rw [hcl, hF i hic, tx_b0] at g
      rw [g] at ih
      rw [e1]; exact ih
    · rw [hcl, hF i hic, tx_b0, Bool.not_eq_false] at g
      rw [g] at ih
      rw [e1, show Int32.ofNat (ly_cnt lg i) + 1 = Int32.ofNat (ly_cnt lg i + 1) from n_add _ 1]; exact ih
    · rw [hcl, a1] at h
      have : lg i = false := by
        cases hl : lg i with
        | false => rfl
        | true => exact absurd (by rw [hj9 i hic hl]; rfl) h
      rw [this] at ih
      rw [e1]; exact ih
theorem LLG_jp {c : Nat} {e : Nat → Nat} {n : Nat → Int32} {m : Nat → Nat} {lb : Nat → Nat → Nat} {sb : Nat → Option Nat} : ∀ k i, LLG c e n m lb sb k i = true → e i = 9
  | 0, i, h => nomatch h
  | k + 1, i, h => by
    have h' : (decide (i < c) && (LLG c e n m lb sb k i || (tx_jp e i && !(Lrc c e n m lb sb (LLG c e n m lb sb k) i)))) = true := h
    simp only [Bool.and_eq_true, Bool.or_eq_true] at h'
    rcases h'.2 with z | z
    · exact LLG_jp k i z
    · exact Nat.eq_of_beq_eq_true z.1
theorem cs_state (xs : Nat → Int32) (L : Nat) (x : Int32) : CallS xs L 84 132 [.inl x] := by
  intro σ r
  have r' := r
  obtain ⟨⟨dn, d1, d2, d3, d4⟩, ⟨c, l, e, rg, n, m, lb, na, sb, hV, hC, hM, hL⟩, ⟨cn, cw, c1, c2, c3⟩, ⟨b1, b2, b3, b4, b5⟩, a5, a6, a7⟩ := r'
  have hc40 := hV.1
  have neg : x < 0 → ∀ k, k < 100 → ¬ x = Int32.ofNat k := fun h k hk z => by
    rw [z] at h; exact n_n0 (by omega) h
  have l15 : (16 : Int32) ≤ x ↔ (15 : Int32) < x := by
    rw [z_le, z_lt]
    show (16 : Int) ≤ _ ↔ (15 : Int) < _
    omega
  by_cases h0 : x < 0
  · have n16 := neg h0 16 (by omega); have n17 := neg h0 17 (by omega); have n18 := neg h0 18 (by omega); have n19 := neg h0 19 (by omega); have n20 := neg h0 20 (by omega)
    have n21 := neg h0 21 (by omega); have n22 := neg h0 22 (by omega); have n23 := neg h0 23 (by omega); have n24 := neg h0 24 (by omega)
    refine w_U_state_0 (fun _ z => absurd z n16) (fun _ z => absurd z n17) (fun _ z => absurd z n18) (fun _ z => absurd z n19) (fun _ z => absurd z n20) (fun _ z => absurd z n21) (fun _ z => absurd z n22) (fun _ z => absurd z n23) (fun _ z => absurd z n24) (fun _ _ _ _ _ _ _ _ _ _ => ⟨_, rfl, ?_⟩) (fun z => absurd h0 z) (fun z => absurd h0 z) (fun z => absurd h0 z) (fun z => absurd h0 z) (fun z => absurd h0 z) (fun z => absurd h0 z) (fun z => absurd h0 z) (fun z => absurd h0 z) (fun z => absurd h0 z) (fun z => absurd h0 z) (fun z => absurd h0 z) (fun z => absurd h0 z)
    exact w_M_state_0 (fun _ z => absurd z n16) (fun _ z => absurd z n17) (fun _ z => absurd z n18) (fun _ z => absurd z n19) (fun _ z => absurd z n20) (fun _ z => absurd z n21) (fun _ z => absurd z n22) (fun _ z => absurd z n23) (fun _ z => absurd z n24) (fun _ _ _ _ _ _ _ _ _ _ => ⟨rfl, r⟩) (fun z => absurd h0 z) (fun z => absurd h0 z) (fun z => absurd h0 z) (fun z => absurd h0 z) (fun z => absurd h0 z) (fun z => absurd h0 z) (fun z => absurd h0 z) (fun z => absurd h0 z) (fun z => absurd h0 z) (fun z => absurd h0 z) (fun z => absurd h0 z) (fun z => absurd h0 z)
  · by_cases h16 : (16 : Int32) ≤ x
    · have h15 := l15.mp h16
      refine w_U_state_0 (fun z => absurd z h0) (fun z => absurd z h0) (fun z => absurd z h0) (fun z => absurd z h0) (fun z => absurd z h0) (fun z => absurd z h0) (fun z => absurd z h0) (fun z => absurd z h0) (fun z => absurd z h0) (fun z => absurd z h0) (fun _ _ z => ⟨_, rfl, ?_⟩) (fun _ _ z => ⟨_, rfl, ?_⟩) (fun _ _ z => ⟨_, rfl, ?_⟩) (fun _ _ z => ⟨_, rfl, ?_⟩) (fun _ _ z => ⟨_, rfl, ?_⟩) (fun _ _ z => ⟨_, rfl, ?_⟩) (fun _ _ z => ⟨_, rfl, ?_⟩) (fun _ _ z => ⟨_, rfl, ?_⟩) (fun _ _ z => ⟨_, rfl, ?_⟩) (fun _ _ y16 y17 y18 y19 y20 y21 y22 y23 y24 => ⟨_, rfl, ?_⟩) (fun _ z => absurd h16 z) (fun _ z => absurd h16 z)
      · subst z
        refine w_M_state_0 ?_ ?_ ?_ ?_ ?_ ?_ ?_ ?_ ?_ ?_ (fun _ _ _ => ⟨by rw [b1], r⟩) ?_ ?_ ?_ ?_ ?_ ?_ ?_ ?_ ?_ ?_ ?_
        all_goals first | exact fun z => absurd z h0 | exact fun _ z => absurd h15 z | exact fun _ _ z => absurd z (by decide) | exact fun _ _ z => absurd rfl z
      · subst z
        refine w_M_state_0 ?_ ?_ ?_ ?_ ?_ ?_ ?_ ?_ ?_ ?_ ?_ (fun _ _ _ => ⟨by rw [b2], r⟩) ?_ ?_ ?_ ?_ ?_ ?_ ?_ ?_ ?_ ?_
        all_goals first | exact fun z => absurd z h0 | exact fun _ z => absurd h15 z | exact fun _ _ z => absurd z (by decide) | exact fun _ _ _ z => absurd rfl z
      · subst z
        refine w_M_state_0 ?_ ?_ ?_ ?_ ?_ ?_ ?_ ?_ ?_ ?_ ?_ ?_ (fun _ _ _ => ⟨by rw [b3], r⟩) ?_ ?_ ?_ ?_ ?_ ?_ ?_ ?_ ?_
        all_goals first | exact fun z => absurd z h0 | exact fun _ z => absurd h15 z | exact fun _ _ z => absurd z (by decide) | exact fun _ _ _ _ z => absurd rfl z
      · subst z
        refine w_M_state_0 ?_ ?_ ?_ ?_ ?_ ?_ ?_ ?_ ?_ ?_ ?_ ?_ ?_ (fun _ _ _ => ⟨by rw [b4], r⟩) ?_ ?_ ?_ ?_ ?_ ?_ ?_ ?_
        all_goals first | exact fun z => absurd z h0 | exact fun _ z => absurd h15 z | exact fun _ _ z => absurd z (by decide) | exact fun _ _ _ _ _ z => absurd rfl z
      · subst z
        refine w_M_state_0 ?_ ?_ ?_ ?_ ?_ ?_ ?_ ?_ ?_ ?_ ?_ ?_ ?_ ?_ (fun _ _ _ => ⟨by rw [c2.1, c3.1], r⟩) ?_ ?_ ?_ ?_ ?_ ?_ ?_
        all_goals first | exact fun z => absurd z h0 | exact fun _ z => absurd h15 z | exact fun _ _ z => absurd z (by decide) | exact fun _ _ _ _ _ _ z => absurd rfl z
      · subst z
        refine w_M_state_0 ?_ ?_ ?_ ?_ ?_ ?_ ?_ ?_ ?_ ?_ ?_ ?_ ?_ ?_ ?_ (fun _ _ _ => ⟨by rw [hC.1, hM.1], r⟩) ?_ ?_ ?_ ?_ ?_ ?_
        all_goals first | exact fun z => absurd z h0 | exact fun _ z => absurd h15 z | exact fun _ _ z => absurd z (by decide) | exact fun _ _ _ _ _ _ _ z => absurd rfl z
      · subst z
        refine w_M_state_0 ?_ ?_ ?_ ?_ ?_ ?_ ?_ ?_ ?_ ?_ ?_ ?_ ?_ ?_ ?_ ?_ (fun _ _ _ => ⟨by rw [hC.2.1, hM.2.1], r⟩) ?_ ?_ ?_ ?_ ?_
        all_goals first | exact fun z => absurd z h0 | exact fun _ z => absurd h15 z | exact fun _ _ z => absurd z (by decide) | exact fun _ _ _ _ _ _ _ _ z => absurd rfl z
      · subst z
        refine w_M_state_0 ?_ ?_ ?_ ?_ ?_ ?_ ?_ ?_ ?_ ?_ ?_ ?_ ?_ ?_ ?_ ?_ ?_ (fun _ _ _ => ⟨by rw [d2, d3], r⟩) ?_ ?_ ?_ ?_
        all_goals first | exact fun z => absurd z h0 | exact fun _ z => absurd h15 z | exact fun _ _ z => absurd z (by decide) | exact fun _ _ _ _ _ _ _ _ _ z => absurd rfl z
      · subst z
        obtain ⟨lg0, hfx, hL1, hL2, hL3⟩ := hL
        refine w_M_state_0 ?_ ?_ ?_ ?_ ?_ ?_ ?_ ?_ ?_ ?_ ?_ ?_ ?_ ?_ ?_ ?_ ?_ ?_ (fun _ _ _ => w_M_longs_0 (s_settle hV hM (fun σ1 lg f hfx' hF hA => w_M_longs_6 ?_))) ?_ ?_ ?_
        all_goals try first | exact fun z => absurd z h0 | exact fun _ z => absurd h15 z | exact fun _ _ z => absurd z (by decide) | exact fun _ _ _ _ _ _ _ _ _ _ z => absurd rfl z
        have := ly_fix_un _ _ _ _ _ hfx hfx'
        subst this
        have hj9 : ∀ i, i < c → lg0 i = true → e i = 9 := fun i _ h => by
          obtain ⟨k, -, hk, -⟩ := hfx
          rw [hk] at h
          exact LLG_jp k i h
        refine s_longs hV hj9 (hM.ag (fr_ag f rfl)) hF (w_M_state_112 ⟨?_, RR_S f r⟩) c 0 (by omega)
        rw [hL3]
      · refine w_M_state_0 ?_ ?_ ?_ ?_ ?_ ?_ ?_ ?_ ?_ ?_ (fun _ _ z => absurd z y16) (fun _ _ z => absurd z y17) (fun _ _ z => absurd z y18) (fun _ _ z => absurd z y19) (fun _ _ z => absurd z y20) (fun _ _ z => absurd z y21) (fun _ _ z => absurd z y22) (fun _ _ z => absurd z y23) (fun _ _ z => absurd z y24) (fun _ _ _ _ _ _ _ _ _ _ _ => ⟨rfl, r⟩) ?_ ?_
        all_goals first | exact fun z => absurd z h0 | exact fun _ z => absurd h15 z
    · have h15 : ¬ (15 : Int32) < x := fun z => h16 (l15.mpr z)
      obtain ⟨k, hk, rfl⟩ := n_in h0 (b := 15) (by omega) h15
      refine w_U_state_0 ?_ ?_ ?_ ?_ ?_ ?_ ?_ ?_ ?_ ?_ ?_ ?_ ?_ ?_ ?_ ?_ ?_ ?_ ?_ ?_ (fun _ _ => n_inb (by omega) (by omega)) (fun _ _ => ⟨_, rfl, ?_⟩)
      all_goals try first | exact fun z => absurd z h0 | exact fun _ z => absurd z h16
      refine w_M_state_0 ?_ ?_ ?_ ?_ ?_ ?_ ?_ ?_ ?_ ?_ ?_ ?_ ?_ ?_ ?_ ?_ ?_ ?_ ?_ ?_ (fun _ _ => n_inb (by omega) (by omega)) (fun _ _ => ⟨?_, r⟩)
      all_goals try first | exact fun z => absurd z h0 | exact fun _ z => absurd z h15
      rw [n_cl (by omega), b5 k (by omega)]
