/-! SETTING a unit -/
theorem up_w {k n a v : Nat} {σ : st_S} {w : Nat → Nat} (h : ∀ j, j < n → σ.1 k 0 j = Int32.ofNat (w j)) : ∀ j, j < n ∨ j = a → (st_up σ k 0 a (Int32.ofNat v)).1 k 0 j = Int32.ofNat (if j = a then v else w j) := by
  intro j hj
  rw [st_up_at]
  by_cases hja : j = a
  · rw [if_pos ⟨rfl, rfl, hja⟩, if_pos hja]
  · rw [if_neg (fun z => hja z.2.2), if_neg hja, h j (by omega)]
theorem s_append {σ : st_S} {n v : Nat} {w : Nat → Nat} (hn : n < 200) (hC : cc_C n w σ) {Q : st_S → Option eg_V → Prop}
    (K : ∀ σ', fr [(16, 1), (17, 999)] σ σ' → cc_C (n + 1) (fun j => if j = n then v else w j) σ' → Q σ' none) : pw_E 52 0 σ (0, 0) [(0, .inr (16, 0)), (1, .inl (Int32.ofNat v))] [] Q := by
  have hc : ¬ (200 : Int32) ≤ σ.1 16 0 1 := by rw [hC.1, show (200 : Int32) = Int32.ofNat 200 from rfl, n_le (by omega) (by omega)]; omega
  refine w_Code_append_0 (fun h => absurd h hc) (fun _ => ?_) (fun _ => ?_)
  · rw [hC.1]; exact n_inb hn (by omega)
  · rw [hC.1, n_cl (by omega)]
    refine K _ (fr_up (fr_up fr_rf rfl) rfl) ⟨(up_eq ..).trans (n_add n 1), fun j hj => ?_⟩
    exact up_w hC.2 j (by omega)
theorem cs_set (xs : Nat → Int32) (L : Nat) (x y : Int32) : CallS xs L 60 118 [.inl x, .inl y] := by
  intro σ r
  obtain ⟨n, w, hV, hC, hM⟩ := r.2.2.1
  have hn := hV.1
  have ref : (y < 0 ∨ (65535 : Int32) < y ∨ x < 0 ∨ Int32.ofNat n < x) → pw_E 118 0 σ (0, 0) [(0, .inr (26, 0)), (1, .inl x), (2, .inl y)] [] (fun σ2 r2 => r2 = some (.inl (-1)) ∧ RR xs L σ2) := by
    intro h
    refine w_M_set_0 (fun _ => ⟨rfl, r⟩) (fun _ _ => ⟨rfl, r⟩) (fun _ _ _ => ⟨rfl, r⟩) (fun _ _ _ _ => ⟨rfl, r⟩) (fun h1 h2 h3 h4 => ?_) (fun h1 h2 h3 h4 => ?_) (fun h1 h2 h3 h4 => ?_) (fun h1 h2 h3 h4 => ?_)
    all_goals (rw [hM.1] at h2; exact (h.elim h3 (fun h => h.elim h4 (fun h => h.elim h1 h2))).elim)
  refine w_U_set_0 (fun h => ⟨_, rfl, ref (Or.inl h)⟩) (fun _ h => ⟨_, rfl, ref (Or.inr (Or.inl h))⟩) (fun _ _ h => ⟨_, rfl, ref (Or.inr (Or.inr (Or.inl h)))⟩) (fun h1 h2 h3 h4 h5 h6 => ?_) (fun h1 h2 h3 h4 h5 h6 => ?_) (fun h1 h2 h3 h4 h5 h6 => ⟨_, rfl, ?_⟩) (fun h1 h2 h3 h4 h5 => ⟨_, rfl, ?_⟩) (fun h1 h2 h3 h4 => ⟨_, rfl, ref (Or.inr (Or.inr (Or.inr ?_)))⟩)
  · obtain ⟨v, hv, rfl⟩ := n_in h1 (b := 65535) (by omega) h2
    rw [hC.1] at h6
    subst h6
    rw [show (200 : Int32) = Int32.ofNat 200 from rfl, n_lt (by omega) (by omega)] at h5
    refine s_append h5 hC (fun σ1 f1 c1 => w_U_set_56 ⟨_, rfl, ?_⟩)
    have hM1 : cc_M n w σ1 := hM.ag (fr_ag f1 rfl)
    have e27 := hM1.1
    have n200 : ¬ Int32.ofNat n = 200 := by rw [show (200 : Int32) = Int32.ofNat 200 from rfl, n_inj (by omega) (by omega)]; omega
    have nlt : ¬ σ1.1 26 0 27 < Int32.ofNat n := by rw [e27, n_lt (by omega) (by omega)]; omega
    refine w_M_set_0 (fun h => absurd h h3) (fun _ h => absurd h nlt) (fun _ _ h => absurd h h1) (fun _ _ _ h => absurd h h2) (fun _ _ _ _ h => absurd h n200) (fun _ _ _ _ _ => n_inb h5 (by omega)) (fun _ _ _ _ _ _ => ⟨?_, ?_⟩) (fun _ _ _ _ _ h => absurd e27.symm h)
    · rw [c1.1, e27, show Int32.ofNat n + 1 = Int32.ofNat (n + 1) from n_add n 1]
    · rw [e27, n_cl (by omega)]
      refine RR_C (l := [(16, 1), (17, 999), (42, 999), (26, 27)]) (fr_up (fr_up (fr_w _ f1 rfl) rfl) rfl) rfl r ⟨n + 1, fun j => if j = n then v else w j, ⟨by omega, fun j hj => ?_⟩, ⟨c1.1, c1.2⟩, ⟨(up_eq ..).trans (n_add n 1), fun j hj => up_w hM1.2 j (by omega)⟩⟩
      by_cases hj' : j = n
      · show (if j = n then v else w j) < 65536
        rw [if_pos hj']; omega
      · show (if j = n then v else w j) < 65536
        rw [if_neg hj']; exact hV.2 j (by omega)
  · obtain ⟨a, ha, rfl⟩ := n_of' h3
    rw [show (200 : Int32) = Int32.ofNat 200 from rfl, n_lt ha (by omega)] at h5
    exact n_inb h5 (by omega)
  · obtain ⟨a, ha, rfl⟩ := n_of' h3
    obtain ⟨v, hv, rfl⟩ := n_in h1 (b := 65535) (by omega) h2
    rw [show (200 : Int32) = Int32.ofNat 200 from rfl, n_lt ha (by omega)] at h5
    rw [hC.1, n_le ha (by omega)] at h4
    rw [hC.1, n_inj ha (by omega)] at h6
    rw [n_cl ha]
    have e27 : (st_up σ 17 0 a (Int32.ofNat v)).1 26 0 27 = Int32.ofNat n := hM.1
    have n200 : ¬ Int32.ofNat a = 200 := by rw [show (200 : Int32) = Int32.ofNat 200 from rfl, n_inj (by omega) (by omega)]; omega
    have nlt : ¬ (st_up σ 17 0 a (Int32.ofNat v)).1 26 0 27 < Int32.ofNat a := by rw [e27, n_lt (by omega) (by omega)]; omega
    have nne : ¬ Int32.ofNat a = (st_up σ 17 0 a (Int32.ofNat v)).1 26 0 27 := by rw [e27, n_inj (by omega) (by omega)]; omega
    refine w_M_set_0 (fun h => absurd h h3) (fun _ h => absurd h nlt) (fun _ _ h => absurd h h1) (fun _ _ _ h => absurd h h2) (fun _ _ _ _ h => absurd h n200) (fun _ _ _ _ _ => n_inb h5 (by omega)) (fun _ _ _ _ _ h => absurd h nne) (fun _ _ _ _ _ _ => ⟨?_, ?_⟩)
    · rw [hC.1, e27]
    · rw [n_cl ha]
      refine RR_C (l := [(17, 999), (42, 999)]) (fr_up (fr_up fr_rf rfl) rfl) rfl r ⟨n, fun j => if j = a then v else w j, ⟨by omega, fun j hj => ?_⟩, ⟨hC.1, fun j hj => up_w hC.2 j (Or.inl hj)⟩, ⟨hM.1, fun j hj => up_w (σ := st_up σ 17 0 a (Int32.ofNat v)) hM.2 j (Or.inl hj)⟩⟩
      by_cases hj' : j = a
      · show (if j = a then v else w j) < 65536
        rw [if_pos hj']; omega
      · show (if j = a then v else w j) < 65536
        rw [if_neg hj']; exact hV.2 j (by omega)
  · obtain ⟨a, ha, rfl⟩ := n_of' h3
    rw [show (200 : Int32) = Int32.ofNat 200 from rfl, n_lt ha (by omega)] at h5
    rw [hC.1, n_le ha (by omega)] at h4
    have e27 := hM.1
    have h200 : a = 200 := by omega
    have nlt : ¬ σ.1 26 0 27 < Int32.ofNat a := by rw [e27, n_lt (by omega) (by omega)]; omega
    exact w_M_set_0 (fun h => absurd h h3) (fun _ h => absurd h nlt) (fun _ _ h => absurd h h1) (fun _ _ _ h => absurd h h2) (fun _ _ _ _ h => ⟨rfl, r⟩) (fun _ _ _ _ h => absurd (by rw [h200]; rfl) h) (fun _ _ _ _ h => absurd (by rw [h200]; rfl) h) (fun _ _ _ _ h => absurd (by rw [h200]; rfl) h)
  · rw [hC.1] at h4
    exact Int32.not_le.mp h4
/-! CHECKING: where the things of the code begin -/
theorem R_R_frx {i : Nat} {σ σ' : st_S} (f : frx i σ σ') (g : rgk i σ σ') (r : R_R σ) : R_R σ' := fun i' j hi hj => by
  by_cases hii : i' = i
  · subst hii
    rcases g j hj with z | z
    · exact z
    · rw [z]; exact r _ j hi hj
  · rw [f.2 20 i' j (Or.inl hii)]; exact r i' j hi hj
def rdu (n : Nat) (w : Nat → Nat) (a : Nat) : Nat := match rdx n w (Int32.ofNat a) with
  | some (_, e) => ru e (rn n w a)
  | none => 1
def nx (n : Nat) (w : Nat → Nat) : Nat → Nat
  | 0 => 0
  | a + 1 => if nx n w a = a then a + rdu n w a else nx n w a
theorem ru_pos {e N : Nat} (he : e < 16) : 1 ≤ ru e N := by
  unfold ru
  split
  · omega
  · exact (by decide +kernel : ∀ e, e < 16 → 1 ≤ ku e) e he
theorem rdu_pos {n : Nat} {w : Nat → Nat} (a : Nat) : 1 ≤ rdu n w a := by
  unfold rdu
  cases h : rdx n w (Int32.ofNat a) with
  | none => exact Nat.le_refl _
  | some p =>
    obtain ⟨b, e⟩ := p
    exact ru_pos (rk_lt (rdx_ok h).2.2.1)
theorem nx_le {n : Nat} {w : Nat → Nat} : ∀ a, a ≤ nx n w a
  | 0 => Nat.zero_le _
  | a + 1 => by
    have ih := nx_le (n := n) (w := w) a
    have := rdu_pos (n := n) (w := w) a
    show a + 1 ≤ if nx n w a = a then a + rdu n w a else nx n w a
    split <;> omega
theorem nx_hop {n : Nat} {w : Nat → Nat} {a : Nat} (h : nx n w a = a) : ∀ d, 1 ≤ d → d ≤ rdu n w a → nx n w (a + d) = a + rdu n w a
  | 0, h1, _ => absurd h1 (by omega)
  | 1, _, _ => by
    show (if nx n w a = a then a + rdu n w a else nx n w a) = _
    rw [if_pos h]
  | d + 2, _, h2 => by
    have ih := nx_hop h (d + 1) (by omega) (by omega)
    show (if nx n w (a + (d + 1)) = a + (d + 1) then _ else nx n w (a + (d + 1))) = _
    rw [if_neg (by omega), ih]
def bv (n : Nat) (w : Nat → Nat) (j : Nat) : Int32 := if nx n w j = j then (match rdx n w (Int32.ofNat j) with
  | some (_, e) => kd_op e
  | none => -2) else -2
def bc (n : Nat) (w : Nat → Nat) (j : Nat) : Bool := decide (nx n w j = j) && (match rdx n w (Int32.ofNat j) with
  | some (_, e) => Nat.beq e 15
  | none => false)
def gd (n : Nat) (w : Nat → Nat) (e : Nat) (t : Int32) : Bool := decide (¬ t < 0 ∧ t.toNatClampNeg < n) && (if e = 14 then bc n w t.toNatClampNeg else decide (nx n w t.toNatClampNeg = t.toNatClampNeg))
def sy (n : Nat) (w : Nat → Nat) (a : Nat) : Bool := match rdx n w (Int32.ofNat a) with
  | some (_, e) => decide (kd_goes e = 1) && !(gd n w e (Int32.ofNat a + rf w e (w a) (rn n w a) a))
  | none => false
def fb (n : Nat) (w : Nat → Nat) (a : Nat) : Prop := a < n ∧ nx n w a = a ∧ rdx n w (Int32.ofNat a) = none ∧ ∀ j, j < a → nx n w j = j → rdx n w (Int32.ofNat j) ≠ none
def fs (n : Nat) (w : Nat → Nat) (a : Nat) : Prop := a < n ∧ nx n w a = a ∧ sy n w a = true ∧ ∀ j, j < a → nx n w j = j → sy n w j = false
abbrev fp_kC : List (Nat × Nat) := [(18, 999), (19, 999), (20, 999), (21, 999)]
abbrev fp_kM : List (Nat × Nat) := [(26, 28), (26, 29), (26, 30), (26, 31), (26, 32), (26, 33), (26, 34), (26, 35), (43, 999), (44, 999)]
theorem k_opn : ∀ e, e < 16 → kd_op e ≠ -2 ∧ (kd_op e = 256 ↔ e = 15) ∧ (kd_op e = 43 ↔ e = 14) := by decide +kernel
theorem s_mark {n : Nat} {w : Nat → Nat} (hV : cc_V n w) {Q : st_S → Option eg_V → Prop} : ∀ d a (σ : st_S), a + d = n → cc_C n w σ → R_R σ → (∀ j, j < a → σ.1 18 0 j = bv n w j) → (∀ j, j < a → nx n w j = j → rdx n w (Int32.ofNat j) ≠ none) →
    (∀ σ' b, fr fp_kC σ σ' → R_R σ' → fb n w b → Q σ' (some (.inl (Int32.ofNat b)))) →
    (∀ σ', fr fp_kC σ σ' → R_R σ' → (∀ j, j < n → σ'.1 18 0 j = bv n w j) → (∀ j, j < n → nx n w j = j → rdx n w (Int32.ofNat j) ≠ none) → Q σ' (some (.inl (-2)))) →
    pw_E 72 4 σ (0, 0) [(0, .inr (16, 0)), (1, .inr (19, 0)), (2, .inl (Int32.ofNat (nx n w a))), (3, .inl (Int32.ofNat a))] [] Q := by
  have hn := hV.1
  intro d
  induction d with
  | zero =>
    intro a σ ha hC hR hb hg K0 K1
    have hc : σ.1 16 0 1 ≤ Int32.ofNat a := by rw [hC.1, n_le (by omega) (by omega)]; omega
    have : a = n := by omega
    subst this
    exact w_Code_markBeginnings_4 (fun _ => K1 σ fr_rf hR hb hg) (fun h => absurd hc h) (fun h => absurd hc h) (fun h => absurd hc h)
  | succ d ih =>
    intro a σ ha hC hR hb hg K0 K1
    have hc : ¬ σ.1 16 0 1 ≤ Int32.ofNat a := by rw [hC.1, n_le (by omega) (by omega)]; omega
    have hnb : nx n w a < 2147483648 := by
      have : ∀ a, a ≤ 200 → nx n w a ≤ a + 200 := by
        intro a
        induction a with
        | zero => intro _; exact Nat.zero_le _
        | succ a iha =>
          intro h
          have iha := iha (by omega)
          have hr : rdu n w a ≤ 200 := by
            unfold rdu
            cases h : rdx n w (Int32.ofNat a) with
            | none => exact (by omega : (1 : Nat) ≤ 200)
            | some p =>
              obtain ⟨b, e⟩ := p
              have := (rdx_ok h).2
              have hx := (rdx_ok h).1
              have h3 := this.2.2.2
              rw [n_inj (by omega) (by have := this.1; omega)] at hx
              subst hx
              exact (by omega : ru e (rn n w a) ≤ 200)
          have hs : nx n w (a + 1) = if nx n w a = a then a + rdu n w a else nx n w a := rfl
          rw [hs]
          by_cases hc : nx n w a = a
          · rw [if_pos hc]; omega
          · rw [if_neg hc]; omega
      have := this a (by omega)
      omega
    refine w_Code_markBeginnings_4 (fun h => absurd h hc) (fun _ => n_inb (by omega) (by omega)) (fun _ h => ?_) (fun _ h => ?_)
    · rw [n_inj (by omega) hnb] at h
      rw [n_cl (by omega)]
      refine c_read (σ := st_up σ 18 0 a (-2)) hV ⟨hC.1, hC.2⟩ (fun σ1 f g hx => ?_) (fun σ1 b e f g hx hr ok hcc => ?_)
      · refine w_Code_markBeginnings_31 (fun _ => K0 σ1 a ?_ (R_R_frx f g (fun i j hi hj => hR i j hi hj)) ⟨by omega, h.symm, hx, hg⟩) (fun z => absurd rfl z) (fun z => absurd rfl z)
        exact fr_tr (fr_up fr_rf rfl) (fr_w _ (frx_fr f) rfl)
      · have hb1 := ok.1
        rw [n_inj (by omega) (by omega)] at hx
        subst hx
        have he := rk_lt ok.2.1
        have F1 : fr fp_kC σ σ1 := fr_tr (fr_up fr_rf rfl) (fr_w _ (frx_fr f) rfl)
        have f' := frx_fr f
        have hk : (σ1.1 19 0 0).toNatClampNeg = e := by rw [hcc.1]; exact n_cl (by omega)
        refine w_Code_markBeginnings_31 (fun z => absurd z (by decide)) (fun _ => n_inb (by omega) (by omega)) (fun _ => ?_)
        rw [hk, hcc.2.2.1, n_cl (by omega), n_add, show Int32.ofNat a + 1 = Int32.ofNat (a + 1) from n_add a 1]
        have hnx : nx n w (a + 1) = a + ru e (rn n w a) := by
          show (if nx n w a = a then a + rdu n w a else nx n w a) = _
          rw [if_pos h.symm]
          unfold rdu
          rw [hr]
        rw [← hnx]
        have hbv : bv n w a = kd_op e := by unfold bv; rw [if_pos h.symm, hr]
        refine ih (a + 1) _ (by omega) ?_ ?_ (fun j hj => ?_) (fun j hj hnj => ?_) (fun σ2 b f2 hR2 hb2 => K0 σ2 b (fr_tr (fr_up F1 rfl) f2) hR2 hb2) (fun σ2 f2 hR2 hb2 hg2 => K1 σ2 (fr_tr (fr_up F1 rfl) f2) hR2 hb2 hg2)
        · exact hC.ag (fr_ag (fr_up (k := 18) (i := 0) (j := a) (x := kd_op e) F1 rfl) rfl)
        · exact fun i j hi hj => R_R_frx f g (fun i j hi hj => hR i j hi hj) i j hi hj
        · by_cases hja : j = a
          · subst hja
            exact (up_eq ..).trans hbv.symm
          · refine (up_j hja).trans ((f'.2 18 0 j rfl).trans ((up_j hja).trans (hb j (by omega))))
        · by_cases hja : j = a
          · subst hja
            rw [hr]; exact fun z => by cases z
          · exact hg j (by omega) hnj
    · rw [n_inj (by omega) hnb] at h
      rw [n_cl (by omega), show Int32.ofNat a + 1 = Int32.ofNat (a + 1) from n_add a 1]
      have hnx : nx n w (a + 1) = nx n w a := if_neg (fun z => h z.symm)
      rw [← hnx]
      refine ih (a + 1) _ (by omega) ⟨hC.1, hC.2⟩ (fun i j hi hj => hR i j hi hj) (fun j hj => ?_) (fun j hj hnj => ?_) (fun σ2 b f2 hR2 hb2 => K0 σ2 b (fr_tr (fr_up fr_rf rfl) f2) hR2 hb2) (fun σ2 f2 hR2 hb2 hg2 => K1 σ2 (fr_tr (fr_up fr_rf rfl) f2) hR2 hb2 hg2)
      · by_cases hja : j = a
        · subst hja
          refine (up_eq ..).trans ?_
          unfold bv
          rw [if_neg (fun z => h z.symm)]
        · exact (up_j hja).trans (hb j (by omega))
      · by_cases hja : j = a
        · subst hja
          exact absurd hnj.symm h
        · exact hg j (by omega) hnj
theorem bv_op {n : Nat} {w : Nat → Nat} (hg : ∀ j, j < n → nx n w j = j → rdx n w (Int32.ofNat j) ≠ none) {j : Nat} (hj : j < n) : (bv n w j = -2 ↔ ¬ nx n w j = j) ∧ (bv n w j = 256 ↔ bc n w j = true) := by
  unfold bv bc
  by_cases h : nx n w j = j
  · rw [if_pos h]
    cases hr : rdx n w (Int32.ofNat j) with
    | none => exact absurd hr (hg j hj h)
    | some p =>
      obtain ⟨b, e⟩ := p
      have he := rk_lt (rdx_ok hr).2.2.1
      obtain ⟨o1, o2, -⟩ := k_opn e he
      refine ⟨⟨fun z => absurd z o1, fun z => absurd h z⟩, ?_⟩
      show kd_op e = 256 ↔ (decide (nx n w j = j) && Nat.beq e 15) = true
      rw [o2, decide_eq_true h, Bool.true_and, Nat.beq_eq]
  · rw [if_neg h]
    refine ⟨⟨fun _ => h, fun _ => rfl⟩, ?_⟩
    rw [decide_eq_false h, Bool.false_and]
    exact ⟨fun z => absurd z (by decide), fun z => absurd z (by decide)⟩
theorem s_strays {n a e : Nat} {w : Nat → Nat} {σ : st_S} (hV : cc_V n w) (hC : cc_C n w σ) (hb : ∀ j, j < n → σ.1 18 0 j = bv n w j) (hg : ∀ j, j < n → nx n w j = j → rdx n w (Int32.ofNat j) ≠ none) (hr : rdx n w (Int32.ofNat a) = some (a, e)) (hc : rd_C 0 n w a e σ) {Q : st_S → Option eg_V → Prop}
    (K : Q σ (some (.inl (tx_b (sy n w a))))) : pw_E 73 0 σ (0, 0) [(0, .inr (16, 0)), (1, .inr (19, 0))] [] Q := by
  have hn := hV.1
  obtain ⟨c0, c1, c2, c4, cr, cc⟩ := hc
  have he := rk_lt (rdx_ok hr).2.2.1
  have hk : (σ.1 19 0 0).toNatClampNeg = e := by rw [c0]; exact n_cl (by omega)
  have hsy : sy n w a = (decide (kd_goes e = 1) && !(gd n w e (Int32.ofNat a + rf w e (w a) (rn n w a) a))) := by unfold sy; rw [hr]
  rw [hsy] at K
  generalize ht : Int32.ofNat a + rf w e (w a) (rn n w a) a = t at K
  have hgo : σ.1 19 0 1 + σ.1 19 0 4 = t := by rw [c1, c4]; exact ht
  have no : ¬ kd_goes e = 0 → gd n w e t = false → Q σ (some (.inl 1)) := fun h1 h2 => by
    rw [decide_eq_true ((k_go e he).resolve_left h1), h2] at K
    exact K
  have yes : gd n w e t = true → Q σ (some (.inl 0)) := fun h2 => by
    rw [h2] at K
    simp only [Bool.not_true, Bool.and_false] at K
    exact K
  have gF : ¬ (¬ t < 0 ∧ t.toNatClampNeg < n) → gd n w e t = false := fun h => by unfold gd; rw [decide_eq_false h, Bool.false_and]
  have gT : (¬ t < 0 ∧ t.toNatClampNeg < n) → gd n w e t = (if e = 14 then bc n w t.toNatClampNeg else decide (nx n w t.toNatClampNeg = t.toNatClampNeg)) := fun h => by unfold gd; rw [decide_eq_true h, Bool.true_and]
  have ge : ¬ t < 0 → σ.1 16 0 1 ≤ t → ¬ (¬ t < 0 ∧ t.toNatClampNeg < n) := fun h1 h2 z => by
    obtain ⟨k, hk, rfl⟩ := n_of' h1
    rw [hC.1, n_le (by omega) hk] at h2
    rw [n_cl hk] at z
    omega
  have lt : ¬ t < 0 → ¬ σ.1 16 0 1 ≤ t → (¬ t < 0 ∧ t.toNatClampNeg < n) := fun h1 h2 => by
    obtain ⟨k, hk, rfl⟩ := n_of' h1
    rw [hC.1, n_le (by omega) hk] at h2
    rw [n_cl hk]
    exact ⟨h1, by omega⟩
  refine w_Code_strays_0 (fun h => ?_) (fun h1 h2 h3 => ?_) (fun h1 h2 h3 => ?_) (fun h1 h2 h3 h4 => ?_) (fun h1 h2 h3 h4 => ?_) (fun h1 h2 h3 => ?_) (fun h1 h2 h3 h4 h5 => ?_) (fun h1 h2 h3 h4 h5 => ?_) (fun h1 h2 h3 h4 h5 => ?_) (fun h1 h2 h3 h4 h5 => ?_)
  · rw [hk] at h
    rw [decide_eq_false (by rw [h]; decide), Bool.false_and] at K
    exact K
  · rw [hk] at h1; rw [hgo] at h2
    exact no h1 (gF (fun z => z.1 h2))
  · rw [hk] at h1; rw [hgo] at h2
    exact no h1 (gF (fun z => z.1 h2))
  · rw [hk] at h1; rw [hgo] at h2 h3
    exact no h1 (gF (ge h2 h3))
  · rw [hk] at h1; rw [hgo] at h2 h3
    exact no h1 (gF (ge h2 h3))
  · rw [hgo] at h2 h3 ⊢
    have := lt h2 h3
    obtain ⟨k, hk, rfl⟩ := n_of' h2
    rw [n_cl hk] at this
    exact n_inb (by omega) (by omega)
  · rw [hgo] at h2 h3 h5
    rw [hk] at h4
    have l := lt h2 h3
    rw [hb _ l.2, (bv_op hg l.2).2] at h5
    exact yes (by rw [gT l, if_pos h4]; exact h5)
  · rw [hgo] at h2 h3 h5
    rw [hk] at h1 h4
    have l := lt h2 h3
    rw [hb _ l.2, (bv_op hg l.2).2] at h5
    exact no h1 (by rw [gT l, if_pos h4]; exact Bool.not_eq_true _ ▸ h5)
  · rw [hgo] at h2 h3 h5
    rw [hk] at h1 h4
    have l := lt h2 h3
    rw [hb _ l.2, (bv_op hg l.2).1] at h5
    exact no h1 (by rw [gT l, if_neg h4]; exact decide_eq_false h5)
  · rw [hgo] at h2 h3 h5
    rw [hk] at h4
    have l := lt h2 h3
    rw [hb _ l.2, (bv_op hg l.2).1] at h5
    exact yes (by rw [gT l, if_neg h4]; exact decide_eq_true (Classical.byContradiction h5))
theorem s_check22 {n : Nat} {w : Nat → Nat} (hV : cc_V n w) (hg : ∀ j, j < n → nx n w j = j → rdx n w (Int32.ofNat j) ≠ none) {Q : st_S → Option eg_V → Prop} : ∀ d a (σ : st_S), a + d = n → cc_C n w σ → R_R σ → (∀ j, j < n → σ.1 18 0 j = bv n w j) → (∀ j, j < a → nx n w j = j → sy n w j = false) →
    (∀ σ' b, fr fp_kC σ σ' → R_R σ' → fs n w b → Q σ' (some (.inl (Int32.ofNat b)))) →
    (∀ σ', fr fp_kC σ σ' → R_R σ' → (∀ j, j < n → nx n w j = j → sy n w j = false) → Q σ' (some (.inl (-2)))) →
    pw_E 71 22 σ (0, 0) [(0, .inr (2, 0)), (2, .inl (Int32.ofNat a))] [] Q := by
  have hn := hV.1
  intro d
  induction d with
  | zero =>
    intro a σ ha hC hR hb hs K0 K1
    have hc : σ.1 16 0 1 ≤ Int32.ofNat a := by rw [hC.1, n_le (by omega) (by omega)]; omega
    have : a = n := by omega
    subst this
    exact w_U_check_22 (fun _ => K1 σ fr_rf hR hs) (fun h => absurd hc h) (fun h => absurd hc h) (fun h => absurd hc h)
  | succ d ih =>
    intro a σ ha hC hR hb hs K0 K1
    have hc : ¬ σ.1 16 0 1 ≤ Int32.ofNat a := by rw [hC.1, n_le (by omega) (by omega)]; omega
    have e1 : Int32.ofNat a + 1 = Int32.ofNat (a + 1) := n_add a 1
    refine w_U_check_22 (fun h => absurd h hc) (fun _ => n_inb (by omega) (by omega)) (fun _ h => ?_) (fun _ h => ?_)
    · rw [n_cl (by omega), hb a (by omega), (bv_op hg (by omega)).1] at h
      rw [e1]
      refine ih (a + 1) σ (by omega) hC hR hb (fun j hj hnj => ?_) K0 K1
      by_cases hja : j = a
      · subst hja; exact absurd hnj h
      · exact hs j (by omega) hnj
    · rw [n_cl (by omega), hb a (by omega), (bv_op hg (by omega)).1] at h
      have hna : nx n w a = a := Classical.byContradiction h
      refine c_read hV hC (fun σ1 f g hx => absurd hx (hg a (by omega) hna)) (fun σ1 b e f g hx hr ok hcc => ?_)
      have hb1 := ok.1
      rw [n_inj (by omega) (by omega)] at hx
      subst hx
      have F1 : fr fp_kC σ σ1 := fr_w _ (frx_fr f) rfl
      have f' := frx_fr f
      have hC1 : cc_C n w σ1 := hC.ag (fr_ag f' rfl)
      have hR1 : R_R σ1 := R_R_frx f g hR
      have hb1' : ∀ j, j < n → σ1.1 18 0 j = bv n w j := fun j hj => (f'.2 18 0 j rfl).trans (hb j hj)
      refine w_U_check_59 (fun z => absurd z (by decide)) (fun _ => s_strays hV hC1 hb1' hg hr hcc (w_U_check_73 (fun z => ?_) (fun z => ?_)))
      · rw [tx_b0] at z
        rw [e1]
        refine ih (a + 1) σ1 (by omega) hC1 hR1 hb1' (fun j hj hnj => ?_) (fun σ2 b f2 => K0 σ2 b (fr_tr F1 f2)) (fun σ2 f2 => K1 σ2 (fr_tr F1 f2))
        by_cases hja : j = a
        · subst hja; exact z
        · exact hs j (by omega) hnj
      · rw [tx_b0, Bool.not_eq_false] at z
        exact K0 σ1 a F1 hR1 ⟨by omega, hna, z, hs⟩
/-! the reference's check -/
theorem s_mcheck2 {Q : st_S → Option eg_V → Prop} : ∀ d a (σ : st_S), a + d = 200 → (∀ j, j < a → σ.1 43 0 j = 0 ∧ σ.1 44 0 j = 0) →
    (∀ σ', fr fp_kM σ σ' → (∀ j, j < 200 → σ'.1 43 0 j = 0 ∧ σ'.1 44 0 j = 0) → pw_E 123 31 σ' (0, 0) [(0, .inr (26, 0)), (1, .inl 0)] [] Q) →
    pw_E 123 2 σ (0, 0) [(0, .inr (26, 0)), (1, .inl (Int32.ofNat a))] [] Q := by
  intro d
  induction d with
  | zero =>
    intro a σ ha h0 K
    have : a = 200 := by omega
    subst this
    exact w_M_check_2 (fun _ => K σ fr_rf h0) (fun h => absurd (by decide) h) (fun h => absurd (by decide) h)
  | succ d ih =>
    intro a σ ha h0 K
    have hc : ¬ (200 : Int32) ≤ Int32.ofNat a := by rw [show (200 : Int32) = Int32.ofNat 200 from rfl, n_le (by omega) (by omega)]; omega
    refine w_M_check_2 (fun h => absurd h hc) (fun _ => n_inb (by omega) (by omega)) (fun _ => ?_)
    rw [n_cl (by omega), show Int32.ofNat a + 1 = Int32.ofNat (a + 1) from n_add a 1]
    refine ih (a + 1) _ (by omega) (fun j hj => ?_) (fun σ' f h => K σ' (fr_tr (fr_up (fr_up fr_rf rfl) rfl) f) h)
    by_cases hja : j = a
    · subst hja
      exact ⟨up_eq .., up_eq ..⟩
    · exact ⟨(up_k (by decide)).trans ((up_j hja).trans (h0 j (by omega)).1), (up_j hja).trans ((up_k (by decide)).trans (h0 j (by omega)).2)⟩
theorem s_mcheck31 {n : Nat} {w : Nat → Nat} (hV : cc_V n w) {Q : st_S → Option eg_V → Prop} : ∀ d a (σ : st_S), (n < a + d) → a ≤ n → nx n w a = a → cc_M n w σ → (∀ j, j < a → σ.1 43 0 j = tx_b (decide (nx n w j = j)) ∧ σ.1 44 0 j = tx_b (bc n w j)) → (∀ j, a ≤ j → j < 200 → σ.1 43 0 j = 0 ∧ σ.1 44 0 j = 0) → (∀ j, j < a → nx n w j = j → rdx n w (Int32.ofNat j) ≠ none) →
    (∀ σ' b, fr fp_kM σ σ' → fb n w b → Q σ' (some (.inl (Int32.ofNat b)))) →
    (∀ σ', fr fp_kM σ σ' → (∀ j, j < n → σ'.1 43 0 j = tx_b (decide (nx n w j = j)) ∧ σ'.1 44 0 j = tx_b (bc n w j)) → (∀ j, j < n → nx n w j = j → rdx n w (Int32.ofNat j) ≠ none) → pw_E 123 91 σ' (0, 0) [(0, .inr (26, 0)), (1, .inl 0)] [] Q) →
    pw_E 123 31 σ (0, 0) [(0, .inr (26, 0)), (1, .inl (Int32.ofNat a))] [] Q := by
  have hn := hV.1
  intro d
  induction d with
  | zero => intro a σ h1 h2; omega
  | succ d ih =>
    intro a σ hd han hna hM h1 h2 hg K0 K1
    by_cases hend : a = n
    · subst hend
      have hc : σ.1 26 0 27 ≤ Int32.ofNat a := by rw [hM.1]; exact Int32.le_refl _
      exact w_M_check_31 (fun _ => K1 σ fr_rf h1 hg) (fun h => absurd hc h)
    · have hc : ¬ σ.1 26 0 27 ≤ Int32.ofNat a := by rw [hM.1, n_le (by omega) (by omega)]; omega
      refine w_M_check_31 (fun h => absurd h hc) (fun _ => ?_)
      refine m_read hV hM (fun σ1 f hx => w_M_check_44 (fun _ => K0 σ1 a (fr_w _ f rfl) ⟨by omega, hna, hx, hg⟩) (fun z => absurd rfl z) (fun z => absurd rfl z) (fun z => absurd rfl z)) (fun σ1 b e f hx hr ok hcc => ?_)
      have hb1 := ok.1
      rw [n_inj (by omega) (by omega)] at hx
      subst hx
      have he := rk_lt ok.2.1
      have F1 : fr fp_kM σ σ1 := fr_w _ f rfl
      have hu : rdu n w a = ru e (rn n w a) := by unfold rdu; rw [hr]
      have hpos := rdu_pos (n := n) (w := w) a
      have hfit := ok.2.2.2
      have hbc : bc n w a = Nat.beq e 15 := by unfold bc; rw [decide_eq_true hna, hr]; rfl
      have go : ∀ v, v = tx_b (Nat.beq e 15) → pw_E 123 31 (st_up (st_up σ1 43 0 a 1) 44 0 a v) (0, 0) [(0, .inr (26, 0)), (1, .inl (Int32.ofNat (a + ru e (rn n w a))))] [] Q := fun v hv => by
        have F2 : fr fp_kM σ (st_up (st_up σ1 43 0 a 1) 44 0 a v) := fr_up (fr_up F1 rfl) rfl
        refine ih (a + ru e (rn n w a)) _ (by omega) hfit ?_ (hM.ag (fr_ag F2 rfl)) (fun j hj => ?_) (fun j hj1 hj2 => ?_) (fun j hj hnj => ?_) (fun σ2 b f2 => K0 σ2 b (fr_tr F2 f2)) (fun σ2 f2 => K1 σ2 (fr_tr F2 f2))
        · have := nx_hop hna (rdu n w a) hpos (Nat.le_refl _)
          rw [hu] at this
          exact this
        · by_cases hja : j = a
          · subst hja
            refine ⟨(up_k (by decide)).trans ((up_eq ..).trans ?_), (up_eq ..).trans ?_⟩
            · rw [decide_eq_true hna]; rfl
            · rw [hbc]; exact hv
          · have A : (st_up (st_up σ1 43 0 a 1) 44 0 a v).1 43 0 j = σ.1 43 0 j := (up_k (by decide)).trans ((up_j hja).trans (f.2 43 0 j rfl))
            have B : (st_up (st_up σ1 43 0 a 1) 44 0 a v).1 44 0 j = σ.1 44 0 j := (up_j hja).trans ((up_k (by decide)).trans (f.2 44 0 j rfl))
            rw [A, B]
            by_cases hlt : j < a
            · exact h1 j hlt
            · have hnx := nx_hop hna (j - a) (by omega) (by omega)
              rw [show a + (j - a) = j by omega] at hnx
              have hne : ¬ nx n w j = j := by omega
              have hbj : bc n w j = false := by unfold bc; rw [decide_eq_false hne, Bool.false_and]
              rw [decide_eq_false hne, hbj]
              exact h2 j (by omega) (by omega)
        · have hja : j ≠ a := by have := ru_pos (N := rn n w a) he; omega
          exact ⟨(up_k (by decide)).trans ((up_j hja).trans ((f.2 43 0 j rfl).trans (h2 j (by omega) hj2).1)), (up_j hja).trans ((up_k (by decide)).trans ((f.2 44 0 j rfl).trans (h2 j (by omega) hj2).2))⟩
        · by_cases hja : j = a
          · subst hja; rw [hr]; exact fun z => by cases z
          · by_cases hlt : j < a
            · exact hg j hlt hnj
            · have hnx := nx_hop hna (j - a) (by omega) (by omega)
              rw [show a + (j - a) = j by omega] at hnx
              omega
      refine w_M_check_44 (fun z => absurd z (by decide)) (fun _ => n_inb (by omega) (by omega)) (fun _ h => ?_) (fun _ h => ?_)
      · rw [hcc.1, (k_opn e he).2.1] at h
        rw [n_cl (by omega), hcc.2.1, n_add]
        exact go 1 (by rw [h]; rfl)
      · rw [hcc.1, (k_opn e he).2.1] at h
        rw [n_cl (by omega), hcc.2.1, n_add]
        exact go 0 (by rw [show Nat.beq e 15 = false from beq_ff h]; rfl)
theorem s_mcheck91 {n : Nat} {w : Nat → Nat} (hV : cc_V n w) (hg : ∀ j, j < n → nx n w j = j → rdx n w (Int32.ofNat j) ≠ none) {Q : st_S → Option eg_V → Prop} : ∀ d a (σ : st_S), (n < a + d) → a ≤ n → nx n w a = a → cc_M n w σ → (∀ j, j < n → σ.1 43 0 j = tx_b (decide (nx n w j = j)) ∧ σ.1 44 0 j = tx_b (bc n w j)) → (∀ j, j < a → nx n w j = j → sy n w j = false) →
    (∀ σ' b, fr fp_kM σ σ' → fs n w b → Q σ' (some (.inl (Int32.ofNat b)))) →
    (∀ σ', fr fp_kM σ σ' → (∀ j, j < n → nx n w j = j → sy n w j = false) → Q σ' (some (.inl (-2)))) →
    pw_E 123 91 σ (0, 0) [(0, .inr (26, 0)), (1, .inl (Int32.ofNat a))] [] Q := by
  have hn := hV.1
  intro d
  induction d with
  | zero => intro a σ h1 h2; omega
  | succ d ih =>
    intro a σ hd han hna hM h1 hs K0 K1
    by_cases hend : a = n
    · subst hend
      have hc : σ.1 26 0 27 ≤ Int32.ofNat a := by rw [hM.1]; exact Int32.le_refl _
      exact w_M_check_91 (fun _ => K1 σ fr_rf hs) (fun h => absurd hc h)
    · have hc : ¬ σ.1 26 0 27 ≤ Int32.ofNat a := by rw [hM.1, n_le (by omega) (by omega)]; omega
      refine w_M_check_91 (fun h => absurd h hc) (fun _ => ?_)
      refine m_read hV hM (fun σ1 f hx => absurd hx (hg a (by omega) hna)) (fun σ1 b e f hx hr ok hcc => ?_)
      have hb1 := ok.1
      rw [n_inj (by omega) (by omega)] at hx
      subst hx
      have he := rk_lt ok.2.1
      have F1 : fr fp_kM σ σ1 := fr_w _ f rfl
      have hu : rdu n w a = ru e (rn n w a) := by unfold rdu; rw [hr]
      have hpos := rdu_pos (n := n) (w := w) a
      have hfit := ok.2.2.2
      have hM1 : cc_M n w σ1 := hM.ag (fr_ag f rfl)
      have hrf := rf_b hV ok
      have big : ¬ rf w e (w a) (rn n w a) a = 99999999 := fun z => by
        rw [z] at hrf
        exact absurd hrf.2 (by decide)
      obtain ⟨m0, m1, mA, mB, mC', mN, mD, mM'⟩ := hcc
      have hsy : sy n w a = (decide (kd_goes e = 1) && !(gd n w e (Int32.ofNat a + rf w e (w a) (rn n w a) a))) := by unfold sy; rw [hr]
      have go : sy n w a = false → pw_E 123 91 σ1 (0, 0) [(0, .inr (26, 0)), (1, .inl (Int32.ofNat a + σ1.1 26 0 29))] [] Q := fun hz => by
        rw [m1, n_add]
        refine ih (a + ru e (rn n w a)) σ1 (by omega) hfit ?_ hM1 (fun j hj => ?_) (fun j hj hnj => ?_) (fun σ2 b f2 => K0 σ2 b (fr_tr F1 f2)) (fun σ2 f2 => K1 σ2 (fr_tr F1 f2))
        · have := nx_hop hna (rdu n w a) hpos (Nat.le_refl _)
          rw [hu] at this
          exact this
        · rw [f.2 43 0 j rfl, f.2 44 0 j rfl]; exact h1 j hj
        · by_cases hja : j = a
          · subst hja; exact hz
          · by_cases hlt : j < a
            · exact hs j hlt hnj
            · have hnx := nx_hop hna (j - a) (by omega) (by omega)
              rw [show a + (j - a) = j by omega] at hnx
              omega
      have bad : sy n w a = true → Q σ1 (some (.inl (Int32.ofNat a))) := fun hz => K0 σ1 a F1 ⟨by omega, hna, hz, hs⟩
      by_cases hgo : kd_goes e = 1
      · rw [if_pos hgo] at mD
        rw [decide_eq_true hgo, Bool.true_and] at hsy
        rw [show (99999999 : Int32) = 99999999 from rfl] at big
        have n9 : ¬ σ1.1 26 0 34 = 99999999 := by rw [mD]; exact big
        generalize ht : Int32.ofNat a + rf w e (w a) (rn n w a) a = t at hsy
        have ht' : Int32.ofNat a + σ1.1 26 0 34 = t := by rw [mD]; exact ht
        have gF : ¬ (¬ t < 0 ∧ t.toNatClampNeg < n) → gd n w e t = false := fun h => by unfold gd; rw [decide_eq_false h, Bool.false_and]
        have gT : (¬ t < 0 ∧ t.toNatClampNeg < n) → gd n w e t = (if e = 14 then bc n w t.toNatClampNeg else decide (nx n w t.toNatClampNeg = t.toNatClampNeg)) := fun h => by unfold gd; rw [decide_eq_true h, Bool.true_and]
        have lt : ¬ t < 0 → ¬ σ1.1 26 0 27 - 1 < t → (¬ t < 0 ∧ t.toNatClampNeg < n) := fun g1 g2 => by
          obtain ⟨k, hk, rfl⟩ := n_of' g1
          rw [hM1.1, show (1 : Int32) = Int32.ofNat 1 from rfl, n_sub (by omega), n_lt (by omega) hk] at g2
          rw [n_cl hk]
          exact ⟨g1, by omega⟩
        have h1' : ∀ j, j < n → σ1.1 43 0 j = tx_b (decide (nx n w j = j)) ∧ σ1.1 44 0 j = tx_b (bc n w j) := fun j hj => by rw [f.2 43 0 j rfl, f.2 44 0 j rfl]; exact h1 j hj
        have inb : ¬ t < 0 → ¬ σ1.1 26 0 27 - 1 < t → eg_inb t 200 = true := fun g1 g2 => by
          have l := lt g1 g2
          obtain ⟨k, hk, rfl⟩ := n_of' g1
          rw [n_cl hk] at l
          exact n_inb (by omega) (by omega)
        refine w_M_check_104 (fun z => absurd z n9) (fun _ g1 => ?_) (fun _ g1 g2 => ?_) (fun _ g1 g2 g3 => ?_) (fun _ g1 g2 g3 g4 => ?_) (fun _ g1 g2 g3 g4 => ?_) (fun _ g1 g2 g3 => ?_) (fun _ g1 g2 g3 g4 => ?_) (fun _ g1 g2 g3 g4 => ?_)
        · rw [ht'] at g1
          exact bad (by rw [hsy, gF (fun z => z.1 g1)]; rfl)
        · rw [ht'] at g1 g2
          have hz : ¬ (¬ t < 0 ∧ t.toNatClampNeg < n) := fun z => by
            obtain ⟨k, hk, rfl⟩ := n_of' g1
            rw [hM1.1, show (1 : Int32) = Int32.ofNat 1 from rfl, n_sub (by omega), n_lt (by omega) hk] at g2
            rw [n_cl hk] at z
            omega
          exact bad (by rw [hsy, gF hz]; rfl)
        · rw [ht'] at g1 g2 ⊢
          exact inb g1 g2
        · rw [ht'] at g1 g2 g4
          rw [m0, (k_opn e he).2.2] at g3
          have l := lt g1 g2
          rw [(h1' _ l.2).2, tx_b0] at g4
          exact bad (by rw [hsy, gT l, if_pos g3, g4]; rfl)
        · rw [ht'] at g1 g2 g4
          rw [m0, (k_opn e he).2.2] at g3
          have l := lt g1 g2
          rw [(h1' _ l.2).2, tx_b0, Bool.not_eq_false] at g4
          exact go (by rw [hsy, gT l, if_pos g3, g4]; rfl)
        · rw [ht'] at g1 g2 ⊢
          exact inb g1 g2
        · rw [ht'] at g1 g2 g4
          rw [m0, (k_opn e he).2.2] at g3
          have l := lt g1 g2
          rw [(h1' _ l.2).1, tx_b0] at g4
          exact bad (by rw [hsy, gT l, if_neg g3, g4]; rfl)
        · rw [ht'] at g1 g2 g4
          rw [m0, (k_opn e he).2.2] at g3
          have l := lt g1 g2
          rw [(h1' _ l.2).1, tx_b0, Bool.not_eq_false] at g4
          exact go (by rw [hsy, gT l, if_neg g3, g4]; rfl)
      · rw [if_neg hgo] at mD
        rw [decide_eq_false hgo, Bool.false_and] at hsy
        refine w_M_check_104 (fun _ => go hsy) ?_ ?_ ?_ ?_ ?_ ?_ ?_ ?_
        all_goals exact fun z => absurd mD z
theorem cs_check (xs : Nat → Int32) (L : Nat) : CallS xs L 71 123 [] := by
  intro σ r
  obtain ⟨n, w, hV, hC, hM⟩ := r.2.2.1
  have hn := hV.1
  have keep : ∀ {σ1 σ2 : st_S}, fr fp_kC σ σ1 → R_R σ1 → fr fp_kM σ1 σ2 → RR xs L σ2 := fun {σ1 σ2} f1 hR1 f2 => by
    obtain ⟨a1, a2, a3, a4, a5, a6, a7⟩ := r
    exact ⟨(a1.ag (fr_ag f1 rfl)).ag (fr_ag f2 rfl), (a2.ag (fr_ag f1 rfl) (fr_ag f1 rfl) (fr_ag f1 rfl)).ag (fr_ag f2 rfl) (fr_ag f2 rfl) (fr_ag f2 rfl), (a3.ag (fr_ag f1 rfl)).ag (fr_ag f2 rfl), (a4.ag (fr_ag f1 rfl)).ag (fr_ag f2 rfl), hR1.ag (fr_ag f2 rfl), (a6.ag f1.1 (fr_ag f1 rfl)).ag f2.1 (fr_ag f2 rfl), (a7.ag f1.1 (fr_ag f1 rfl)).ag f2.1 (fr_ag f2 rfl)⟩
  have ub : ∀ a b, fb n w a → fb n w b → a = b := fun a b h1 h2 => by
    rcases Nat.lt_trichotomy a b with z | z | z
    · exact absurd h1.2.2.1 (h2.2.2.2 a z h1.2.1)
    · exact z
    · exact absurd h2.2.2.1 (h1.2.2.2 b z h2.2.1)
  have us : ∀ a b, fs n w a → fs n w b → a = b := fun a b h1 h2 => by
    rcases Nat.lt_trichotomy a b with z | z | z
    · have := h2.2.2.2 a z h1.2.1
      rw [h1.2.2.1] at this; cases this
    · exact z
    · have := h1.2.2.2 b z h2.2.1
      rw [h2.2.2.1] at this; cases this
  have ref : ∀ {σ1 : st_S} {Q : st_S → Option eg_V → Prop}, fr fp_kC σ σ1 → (∀ σ' b, fr fp_kM σ1 σ' → fb n w b → Q σ' (some (.inl (Int32.ofNat b)))) → (∀ σ' b, fr fp_kM σ1 σ' → fs n w b → (∀ j, j < n → nx n w j = j → rdx n w (Int32.ofNat j) ≠ none) → Q σ' (some (.inl (Int32.ofNat b)))) → (∀ σ', fr fp_kM σ1 σ' → (∀ j, j < n → nx n w j = j → rdx n w (Int32.ofNat j) ≠ none) → (∀ j, j < n → nx n w j = j → sy n w j = false) → Q σ' (some (.inl (-2)))) → pw_E 123 0 σ1 (0, 0) [(0, .inr (26, 0))] [] Q := fun {σ1 Q} f1 K0 K1 K2 => by
    refine w_M_check_0 (s_mcheck2 200 0 σ1 (by omega) (fun j hj => by omega) (fun σ2 f2 h2 => ?_))
    have hM2 : cc_M n w σ2 := (hM.ag (fr_ag f1 rfl)).ag (fr_ag f2 rfl)
    refine s_mcheck31 hV (n + 1) 0 σ2 (by omega) (by omega) rfl hM2 (fun j hj => by omega) (fun j _ hj => h2 j hj) (fun j hj => by omega) (fun σ3 b f3 hb => K0 σ3 b (fr_tr f2 f3) hb) (fun σ3 f3 h3 hg => ?_)
    exact s_mcheck91 hV hg (n + 1) 0 σ3 (by omega) (by omega) rfl (hM2.ag (fr_ag f3 rfl)) h3 (fun j hj => by omega) (fun σ4 b f4 hb => K1 σ4 b (fr_tr f2 (fr_tr f3 f4)) hb hg) (fun σ4 f4 hb => K2 σ4 (fr_tr f2 (fr_tr f3 f4)) hg hb)
  have fin2 : ∀ {b : Nat}, b < 200 → ¬ Int32.ofNat b = -2 := fun {b} hb z => by
    have := n_n0 (a := b) (by omega)
    rw [z] at this
    exact this (by decide)
  refine w_U_check_0 (w_Code_markBeginnings_0 (s_mark hV n 0 σ (by omega) hC r.2.2.2.2.1 (fun j hj => by omega) (fun j hj => by omega) (fun σ1 b f1 hR1 hb => ?_) (fun σ1 f1 hR1 hb1 hg1 => ?_)))
  · refine w_U_check_11 (fun z => absurd z (fin2 (by have := hb.1; omega))) (fun _ => ⟨_, rfl, ?_⟩)
    refine ref f1 (fun σ2 b' f2 hb' => ⟨by rw [ub b b' hb hb'], keep f1 hR1 f2⟩) (fun σ2 b' f2 _ hg => absurd hb.2.2.1 (hg b hb.1 hb.2.1)) (fun σ2 f2 hg _ => absurd hb.2.2.1 (hg b hb.1 hb.2.1))
  · refine w_U_check_11 (fun _ => ?_) (fun z => absurd rfl z)
    refine s_check22 hV hg1 n 0 σ1 (by omega) (hC.ag (fr_ag f1 rfl)) hR1 hb1 (fun j hj => by omega) (fun σ2 b f2 hR2 hb => ⟨_, rfl, ?_⟩) (fun σ2 f2 hR2 hb => ⟨_, rfl, ?_⟩)
    · refine ref (fr_tr f1 f2) (fun σ3 b' f3 hb' => absurd hb'.2.2.1 (hg1 b' hb'.1 hb'.2.1)) (fun σ3 b' f3 hb' _ => ⟨by rw [us b b' hb hb'], keep (fr_tr f1 f2) hR2 f3⟩) (fun σ3 f3 _ hs => ?_)
      have := hs b hb.1 hb.2.1
      rw [hb.2.2.1] at this; cases this
    · refine ref (fr_tr f1 f2) (fun σ3 b' f3 hb' => absurd hb'.2.2.1 (hg1 b' hb'.1 hb'.2.1)) (fun σ3 b' f3 hb' _ => ?_) (fun σ3 f3 _ hs => ⟨rfl, keep (fr_tr f1 f2) hR2 f3⟩)
      have := hb b' hb'.1 hb'.2.1
      rw [hb'.2.2.1] at this; cases this
