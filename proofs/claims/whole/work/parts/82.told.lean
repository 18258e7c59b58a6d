/-! TELLING: the text of what is read -/
section
def rgv (n : Nat) (w : Nat → Nat) (a e k : Nat) : Nat := if k = 0 then w a / 256 % 16 else if k = 1 then rb e (w a) (rn n w a) else rc e (rn n w a)
def csx (w : Nat → Nat) (a : Nat) : Nat → List Nat
  | 0 => []
  | k + 1 => csx w a k ++ (32 :: dec (sg (w (a + 3 + k)) 65536))
def pcx (n : Nat) (w : Nat → Nat) (a e k : Nat) : List Nat := if k < kr e then [32, 118] ++ dN (rgv n w a e k) else if kn e = true ∧ k = kr e then 32 :: dec (rf w e (w a) (rn n w a) a) else if e = 15 then csx w a (rn n w a) else 32 :: dec (Int32.ofNat a + rf w e (w a) (rn n w a) a)
def tkx (n : Nat) (w : Nat → Nat) (a e : Nat) : Nat → List Nat
  | 0 => tn (kd_word e)
  | k + 1 => tkx n w a e k ++ pcx n w a e k
variable {n a e : Nat} {w : Nat → Nat}
theorem rgv_lt (k : Nat) : rgv n w a e k < 16 := by
  unfold rgv rb rc
  split
  · omega
  · split
    · split <;> omega
    · split <;> omega
theorem sg_b {v : Nat} (hv : v < 65536) : -99999 ≤ (sg v 65536).toInt ∧ (sg v 65536).toInt ≤ 99999 := by
  rw [sg_toInt hv (by omega)]
  split <;> omega
theorem go_b (hV : cc_V n w) (ok : rd_ok n w a e) : -99999 ≤ (Int32.ofNat a + rf w e (w a) (rn n w a) a).toInt ∧ (Int32.ofNat a + rf w e (w a) (rn n w a) a).toInt ≤ 99999 := by
  have h := rf_b hV ok
  have ha := ok.1
  have hn := hV.1
  rw [z_add (by rw [n_toInt (by omega)]; omega) (by rw [n_toInt (by omega)]; omega), n_toInt (by omega)]
  omega
theorem csx_len (hV : cc_V n w) (ok : rd_ok n w a e) (h15 : e = 15) : ∀ k, k ≤ rn n w a → (csx w a k).length ≤ 7 * k
  | 0, _ => Nat.le_refl _
  | k + 1, h => by
    have ih := csx_len hV ok h15 k (by omega)
    have hf := ok.2.2.2
    unfold ru at hf
    rw [if_pos h15] at hf
    have b := sg_b (hV.2 (a + 3 + k) (by omega))
    have := (dec_len b.1 b.2).1
    show (csx w a k ++ (32 :: dec (sg (w (a + 3 + k)) 65536))).length ≤ 7 * (k + 1)
    rw [List.length_append, List.length_cons]
    omega
theorem pcx_len (hV : cc_V n w) (ok : rd_ok n w a e) (k : Nat) : (k < kc e → (pcx n w a e k).length ≤ 7) ∧ (pcx n w a e k).length ≤ 28 := by
  have hkc : kc e = kr e + (if kn e = true then 1 else 0) := rfl
  have rb' := rf_b hV ok
  have gb' := go_b hV ok
  have d1 := (dec_len (x := rf w e (w a) (rn n w a) a) (by omega) (by omega)).1
  have d2 := (dec_len gb'.1 gb'.2).1
  unfold pcx
  by_cases h1 : k < kr e
  · rw [if_pos h1]
    have : ([32, 118] ++ dN (rgv n w a e k)).length ≤ 7 := by
      rw [List.length_append, dg10_len]
      have := nd_le (rgv n w a e k)
      show 2 + (nd _ + 1) ≤ 7
      omega
    exact ⟨fun _ => this, by omega⟩
  · rw [if_neg h1]
    by_cases h2 : kn e = true ∧ k = kr e
    · rw [if_pos h2, List.length_cons]
      exact ⟨fun _ => by omega, by omega⟩
    · rw [if_neg h2]
      have h3 : ¬ k < kc e := fun z => by
        by_cases hk : kn e = true
        · rw [if_pos hk] at hkc
          exact h2 ⟨hk, by omega⟩
        · rw [if_neg hk] at hkc; omega
      refine ⟨fun z => absurd z h3, ?_⟩
      by_cases h15 : e = 15
      · rw [if_pos h15]
        have := csx_len hV ok h15 (rn n w a) (Nat.le_refl _)
        have := (ok.2.2.1 h15).2
        omega
      · rw [if_neg h15, List.length_cons]; omega
theorem tkx_len (hV : cc_V n w) (ok : rd_ok n w a e) : ∀ k, k ≤ kc e → (tkx n w a e k).length ≤ 5 + 7 * k
  | 0, _ => by
    have h := tn_ok _ (t_wd e (rk_lt ok.2.1))
    have := t_len _ (t_wd e (rk_lt ok.2.1))
    show (tn (kd_word e)).length ≤ _
    omega
  | k + 1, h => by
    have ih := tkx_len hV ok k (by omega)
    have := (pcx_len hV ok k).1 (by omega)
    show (tkx n w a e k ++ pcx n w a e k).length ≤ _
    rw [List.length_append]; omega
/-- rd_C, but for the builder -/
theorem rd_C.fb {i : Nat} {σ σ' : st_S} (h : rd_C i n w a e σ) (f : fbb σ σ') : rd_C i n w a e σ' := by
  obtain ⟨c0, c1, c2, c4, cr, cc⟩ := h
  have q := fun k i j (h1 : k ≠ 24) (h2 : k ≠ 25) => f.1 k i j h1 h2
  exact ⟨(q 19 i 0 (by decide) (by decide)).trans c0, (q 19 i 1 (by decide) (by decide)).trans c1, (q 19 i 2 (by decide) (by decide)).trans c2, (q 19 i 4 (by decide) (by decide)).trans c4, fun z => ⟨(q 20 i 0 (by decide) (by decide)).trans (cr z).1, (q 20 i 1 (by decide) (by decide)).trans (cr z).2.1, (q 20 i 2 (by decide) (by decide)).trans (cr z).2.2⟩, fun z => ⟨(q 19 i 5 (by decide) (by decide)).trans (cc z).1, fun k hk => (q 21 i k (by decide) (by decide)).trans ((cc z).2 k hk)⟩⟩
theorem u_b {x y p q : Nat} (h1 : x ≤ p) (h2 : y ≤ q) : (Nat.ble x p && Nat.ble y q) = true := by rw [Nat.ble_eq_true_of_le h1, Nat.ble_eq_true_of_le h2]; rfl
theorem s_tcases (hV : cc_V n w) (ok : rd_ok n w a e) (h15 : e = 15) {t : List Nat} (ht : t.length + 28 ≤ 60) {Q : st_S → Option eg_V → Prop} : ∀ d k (σ : st_S), k + d = rn n w a → rd_C 0 n w a e σ → BU (t ++ csx w a k) σ → (∀ σ', fbb σ σ' → BU (t ++ csx w a (rn n w a)) σ' → Q σ' none) →
    pw_E 77 2 σ (2 * k, 400 * k) [(0, .inr (19, 0)), (1, .inr (24, 0)), (2, .inl (Int32.ofNat k))] [] Q := by
  have hf := ok.2.2.2
  unfold ru at hf
  rw [if_pos h15] at hf
  have hN := (ok.2.2.1 h15).2
  have hn := hV.1
  intro d
  induction d with
  | zero =>
    intro k σ hd hc hB K
    have : k = rn n w a := by omega
    subst this
    have hle : σ.1 19 0 5 ≤ Int32.ofNat (rn n w a) := by rw [(hc.2.2.2.2.2 h15).1]; exact Int32.le_refl _
    exact w_Reading_tellCases_2 (fun _ => K σ fbb_rf hB) (fun h => absurd hle h) (fun h => absurd hle h)
  | succ d ih =>
    intro k σ hd hc hB K
    have hle : ¬ σ.1 19 0 5 ≤ Int32.ofNat k := by rw [(hc.2.2.2.2.2 h15).1, n_le (by omega) (by omega)]; omega
    have hcl := csx_len hV ok h15 k (by omega)
    have hlen : (t ++ csx w a k).length ≤ t.length + 7 * k := by rw [List.length_append]; omega
    have b := sg_b (hV.2 (a + 3 + k) (by omega))
    refine w_Reading_tellCases_2 (fun h => absurd h hle) (fun _ => u_b (by omega) (by omega)) (fun _ => ?_)
    refine s_appc (c := 32) hB (by omega) (by omega) (fun σ1 f1 B1 => w_Reading_tellCases_16 (n_inb (by omega) (by omega)) (u_b (by omega) (by omega)) ?_)
    have hc1 := hc.fb f1
    rw [n_cl (by omega), (hc1.2.2.2.2.2 h15).2 k (by omega)]
    refine s_appi B1 b.1 b.2 (by rw [List.length_append]; show _ + 1 + 6 ≤ 60; omega) (fun σ2 f2 B2 => w_Reading_tellCases_25 ?_)
    rw [show Int32.ofNat k + 1 = Int32.ofNat (k + 1) from n_add k 1, show 2 * k + 1 + 1 = 2 * (k + 1) by omega, show 400 * k + 200 + 200 = 400 * (k + 1) by omega]
    refine ih (k + 1) σ2 (by omega) (hc1.fb f2) ?_ (fun σ' f => K σ' (fbb_tr f1 (fbb_tr f2 f)))
    have e1 : t ++ csx w a (k + 1) = t ++ csx w a k ++ [32] ++ dec (sg (w (a + 3 + k)) 65536) := by
      show t ++ (csx w a k ++ (32 :: dec (sg (w (a + 3 + k)) 65536))) = _
      rw [List.append_assoc (t ++ csx w a k), List.append_assoc t]; rfl
    rw [e1]; exact B2
theorem s_targ {σ : st_S} {k : Nat} {t : List Nat} (hV : cc_V n w) (ok : rd_ok n w a e) (hc : rd_C 0 n w a e σ) (hk : k < kc e + kl e) (ht : t.length + 28 ≤ 60) (hB : BU t σ) {Q : st_S → Option eg_V → Prop} (K : ∀ σ', fbb σ σ' → BU (t ++ pcx n w a e k) σ' → Q σ' none) :
    pw_E 76 0 σ (0, 0) [(0, .inr (19, 0)), (1, .inl (Int32.ofNat (ar e k))), (2, .inr (24, 0))] [] Q := by
  have he := rk_lt ok.2.1
  obtain ⟨a1, a2, a3, a4, a5⟩ := ar_ok e he
  obtain ⟨c0, c1, c2, c4, cr, cc⟩ := hc
  have hc' : rd_C 0 n w a e σ := ⟨c0, c1, c2, c4, cr, cc⟩
  have hk9 : (σ.1 19 0 0).toNatClampNeg = e := by rw [c0]; exact n_cl (by omega)
  have hkc : kc e = kr e + (if kn e = true then 1 else 0) := rfl
  have rb' := rf_b hV ok
  have gb' := go_b hV ok
  have vN : (Int32.ofNat (ar e k) = 110) = (ar e k = 110) := n_inj (b := 110) (by unfold ar; split; omega; split <;> omega) (by omega)
  have vL : (Int32.ofNat (ar e k) = 76) = (ar e k = 76) := n_inj (b := 76) (by unfold ar; split; omega; split <;> omega) (by omega)
  unfold pcx at K
  by_cases h1 : k < kr e
  · have har : ar e k = 65 + k := by unfold ar; rw [if_pos h1]
    rw [if_pos h1] at K
    have h15 : e ≠ 15 := fun z => by
      have : kr e = 0 := by rw [z]; rfl
      omega
    refine w_Reading_tellArgument_0 (fun z => ?_) (fun _ z => ?_) (fun _ z => ?_) (fun _ _ => ?_)
    · rw [vN] at z; omega
    · rw [vL] at z; omega
    · rw [vL] at z; omega
    · refine s_apps (i := 0) hB (by omega) (by omega) (fun σ1 f1 B1 => ?_)
      have hx : Int32.ofNat (ar e k) - 65 = Int32.ofNat k := by rw [har, show (65 : Int32) = Int32.ofNat 65 from rfl, n_sub (by omega), Nat.add_sub_cancel_left]
      have hcr : σ1.1 20 0 k = Int32.ofNat (rgv n w a e k) := by
        refine (f1.1 20 0 k (by decide) (by decide)).trans ?_
        have cr := cr h15
        have : k = 0 ∨ k = 1 ∨ k = 2 := by omega
        rcases this with z | z | z
        · subst z; exact cr.1
        · subst z; exact cr.2.1
        · subst z; exact cr.2.2
      have hr := rgv_lt (n := n) (w := w) (a := a) (e := e) k
      refine w_Reading_tellArgument_35 (by rw [hx]; exact n_inb (by omega) (by omega)) rfl ?_
      rw [hx, n_cl (by omega), hcr]
      refine s_appi B1 (by rw [n_toInt (by omega)]; omega) (by rw [n_toInt (by omega)]; omega) (by rw [List.length_append]; show t.length + 2 + 6 ≤ 60; omega) (fun σ2 f2 B2 => w_Reading_tellArgument_47 (K σ2 (fbb_tr f1 f2) ?_))
      rw [dec_pos (by omega), List.append_assoc] at B2
      exact B2
  · rw [if_neg h1] at K
    by_cases h2 : kn e = true ∧ k = kr e
    · rw [if_pos h2] at K
      have har : ar e k = 110 := by unfold ar; rw [if_neg h1, if_pos h2]
      refine w_Reading_tellArgument_0 (fun _ => ?_) (fun z => ?_) (fun z => ?_) (fun z => ?_)
      · refine s_appc (c := 32) hB (by omega) (by omega) (fun σ1 f1 B1 => w_Reading_tellArgument_12 rfl ?_)
        rw [f1.1 19 0 4 (by decide) (by decide), c4]
        refine s_appi B1 (by omega) (by omega) (by rw [List.length_append]; show t.length + 1 + 6 ≤ 60; omega) (fun σ2 f2 B2 => w_Reading_tellArgument_19 (K σ2 (fbb_tr f1 f2) ?_))
        rw [List.append_assoc] at B2
        exact B2
      · rw [vN] at z; exact absurd har z
      · rw [vN] at z; exact absurd har z
      · rw [vN] at z; exact absurd har z
    · rw [if_neg h2] at K
      have har : ar e k = 76 := by unfold ar; rw [if_neg h1, if_neg h2]
      refine w_Reading_tellArgument_0 (fun z => ?_) (fun _ _ z => ?_) (fun _ _ z => ?_) (fun _ z => ?_)
      · rw [vN] at z; omega
      · rw [hk9] at z
        rw [if_pos z] at K
        refine w_Reading_tellCases_0 (s_tcases hV ok z ht (rn n w a) 0 σ (by omega) hc' ?_ (fun σ1 f1 B1 => w_Reading_tellArgument_66 (K σ1 f1 B1)))
        rw [show csx w a 0 = [] from rfl, List.append_nil]; exact hB
      · rw [hk9] at z
        rw [if_neg z] at K
        refine s_appc (c := 32) hB (by omega) (by omega) (fun σ1 f1 B1 => w_Reading_tellArgument_75 rfl rfl ?_)
        rw [f1.1 19 0 1 (by decide) (by decide), f1.1 19 0 4 (by decide) (by decide), c1, c4]
        refine s_appi B1 gb'.1 gb'.2 (by rw [List.length_append]; show t.length + 1 + 6 ≤ 60; omega) (fun σ2 f2 B2 => w_Reading_tellArgument_82 (K σ2 (fbb_tr f1 f2) ?_))
        rw [List.append_assoc] at B2
        exact B2
      · rw [vL] at z; exact absurd har z
theorem s_tell14 (hV : cc_V n w) (ok : rd_ok n w a e) {Q : st_S → Option eg_V → Prop} : ∀ d k (σ : st_S), k + d = kc e + kl e → rd_C 0 n w a e σ → BU (tkx n w a e k) σ → (∀ σ', fbb σ σ' → BU (tkx n w a e (kc e + kl e)) σ' → Q σ' none) →
    pw_E 75 14 σ (1 + 8 * k, 200 + 1600 * k) [(0, .inr (19, 0)), (1, .inr (24, 0)), (2, .inl (Int32.ofNat k))] [] Q := by
  have he := rk_lt ok.2.1
  obtain ⟨a1, a2, a3, a4, a5⟩ := ar_ok e he
  intro d
  induction d with
  | zero =>
    intro k σ hd hc hB K
    have hk : k = kc e + kl e := by omega
    have hk9 : (σ.1 19 0 0).toNatClampNeg = e := by rw [hc.1]; exact n_cl (by omega)
    refine w_Reading_tell_14 (u_b (by omega) (by omega)) ?_
    rw [hk9]
    refine s_len (w_Reading_tell_25 (fun _ => K σ fbb_rf (by rw [← hk]; exact hB)) (fun z => absurd ?_ z) (fun z => absurd ?_ z))
    all_goals (rw [a1, n_le (by omega) (by omega)]; omega)
  | succ d ih =>
    intro k σ hd hc hB K
    have hk9 : (σ.1 19 0 0).toNatClampNeg = e := by rw [hc.1]; exact n_cl (by omega)
    have hle : ¬ Int32.ofNat (kd_txt (kd_arguments e)).length ≤ Int32.ofNat k := by rw [a1, n_le (by omega) (by omega)]; omega
    refine w_Reading_tell_14 (u_b (by omega) (by omega)) ?_
    rw [hk9]
    refine s_len (w_Reading_tell_25 (fun z => absurd z hle) (fun _ => u_b (by omega) (by omega)) (fun _ => ?_))
    rw [hk9]
    have hkk : k ≤ kc e := by omega
    have hlen := tkx_len hV ok k hkk
    refine s_argument he (by omega) (w_Reading_tell_37 (u_b (by omega) (by omega)) ?_)
    refine s_targ hV ok hc (by omega) (by omega) hB (fun σ1 f1 B1 => w_Reading_tell_41 ?_)
    rw [show Int32.ofNat k + 1 = Int32.ofNat (k + 1) from n_add k 1, show 1 + 8 * k + 8 = 1 + 8 * (k + 1) by omega, show 200 + 1600 * k + 1600 = 200 + 1600 * (k + 1) by omega]
    exact ih (k + 1) σ1 (by omega) (hc.fb f1) B1 (fun σ' f => K σ' (fbb_tr f1 f))
theorem s_tell {σ : st_S} (hV : cc_V n w) (ok : rd_ok n w a e) (hc : rd_C 0 n w a e σ) (hB : BU [] σ) {Q : st_S → Option eg_V → Prop} (K : ∀ σ', fbb σ σ' → BU (tkx n w a e (kc e + kl e)) σ' → Q σ' none) : pw_E 75 0 σ (0, 0) [(0, .inr (19, 0)), (1, .inr (24, 0))] [] Q := by
  have he := rk_lt ok.2.1
  have hk9 : (σ.1 19 0 0).toNatClampNeg = e := by rw [hc.1]; exact n_cl (by omega)
  refine w_Reading_tell_0 ?_
  rw [hk9]
  refine s_apps hB (t_wd e he) (by show 0 + 5 ≤ 60; omega) (fun σ1 f1 B1 => w_Reading_tell_11 ?_)
  exact s_tell14 hV ok (kc e + kl e) 0 σ1 (by omega) (hc.fb f1) B1 (fun σ' f => K σ' (fbb_tr f1 f))
/-! the reference tells -/
def dg27 (v : Nat) : Nat → List Nat
  | 0 => [96 + v % 27]
  | k + 1 => (96 + v / 27 ^ (k + 1) % 27) :: dg27 v k
/-- its code; of the long forms, that of the short ones -/
def cod (e : Nat) : Nat := b27 (kz e) 0
theorem cod_ok : ∀ e, e < 16 → 1 ≤ (kz e).length ∧ dg27 (cod e) ((kz e).length - 1) = tn (kd_word e) ∧ (kz e).length ≤ 5 ∧ cod e < 27 ^ (kz e).length ∧ cod e < 20000000 ∧ ∀ k, k < (kz e).length - 1 → 27 ^ (k + 1) ≤ cod e := by decide +kernel
theorem s_m78 {v : Nat} (hv : v < 20000000) {x1 x2 : Int32} {Q : st_S → Option eg_V → Prop} : ∀ k (t : List Nat) (σ : st_S), k ≤ 4 → t.length + k + 1 ≤ 70 → TU t σ → (∀ σ', fr fp_T σ σ' → TU (t ++ dg27 v k) σ' → pw_E 126 0 σ' (0, 0) [(0, .inr (26, 0)), (1, .inl (σ'.1 26 0 30))] [] (fun σ1 r1 => pw_E 124 116 σ1 (0, 0) [(0, .inr (26, 0)), (1, .inl x1), (2, .inl x2)] (r1.toList ++ []) Q)) →
    pw_E 124 78 σ (0, 0) [(0, .inr (26, 0)), (1, .inl x1), (2, .inl x2), (4, .inl (Int32.ofNat v)), (5, .inl (Int32.ofNat (27 ^ k)))] [] Q := by
  have pw : ∀ k, k ≤ 4 → 1 ≤ 27 ^ k ∧ 27 ^ k ≤ 531441 := fun k hk => by
    have : k = 0 ∨ k = 1 ∨ k = 2 ∨ k = 3 ∨ k = 4 := by omega
    rcases this with rfl | rfl | rfl | rfl | rfl <;> decide
  intro k
  induction k with
  | zero =>
    intro t σ _ hl hT K
    have hn : ¬ Int32.ofNat (27 ^ 0) ≤ 0 := by decide
    refine w_M_told_78 (fun z => absurd z hn) (fun _ => by decide) (fun _ => ?_)
    have hq : Int32.ofNat v / Int32.ofNat (27 ^ 0) = Int32.ofNat v := by rw [n_div (by omega) (by decide), Nat.pow_zero, Nat.div_one]
    rw [hq, show Int32.ofNat v - Int32.ofNat v / 27 * 27 = Int32.ofNat (v % 27) from n_rem (b := 27) (by omega) (by omega), show (96 : Int32) = Int32.ofNat 96 from rfl, n_add]
    refine s_letter hT (by omega) (fun σ1 f1 T1 => w_M_told_98 ?_)
    rw [show Int32.ofNat (27 ^ 0) / 27 = 0 from by decide]
    exact w_M_told_78 (fun _ => K σ1 f1 T1) (fun z => absurd (by decide) z) (fun z => absurd (by decide) z)
  | succ k ih =>
    intro t σ hk hl hT K
    obtain ⟨p1, p2⟩ := pw (k + 1) hk
    have hn : ¬ Int32.ofNat (27 ^ (k + 1)) ≤ 0 := by rw [show (0 : Int32) = Int32.ofNat 0 from rfl, n_le (by omega) (by omega)]; omega
    have hn0 : ¬ Int32.ofNat (27 ^ (k + 1)) = 0 := by rw [show (0 : Int32) = Int32.ofNat 0 from rfl, n_inj (by omega) (by omega)]; omega
    refine w_M_told_78 (fun z => absurd z hn) (fun _ => by rw [decide_eq_false hn0]; rfl) (fun _ => ?_)
    have hq : v / 27 ^ (k + 1) ≤ v := Nat.div_le_self _ _
    rw [n_div (by omega) (by omega), show Int32.ofNat (v / 27 ^ (k + 1)) - Int32.ofNat (v / 27 ^ (k + 1)) / 27 * 27 = Int32.ofNat (v / 27 ^ (k + 1) % 27) from n_rem (b := 27) (by omega) (by omega), show (96 : Int32) = Int32.ofNat 96 from rfl, n_add]
    refine s_letter hT (by omega) (fun σ1 f1 T1 => w_M_told_98 ?_)
    rw [show Int32.ofNat (27 ^ (k + 1)) / 27 = Int32.ofNat (27 ^ k) from by rw [show (27 : Int32) = Int32.ofNat 27 from rfl, n_div (by omega) (by omega), Nat.pow_succ, Nat.mul_div_cancel _ (by omega)]]
    refine ih (t ++ [96 + v / 27 ^ (k + 1) % 27]) σ1 (by omega) (by rw [List.length_append]; show t.length + 1 + k + 1 ≤ 70; omega) T1 (fun σ' f T => K σ' (fr_tr f1 f) ?_)
    rw [List.append_assoc] at T; exact T
theorem s_m58 (he : e < 16) {x1 x2 : Int32} {σ : st_S} (hT : TU [] σ) {Q : st_S → Option eg_V → Prop} (K : ∀ σ', fr fp_T σ σ' → TU (tn (kd_word e)) σ' → pw_E 126 0 σ' (0, 0) [(0, .inr (26, 0)), (1, .inl (σ'.1 26 0 30))] [] (fun σ1 r1 => pw_E 124 116 σ1 (0, 0) [(0, .inr (26, 0)), (1, .inl x1), (2, .inl x2)] (r1.toList ++ []) Q)) : ∀ f k, k + f = (kz e).length - 1 →
    pw_E 124 58 σ (0, 0) [(0, .inr (26, 0)), (1, .inl x1), (2, .inl x2), (4, .inl (Int32.ofNat (cod e))), (5, .inl (Int32.ofNat (27 ^ k)))] [] Q := by
  obtain ⟨q1, q2, q3, q4, q5, q6⟩ := cod_ok e he
  have pw : ∀ k, k ≤ 4 → 1 ≤ 27 ^ k ∧ 27 ^ k ≤ 531441 := fun k hk => by
    have : k = 0 ∨ k = 1 ∨ k = 2 ∨ k = 3 ∨ k = 4 := by omega
    rcases this with rfl | rfl | rfl | rfl | rfl <;> decide
  have nz : ∀ k, k ≤ 4 → (!(decide (Int32.ofNat (27 ^ k) = 0))) = true := fun k hk => by
    obtain ⟨p1, p2⟩ := pw k hk
    rw [decide_eq_false (by rw [show (0 : Int32) = Int32.ofNat 0 from rfl, n_inj (by omega) (by omega)]; omega)]; rfl
  have lt27 : ∀ k, k ≤ 4 → ((Int32.ofNat (cod e) / Int32.ofNat (27 ^ k) < (27 : Int32)) = (cod e < 27 ^ (k + 1))) := fun k hk => by
    obtain ⟨p1, p2⟩ := pw k hk
    have hq : cod e / 27 ^ k ≤ cod e := Nat.div_le_self _ _
    rw [n_div (by omega) (by omega), show (27 : Int32) = Int32.ofNat 27 from rfl, n_lt (by omega) (by omega), Nat.div_lt_iff_lt_mul (by omega), Nat.pow_succ, Nat.mul_comm]
  intro f
  induction f with
  | zero =>
    intro k hk
    have hk : k = (kz e).length - 1 := by omega
    have hlt : cod e < 27 ^ (k + 1) := by rw [hk, show (kz e).length - 1 + 1 = (kz e).length by omega]; exact q4
    refine w_M_told_58 (nz k (by omega)) (fun _ => ?_) (fun z => absurd (by rw [lt27 k (by omega)]; exact hlt) z)
    refine s_m78 q5 k [] σ (by omega) (by show 0 + k + 1 ≤ 70; omega) hT (fun σ' f T => K σ' f ?_)
    rw [hk, q2] at T; exact T
  | succ f ih =>
    intro k hk
    have h6 := q6 k (by omega)
    refine w_M_told_58 (nz k (by omega)) (fun z => ?_) (fun z => ?_)
    · rw [lt27 k (by omega)] at z; omega
    · rw [show Int32.ofNat (27 ^ k) * 27 = Int32.ofNat (27 ^ (k + 1)) from by rw [show (27 : Int32) = Int32.ofNat 27 from rfl, n_mul, Nat.pow_succ]]
      exact ih (k + 1) (by omega)
end
