/-! THE CALL told -/
section
variable {n a e : Nat} {w : Nat → Nat}
theorem rd_M.fT {σ σ' : st_S} (h : rd_M n w a e σ) (f : fr fp_T σ σ') : rd_M n w a e σ' := by
  obtain ⟨m0, m1, mA, mB, mC, mN, mD, mM⟩ := h
  exact ⟨(f.2 26 0 28 rfl).trans m0, (f.2 26 0 29 rfl).trans m1, (f.2 26 0 30 rfl).trans mA, (f.2 26 0 31 rfl).trans mB, (f.2 26 0 32 rfl).trans mC, (f.2 26 0 33 rfl).trans mN, (f.2 26 0 34 rfl).trans mD, (f.2 26 0 35 rfl).trans mM⟩
theorem s_mtreg {t : List Nat} {σ : st_S} {k : Nat} {x : Int32} (hT : TU t σ) (ht : t.length ≤ 40) (hx : x = if k < kr e then Int32.ofNat (rgv n w a e k) else -1) {Q : st_S → Option eg_V → Prop} (K : ∀ σ', fr fp_T σ σ' → TU (if k < kr e then t ++ ([32, 118] ++ dN (rgv n w a e k)) else t) σ' → Q σ' none) : pw_E 126 0 σ (0, 0) [(0, .inr (26, 0)), (1, .inl x)] [] Q := by
  have hr := rgv_lt (n := n) (w := w) (a := a) (e := e) k
  by_cases h : k < kr e
  · rw [if_pos h] at hx K
    subst hx
    refine w_M_tellRegister_0 (fun _ => ?_) (fun z => absurd (n_0le (by omega)) z)
    refine s_letter (c := 32) hT (by omega) (fun σ1 f1 T1 => w_M_tellRegister_11 (s_letter (c := 118) T1 (by rw [List.length_append]; show t.length + 1 < 80; omega) (fun σ2 f2 T2 => w_M_tellRegister_17 ?_)))
    refine s_mtell T2 (by rw [n_toInt (by omega)]; omega) (by rw [n_toInt (by omega)]; omega) (by rw [List.length_append, List.length_append]; show t.length + 1 + 1 + 6 ≤ 70; omega) (fun σ3 f3 T3 => w_M_tellRegister_22 (K σ3 (fr_tr f1 (fr_tr f2 f3)) ?_))
    rw [dec_pos (by omega), List.append_assoc, List.append_assoc] at T3
    exact T3
  · rw [if_neg h] at hx K
    subst hx
    exact w_M_tellRegister_0 (fun z => absurd z (by decide)) (fun _ => K σ fr_rf hT)
theorem s_mtnum {t : List Nat} {σ : st_S} {x : Int32} (hT : TU t σ) (ht : t.length ≤ 60) (h1 : -99999 ≤ x.toInt) (h2 : x.toInt ≤ 99999) {Q : st_S → Option eg_V → Prop} (K : ∀ σ', fr fp_T σ σ' → TU (t ++ (32 :: dec x)) σ' → Q σ' none) : pw_E 128 0 σ (0, 0) [(0, .inr (26, 0)), (1, .inl x)] [] Q := by
  have hne : ¬ x = 99999999 := fun z => by
    rw [z] at h2
    exact absurd h2 (by decide)
  refine w_M_tellNumber_0 (fun z => absurd z hne) (fun _ => s_letter (c := 32) hT (by omega) (fun σ1 f1 T1 => w_M_tellNumber_13 ?_))
  refine s_mtell T1 h1 h2 (by rw [List.length_append]; show t.length + 1 + 6 ≤ 70; omega) (fun σ2 f2 T2 => w_M_tellNumber_18 (K σ2 (fr_tr f1 f2) ?_))
  rw [List.append_assoc] at T2
  exact T2
/-- what told answers -/
def tan (T : List Nat) (y : Int32) : Int32 := if y = -1 then Int32.ofNat T.length else if ¬ y < 0 ∧ y.toNatClampNeg < T.length then Int32.ofNat (T.getD y.toNatClampNeg 0) else -2
theorem s_m162 (hV : cc_V n w) (ok : rd_ok n w a e) {t : List Nat} (ht : t.length + 28 ≤ 60) {y : Int32} {Q : st_S → Option eg_V → Prop} : ∀ d k (σ : st_S), k + d = (if e = 15 then rn n w a else 0) → rd_M n w a e σ → cc_M n w σ → TU (t ++ csx w a k) σ → (∀ σ', fr fp_T σ σ' → Q σ' (some (.inl (tan (t ++ csx w a (if e = 15 then rn n w a else 0)) y)))) →
    pw_E 124 162 σ (0, 0) [(0, .inr (26, 0)), (1, .inl (Int32.ofNat a)), (2, .inl y), (6, .inl (Int32.ofNat k))] [] Q := by
  have hn := hV.1
  intro d
  induction d with
  | zero =>
    intro k σ hd hm hM hT K
    have hk : k = (if e = 15 then rn n w a else 0) := by omega
    have hlen : (t ++ csx w a k).length ≤ 60 := by
      rw [List.length_append]
      by_cases h15 : e = 15
      · rw [if_pos h15] at hk
        have := csx_len hV ok h15 k (by omega)
        have := (ok.2.2.1 h15).2
        omega
      · rw [if_neg h15] at hk
        subst hk
        show t.length + 0 ≤ 60
        omega
    have hle : σ.1 26 0 35 ≤ Int32.ofNat k := by
      rw [hm.2.2.2.2.2.2.2]
      by_cases h15 : e = 15
      · rw [if_pos h15] at hk ⊢
        rw [hk]; exact Int32.le_refl _
      · rw [if_neg h15] at hk ⊢
        rw [hk]; decide
    rw [← hk] at K
    have K := K σ fr_rf
    unfold tan at K
    refine w_M_told_162 (fun _ z => ?_) (fun _ z z' => ?_) (fun _ z z' z'' => ?_) (fun _ z z' z'' => ?_) (fun _ z z' z'' => ?_) (fun z => absurd hle z)
    · rw [if_pos z] at K
      rw [hT.1]; exact K
    · rw [if_neg z, if_neg (fun q => q.1 z')] at K
      exact K
    · rw [if_neg z] at K
      obtain ⟨j, hj, rfl⟩ := n_of' z'
      rw [if_neg (fun q => ?_)] at K
      · exact K
      · have q := q.2
        rw [n_cl hj] at q
        rw [hT.1, show (1 : Int32) = Int32.ofNat 1 from rfl, n_sub (by omega), n_lt (by omega) hj] at z''
        omega
    · obtain ⟨j, hj, rfl⟩ := n_of' z'
      rw [hT.1] at z''
      rcases Nat.eq_zero_or_pos (t ++ csx w a k).length with h0 | h0
      · rw [h0] at z''
        refine absurd ?_ z''
        rw [z_lt, n_toInt hj]
        exact Int.lt_of_lt_of_le (by decide : (Int32.ofNat 0 - 1).toInt < 0) (Int.natCast_nonneg j)
      · rw [show (1 : Int32) = Int32.ofNat 1 from rfl, n_sub (by omega), n_lt (by omega) hj] at z''
        exact n_inb (by omega) (by omega)
    · rw [if_neg z] at K
      obtain ⟨j, hj, rfl⟩ := n_of' z'
      rw [hT.1] at z''
      rcases Nat.eq_zero_or_pos (t ++ csx w a k).length with h0 | h0
      · rw [h0] at z''
        refine absurd ?_ z''
        rw [z_lt, n_toInt hj]
        exact Int.lt_of_lt_of_le (by decide : (Int32.ofNat 0 - 1).toInt < 0) (Int.natCast_nonneg j)
      · rw [show (1 : Int32) = Int32.ofNat 1 from rfl, n_sub (by omega), n_lt (by omega) hj] at z''
        rw [n_cl hj] at K ⊢
        rw [if_pos ⟨z', by omega⟩] at K
        rw [hT.2 j (by omega)]; exact K
  | succ d ih =>
    intro k σ hd hm hM hT K
    have h15 : e = 15 := Classical.byContradiction fun z => by
      rw [if_neg z] at hd; omega
    rw [if_pos h15] at hd
    have hf := ok.2.2.2
    unfold ru at hf
    rw [if_pos h15] at hf
    have hN := (ok.2.2.1 h15).2
    have hle : ¬ σ.1 26 0 35 ≤ Int32.ofNat k := by
      rw [hm.2.2.2.2.2.2.2, if_pos h15, n_le (by omega) (by omega)]; omega
    have hcl := csx_len hV ok h15 k (by omega)
    have b := sg_b (hV.2 (a + 3 + k) (by omega))
    refine w_M_told_162 (fun z => absurd z hle) (fun z => absurd z hle) (fun z => absurd z hle) (fun z => absurd z hle) (fun z => absurd z hle) (fun _ => ?_)
    refine s_caseAt hV hM (by omega) (w_M_told_178 (s_mtnum hT (by rw [List.length_append]; omega) b.1 b.2 (fun σ1 f1 T1 => w_M_told_186 ?_)))
    rw [show Int32.ofNat k + 1 = Int32.ofNat (k + 1) from n_add k 1]
    refine ih (k + 1) σ1 (by rw [if_pos h15]; omega) (hm.fT f1) (hM.ag (fr_ag f1 rfl)) ?_ (fun σ' f => K σ' (fr_tr f1 f))
    rw [List.append_assoc] at T1
    exact T1
theorem s_mtold {σ : st_S} {y : Int32} (hV : cc_V n w) (ok : rd_ok n w a e) (hm : rd_M n w a e σ) (hM : cc_M n w σ) {Q : st_S → Option eg_V → Prop} (K : ∀ σ', fr fp_T σ σ' → Q σ' (some (.inl (tan (tkx n w a e (kc e + kl e)) y)))) :
    pw_E 124 5 σ (0, 0) [(0, .inr (26, 0)), (1, .inl (Int32.ofNat a)), (2, .inl y)] [.inl 1] Q := by
  have he := rk_lt ok.2.1
  obtain ⟨-, a2, a3, a4, -⟩ := ar_ok e he
  have hkc : kc e = kr e + (if kn e = true then 1 else 0) := rfl
  have rb' := rf_b hV ok
  have gb' := go_b hV ok
  have tl := fun k hk => tkx_len hV ok (n := n) (w := w) (a := a) (e := e) k hk
  have big : ¬ rf w e (w a) (rn n w a) a = 99999999 := fun z => by
    rw [z] at rb'
    exact absurd rb'.2 (by decide)
  have t1 : ∀ k, k < kr e → tkx n w a e (k + 1) = tkx n w a e k ++ ([32, 118] ++ dN (rgv n w a e k)) := fun k hk => by
    show tkx n w a e k ++ pcx n w a e k = _
    unfold pcx; rw [if_pos hk]
  -- behind the registers
  have rest : ∀ σ1, rd_M n w a e σ1 → cc_M n w σ1 → TU (tkx n w a e (kr e)) σ1 → (∀ σ', fr fp_T σ1 σ' → Q σ' (some (.inl (tan (tkx n w a e (kc e + kl e)) y)))) → pw_E 124 132 σ1 (0, 0) [(0, .inr (26, 0)), (1, .inl (Int32.ofNat a)), (2, .inl y)] [] Q := by
    intro σ1 hm1 hM1 T1 K1
    have s140 : ∀ σ2, fr fp_T σ1 σ2 → TU (tkx n w a e (kc e)) σ2 → pw_E 124 140 σ2 (0, 0) [(0, .inr (26, 0)), (1, .inl (Int32.ofNat a)), (2, .inl y)] [] Q := by
      intro σ2 f2 T2
      have hm2 := hm1.fT f2
      have hM2 : cc_M n w σ2 := hM1.ag (fr_ag f2 rfl)
      have hlk := tl (kc e) (Nat.le_refl _)
      have mD := hm2.2.2.2.2.2.2.1
      have pl : kl e = 1 → tkx n w a e (kc e + kl e) = tkx n w a e (kc e) ++ (if e = 15 then csx w a (rn n w a) else 32 :: dec (Int32.ofNat a + rf w e (w a) (rn n w a) a)) := fun h => by
        rw [h]
        show tkx n w a e (kc e) ++ pcx n w a e (kc e) = _
        unfold pcx
        have h1 : ¬ kc e < kr e := by rw [hkc]; omega
        have h2 : ¬ (kn e = true ∧ kc e = kr e) := fun z => by
          rw [if_pos z.1] at hkc; omega
        rw [if_neg h1, if_neg h2]
      have tab := (by decide +kernel : ∀ e, e < 16 → (kd_goes e = 1 ∧ kl e = 1 ∧ e ≠ 15) ∨ (kd_goes e = 0 ∧ kl e = 0 ∧ e ≠ 15) ∨ (kd_goes e = 0 ∧ kl e = 1 ∧ e = 15)) e he
      rcases tab with ⟨g1, g2, g3⟩ | ⟨g1, g2, g3⟩ | ⟨g1, g2, g3⟩
      · rw [if_pos g1] at mD
        refine w_M_told_140 (fun z => absurd (by rw [mD] at z; exact z) big) (fun _ => ?_)
        rw [mD]
        refine s_mtnum T2 (by omega) gb'.1 gb'.2 (fun σ3 f3 T3 => w_M_told_159 ?_)
        have d2 := (dec_len gb'.1 gb'.2).1
        have hl3 : (tkx n w a e (kc e) ++ (32 :: dec (Int32.ofNat a + rf w e (w a) (rn n w a) a))).length + 28 ≤ 61 := by
          rw [List.length_append, List.length_cons]
          have hk2 : kc e ≤ 2 := by
            have := (by decide +kernel : ∀ e, e < 16 → kl e = 1 → kc e ≤ 2) e he g2
            exact this
          omega
        have tt : tkx n w a e (kc e + kl e) = tkx n w a e (kc e) ++ (32 :: dec (Int32.ofNat a + rf w e (w a) (rn n w a) a)) := by rw [pl g2, if_neg g3]
        have hl4 : (tkx n w a e (kc e) ++ (32 :: dec (Int32.ofNat a + rf w e (w a) (rn n w a) a))).length + 28 ≤ 60 := by
          rw [List.length_append, List.length_cons]
          have hk2 : kc e ≤ 2 := (by decide +kernel : ∀ e, e < 16 → kl e = 1 → kc e ≤ 2) e he g2
          omega
        refine s_m162 hV ok hl4 0 0 σ3 (by rw [if_neg g3]) (hm2.fT f3) (hM2.ag (fr_ag f3 rfl)) (by rw [show csx w a 0 = [] from rfl, List.append_nil]; exact T3) (fun σ' f => ?_)
        rw [if_neg g3, show csx w a 0 = [] from rfl, List.append_nil, ← tt]
        exact K1 σ' (fr_tr f2 (fr_tr f3 f))
      · rw [if_neg (by rw [g1]; decide)] at mD
        refine w_M_told_140 (fun _ => ?_) (fun z => absurd mD z)
        refine s_m162 hV ok (t := tkx n w a e (kc e)) (by omega) 0 0 σ2 (by rw [if_neg g3]) hm2 hM2 (by rw [show csx w a 0 = [] from rfl, List.append_nil]; exact T2) (fun σ' f => ?_)
        rw [if_neg g3, show csx w a 0 = [] from rfl, List.append_nil]
        have := K1 σ' (fr_tr f2 f)
        rw [g2, Nat.add_zero] at this
        exact this
      · rw [if_neg (by rw [g1]; decide)] at mD
        refine w_M_told_140 (fun _ => ?_) (fun z => absurd mD z)
        refine s_m162 hV ok (t := tkx n w a e (kc e)) (by omega) (rn n w a) 0 σ2 (by rw [if_pos g3]; omega) hm2 hM2 (by rw [show csx w a 0 = [] from rfl, List.append_nil]; exact T2) (fun σ' f => ?_)
        rw [if_pos g3]
        have := K1 σ' (fr_tr f2 f)
        rw [pl g2, if_pos g3] at this
        exact this
    have mN := hm1.2.2.2.2.2.1
    refine w_M_told_132 ?_
    by_cases hk : kn e = true
    · rw [if_pos hk] at mN hkc
      rw [mN]
      have hl := tl (kr e) (by omega)
      refine s_mtnum T1 (by omega) (by omega) (by omega) (fun σ2 f2 T2 => s140 σ2 f2 ?_)
      have : tkx n w a e (kc e) = tkx n w a e (kr e) ++ (32 :: dec (rf w e (w a) (rn n w a) a)) := by
        rw [hkc]
        show tkx n w a e (kr e) ++ pcx n w a e (kr e) = _
        unfold pcx
        rw [if_neg (Nat.lt_irrefl _), if_pos ⟨hk, rfl⟩]
      rw [this]; exact T2
    · rw [if_neg hk] at mN hkc
      rw [mN]
      refine w_M_tellNumber_0 (fun _ => s140 σ1 fr_rf (by rw [hkc]; exact T1)) (fun z => absurd rfl z)
  -- the registers
  have regs : ∀ σ1, rd_M n w a e σ1 → cc_M n w σ1 → TU (tn (kd_word e)) σ1 → (∀ σ', fr fp_T σ1 σ' → Q σ' (some (.inl (tan (tkx n w a e (kc e + kl e)) y)))) → pw_E 126 0 σ1 (0, 0) [(0, .inr (26, 0)), (1, .inl (σ1.1 26 0 30))] [] (fun σ1 r1 => pw_E 124 116 σ1 (0, 0) [(0, .inr (26, 0)), (1, .inl (Int32.ofNat a)), (2, .inl y)] (r1.toList ++ []) Q) := by
    intro σ1 hm1 hM1 T1 K1
    have stp : ∀ k, k < 3 → TU (tkx n w a e (if k < kr e then k else kr e)) = TU (tkx n w a e (if k < kr e then k else kr e)) := fun _ _ => rfl
    have nx : ∀ k, (if k < kr e then tkx n w a e (if k < kr e then k else kr e) ++ ([32, 118] ++ dN (rgv n w a e k)) else tkx n w a e (if k < kr e then k else kr e)) = tkx n w a e (if k + 1 < kr e then k + 1 else kr e) := fun k => by
      by_cases h : k < kr e
      · rw [if_pos h, if_pos h, ← t1 k h]
        by_cases h2 : k + 1 < kr e
        · rw [if_pos h2]
        · rw [if_neg h2, show k + 1 = kr e by omega]
      · rw [if_neg h, if_neg h, if_neg (by omega)]
    have tlen : ∀ k, (tkx n w a e (if k < kr e then k else kr e)).length ≤ 40 := fun k => by
      have h1 : (if k < kr e then k else kr e) ≤ kr e := by split <;> omega
      have := tl (if k < kr e then k else kr e) (by omega)
      omega
    have T1' : TU (tkx n w a e (if 0 < kr e then 0 else kr e)) σ1 := by
      by_cases h : 0 < kr e
      · rw [if_pos h]; exact T1
      · rw [if_neg h, show kr e = 0 by omega]; exact T1
    refine s_mtreg (n := n) (w := w) (a := a) (e := e) (k := 0) T1' (tlen 0) hm1.2.2.1 (fun σ2 f2 T2 => w_M_told_116 ?_)
    rw [nx 0] at T2
    have hm2 := hm1.fT f2
    refine s_mtreg (n := n) (w := w) (a := a) (e := e) (k := 1) T2 (tlen 1) hm2.2.2.2.1 (fun σ3 f3 T3 => w_M_told_124 ?_)
    rw [nx 1] at T3
    have hm3 := hm2.fT f3
    refine s_mtreg (n := n) (w := w) (a := a) (e := e) (k := 2) T3 (tlen 2) hm3.2.2.2.2.1 (fun σ4 f4 T4 => ?_)
    rw [nx 2, if_neg (by omega)] at T4
    exact rest σ4 (hm3.fT f4) (((hM1.ag (fr_ag f2 rfl)).ag (fr_ag f3 rfl)).ag (fr_ag f4 rfl)) T4 (fun σ' f => K1 σ' (fr_tr f2 (fr_tr f3 (fr_tr f4 f))))
  have named : pw_E 124 48 σ (0, 0) [(0, .inr (26, 0)), (1, .inl (Int32.ofNat a)), (2, .inl y)] [.inl (Int32.ofNat (cod e))] Q := by
    refine w_M_told_48 ?_
    have F : fr fp_T σ (st_up σ 26 0 39 0) := fr_up fr_rf rfl
    refine s_m58 he ⟨up_eq .., fun j hj => absurd hj (Nat.not_lt_zero j)⟩ (fun σ1 f1 T1 => regs σ1 ((hm.fT F).fT f1) ((hM.ag (fr_ag F rfl)).ag (fr_ag f1 rfl)) T1 (fun σ' f => K σ' (fr_tr F (fr_tr f1 f)))) ((kz e).length - 1) 0 (by omega)
  have m0 := hm.1
  refine w_M_told_5 (fun z => absurd z (by decide)) (fun _ z => ?_) (fun _ _ z => ?_) (fun _ z z' => ?_)
  · rw [m0] at z
    have h4 : e = 4 := k_opx e he 4 (by omega) z
    subst h4
    exact s_nameOf (o := 18) (by omega) named
  · rw [m0] at z
    have h10 : e = 10 := k_opx e he 10 (by omega) z
    subst h10
    exact s_nameOf (o := 40) (by omega) named
  · rw [m0] at z z' ⊢
    have h4 : e ≠ 4 := fun y => z (by rw [y]; rfl)
    have h10 : e ≠ 10 := fun y => z' (by rw [y]; rfl)
    obtain ⟨q1, q2, q3⟩ := nmo_k e he h4 h10
    rw [q3]
    refine s_nameOf (by omega) ?_
    rw [q1]; exact named
theorem tkx_lt (hV : cc_V n w) (ok : rd_ok n w a e) : ∀ k, ∀ c ∈ tkx n w a e k, c < 128
  | 0, c, h => of_decide_eq_true (List.all_eq_true.mp (tn_ok _ (t_wd e (rk_lt ok.2.1))).2.1 c h)
  | k + 1, c, h => by
    have rb' := rf_b hV ok
    have gb' := go_b hV ok
    rcases List.mem_append.mp h with z | z
    · exact tkx_lt hV ok k c z
    · unfold pcx at z
      by_cases h1 : k < kr e
      · rw [if_pos h1] at z
        rcases List.mem_append.mp z with y | y
        · rcases List.mem_cons.mp y with q | q
          · omega
          · have := List.mem_singleton.mp q; omega
        · exact dg10_lt _ _ c y
      · rw [if_neg h1] at z
        by_cases h2 : kn e = true ∧ k = kr e
        · rw [if_pos h2] at z
          rcases List.mem_cons.mp z with q | q
          · omega
          · exact (dec_len (by omega) (by omega)).2 c q
        · rw [if_neg h2] at z
          by_cases h15 : e = 15
          · rw [if_pos h15] at z
            have hf := ok.2.2.2
            unfold ru at hf
            rw [if_pos h15] at hf
            have : ∀ k, k ≤ rn n w a → ∀ c ∈ csx w a k, c < 128 := by
              intro k
              induction k with
              | zero => intro _ c hc; exact nomatch hc
              | succ k ih =>
                intro hk c hc
                rcases List.mem_append.mp hc with q | q
                · exact ih (by omega) c q
                · rcases List.mem_cons.mp q with p | p
                  · omega
                  · have b := sg_b (hV.2 (a + 3 + k) (by omega))
                    exact (dec_len b.1 b.2).2 c p
            exact this _ (Nat.le_refl _) c z
          · rw [if_neg h15] at z
            rcases List.mem_cons.mp z with q | q
            · omega
            · exact (dec_len gb'.1 gb'.2).2 c q
end
theorem t_c255 : ∀ c, c < 128 → (Int32.toUInt32 (Int32.ofNat c &&& 255) % 65536).toInt32 = Int32.ofNat c ∧ eg_rf 3 (Int32.ofNat c) = true := by decide +kernel
def lst (f : Nat → Nat) : Nat → List Nat
  | 0 => []
  | n + 1 => lst f n ++ [f n]
theorem lst_len (f : Nat → Nat) : ∀ n, (lst f n).length = n
  | 0 => rfl
  | n + 1 => by
    show (lst f n ++ [f n]).length = _
    rw [List.length_append, lst_len f n]; rfl
theorem lst_get (f : Nat → Nat) : ∀ n j, j < n → (lst f n).getD j 0 = f j
  | 0, j, h => absurd h (Nat.not_lt_zero j)
  | n + 1, j, h => by
    show (lst f n ++ [f n]).getD j 0 = _
    rw [l_getD_app, lst_len]
    by_cases hj : j < n
    · rw [if_pos hj, lst_get f n j hj]
    · rw [if_neg hj, show j = n by omega, Nat.sub_self]; rfl
theorem R_B_BU {σ : st_S} (h : R_B σ) : ∃ t, BU t σ := by
  obtain ⟨b1, b2, ⟨c, b3, b4⟩, b5, b6, b7⟩ := h
  refine ⟨lst (fun j => (σ.1 25 σ.2.2.2.1 j).toBitVec.toNat) c, ⟨b1, b2, b5, b6, b7⟩, by rw [lst_len]; exact b3, by rw [lst_len]; exact b4, fun j hj => ?_⟩
  rw [lst_len] at hj
  rw [lst_get _ _ j hj]
  exact n_un _
theorem BU_R_B {σ : st_S} {t : List Nat} (h : BU t σ) : R_B σ := ⟨h.1.1, h.1.2.1, ⟨t.length, h.2.1, h.2.2.1⟩, h.1.2.2.1, h.1.2.2.2.1, h.1.2.2.2.2⟩
theorem fbb_ag {f : List (Nat × Nat)} {σ σ' : st_S} (h : fbb σ σ') (hd : fp_dj [(24, 999), (25, 999)] f = true) : ag f σ σ' := fun k i j hf => by
  have := fp_dj_use hd hf
  refine h.1 k i j (fun z => ?_) (fun z => ?_)
  · subst z; exact absurd this (by show ¬ true = false; decide)
  · subst z; exact absurd this (by show ¬ true = false; decide)
theorem RR_fbb {xs : Nat → Int32} {L : Nat} {σ σ' : st_S} (f : fbb σ σ') (b : R_B σ') (r : RR xs L σ) : RR xs L σ' := by
  obtain ⟨a1, a2, a3, a4, a5, a6, a7⟩ := r
  exact ⟨a1.ag (fbb_ag f rfl), a2.ag (fbb_ag f rfl) (fbb_ag f rfl) (fbb_ag f rfl), a3.ag (fbb_ag f rfl), a4.ag (fbb_ag f rfl), a5.ag (fbb_ag f rfl), b, f.2.trans a7.1, fun j => (f.1 57 0 j (by decide) (by decide)).trans (a7.2 j)⟩
theorem RR_fT {xs : Nat → Int32} {L : Nat} {σ σ' : st_S} (f : fr fp_T σ σ') (r : RR xs L σ) : RR xs L σ' := r.fr f rfl
theorem cs_told (xs : Nat → Int32) (L : Nat) (x y : Int32) : CallS xs L 74 124 [.inl x, .inl y] := by
  intro σ r
  obtain ⟨n, w, hV, hC, hM⟩ := r.2.2.1
  have hn := hV.1
  refine w_U_told_0 (c_read hV hC (fun σ1 f1 g1 hx => ?_) (fun σ1 a e f1 g1 hx hr ok hc => ?_))
  · refine w_U_told_12 (fun _ => ⟨_, rfl, ?_⟩) (fun z => absurd rfl z) (fun z => absurd rfl z)
    refine w_M_told_0 (m_read hV (hM.ag (fr_ag (frx_fr f1) rfl)) (fun σ2 f2 _ => w_M_told_5 (fun _ => ⟨rfl, RR_L f2 (RR_frx f1 g1 r)⟩) (fun z => absurd rfl z) (fun z => absurd rfl z) (fun z => absurd rfl z)) (fun σ2 a e f2 _ hr _ _ => ?_))
    rw [hx] at hr; cases hr
  · have r1 := RR_frx f1 g1 r
    obtain ⟨t0, B0⟩ := R_B_BU r1.2.2.2.2.2.1
    refine w_U_told_12 (fun z => absurd z (by decide)) (fun _ => rfl) (fun _ => s_setlen B0 (fun σ2 f2 B2 => w_U_told_26 rfl (s_tell hV ok (hc.fb f2) B2 (fun σ3 f3 B3 => ?_))))
    have F := fbb_tr f2 f3
    have r3 : RR xs L σ3 := RR_fbb F (BU_R_B B3) r1
    have ha := ok.1
    -- the reference's answer
    have ref : pw_E 124 0 σ3 (0, 0) [(0, .inr (26, 0)), (1, .inl x), (2, .inl y)] [] (fun σ5 r5 => r5 = some (.inl (tan (tkx n w a e (kc e + kl e)) y)) ∧ RR xs L σ5) := by
      have hM3 : cc_M n w σ3 := (hM.ag (fr_ag (frx_fr f1) rfl)).ag (fbb_ag F rfl)
      refine w_M_told_0 (m_read hV hM3 (fun σ4 f4 z => ?_) (fun σ4 a' e' f4 hx' hr' ok' hm => ?_))
      · rw [hr] at z; cases z
      · rw [hr] at hr'
        cases hr'
        rw [hx]
        exact s_mtold hV ok hm (hM3.ag (fr_ag f4 rfl)) (fun σ5 f5 => ⟨rfl, RR_fT f5 (RR_L f4 r3)⟩)
    have hlt := tkx_lt hV ok (kc e + kl e)
    generalize tkx n w a e (kc e + kl e) = T at B3 ref hlt
    obtain ⟨⟨b1, b2, b3, b4, b5⟩, b6, b7, b8⟩ := B3
    have hmin : (if (Int32.ofNat (σ3.2.2.1 σ3.2.2.2.1) >>> (σ3.1 24 0 1 &&& 31)) < σ3.1 24 0 3 then (Int32.ofNat (σ3.2.2.1 σ3.2.2.2.1) >>> (σ3.1 24 0 1 &&& 31)) else σ3.1 24 0 3) = Int32.ofNat T.length := by
      rw [b1, sh0, n_sr0, b7]
      exact if_neg (by rw [n_lt (by omega) (by omega)]; omega)
    unfold tan at ref
    have get : ¬ y < 0 → ¬ Int32.ofNat T.length ≤ y → ∃ j, j < T.length ∧ y = Int32.ofNat j := fun h1 h2 => by
      obtain ⟨j, hj, rfl⟩ := n_of' h1
      rw [n_le (by omega) hj] at h2
      exact ⟨j, by omega, rfl⟩
    have hgd : ∀ j, j < T.length → T.getD j 0 < 128 := fun j hj => hlt _ (by
      rw [List.getD_eq_getElem?_getD, List.getElem?_eq_getElem hj]
      exact List.getElem_mem hj)
    refine w_U_told_37 (fun _ => rfl) (fun z => ⟨_, rfl, ?_⟩) (fun z z' => ⟨_, rfl, ?_⟩) (fun _ _ => rfl) (fun z z' z'' => ⟨_, rfl, ?_⟩) (fun z z' z'' p q => ?_) (fun z z' z'' p q => ?_) (fun z z' z'' p q => ⟨_, rfl, ?_⟩) (fun _ _ _ _ q => absurd b1 q) (fun z z' z'' p => ?_)
    · rw [if_pos z] at ref
      rw [b7]; exact ref
    · rw [if_neg z, if_neg (fun q => q.1 z')] at ref
      exact ref
    · rw [if_neg z] at ref
      rw [b7] at z''
      rw [if_neg (fun q => ?_)] at ref
      · exact ref
      · obtain ⟨j, hj, rfl⟩ := n_of' z'
        rw [n_le (by omega) hj] at z''
        have q := q.2
        rw [n_cl hj] at q
        omega
    · rw [b7] at z''
      obtain ⟨j, hj, rfl⟩ := get z' z''
      exact n_inb (by omega) (by omega)
    · rw [b7] at z''
      obtain ⟨j, hj, rfl⟩ := get z' z''
      rw [n_cl (by omega), b8 j hj, (t_c255 _ (hgd j hj)).1]
      exact (t_c255 _ (hgd j hj)).2
    · rw [b7] at z''
      obtain ⟨j, hj, rfl⟩ := get z' z''
      rw [n_cl (by omega)] at ref
      rw [n_cl (by omega), b8 j hj, (t_c255 _ (hgd j hj)).1]
      rw [if_neg z, if_pos ⟨z', hj⟩] at ref
      exact ref
    · rw [hmin] at p
      rw [b7] at z''
      exact p (Int32.not_le.mp z'')
