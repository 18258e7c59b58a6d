theorem cs_line (xs : Nat → Int32) (L : Nat) : CallS xs L 11 88 [] := by
  intro σ rr
  have rr' := rr
  obtain ⟨⟨n0, hn, d2, d3, d4⟩, ⟨c, l, e, rg, n, m, lb, na, sb, hV, hC, hM, hL⟩, -, -, -, -, -⟩ := rr'
  have hc40 := hV.1
  have hl12 := hV.2.1
  obtain ⟨row, hrow⟩ : ∃ row : Nat → Int32, row = σ.1 4 0 := ⟨_, rfl⟩
  have h4 : ∀ j, j < n0 → σ.1 4 0 j = row j := fun j _ => by rw [hrow]
  have h27 : ∀ j, j < n0 → σ.1 27 0 j = row j := fun j hj => by rw [hrow]; exact (d4 j hj).symm
  refine w_U_line_0 (w_Draft_partIntoWords_0 (s_cpart (n := n0) (r := row) hn n0 0 (st_up σ 3 0 4 0) (by omega) d2 h4 ⟨rfl, fun j hj => absurd hj (Nat.not_lt_zero j)⟩ (fun j hj => by omega) (fun σ1 E f1 hE w1 => w_U_line_7 ?_)))
  have F1 : fr fp_lc σ σ1 := fr_tr (fr_up fr_rf rfl) (fr_w _ f1 rfl)
  have F1' : fr [(3, 4), (5, 999), (6, 999)] σ σ1 := fr_tr (fr_up fr_rf rfl) f1
  obtain ⟨sk1, -, -, sk4⟩ := sc_ok row E
  have hEn := hE.1
  have hC1 : tx_C c l e rg n m lb na sb σ1 := hC.ag (fr_ag F1' rfl)
  have hL1 : tx_L c e n m lb sb σ1 := hL.ag (fr_ag F1' rfl)
  have h41 : ∀ j, j < n0 → σ1.1 4 0 j = row j := fun j hj => (F1'.2 4 0 j rfl).trans (h4 j hj)
  have ref : ∀ {σ2 : st_S} {v : Int32}, fr fp_lc σ σ2 → (∀ σ3, fr fp_lm σ2 σ3 → wM row E σ3 → (∀ j, j < n0 → σ3.1 27 0 j = row j) → tx_M c l e rg n m lb na sb σ3 → pw_E 90 0 σ3 (0, 0) [(0, .inr (26, 0))] [] (fun σ4 r4 => r4 = some (.inl v) ∧ fr fp_lm σ2 σ4 ∧ R_T (st_up σ4 26 0 3 0))) → σ2.1 3 0 1 = 0 → pw_E 88 0 σ2 (0, 0) [(0, .inr (26, 0))] [] (fun σ5 r5 => r5 = some (.inl v) ∧ RR xs L σ5) := fun {σ2 v} f2 K z2 => by
    refine s_mline (n := n0) (E := E) (r := row) hn hE ((f2.2 26 0 3 rfl).trans d3) (fun j hj => (f2.2 27 0 j rfl).trans (h27 j hj)) (fun σ3 f3 w3 => ?_)
    refine pw_mono (K σ3 (fr_w _ f3 rfl) w3 (fun j hj => (f3.2 27 0 j rfl).trans ((f2.2 27 0 j rfl).trans (h27 j hj))) ((hM.ag (fr_ag f2 rfl)).ag (fr_ag f3 rfl))) (fun σ4 r4 h => ?_)
    obtain ⟨rfl, f4, t⟩ := h
    exact w_M_line_8 ⟨rfl, RR_line rr f2 z2 (fr_up f4 rfl) rfl t⟩
  -- nothing new: the text stands
  have old : ∀ {σ2 σ4 : st_S}, tx_C c l e rg n m lb na sb σ2 → tx_L c e n m lb sb σ2 → tx_M c l e rg n m lb na sb σ4 → fr fp_lm σ2 σ4 → R_T (st_up σ4 26 0 3 0) := fun {σ2 σ4} t1 t2 t3 f => ⟨c, l, e, rg, n, m, lb, na, sb, hV, (t1.ag (fr_ag f rfl)).ag (fr_ag (l := [(26, 3)]) (fr_up fr_rf rfl) rfl), t3.ag (fr_ag (l := [(26, 3)]) (fr_up fr_rf rfl) rfl), (t2.ag (fr_ag f rfl)).ag (fr_ag (l := [(26, 3)]) (fr_up fr_rf rfl) rfl)⟩
  have hC1' : tx_C c l e rg n m lb na sb (st_up σ1 3 0 1 0) := hC1.ag (fr_ag (l := [(3, 1)]) (fr_up fr_rf rfl) rfl)
  have hL1' : tx_L c e n m lb sb (st_up σ1 3 0 1 0) := hL1.ag (fr_ag (l := [(3, 1)]) (fr_up fr_rf rfl) rfl)
  have F1z : fr fp_lc σ (st_up σ1 3 0 1 0) := fr_up F1 rfl
  refine w_U_takeLine_0 (fun h => w_U_line_11 ⟨_, rfl, ?_⟩) (fun h => ?_)
  · rw [w1.1, show (0 : Int32) = Int32.ofNat 0 from rfl, n_inj (by omega) (by omega)] at h
    refine ref F1z (fun σ3 f3 w3 _ m3 => w_M_lineRead_0 (fun _ => ⟨rfl, f3, old hC1' hL1' m3 f3⟩) (fun z => absurd ?_ z)) rfl
    rw [w3.1, h]; rfl
  rw [w1.1, show (0 : Int32) = Int32.ofNat 0 from rfl, n_inj (by omega) (by omega)] at h
  have hW : 1 ≤ sW row E := by omega
  have nW : ∀ {σ3 : st_S}, wM row E σ3 → ¬ σ3.1 26 0 4 = 0 := fun {σ3} w3 => by rw [w3.1, show (0 : Int32) = Int32.ofNat 0 from rfl, n_inj (by omega) (by omega)]; omega
  have one : ∀ {σ3 : st_S}, wM row E σ3 → ((σ3.1 26 0 4 = 1) = (sW row E = 1)) := fun {σ3} w3 => by rw [w3.1]; exact n_inj (b := 1) (by omega) (by omega)
  obtain ⟨b1, b2⟩ := sk4 0 (by omega)
  refine s_clab hn (by omega) b1 (by omega) h41 (w1.2 0 (by omega)).1 (w1.2 0 (by omega)).2 ?_
  -- the reference comes to its own look at word 0
  have ref0 : ∀ {σ3 : st_S} {Q : st_S → Option eg_V → Prop}, wM row E σ3 → (∀ j, j < n0 → σ3.1 27 0 j = row j) → pw_E 90 15 σ3 (0, 0) [(0, .inr (26, 0))] [.inl (tx_sv (wL row E 0))] Q → pw_E 90 0 σ3 (0, 0) [(0, .inr (26, 0))] [] Q := fun {σ3 Q} w3 r3 K =>
    w_M_lineRead_0 (fun z => absurd z (nW w3)) (fun _ => s_mlab hn (by omega) b1 (by omega) r3 (w3.2 0 (by omega)).1 (w3.2 0 (by omega)).2 K)
  obtain ⟨o, hlab⟩ : ∃ o, lab row (sS row E 0) (sT row E 0) = o := ⟨_, rfl⟩
  rw [hlab]
  cases o with
  | some v =>
    have hv := lab_b b1 hlab
    have h58 : row (sS row E 0) = 58 := by
      have hlab' := hlab
      unfold lab at hlab'
      by_cases hc : row (sS row E 0) = 58
      · exact hc
      · rw [if_neg hc] at hlab'; cases hlab'
    have hne : ¬ nv (some v) = 0 := fun z => by
      have z : Int32.ofNat v = 0 := z
      rw [show (0 : Int32) = Int32.ofNat 0 from rfl, n_inj (by omega) (by omega)] at z
      omega
    refine w_U_takeLine_21 (fun z => absurd z hne) (fun _ g => ?_) (fun _ g => w_U_line_11 ⟨_, rfl, ?_⟩)
    · -- a label stands here
      rw [w1.1, show (1 : Int32) = Int32.ofNat 1 from rfl, n_inj (by omega) (by omega)] at g
      have hs0 : cL (l, na, sb) σ1 := ⟨hC1.2.1, hC1.2.2.1⟩
      have refL : ∀ {σ2 : st_S} {v' : Int32}, fr fp_lc σ σ2 → (∀ σ3, fr fp_lm σ2 σ3 → tx_M c l e rg n m lb na sb σ3 → pw_E 93 0 σ3 (0, 0) [(0, .inr (26, 0)), (1, .inl (Int32.ofNat v))] [] (fun σ4 r4 => r4 = some (.inl v') ∧ fr fp_lm σ2 σ4 ∧ R_T (st_up σ4 26 0 3 0))) → σ2.1 3 0 1 = 0 → pw_E 88 0 σ2 (0, 0) [(0, .inr (26, 0))] [] (fun σ5 r5 => r5 = some (.inl v') ∧ RR xs L σ5) := fun {σ2 v'} f2 K z2 => by
        refine ref f2 (fun σ3 f3 w3 r3 m3 => ref0 w3 r3 ?_) z2
        rw [show wL row E 0 = some v from hlab]
        refine w_M_lineRead_15 (fun _ z => absurd z (n_n0 (a := v) (by omega))) (fun _ _ => ?_) (fun z => absurd (by rw [one w3]; exact g) z)
        refine pw_mono (K σ3 f3 m3) (fun σ4 r4 h => ?_)
        obtain ⟨rfl, f4, t⟩ := h
        exact w_M_lineRead_33 ⟨rfl, f4, t⟩
      show pw_E 15 0 σ1 (0, 0) [(0, .inr (7, 0)), (1, .inl (Int32.ofNat v))] [] _
      refine w_Text_standLabel_0 (s_cadd (s := (l, na, sb)) hl12 hs0 (fun h1 h2 => ?_) (fun σ2 f2 c2 l2 => ?_))
      · have h2 : l = 12 := h2
        refine w_Text_standLabel_8 (fun _ => w_U_takeLine_45 (w_U_line_11 ⟨_, rfl, ?_⟩)) (fun z => absurd rfl z) (fun z => absurd rfl z) (fun z => absurd rfl z)
        refine refL F1z (fun σ3 f3 m3 => ?_) rfl
        have hs3 : mLs (l, na, sb) σ3 := ⟨m3.2.1, m3.2.2.1⟩
        refine w_M_setLabel_0 (s_mfind (s := (l, na, sb)) hl12 hs3 ?_)
        rw [h1]
        refine w_M_setLabel_5 (fun _ z => absurd z (by decide)) (fun _ _ _ => ⟨rfl, f3, old hC1' hL1' m3 f3⟩) (fun _ _ z => absurd ?_ z) (fun z => absurd (by decide) z) (fun z => absurd (by decide) z) (fun z => absurd (by decide) z) (fun z => absurd (by decide) z) (fun z => absurd (by decide) z)
        rw [m3.2.1, h2]; rfl
      · have hlt := lsK_lt (x := Int32.ofNat v) (s := (l, na, sb))
        have hne3 : ¬ Int32.ofNat (lsK (Int32.ofNat v) (l, na, sb)) = -3 := fun z => by
          have := n_n0 (a := lsK (Int32.ofNat v) (l, na, sb)) (by omega)
          rw [z] at this
          exact this (by decide)
        have hclk : (Int32.ofNat (lsK (Int32.ofNat v) (l, na, sb))).toNatClampNeg = lsK (Int32.ofNat v) (l, na, sb) := n_cl (by omega)
        have h15 := (c2.2 _ hlt).2
        have o := lsS_old (x := Int32.ofNat v) (s := (l, na, sb))
        have sbn : ∀ j b, j < (lsS (Int32.ofNat v) (l, na, sb)).1 → (lsS (Int32.ofNat v) (l, na, sb)).2.2 j = some b → b ≤ c := fun j b hj hb => by
          by_cases hjl : j < l
          · rw [(o.2.2 j hjl).2] at hb
            exact hV.2.2.2 j b hjl hb
          · have := lq_new (X := fun _ => Int32.ofNat v) (s := (l, na, sb)) 1 j (by show l ≤ j; omega) hj
            have this : (lsS (Int32.ofNat v) (l, na, sb)).2.2 j = none := this
            rw [this] at hb; cases hb
        have sv := sv_1 (o := (lsS (Int32.ofNat v) (l, na, sb)).2.2 (lsK (Int32.ofNat v) (l, na, sb))) (fun b hb => by have := sbn _ b hlt hb; omega)
        refine w_Text_standLabel_8 (fun z => absurd z hne3) (fun _ => n_inb (by omega) (by omega)) (fun _ z => ?_) (fun _ z => w_U_takeLine_45 (w_U_line_11 ⟨_, rfl, ?_⟩))
        · rw [hclk, h15, sv.1] at z
          rw [hclk]
          have e7 : σ2.1 7 0 1 = Int32.ofNat c := (f2.2 7 0 1 rfl).trans hC1.1
          rw [e7]
          -- the new text
          have hV' : tx_V c (lsS (Int32.ofNat v) (l, na, sb)).1 e rg n m lb (uf (lsS (Int32.ofNat v) (l, na, sb)).2.2 (lsK (Int32.ofNat v) (l, na, sb)) (some c)) := by
            refine ⟨hc40, l2, fun i hi => ?_, fun j b hj hb => ?_⟩
            · obtain ⟨a1, a2, a3, a4, a5, a6, a7, a8, a9, a10, a11⟩ := hV.2.2.1 i hi
              exact ⟨a1, a2, a3, a4, a5, a6, a7, a8, a9, a10, fun k hk => Nat.lt_of_lt_of_le (a11 k hk) o.1⟩
            · by_cases hjk : j = lsK (Int32.ofNat v) (l, na, sb)
              · rw [hjk, uf_eq] at hb; cases hb; exact Nat.le_refl _
              · rw [uf_ne hjk] at hb; exact sbn j b hj hb
          have F2 : fr [(13, 2), (14, 999), (15, 999)] σ1 (st_up σ2 15 0 (lsK (Int32.ofNat v) (l, na, sb)) (Int32.ofNat c)) := fr_up f2 rfl
          have hC' : tx_C c (lsS (Int32.ofNat v) (l, na, sb)).1 e rg n m lb (lsS (Int32.ofNat v) (l, na, sb)).2.1 (uf (lsS (Int32.ofNat v) (l, na, sb)).2.2 (lsK (Int32.ofNat v) (l, na, sb)) (some c)) (st_up σ2 15 0 (lsK (Int32.ofNat v) (l, na, sb)) (Int32.ofNat c)) := by
            refine ⟨e7, c2.1, fun j hj => ⟨(c2.2 j hj).1, ?_⟩, fun i hi => ?_⟩
            · by_cases hjk : j = lsK (Int32.ofNat v) (l, na, sb)
              · rw [hjk, uf_eq]; exact up_eq ..
              · rw [uf_ne hjk]; exact (up_j hjk).trans (c2.2 j hj).2
            · obtain ⟨a1, a2, a3, a4, a5⟩ := hC1.2.2.2 i hi
              exact ⟨(F2.2 9 i 0 rfl).trans a1, fun r hr => (F2.2 10 i r rfl).trans (a2 r hr), (F2.2 9 i 3 rfl).trans a3, (F2.2 9 i 4 rfl).trans a4, fun k hk => (F2.2 12 i k rfl).trans (a5 k hk)⟩
          refine s_layOut hV' hC' (fun j hj h9 => ?_) (fun σ5 f5 hL5 => w_Text_standLabel_51 (w_U_takeLine_45 (w_U_line_11 ⟨_, rfl, ?_⟩)))
          · obtain ⟨lg, -, g2, -, -⟩ := hL1
            refine (F2.2 9 j 1 rfl).trans ((g2 j hj).1.trans ?_)
            unfold tx_lgv; rw [if_neg h9, if_neg h9]
          · have FL : fr fp_lc σ (st_up σ5 3 0 1 0) := fr_up (fr_tr F1 (fr_tr (fr_w _ F2 rfl) (fr_w _ f5 rfl))) rfl
            have e13 : σ5.1 13 0 2 = Int32.ofNat (lsS (Int32.ofNat v) (l, na, sb)).1 := (f5.2 13 0 2 rfl).trans c2.1
            rw [e13]
            refine refL FL (fun σ3 f3 m3 => ?_) rfl
            have hs3 : mLs (l, na, sb) σ3 := ⟨m3.2.1, m3.2.2.1⟩
            have named : pw_E 95 0 σ3 (0, 0) [(0, .inr (26, 0)), (1, .inl (Int32.ofNat v))] [] (fun σ1 r1 => pw_E 93 43 σ1 (0, 0) [(0, .inr (26, 0))] (r1.toList ++ []) (fun σ4 r4 => r4 = some (.inl ((100 : Int32) + Int32.ofNat (lsS (Int32.ofNat v) (l, na, sb)).1)) ∧ fr fp_lm (st_up σ5 3 0 1 0) σ4 ∧ R_T (st_up σ4 26 0 3 0))) := by
              refine s_mnamed (s := (l, na, sb)) hl12 hs3 l2 (fun σ4 f4 c4 => w_M_setLabel_43 (n_inb (by omega) (by omega)) ⟨?_, ?_, ?_⟩)
              · rw [c4.1]
              · exact fr_up (fr_tr f3 (fr_w _ f4 rfl)) rfl
              · rw [hclk]
                have e12 : σ4.1 26 0 12 = Int32.ofNat c := (f4.2 26 0 12 rfl).trans m3.1
                rw [e12]
                have G : fr fp_lm (st_up σ5 3 0 1 0) (st_up (st_up σ4 38 0 (lsK (Int32.ofNat v) (l, na, sb)) (Int32.ofNat c)) 26 0 3 0) := fr_up (fr_up (fr_tr f3 (fr_w _ f4 rfl)) rfl) rfl
                have FC : fr [(3, 1), (9, 1), (9, 7), (7, 3), (7, 4)] (st_up σ2 15 0 (lsK (Int32.ofNat v) (l, na, sb)) (Int32.ofNat c)) (st_up σ5 3 0 1 0) := fr_up (fr_w _ f5 rfl) rfl
                refine ⟨c, _, e, rg, n, m, lb, _, _, hV', (hC'.ag (fr_ag FC rfl)).ag (fr_ag G rfl), ⟨e12, c4.1, fun j hj => ⟨(c4.2 j hj).1, ?_⟩, fun i hi => ?_⟩, (hL5.ag (fr_ag (l := [(3, 1)]) (fr_up fr_rf rfl) rfl)).ag (fr_ag G rfl)⟩
                · by_cases hjk : j = lsK (Int32.ofNat v) (l, na, sb)
                  · rw [hjk, uf_eq]; exact (up_k (by decide)).trans (up_eq ..)
                  · rw [uf_ne hjk]; exact (up_k (by decide)).trans ((up_j hjk).trans (c4.2 j hj).2)
                · obtain ⟨a1, a2, a3, a4, a5, a6, a7⟩ := m3.2.2.2 i hi
                  exact ⟨(f4.2 30 0 i rfl).trans a1, (f4.2 31 0 i rfl).trans a2, (f4.2 32 0 i rfl).trans a3, (f4.2 33 0 i rfl).trans a4, (f4.2 34 0 i rfl).trans a5, (f4.2 35 0 i rfl).trans a6, fun k hk => (f4.2 36 0 (4 * i + k) rfl).trans (a7 k hk)⟩
            refine w_M_setLabel_0 (s_mfind (s := (l, na, sb)) hl12 hs3 ?_)
            cases hf : fnd na l (Int32.ofNat v) with
            | none =>
              have hn' := lsS_n (s := (l, na, sb)) hf
              have l2' := l2
              rw [hn'.1] at l2'
              have l2' : l + 1 ≤ 12 := l2'
              refine w_M_setLabel_5 (fun _ z => absurd z (by decide)) (fun _ _ z => ?_) (fun _ _ _ => named) (fun z => absurd (by decide) z) (fun z => absurd (by decide) z) (fun z => absurd (by decide) z) (fun z => absurd (by decide) z) (fun z => absurd (by decide) z)
              rw [m3.2.1, show (12 : Int32) = Int32.ofNat 12 from rfl, n_inj (by omega) (by omega)] at z
              omega
            | some k =>
              have hf' := lsS_f (s := (l, na, sb)) hf
              have hk := (fnd_some hf).1
              rw [hf'.1, hf'.2] at z
              have z : sb k = none := z
              have n0k : ¬ tx_sv (some k) < 0 := n_n0 (a := k) (by omega)
              have hck : (tx_sv (some k)).toNatClampNeg = k := n_cl (a := k) (by omega)
              have h38 : σ3.1 38 0 (tx_sv (some k)).toNatClampNeg < 0 := by rw [hck, (m3.2.2.1 k hk).2, z]; decide
              exact w_M_setLabel_5 (fun y => absurd y n0k) (fun y => absurd y n0k) (fun y => absurd y n0k) (fun _ => n_inb (a := k) (by omega) (by omega)) (fun _ _ _ => named) (fun _ _ y => absurd (n_0le (a := k) (by omega)) y) (fun _ _ y => absurd (n_0le (a := k) (by omega)) y) (fun _ y => absurd h38 y)
        · rw [hclk, h15, sv.1] at z
          -- it stood already: the label was found
          cases hf : fnd na l (Int32.ofNat v) with
          | none =>
            have hn' := lsS_n (s := (l, na, sb)) hf
            rw [hn'.1, hn'.2] at z
            exact absurd (by show ufo sb l none l = none; unfold ufo; rw [if_pos rfl]) z
          | some k =>
            have hf' := lsS_f (s := (l, na, sb)) hf
            have hk := (fnd_some hf).1
            rw [hf'.1, hf'.2] at z
            rw [hf'.1] at c2
            have z : ¬ sb k = none := z
            have hC2 : tx_C c l e rg n m lb na sb (st_up σ2 3 0 1 0) := by
              refine ⟨(f2.2 7 0 1 rfl).trans hC1.1, c2.1, c2.2, fun i hi => ?_⟩
              obtain ⟨a1, a2, a3, a4, a5⟩ := hC1.2.2.2 i hi
              exact ⟨(f2.2 9 i 0 rfl).trans a1, fun r hr => (f2.2 10 i r rfl).trans (a2 r hr), (f2.2 9 i 3 rfl).trans a3, (f2.2 9 i 4 rfl).trans a4, fun k hk => (f2.2 12 i k rfl).trans (a5 k hk)⟩
            have hL2 : tx_L c e n m lb sb (st_up σ2 3 0 1 0) := (hL1.ag (fr_ag f2 rfl)).ag (fr_ag (l := [(3, 1)]) (fr_up fr_rf rfl) rfl)
            have FL : fr fp_lc σ (st_up σ2 3 0 1 0) := fr_up (fr_tr F1 (fr_w _ f2 rfl)) rfl
            refine refL FL (fun σ3 f3 m3 => ?_) rfl
            have hs3 : mLs (l, na, sb) σ3 := ⟨m3.2.1, m3.2.2.1⟩
            refine w_M_setLabel_0 (s_mfind (s := (l, na, sb)) hl12 hs3 ?_)
            rw [show fnd (l, na, sb).2.1 (l, na, sb).1 (Int32.ofNat v) = some k from hf]
            have n0k : ¬ tx_sv (some k) < 0 := n_n0 (a := k) (by omega)
            have hck : (tx_sv (some k)).toNatClampNeg = k := n_cl (a := k) (by omega)
            have svk := sv_1 (o := sb k) (fun b hb => by have := hV.2.2.2 k b hk hb; omega)
            have h38 : ¬ σ3.1 38 0 (tx_sv (some k)).toNatClampNeg < 0 := by rw [hck, (m3.2.2.1 k hk).2]; exact Int32.not_lt.mpr (svk.2.mpr z)
            exact w_M_setLabel_5 (fun y => absurd y n0k) (fun y => absurd y n0k) (fun y => absurd y n0k) (fun _ => n_inb (a := k) (by omega) (by omega)) (fun _ y => absurd y h38) (fun _ y => absurd y h38) (fun _ y => absurd y h38) (fun _ _ => ⟨rfl, f3, old hC2 hL2 m3 f3⟩)
    · rw [w1.1, show (1 : Int32) = Int32.ofNat 1 from rfl, n_inj (by omega) (by omega)] at g
      refine ref F1z (fun σ3 f3 w3 r3 m3 => ref0 w3 r3 ?_) rfl
      have nofw : ∀ k, k < 16 → ¬ fw row (sS row E 0) (sT row E 0) k := fun k hk z => by
        have := (fw_iff b1 hk).mp z
        rw [lt6_58 b1 h58] at this; cases this
      refine w_M_lineRead_15 (fun z => absurd (by rw [one w3] at z; exact z) g) (fun z => absurd (by rw [one w3] at z; exact z) g) (fun _ => s_mkind hn hEn hW r3 w3 (fun _ => ⟨rfl, fr_up f3 rfl, old hC1' hL1' (m3.ag (fr_ag (l := [(26, 16)]) (fr_up fr_rf rfl) rfl)) (fr_up f3 rfl)⟩) (fun k hk _ _ z => absurd z (nofw k hk)))
  | none =>
    have refK : ∀ {σ2 : st_S} {v' : Int32}, fr fp_lc σ σ2 → (∀ σ3, fr fp_lm σ2 σ3 → wM row E σ3 → (∀ j, j < n0 → σ3.1 27 0 j = row j) → tx_M c l e rg n m lb na sb σ3 → pw_E 92 0 σ3 (0, 0) [(0, .inr (26, 0)), (1, .inl (σ3.1 28 0 0)), (2, .inl (σ3.1 29 0 0))] [] (fun σ1 r1 => pw_E 90 51 σ1 (0, 0) [(0, .inr (26, 0))] (r1.toList ++ [.inr (26, 0)]) (fun σ4 r4 => r4 = some (.inl v') ∧ fr fp_lm σ2 σ4 ∧ R_T (st_up σ4 26 0 3 0)))) → σ2.1 3 0 1 = 0 → pw_E 88 0 σ2 (0, 0) [(0, .inr (26, 0))] [] (fun σ5 r5 => r5 = some (.inl v') ∧ RR xs L σ5) := fun {σ2 v'} f2 K z2 => by
      refine ref f2 (fun σ3 f3 w3 r3 m3 => ref0 w3 r3 ?_) z2
      rw [show wL row E 0 = none from hlab]
      exact w_M_lineRead_15 (fun _ _ => K σ3 f3 w3 r3 m3) (fun _ y => absurd (by decide) y) (fun _ => K σ3 f3 w3 r3 m3)
    refine w_U_takeLine_21 (fun _ => ?_) (fun z => absurd rfl z) (fun z => absurd rfl z)
    refine w_Draft_kindOfFirstWord_0 (s_kindw hn (by omega) b1 h41 (w1.2 0 (by omega)).1 (w1.2 0 (by omega)).2 (fun z => ?_) (fun k hk hfw hfirst => ?_) 16 0 (by omega) (fun q hq => by omega))
    · refine w_U_takeLine_58n (w_U_line_11 ⟨_, rfl, ?_⟩)
      exact refK F1z (fun σ3 f3 w3 r3 m3 => s_mkind hn hEn hW r3 w3 (fun _ => ⟨rfl, fr_up f3 rfl, old hC1' hL1' (m3.ag (fr_ag (l := [(26, 16)]) (fr_up fr_rf rfl) rfl)) (fr_up f3 rfl)⟩) (fun k hk _ _ y => absurd y (z k hk))) rfl
    have k4 : k ≠ 4 := fun z => by
      subst z
      exact hfirst 3 (by omega) hfw
    have k10 : k ≠ 10 := fun z => by
      subst z
      exact hfirst 9 (by omega) hfw
    have h7 : (σ1.1 7 0 1).toNatClampNeg = c := by rw [hC1.1]; exact n_cl (by omega)
    refine w_U_takeLine_58 (by rw [hC1.1]; exact n_inb (by omega) (by omega)) ?_
    rw [h7]
    -- the spare item, made ready
    have FI : frc c σ1 (st_up (st_up (st_up (st_up (st_up (st_up (st_up σ1 9 c 0 (Int32.ofNat k)) 9 c 1 0) 10 c 0 0) 10 c 1 0) 10 c 2 0) 9 c 3 0) 9 c 4 0) := frc_up (frc_up (frc_up (frc_up (frc_up (frc_up (frc_up frc_rf rfl) rfl) rfl) rfl) rfl) rfl) rfl
    obtain ⟨σa, hσa⟩ : ∃ σa, σa = (st_up (st_up (st_up (st_up (st_up (st_up (st_up σ1 9 c 0 (Int32.ofNat k)) 9 c 1 0) 10 c 0 0) 10 c 1 0) 10 c 2 0) 9 c 3 0) 9 c 4 0) := ⟨_, rfl⟩
    have I0 : IA row E k 0 c σa := by
      rw [hσa]
      refine ⟨?_, fun j hj => ?_, ?_, ?_, ?_, fun j hj => by omega⟩
      · exact (up_j (by decide)).trans ((up_j (by decide)).trans ((up_k (by decide)).trans ((up_k (by decide)).trans ((up_k (by decide)).trans ((up_j (by decide)).trans (up_eq ..))))))
      · rw [if_neg (by omega)]
        have : j = 0 ∨ j = 1 ∨ j = 2 := by omega
        rcases this with z | z | z
        · subst z; exact (up_k (by decide)).trans ((up_k (by decide)).trans ((up_j (by decide)).trans ((up_j (by decide)).trans (up_eq ..))))
        · subst z; exact (up_k (by decide)).trans ((up_k (by decide)).trans ((up_j (by decide)).trans (up_eq ..)))
        · subst z; exact (up_k (by decide)).trans ((up_k (by decide)).trans (up_eq ..))
      · rw [if_neg (by omega)]
        exact (up_j (by decide)).trans (up_eq ..)
      · rw [if_neg (by omega)]
        exact (up_j (by decide)).trans ((up_j (by decide)).trans ((up_k (by decide)).trans ((up_k (by decide)).trans ((up_k (by decide)).trans (up_eq ..)))))
      · refine (up_eq ..).trans ?_
        rw [Nat.zero_sub]; rfl
    rw [← hσa] at FI ⊢
    have FI' := frc_fr FI
    refine s_cargs (n := n0) hn hEn hk ⟨k4, k10⟩ hW (fun j hj => (FI'.2 4 0 j rfl).trans (h41 j hj)) ⟨(FI'.2 3 0 4 rfl).trans w1.1, fun j hj => ⟨(FI'.2 5 0 j rfl).trans (w1.2 j hj).1, (FI'.2 6 0 j rfl).trans (w1.2 j hj).2⟩⟩ I0 (fun σ2 f2 hng => ?_) (fun σ2 f2 hg I2 => ?_)
    · have G2 := frc_tr FI f2
      have hC2 : tx_C c l e rg n m lb na sb (st_up σ2 3 0 1 0) := (hC1.frc (Nat.le_refl c) G2).ag (fr_ag (l := [(3, 1)]) (fr_up fr_rf rfl) rfl)
      have hL2 : tx_L c e n m lb sb (st_up σ2 3 0 1 0) := (hL1.frc (Nat.le_refl c) G2).ag (fr_ag (l := [(3, 1)]) (fr_up fr_rf rfl) rfl)
      have FL : fr fp_lc σ (st_up σ2 3 0 1 0) := fr_up (fr_tr F1 (fr_w _ (frc_fr G2) rfl)) rfl
      refine w_U_takeLine_84 (fun _ => w_U_line_11 ⟨_, rfl, ?_⟩) (fun z => absurd rfl z)
      refine refK FL (fun σ3 f3 w3 r3 m3 => s_mkind hn hEn hW r3 w3 (fun z => absurd hfw (z k hk)) (fun q hq q4 q10 hfq => ?_)) rfl
      have := fw_un b1 hk hq k4 k10 q4 q10 hfw hfq
      subst this
      have f16 : fr fp_ln σ3 (st_up σ3 26 0 16 (kd_op k)) := fr_up fr_rf rfl
      refine s_mrl (σ := st_up σ3 26 0 16 (kd_op k)) (n := n0) hn hEn hk k4 k10 hW (fun j hj => r3 j hj) (w3.fr f16) (up_eq ..) (fun σ4 f4 _ => w_M_lineRead_71 (fun _ => ⟨rfl, ?_, ?_⟩) (fun z => absurd rfl z) (fun z => absurd rfl z)) (fun σ4 f4 z => absurd z hng)
      · exact fr_tr f3 (fr_tr (fr_w _ f16 rfl) (fr_w _ f4 rfl))
      · exact old hC2 hL2 ((m3.ag (fr_ag f16 rfl)).ag (fr_ag f4 rfl)) (fr_tr f3 (fr_tr (fr_w _ f16 rfl) (fr_w _ f4 rfl)))
    · have G2 := frc_tr FI f2
      have hC2 : tx_C c l e rg n m lb na sb σ2 := hC1.frc (Nat.le_refl c) G2
      have hL2 : tx_L c e n m lb sb σ2 := hL1.frc (Nat.le_refl c) G2
      have FL2 : fr fp_lc σ σ2 := fr_tr F1 (fr_w _ (frc_fr G2) rfl)
      have hz3 : ∀ {σx : st_S}, fr fp_lc σ σx → fr fp_lc σ (st_up σx 3 0 1 0) := fun f => fr_up f rfl
      obtain ⟨i0, i1, i2, i3, i4, i5⟩ := I2
      have hM4 : sW row E - 1 - kc k ≤ 4 := by
        by_cases h15 : k = 15
        · exact (hg.2.2.1 h15).2
        · rw [hg.2.1 h15]
          have := (ar_ok k hk).2.2.2.1; omega
      -- the reference reads the line, too
      have refG : ∀ {σx : st_S} {v' : Int32}, fr fp_lc σ σx → (∀ σ4, fr fp_lm σx σ4 → MR row E k σ4 → tx_M c l e rg n m lb na sb σ4 → pw_E 90 71 σ4 (0, 0) [(0, .inr (26, 0))] [.inl 1] (fun σ4 r4 => r4 = some (.inl v') ∧ fr fp_lm σx σ4 ∧ R_T (st_up σ4 26 0 3 0))) → σx.1 3 0 1 = 0 → pw_E 88 0 σx (0, 0) [(0, .inr (26, 0))] [] (fun σ5 r5 => r5 = some (.inl v') ∧ RR xs L σ5) := fun {σx v'} fx K zx => by
        refine refK fx (fun σ3 f3 w3 r3 m3 => s_mkind hn hEn hW r3 w3 (fun z => absurd hfw (z k hk)) (fun q hq q4 q10 hfq => ?_)) zx
        have := fw_un b1 hk hq k4 k10 q4 q10 hfw hfq
        subst this
        have f16 : fr fp_ln σ3 (st_up σ3 26 0 16 (kd_op k)) := fr_up fr_rf rfl
        exact s_mrl (σ := st_up σ3 26 0 16 (kd_op k)) (n := n0) hn hEn hk k4 k10 hW (fun j hj => r3 j hj) (w3.fr f16) (up_eq ..) (fun σ4 f4 z => absurd hg z) (fun σ4 f4 _ mr => K σ4 (fr_tr f3 (fr_tr (fr_w _ f16 rfl) (fr_w _ f4 rfl))) mr ((m3.ag (fr_ag f16 rfl)).ag (fr_ag f4 rfl)))
      refine w_U_takeLine_84 (fun z => absurd z (by decide)) (fun _ => w_Text_keepSpare_0 (fun z => w_U_takeLine_94 (w_U_line_11 ⟨_, rfl, ?_⟩)) (fun z => ?_) (fun z => ?_))
      · rw [hC2.1, show (40 : Int32) = Int32.ofNat 40 from rfl, n_le (by omega) (by omega)] at z
        refine refG (hz3 FL2) (fun σ4 f4 mr m4 => w_M_lineRead_71 (fun y => absurd y (by decide)) (fun _ _ => ⟨rfl, f4, old (hC2.ag (fr_ag (l := [(3, 1)]) (fr_up fr_rf rfl) rfl)) (hL2.ag (fr_ag (l := [(3, 1)]) (fr_up fr_rf rfl) rfl)) m4 f4⟩) (fun _ y => absurd ?_ y)) rfl
        rw [m4.1, show c = 40 by omega]; rfl
      · rw [hC2.1]; exact n_inb (by omega) (by omega)
      · rw [hC2.1, show (40 : Int32) = Int32.ofNat 40 from rfl, n_le (by omega) (by omega)] at z
        rw [hC2.1, n_cl (by omega)]
        have hs2 : cL (l, na, sb) σ2 := ⟨hC2.2.1, hC2.2.2.1⟩
        have n40 : ∀ {σ4 : st_S}, tx_M c l e rg n m lb na sb σ4 → ¬ σ4.1 26 0 12 = 40 := fun {σ4} m4 => by rw [m4.1, show (40 : Int32) = Int32.ofNat 40 from rfl, n_inj (by omega) (by omega)]; omega
        have lqb : ∀ q, (lq (aL row E k) (l, na, sb) q).1 ≤ l + q := by
          intro q
          induction q with
          | zero => exact Nat.le_refl _
          | succ q ihq =>
            have := (lsS_old (x := aL row E k q) (s := lq (aL row E k) (l, na, sb) q)).2.1
            show (lsS (aL row E k q) (lq (aL row E k) (l, na, sb) q)).1 ≤ _
            omega
        have lql : l ≤ (lq (aL row E k) (l, na, sb) (sW row E - 1 - kc k)).1 := lq_mono' (X := aL row E k) (s := (l, na, sb)) (q := 0) (Nat.zero_le _)
        have lqb' := lqb (sW row E - 1 - kc k)
        have refN : ∀ {σx : st_S} {v' : Int32}, fr fp_lc σ σx → (∀ σ4, fr fp_lm σx σ4 → MR row E k σ4 → tx_M c l e rg n m lb na sb σ4 → pw_E 90 96 σ4 (0, 0) [(0, .inr (26, 0))] [.inl (Int32.ofNat ((lq (aL row E k) (l, na, sb) (sW row E - 1 - kc k)).1 - l)), .inl (Int32.ofNat l)] (fun σ4 r4 => r4 = some (.inl v') ∧ fr fp_lm σx σ4 ∧ R_T (st_up σ4 26 0 3 0))) → σx.1 3 0 1 = 0 → pw_E 88 0 σx (0, 0) [(0, .inr (26, 0))] [] (fun σ5 r5 => r5 = some (.inl v') ∧ RR xs L σ5) := fun {σx v'} fx K zx => by
          refine refG fx (fun σ4 f4 mr m4 => w_M_lineRead_71 (fun y => absurd y (by decide)) (fun _ y => absurd y (n40 m4)) (fun _ _ => ?_)) zx
          rw [m4.2.1]
          have hs4 : mLs (l, na, sb) σ4 := ⟨m4.2.1, m4.2.2.1⟩
          have := s_newN (s := (l, na, sb)) (X := aL row E k) (σ := σ4) (Q := fun σ1 r1 => pw_E 90 96 σ1 (0, 0) [(0, .inr (26, 0))] (r1.toList ++ [.inl (Int32.ofNat l)]) (fun σ4 r4 => r4 = some (.inl v') ∧ fr fp_lm σx σ4 ∧ R_T (st_up σ4 26 0 3 0))) hM4 hl12 mr.2.2.2.2.2.1 mr.2.2.2.2.2.2 hs4 (K σ4 f4 mr m4) (sW row E - 1 - kc k) 0 (by omega)
          have e0 : (lq (aL row E k) (l, na, sb) 0).1 - (l, na, sb).1 = 0 := Nat.sub_self _
          rw [e0] at this
          exact w_M_newNames_0 this
        refine w_Labels_addAllOf_0 ?_
        rw [hC2.2.1]
        refine s_caddall (s := (l, na, sb)) (X := aL row E k) hM4 hl12 (sW row E - 1 - kc k) 0 σ2 (by omega) i4 i5 hs2 hl12 (fun j hj => by omega) (fun σ5 f5 g5 h12 c5 => ?_) (fun σ5 f5 g5 h12 c5 k5 => ?_)
        · have hC5 : tx_C c l e rg n m lb na sb (st_up σ5 3 0 1 0) := by
            refine ⟨(f5.2 7 0 1 rfl).trans hC2.1, c5.1, c5.2, fun i hi => ?_⟩
            obtain ⟨a1, a2, a3, a4, a5⟩ := hC2.2.2.2 i hi
            exact ⟨(f5.2 9 i 0 rfl).trans a1, fun r hr => (f5.2 10 i r rfl).trans (a2 r hr), (f5.2 9 i 3 rfl).trans a3, (f5.2 9 i 4 rfl).trans a4, fun k hk => (g5 i k (by omega)).trans (a5 k hk)⟩
          have hL5 : tx_L c e n m lb sb (st_up σ5 3 0 1 0) := (hL2.ag (fr_ag f5 rfl)).ag (fr_ag (l := [(3, 1)]) (fr_up fr_rf rfl) rfl)
          refine w_Text_keepSpare_25 (fun _ => w_U_takeLine_94 (w_U_line_11 ⟨_, rfl, ?_⟩)) (fun y => absurd rfl y)
          refine refN (hz3 (fr_tr FL2 (fr_w _ f5 rfl))) (fun σ4 f4 mr m4 => ?_) rfl
          have hgt : ¬ Int32.ofNat l + Int32.ofNat ((lq (aL row E k) (l, na, sb) (sW row E - 1 - kc k)).1 - l) ≤ 12 := by
            rw [n_add, show (12 : Int32) = Int32.ofNat 12 from rfl, n_le (by omega) (by omega)]; omega
          exact w_M_lineRead_96 (fun y => absurd y hgt) (fun y => absurd y hgt) (fun _ => ⟨rfl, f4, old hC5 hL5 m4 f4⟩)
        · -- a new item
          have hk15 : ∀ q, q < sW row E - 1 - kc k → lk (aL row E k) (l, na, sb) q < (lq (aL row E k) (l, na, sb) (sW row E - 1 - kc k)).1 := fun q hq => Nat.lt_of_lt_of_le (lsK_lt (x := aL row E k q) (s := lq (aL row E k) (l, na, sb) q)) (lq_mono' (X := aL row E k) (s := (l, na, sb)) (q := q + 1) hq)
          have hV' := tx_V_new (l' := (lq (aL row E k) (l, na, sb) (sW row E - 1 - kc k)).1) (sb' := (lq (aL row E k) (l, na, sb) (sW row E - 1 - kc k)).2.2) (lb' := lk (aL row E k) (l, na, sb)) hV (by omega) lql h12 (fun j hj => (lq_old (X := aL row E k) (s := (l, na, sb)) _ j hj).2) (fun j h1 h2 => lq_new (X := aL row E k) (s := (l, na, sb)) _ j h1 h2) (tx_ok_new hk k4 k10 hg hk15)
          have hpr : ∀ j, j < 3 → (if j < sW row E - 1 then aR row E k j else 0) = aR row E k j := fun j hj => by
            by_cases hjp : j < sW row E - 1
            · rw [if_pos hjp]
            · rw [if_neg hjp]
              unfold aR
              have := hg.1
              have hkc : kc k = kr k + (if kn k = true then 1 else 0) := rfl
              rw [if_neg (by omega)]
          have hpn : (if kr k < sW row E - 1 then aN row E k else 0) = aN row E k := by
            by_cases hkn : kn k = true
            · have hkc : kc k = kr k + (if kn k = true then 1 else 0) := rfl
              rw [if_pos hkn] at hkc
              have := hg.1
              rw [if_pos (by omega)]
            · have : aN row E k = 0 := by unfold aN; rw [if_neg hkn]
              rw [this]; split <;> rfl
          have hC5 : tx_C (c + 1) (lq (aL row E k) (l, na, sb) (sW row E - 1 - kc k)).1 (uf e c k) (uf rg c (aR row E k)) (uf n c (aN row E k)) (uf m c (sW row E - 1 - kc k)) (uf lb c (lk (aL row E k) (l, na, sb))) (lq (aL row E k) (l, na, sb) (sW row E - 1 - kc k)).2.1 (lq (aL row E k) (l, na, sb) (sW row E - 1 - kc k)).2.2 (st_up σ5 7 0 1 (Int32.ofNat (c + 1))) := by
            refine ⟨up_eq .., c5.1, c5.2, fun i hi => ?_⟩
            by_cases hic : i = c
            · subst hic
              rw [uf_eq, uf_eq, uf_eq, uf_eq, uf_eq]
              refine ⟨(f5.2 9 i 0 rfl).trans i0, fun r hr => ?_, ?_, (f5.2 9 i 4 rfl).trans i4, fun q hq => k5 q hq⟩
              · refine (f5.2 10 i r rfl).trans ((i1 r hr).trans ?_)
                rw [hpr r hr]
              · refine (f5.2 9 i 3 rfl).trans (i2.trans ?_)
                exact hpn
            · rw [uf_ne hic, uf_ne hic, uf_ne hic, uf_ne hic, uf_ne hic]
              obtain ⟨a1, a2, a3, a4, a5⟩ := hC2.2.2.2 i (by omega)
              exact ⟨(f5.2 9 i 0 rfl).trans a1, fun r hr => (f5.2 10 i r rfl).trans (a2 r hr), (f5.2 9 i 3 rfl).trans a3, (f5.2 9 i 4 rfl).trans a4, fun k hk => (g5 i k hic).trans (a5 k hk)⟩
          refine w_Text_keepSpare_25 (fun y => absurd y (by decide)) (fun _ => ?_)
          rw [show σ5.1 7 0 1 = Int32.ofNat c from (f5.2 7 0 1 rfl).trans hC2.1, show Int32.ofNat c + 1 = Int32.ofNat (c + 1) from n_add c 1]
          refine s_layOut hV' hC5 (fun j hj h9 => ?_) (fun σ6 f6 hL6 => w_Text_keepSpare_45 (w_U_takeLine_94 (w_U_line_11 ⟨_, rfl, ?_⟩)))
          · by_cases hjc : j = c
            · subst hjc
              rw [uf_eq] at h9
              refine (f5.2 9 j 1 rfl).trans (i3.trans ?_)
              unfold tx_lgv
              rw [uf_eq, uf_eq, if_neg h9]
              by_cases h3 : k = 3
              · have hp : kr k < sW row E - 1 := by
                  have := hg.1
                  have hkc : kc k = 2 := by rw [h3]; rfl
                  have hkr : kr k = 1 := by rw [h3]; rfl
                  omega
                rw [if_pos h3]
                by_cases hb : -8 ≤ aN row E k ∧ aN row E k ≤ 7
                · rw [if_neg (fun y => y.2.2 hb), if_pos hb]
                · rw [if_pos ⟨h3, hp, hb⟩, if_neg hb]
              · rw [if_neg (fun y => h3 y.1), if_neg h3]
            · rw [uf_ne hjc] at h9
              obtain ⟨lg, -, g2, -, -⟩ := hL2
              refine (f5.2 9 j 1 rfl).trans ((g2 j (by omega)).1.trans ?_)
              unfold tx_lgv; rw [uf_ne hjc, uf_ne hjc, if_neg h9, if_neg h9]
          · have FL6 : fr fp_lc σ (st_up σ6 3 0 1 0) := fr_up (fr_tr FL2 (fr_tr (fr_w _ f5 rfl) (fr_tr (fr_up fr_rf rfl) (fr_w _ f6 rfl)))) rfl
            have e71 : σ6.1 7 0 1 - 1 = Int32.ofNat c := by
              rw [show σ6.1 7 0 1 = Int32.ofNat (c + 1) from (f6.2 7 0 1 rfl).trans (up_eq ..), show (1 : Int32) = Int32.ofNat 1 from rfl, n_sub (by omega), Nat.add_sub_cancel]
            rw [e71]
            refine refN FL6 (fun σ4 f4 mr m4 => ?_) rfl
            have hle : Int32.ofNat l + Int32.ofNat ((lq (aL row E k) (l, na, sb) (sW row E - 1 - kc k)).1 - l) ≤ 12 := by
              rw [n_add, show (12 : Int32) = Int32.ofNat 12 from rfl, n_le (by omega) (by omega)]; omega
            obtain ⟨q16, q17, q18, q19, q20, q21, q39⟩ := mr
            refine w_M_lineRead_96 (fun _ => ?_) (fun _ => ?_) (fun y => absurd hle y)
            · rw [m4.1]; exact n_inb (by omega) (by omega)
            · rw [m4.1, n_cl (by omega), q16, q17, q18, q19, q20, q21]
              have FW : fr [(30, 999), (31, 999), (32, 999), (33, 999), (34, 999), (35, 999)] σ4 (st_up (st_up (st_up (st_up (st_up (st_up σ4 30 0 c (kd_op k)) 31 0 c (Int32.ofNat (aR row E k 0))) 32 0 c (Int32.ofNat (aR row E k 1))) 33 0 c (Int32.ofNat (aR row E k 2))) 34 0 c (aN row E k)) 35 0 c (Int32.ofNat (sW row E - 1 - kc k))) := fr_up (fr_up (fr_up (fr_up (fr_up (fr_up fr_rf rfl) rfl) rfl) rfl) rfl) rfl
              have hs4 : mLs (l, na, sb) (st_up (st_up (st_up (st_up (st_up (st_up σ4 30 0 c (kd_op k)) 31 0 c (Int32.ofNat (aR row E k 0))) 32 0 c (Int32.ofNat (aR row E k 1))) 33 0 c (Int32.ofNat (aR row E k 2))) 34 0 c (aN row E k)) 35 0 c (Int32.ofNat (sW row E - 1 - kc k))) := ⟨m4.2.1, m4.2.2.1⟩
              refine s_mnames (s := (l, na, sb)) (X := aL row E k) (c := c) hM4 (by omega) h12 (sW row E - 1 - kc k) 0 _ (by omega) m4.1 q21 q39 hs4 (fun j hj => by omega) (fun σ7 f7 g7 c7 k7 => ⟨rfl, ?_, ?_⟩)
              · exact fr_up (fr_tr f4 (fr_tr (fr_w _ FW rfl) (fr_w _ f7 rfl))) rfl
              · have G : fr fp_lm (st_up σ6 3 0 1 0) (st_up (st_up σ7 26 0 12 (Int32.ofNat (c + 1))) 26 0 3 0) := fr_up (fr_up (fr_tr f4 (fr_tr (fr_w _ FW rfl) (fr_w _ f7 rfl))) rfl) rfl
                have FC : fr [(3, 1), (9, 1), (9, 7), (7, 3), (7, 4)] (st_up σ5 7 0 1 (Int32.ofNat (c + 1))) (st_up σ6 3 0 1 0) := fr_up (fr_w _ f6 rfl) rfl
                refine ⟨c + 1, _, _, _, _, _, _, _, _, hV', (hC5.ag (fr_ag FC rfl)).ag (fr_ag G rfl), ⟨rfl, c7.1, c7.2, fun i hi => ?_⟩, (hL6.ag (fr_ag (l := [(3, 1)]) (fr_up fr_rf rfl) rfl)).ag (fr_ag G rfl)⟩
                by_cases hic : i = c
                · subst hic
                  rw [uf_eq, uf_eq, uf_eq, uf_eq, uf_eq]
                  exact ⟨(f7.2 30 0 i rfl).trans ((up_k (by decide)).trans ((up_k (by decide)).trans ((up_k (by decide)).trans ((up_k (by decide)).trans ((up_k (by decide)).trans (up_eq ..)))))), (f7.2 31 0 i rfl).trans ((up_k (by decide)).trans ((up_k (by decide)).trans ((up_k (by decide)).trans ((up_k (by decide)).trans (up_eq ..))))), (f7.2 32 0 i rfl).trans ((up_k (by decide)).trans ((up_k (by decide)).trans ((up_k (by decide)).trans (up_eq ..)))), (f7.2 33 0 i rfl).trans ((up_k (by decide)).trans ((up_k (by decide)).trans (up_eq ..))), (f7.2 34 0 i rfl).trans ((up_k (by decide)).trans (up_eq ..)), (f7.2 35 0 i rfl).trans (up_eq ..), fun q hq => k7 q hq⟩
                · rw [uf_ne hic, uf_ne hic, uf_ne hic, uf_ne hic, uf_ne hic]
                  obtain ⟨a1, a2, a3, a4, a5, a6, a7⟩ := m4.2.2.2 i (by omega)
                  have am : m i ≤ 4 := by
                    obtain ⟨b1, -, -, -, -, -, -, -, b9, b10, -⟩ := hV.2.2.1 i (by omega)
                    by_cases h15 : e i = 15
                    · exact (b10 h15).2
                    · rw [b9 h15]
                      have := (ar_ok (e i) b1).2.2.2.1; omega
                  refine ⟨(f7.2 30 0 i rfl).trans ?_, (f7.2 31 0 i rfl).trans ?_, (f7.2 32 0 i rfl).trans ?_, (f7.2 33 0 i rfl).trans ?_, (f7.2 34 0 i rfl).trans ?_, (f7.2 35 0 i rfl).trans ?_, fun q hq => (g7 _ (by omega)).trans (a7 q hq)⟩
                  · exact (up_k (by decide)).trans ((up_k (by decide)).trans ((up_k (by decide)).trans ((up_k (by decide)).trans ((up_k (by decide)).trans ((up_j hic).trans a1)))))
                  · exact (up_k (by decide)).trans ((up_k (by decide)).trans ((up_k (by decide)).trans ((up_k (by decide)).trans ((up_j hic).trans a2))))
                  · exact (up_k (by decide)).trans ((up_k (by decide)).trans ((up_k (by decide)).trans ((up_j hic).trans a3)))
                  · exact (up_k (by decide)).trans ((up_k (by decide)).trans ((up_j hic).trans a4))
                  · exact (up_k (by decide)).trans ((up_j hic).trans a5)
                  · exact (up_j hic).trans a6
