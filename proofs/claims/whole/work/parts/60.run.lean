abbrev fp_rM : List (Nat × Nat) := [(26, 28), (26, 29), (26, 30), (26, 31), (26, 32), (26, 33), (26, 34), (26, 35), (26, 41), (26, 42), (26, 43), (26, 44), (46, 999)]
theorem k_opx : ∀ e, e < 16 → ∀ o, o < 16 → kd_op e = kd_op o → e = o := by decide +kernel
theorem s_choose {σ : st_S} {n a : Nat} {w : Nat → Nat} {f : Nat → Int32} (hV : cc_V n w) (hM : cc_M n w σ) (hm : rd_M n w a 14 σ) (hp : σ.1 26 0 41 = Int32.ofNat a) (hf : ∀ j, j < 16 → σ.1 46 0 j = f j) {Q : st_S → Option eg_V → Prop}
    (K : ∀ σ', fr fp_L σ σ' → Q σ' (some (.inl (Int32.ofNat a + mtd n w (ru 14 (rn n w a)) (Int32.ofNat a + rf w 14 (w a) (rn n w a) a) (f (w a / 256 % 16)))))) :
    pw_E 131 0 σ (0, 0) [(0, .inr (26, 0))] [] Q := by
  obtain ⟨m0, m1, mA, mB, mC', mN, mD, mM'⟩ := hm
  have mA : σ.1 26 0 30 = Int32.ofNat (w a / 256 % 16) := mA
  have mD : σ.1 26 0 34 = rf w 14 (w a) (rn n w a) a := mD
  refine w_M_choose_0 (by rw [mA]; exact n_inb (by omega) (by omega)) ?_
  rw [hp, mD, m1, mA, n_cl (by omega), hf _ (by omega)]
  generalize f (w a / 256 % 16) = r at K ⊢
  unfold mtd at K
  refine m_read hV hM (fun σ1 f1 hx => ?_) (fun σ1 a' e' f1 hx hr ok hc' => ?_)
  · rw [hx] at K
    exact w_M_choose_41 (fun _ => K σ1 f1) (fun z => absurd rfl z) (fun z => absurd rfl z) (fun z => absurd rfl z) (fun z => absurd rfl z)
  · rw [hr] at K
    have K : Q σ1 (some (.inl (Int32.ofNat a + if e' = 15 ∧ ¬ r - rf w e' (w a') (rn n w a') a' < 0 ∧ r - rf w e' (w a') (rn n w a') a' < Int32.ofNat (rn n w a') then sg (w (a' + 3 + (r - rf w e' (w a') (rn n w a') a').toNatClampNeg)) 65536 else Int32.ofNat (ru 14 (rn n w a))))) := K σ1 f1
    obtain ⟨d0, d1, dA, dB, dC, dN, dD, dM⟩ := hc'
    have he' := rk_lt ok.2.1
    refine w_M_choose_41 (fun z => absurd z (by decide)) (fun _ g1 g2 => ?_) (fun _ g1 g2 g3 => ?_) (fun _ g1 g2 g3 => ?_) (fun _ g1 => ?_)
    · rw [d0] at g1
      have z : e' = 15 := k_opx e' he' 15 (by omega) g1
      subst z
      have dN : σ1.1 26 0 33 = rf w 15 (w a') (rn n w a') a' := dN
      rw [dN] at g2
      rw [if_neg (fun z => z.2.1 g2)] at K
      exact K
    · rw [d0] at g1
      have z : e' = 15 := k_opx e' he' 15 (by omega) g1
      subst z
      have dN : σ1.1 26 0 33 = rf w 15 (w a') (rn n w a') a' := dN
      have dM : σ1.1 26 0 35 = Int32.ofNat (rn n w a') := dM
      have h1 := ok.2.2.1 rfl
      rw [dN] at g2 g3
      obtain ⟨k, hkk, e1⟩ := n_of' g2
      rw [dM, e1, show (1 : Int32) = Int32.ofNat 1 from rfl, n_sub (by omega), n_lt (by omega) hkk] at g3
      rw [if_neg (fun z => by have := z.2.2; rw [e1, n_lt hkk (by omega)] at this; omega)] at K
      exact K
    · rw [d0] at g1
      have z : e' = 15 := k_opx e' he' 15 (by omega) g1
      subst z
      have dN : σ1.1 26 0 33 = rf w 15 (w a') (rn n w a') a' := dN
      have dM : σ1.1 26 0 35 = Int32.ofNat (rn n w a') := dM
      have h1 := ok.2.2.1 rfl
      have h2 : a' + (3 + rn n w a') ≤ n := ok.2.2.2
      rw [dN] at g2 g3 ⊢
      obtain ⟨k, hkk, e1⟩ := n_of' g2
      rw [dM, e1, show (1 : Int32) = Int32.ofNat 1 from rfl, n_sub (by omega), n_lt (by omega) hkk] at g3
      rw [if_pos ⟨rfl, g2, by rw [e1, n_lt hkk (by omega)]; omega⟩] at K
      rw [e1] at K ⊢
      rw [n_cl hkk] at K
      rw [hx]
      exact s_caseAt hV (hM.ag (fr_ag f1 rfl)) (by omega) (w_M_choose_92 K)
    · rw [d0] at g1
      rw [if_neg (fun z => g1 (by rw [z.1]; rfl))] at K
      exact K
theorem s_mstep {σ : st_S} {n a e : Nat} {w : Nat → Nat} {m : MS} (hV : cc_V n w) (hM : cc_M n w σ) (ok : rd_ok n w a e) (hm : rd_M n w a e σ) (mm : mM m σ) (hp : m.2.1 = Int32.ofNat a) {Q : st_S → Option eg_V → Prop}
    (K : ∀ σ', fr fp_rM σ σ' → mM (mst n w a e m) σ' → Q σ' none) : pw_E 130 0 σ (0, 0) [(0, .inr (26, 0))] [] Q := by
  have he := rk_lt ok.2.1
  have hm' := hm
  obtain ⟨m0, m1, mA, mB, mC', mN, mD, mM'⟩ := hm
  obtain ⟨q0, q1, q2, q3, q4⟩ := mm
  have hA : w a / 256 % 16 < 16 := by omega
  have hB : rb e (w a) (rn n w a) < 16 := by unfold rb; split <;> omega
  have hC : rc e (rn n w a) < 16 := by unfold rc; split <;> omega
  have fin : ∀ σ' x, fr fp_rM σ σ' → (∀ j, j < 16 → σ'.1 46 0 j = (mst n w a e m).1 j) → x = (mst n w a e m).2.1 → σ'.1 26 0 42 = m.2.2.1 → σ'.1 26 0 43 = (mst n w a e m).2.2.2.1 → σ'.1 26 0 44 = (mst n w a e m).2.2.2.2 → pw_E 130 399 σ' (0, 0) [(0, .inr (26, 0)), (1, .inl x)] [] Q := fun σ' x f1 f2 f3 f4 f5 f6 => by
    refine w_M_step_399 (K _ (fr_up (fr_up f1 rfl) rfl) ⟨f2, f3, ?_, f5, f6⟩)
    refine (up_eq ..).trans ?_
    rw [f4]
    rfl
  have hregs : (mst n w a e m).1 = mcal e (w a / 256 % 16) (rb e (w a) (rn n w a)) (rc e (rn n w a)) (rf w e (w a) (rn n w a) a) m.1 := rfl
  have hcal : e ≠ 1 → e ≠ 3 → e ≠ 4 → e ≠ 5 → e ≠ 6 → e ≠ 7 → e ≠ 8 → (mst n w a e m).1 = m.1 := fun h1 h2 h3 h4 h5 h6 h7 => by
    rw [hregs]; unfold mcal
    rw [if_neg (by omega), if_neg (by omega), if_neg (by omega), if_neg (by omega), if_neg (by omega), if_neg (by omega)]
  have hst : e ≠ 2 → (mst n w a e m).2.2.2.1 = m.2.2.2.1 ∧ (mst n w a e m).2.2.2.2 = m.2.2.2.2 := fun h => ⟨if_neg h, if_neg h⟩
  have hpl : e ≠ 2 → e ≠ 14 → mlp e (w a / 256 % 16) (rb e (w a) (rn n w a)) m.1 = false → (mst n w a e m).2.1 = m.2.1 + Int32.ofNat (ru e (rn n w a)) := fun h1 h2 h3 => by
    show (if e = 2 then m.2.1 else if e = 14 then _ else if mlp e (w a / 256 % 16) (rb e (w a) (rn n w a)) m.1 = true then _ else _) = _
    rw [if_neg h1, if_neg h2, if_neg (by rw [h3]; decide)]
  have hplT : e ≠ 2 → e ≠ 14 → mlp e (w a / 256 % 16) (rb e (w a) (rn n w a)) m.1 = true → (mst n w a e m).2.1 = m.2.1 + rf w e (w a) (rn n w a) a := fun h1 h2 h3 => by
    show (if e = 2 then m.2.1 else if e = 14 then _ else if mlp e (w a / 256 % 16) (rb e (w a) (rn n w a)) m.1 = true then _ else _) = _
    rw [if_neg h1, if_neg h2, if_pos h3, hp]
  have lpF : ¬ (e = 9 ∨ e = 10 ∨ (e = 11 ∧ m.1 (w a / 256 % 16) = m.1 (rb e (w a) (rn n w a))) ∨ (e = 12 ∧ m.1 (w a / 256 % 16) < m.1 (rb e (w a) (rn n w a))) ∨ (e = 13 ∧ m.1 (w a / 256 % 16) = 0)) → mlp e (w a / 256 % 16) (rb e (w a) (rn n w a)) m.1 = false := fun h => decide_eq_false h
  have lpT : (e = 9 ∨ e = 10 ∨ (e = 11 ∧ m.1 (w a / 256 % 16) = m.1 (rb e (w a) (rn n w a))) ∨ (e = 12 ∧ m.1 (w a / 256 % 16) < m.1 (rb e (w a) (rn n w a))) ∨ (e = 13 ∧ m.1 (w a / 256 % 16) = 0)) → mlp e (w a / 256 % 16) (rb e (w a) (rn n w a)) m.1 = true := fun h => decide_eq_true h
  have kr1 : e ≠ 0 → e ≠ 9 → e ≠ 10 → e ≠ 15 → 1 ≤ kr e := (by decide +kernel : ∀ e, e < 16 → e ≠ 0 → e ≠ 9 → e ≠ 10 → e ≠ 15 → 1 ≤ kr e) e he
  have kr2 : e = 1 ∨ (5 ≤ e ∧ e ≤ 8) ∨ e = 11 ∨ e = 12 → 2 ≤ kr e := (by decide +kernel : ∀ e, e < 16 → e = 1 ∨ (5 ≤ e ∧ e ≤ 8) ∨ e = 11 ∨ e = 12 → 2 ≤ kr e) e he
  have kr3 : (5 ≤ e ∧ e ≤ 7) → 3 ≤ kr e := (by decide +kernel : ∀ e, e < 16 → (5 ≤ e ∧ e ≤ 7) → 3 ≤ kr e) e he
  have kn1 : e = 3 ∨ e = 4 ∨ e = 8 → kn e = true := (by decide +kernel : ∀ e, e < 16 → e = 3 ∨ e = 4 ∨ e = 8 → kn e = true) e he
  have kg1 : (9 ≤ e ∧ e ≤ 14) → kd_goes e = 1 := (by decide +kernel : ∀ e, e < 16 → (9 ≤ e ∧ e ≤ 14) → kd_goes e = 1) e he
  have rA : e ≠ 0 → e ≠ 9 → e ≠ 10 → e ≠ 15 → σ.1 26 0 30 = Int32.ofNat (w a / 256 % 16) := fun h1 h2 h3 h4 => by rw [mA, if_pos (kr1 h1 h2 h3 h4)]
  have rN : e = 3 ∨ e = 4 ∨ e = 8 → σ.1 26 0 33 = rf w e (w a) (rn n w a) a := fun h => by rw [mN, if_pos (kn1 h)]
  have rD : (9 ≤ e ∧ e ≤ 14) → σ.1 26 0 34 = rf w e (w a) (rn n w a) a := fun h => by rw [mD, if_pos (kg1 h)]
  have opi : ∀ o, o < 16 → σ.1 26 0 28 = kd_op o → e = o := fun o ho h => k_opx e he o ho (m0.symm.trans h)
  have nopi : ∀ o, o < 16 → ¬ σ.1 26 0 28 = kd_op o → e ≠ o := fun o ho h z => h (by rw [m0, z])
  have step72 : ∀ X2 X3 X4, (1 ≤ kr e → X2 = m.1 (w a / 256 % 16)) → (2 ≤ kr e → X3 = m.1 (rb e (w a) (rn n w a))) → (3 ≤ kr e → X4 = m.1 (rc e (rn n w a))) → pw_E 130 72 σ (0, 0) [(0, .inr (26, 0)), (1, .inl (σ.1 26 0 41 + σ.1 26 0 29)), (2, .inl X2), (3, .inl X3)] [.inl X4] Q := by
    intro X2 X3 X4 x2 x3 x4
    rw [q1, m1]
    have reg : ∀ x, (mst n w a e m).1 = mu m.1 (w a / 256 % 16) x → e ≠ 2 → e ≠ 14 → (e < 9 ∨ e = 15) → e ≠ 0 → e ≠ 15 → pw_E 130 399 (st_up σ 46 0 (σ.1 26 0 30).toNatClampNeg x) (0, 0) [(0, .inr (26, 0)), (1, .inl (m.2.1 + Int32.ofNat (ru e (rn n w a))))] [] Q := fun x hx h2 h14 h9 h0 h15 => by
      rw [rA h0 (by omega) (by omega) h15, n_cl (by omega)]
      refine fin _ _ (fr_up fr_rf rfl) (fun j hj => ?_) (hpl h2 h14 (lpF (by omega))).symm q2 (q3.trans (hst h2).1.symm) (q4.trans (hst h2).2.symm)
      rw [mu_up q0 j hj, hx]
    have inb : e ≠ 0 → e ≠ 9 → e ≠ 10 → e ≠ 15 → eg_inb (σ.1 26 0 30) 16 = true := fun h1 h2 h3 h4 => by rw [rA h1 h2 h3 h4]; exact n_inb (by omega) (by omega)
    have stay : e ≠ 1 → e ≠ 3 → e ≠ 4 → e ≠ 5 → e ≠ 6 → e ≠ 7 → e ≠ 8 → e ≠ 2 → ∀ x, x = (mst n w a e m).2.1 → pw_E 130 399 σ (0, 0) [(0, .inr (26, 0)), (1, .inl x)] [] Q := fun h1 h2 h3 h4 h5 h6 h7 h8 x hx =>
      fin _ _ fr_rf (fun j hj => by rw [hcal h1 h2 h3 h4 h5 h6 h7]; exact q0 j hj) hx q2 (q3.trans (hst h8).1.symm) (q4.trans (hst h8).2.symm)
    refine w_M_step_72 (fun h => ?_) (fun h => ?_) (fun h => ?_) (fun h => ?_) (fun h => ?_) (fun h => ?_) (fun h => ?_) (fun h => ?_) (fun h => ?_) (fun h => ?_) (fun h h' => ?_) (fun h h' => ?_) (fun h h' => ?_) (fun h h' => ?_) (fun h h' => ?_) (fun h h' => ?_) (fun h => ?_) (fun h => ?_) (fun h => ?_) (fun h => ?_) (fun h => ?_) (fun h => ?_) (fun h => ?_) (fun h => ?_) (fun h1 h2 h3 h4 h5 h6 h7 h8 h9 h10 h11 h12 h13 h14 => ?_)
    · have z := opi 1 (by omega) h
      exact inb (by omega) (by omega) (by omega) (by omega)
    · have z := opi 1 (by omega) h
      refine reg _ ?_ (by omega) (by omega) (by omega) (by omega) (by omega)
      rw [hregs, x3 (kr2 (by omega))]; unfold mcal; rw [if_pos z]
    · have z := opi 2 (by omega) h
      rw [x2 (kr1 (by omega) (by omega) (by omega) (by omega)), q1]
      refine fin _ _ (fr_up (fr_up fr_rf rfl) rfl) (fun j hj => ?_) ?_ q2 ?_ ?_
      · rw [hcal (by omega) (by omega) (by omega) (by omega) (by omega) (by omega) (by omega)]; exact q0 j hj
      · exact (if_pos z).symm
      · exact (if_pos z).symm
      · exact (up_eq ..).trans (if_pos z).symm
    · have z := opi 3 (by omega) h
      exact inb (by omega) (by omega) (by omega) (by omega)
    · have z := opi 3 (by omega) h
      refine reg _ ?_ (by omega) (by omega) (by omega) (by omega) (by omega)
      rw [hregs, rN (by omega)]; unfold mcal; rw [if_neg (by omega), if_pos (by omega)]
    · have z := opi 4 (by omega) h
      exact inb (by omega) (by omega) (by omega) (by omega)
    · have z := opi 4 (by omega) h
      refine reg _ ?_ (by omega) (by omega) (by omega) (by omega) (by omega)
      rw [hregs, rN (by omega)]; unfold mcal; rw [if_neg (by omega), if_pos (by omega)]
    · have z := opi 9 (by omega) h
      rw [q1, rD (by omega)]
      exact stay (by omega) (by omega) (by omega) (by omega) (by omega) (by omega) (by omega) (by omega) _ (hplT (by omega) (by omega) (lpT (Or.inl z))).symm
    · have z := opi 10 (by omega) h
      rw [q1, rD (by omega)]
      exact stay (by omega) (by omega) (by omega) (by omega) (by omega) (by omega) (by omega) (by omega) _ (hplT (by omega) (by omega) (lpT (Or.inr (Or.inl z)))).symm
    · have z := opi 14 (by omega) h
      subst z
      refine s_choose hV hM hm' (q1.trans hp) q0 (fun σ1 f1 => w_M_step_377 ?_)
      refine fin σ1 _ (fr_w _ f1 rfl) (fun j hj => ?_) ?_ ((f1.2 26 0 42 rfl).trans q2) ((f1.2 26 0 43 rfl).trans q3) ((f1.2 26 0 44 rfl).trans q4)
      · exact (f1.2 46 0 j rfl).trans (q0 j hj)
      · show _ = m.2.1 + _
        rw [hp]
    · have z := opi 11 (by omega) h
      rw [x2 (kr1 (by omega) (by omega) (by omega) (by omega)), x3 (kr2 (by omega))] at h'
      rw [q1, rD (by omega)]
      exact w_M_step_326 (stay (by omega) (by omega) (by omega) (by omega) (by omega) (by omega) (by omega) (by omega) _ (hplT (by omega) (by omega) (lpT (Or.inr (Or.inr (Or.inl ⟨z, h'⟩))))).symm)
    · have z := opi 11 (by omega) h
      rw [x2 (kr1 (by omega) (by omega) (by omega) (by omega)), x3 (kr2 (by omega))] at h'
      refine w_M_step_326 (stay (by omega) (by omega) (by omega) (by omega) (by omega) (by omega) (by omega) (by omega) _ (hpl (by omega) (by omega) (lpF (fun y => ?_))).symm)
      rcases y with y | y | y | y | y
      · omega
      · omega
      · exact h' y.2
      · omega
      · omega
    · have z := opi 12 (by omega) h
      rw [x2 (kr1 (by omega) (by omega) (by omega) (by omega)), x3 (kr2 (by omega))] at h'
      refine w_M_step_348 (stay (by omega) (by omega) (by omega) (by omega) (by omega) (by omega) (by omega) (by omega) _ (hpl (by omega) (by omega) (lpF (fun y => ?_))).symm)
      rcases y with y | y | y | y | y
      · omega
      · omega
      · omega
      · exact absurd y.2 (Int32.not_lt.mpr h')
      · omega
    · have z := opi 12 (by omega) h
      rw [x2 (kr1 (by omega) (by omega) (by omega) (by omega)), x3 (kr2 (by omega))] at h'
      rw [q1, rD (by omega)]
      exact w_M_step_348 (stay (by omega) (by omega) (by omega) (by omega) (by omega) (by omega) (by omega) (by omega) _ (hplT (by omega) (by omega) (lpT (Or.inr (Or.inr (Or.inr (Or.inl ⟨z, Int32.not_le.mp h'⟩)))))).symm)
    · have z := opi 13 (by omega) h
      rw [x2 (kr1 (by omega) (by omega) (by omega) (by omega))] at h'
      rw [q1, rD (by omega)]
      exact w_M_step_369 (stay (by omega) (by omega) (by omega) (by omega) (by omega) (by omega) (by omega) (by omega) _ (hplT (by omega) (by omega) (lpT (Or.inr (Or.inr (Or.inr (Or.inr ⟨z, h'⟩)))))).symm)
    · have z := opi 13 (by omega) h
      rw [x2 (kr1 (by omega) (by omega) (by omega) (by omega))] at h'
      refine w_M_step_369 (stay (by omega) (by omega) (by omega) (by omega) (by omega) (by omega) (by omega) (by omega) _ (hpl (by omega) (by omega) (lpF (fun y => ?_))).symm)
      rcases y with y | y | y | y | y
      · omega
      · omega
      · omega
      · omega
      · exact h' y.2
    · have z := opi 5 (by omega) h
      exact inb (by omega) (by omega) (by omega) (by omega)
    · have z := opi 5 (by omega) h
      refine reg _ ?_ (by omega) (by omega) (by omega) (by omega) (by omega)
      rw [hregs, x3 (kr2 (by omega)), x4 (kr3 (by omega))]; unfold mcal; rw [if_neg (by omega), if_neg (by omega), if_pos (by omega)]
    · have z := opi 6 (by omega) h
      exact inb (by omega) (by omega) (by omega) (by omega)
    · have z := opi 6 (by omega) h
      refine reg _ ?_ (by omega) (by omega) (by omega) (by omega) (by omega)
      rw [hregs, x3 (kr2 (by omega)), x4 (kr3 (by omega))]; unfold mcal; rw [if_neg (by omega), if_neg (by omega), if_neg (by omega), if_pos (by omega)]
    · have z := opi 7 (by omega) h
      exact inb (by omega) (by omega) (by omega) (by omega)
    · have z := opi 7 (by omega) h
      refine reg _ ?_ (by omega) (by omega) (by omega) (by omega) (by omega)
      rw [hregs, x3 (kr2 (by omega)), x4 (kr3 (by omega))]; unfold mcal; rw [if_neg (by omega), if_neg (by omega), if_neg (by omega), if_neg (by omega), if_pos (by omega)]
    · have z := opi 8 (by omega) h
      exact inb (by omega) (by omega) (by omega) (by omega)
    · have z := opi 8 (by omega) h
      refine reg _ ?_ (by omega) (by omega) (by omega) (by omega) (by omega)
      rw [hregs, x3 (kr2 (by omega)), rN (by omega)]; unfold mcal; rw [if_neg (by omega), if_neg (by omega), if_neg (by omega), if_neg (by omega), if_neg (by omega), if_pos (by omega)]
    · have z1 := nopi 1 (by omega) h1
      have z2 := nopi 2 (by omega) h2
      have z3 := nopi 3 (by omega) h3
      have z4 := nopi 4 (by omega) h4
      have z5 := nopi 9 (by omega) h5
      have z6 := nopi 10 (by omega) h6
      have z7 := nopi 14 (by omega) h7
      have z8 := nopi 11 (by omega) h8
      have z9 := nopi 12 (by omega) h9
      have z10 := nopi 13 (by omega) h10
      have z11 := nopi 5 (by omega) h11
      have z12 := nopi 6 (by omega) h12
      have z13 := nopi 7 (by omega) h13
      have z14 := nopi 8 (by omega) h14
      exact stay z1 z3 z4 z11 z12 z13 z14 z2 _ (hpl z2 z7 (lpF (by omega))).symm
  have to51 : ∀ X2 X3, (1 ≤ kr e → X2 = m.1 (w a / 256 % 16)) → (2 ≤ kr e → X3 = m.1 (rb e (w a) (rn n w a))) → pw_E 130 51 σ (0, 0) [(0, .inr (26, 0)), (1, .inl (σ.1 26 0 41 + σ.1 26 0 29)), (2, .inl X2)] [.inl X3] Q := by
    intro X2 X3 x2 x3
    by_cases hr : 3 ≤ kr e
    · rw [if_pos hr] at mC'
      refine w_M_step_51 (fun _ => by rw [mC']; exact n_inb (by omega) (by omega)) (fun _ => step72 _ _ _ x2 x3 (fun _ => ?_)) (fun h => absurd ?_ h)
      · rw [mC', n_cl (by omega)]; exact q0 _ hC
      · rw [mC']; exact n_0le (by omega)
    · rw [if_neg hr] at mC'
      refine w_M_step_51 (fun h => ?_) (fun h => ?_) (fun _ => step72 _ _ _ x2 x3 (fun z => absurd z hr))
      all_goals (rw [mC'] at h; exact absurd h (by decide))
  have to30 : ∀ X2, (1 ≤ kr e → X2 = m.1 (w a / 256 % 16)) → pw_E 130 30 σ (0, 0) [(0, .inr (26, 0)), (1, .inl (σ.1 26 0 41 + σ.1 26 0 29))] [.inl X2] Q := by
    intro X2 x2
    by_cases hr : 2 ≤ kr e
    · rw [if_pos hr] at mB
      refine w_M_step_30 (fun _ => by rw [mB]; exact n_inb (by omega) (by omega)) (fun _ => to51 _ _ x2 (fun _ => ?_)) (fun h => absurd ?_ h)
      · rw [mB, n_cl (by omega)]; exact q0 _ hB
      · rw [mB]; exact n_0le (by omega)
    · rw [if_neg hr] at mB
      refine w_M_step_30 (fun h => ?_) (fun h => ?_) (fun _ => to51 _ _ x2 (fun z => absurd z hr))
      all_goals (rw [mB] at h; exact absurd h (by decide))
  by_cases hr : 1 ≤ kr e
  · rw [if_pos hr] at mA
    refine w_M_step_0 (fun _ => by rw [mA]; exact n_inb (by omega) (by omega)) (fun _ => to30 _ (fun _ => ?_)) (fun h => absurd ?_ h)
    · rw [mA, n_cl (by omega)]; exact q0 _ hA
    · rw [mA]; exact n_0le (by omega)
  · rw [if_neg hr] at mA
    refine w_M_step_0 (fun h => ?_) (fun h => ?_) (fun _ => to30 _ (fun z => absurd z hr))
    all_goals (rw [mA] at h; exact absurd h (by decide))
theorem s_mrun {n N : Nat} {w : Nat → Nat} (hV : cc_V n w) (hN : N ≤ 30) {Q : st_S → Option eg_V → Prop} : ∀ d k (σ : st_S) (m : MS), k + d = N → cc_M n w σ → mM m σ →
    (∀ σ', fr fp_rM σ σ' → mM (mrun n w d k m).1 σ' → Q σ' (some (.inl (mrun n w d k m).2))) →
    pw_E 129 14 σ (0, 0) [(0, .inr (26, 0)), (1, .inl (Int32.ofNat N)), (2, .inl (Int32.ofNat k))] [] Q := by
  intro d
  induction d with
  | zero =>
    intro k σ m hk hM hm K
    have hc : Int32.ofNat N ≤ Int32.ofNat k := by rw [n_le (by omega) (by omega)]; omega
    exact w_M_run_14 (fun _ => K σ fr_rf hm) (fun h => absurd hc h) (fun h => absurd hc h)
  | succ d ih =>
    intro k σ m hk hM hm K
    have hc : ¬ Int32.ofNat N ≤ Int32.ofNat k := by rw [n_le (by omega) (by omega)]; omega
    obtain ⟨mf, m1, m2, m3, m4⟩ := hm
    refine w_M_run_14 (fun h => absurd h hc) (fun _ h => ?_) (fun _ h => ?_)
    · rw [m3] at h
      have K' : ∀ σ', fr fp_rM σ σ' → mM (match rdx n w m.2.1 with | none => ((m.1, m.2.1, m.2.2.1, 2, m.2.2.2.2), (-7 : Int32)) | some (a, e) => mrun n w d (k + 1) (mst n w a e m)).1 σ' → Q σ' (some (.inl (match rdx n w m.2.1 with | none => ((m.1, m.2.1, m.2.2.1, 2, m.2.2.2.2), (-7 : Int32)) | some (a, e) => mrun n w d (k + 1) (mst n w a e m)).2)) := by
        have K2 := K
        unfold mrun at K2
        rw [if_pos h] at K2
        exact K2
      rw [m1]
      refine m_read hV hM (fun σ1 f hx => ?_) (fun σ1 a e f hx hr ok hcc => ?_)
      · rw [hx] at K'
        exact w_M_run_34 (fun _ => K' _ (fr_up (fr_w _ f rfl) rfl) ⟨fun j hj => (f.2 46 0 j rfl).trans (mf j hj), (f.2 26 0 41 rfl).trans m1, (f.2 26 0 42 rfl).trans m2, up_eq .., (f.2 26 0 44 rfl).trans m4⟩) (fun z => absurd rfl z)
      · rw [hr] at K'
        refine w_M_run_34 (fun z => absurd z (by decide)) (fun _ => ?_)
        refine s_mstep (m := m) hV (hM.ag (fr_ag f rfl)) ok hcc ⟨fun j hj => (f.2 46 0 j rfl).trans (mf j hj), (f.2 26 0 41 rfl).trans m1, (f.2 26 0 42 rfl).trans m2, (f.2 26 0 43 rfl).trans m3, (f.2 26 0 44 rfl).trans m4⟩ hx (fun σ2 f2 hm2 => w_M_run_51 ?_)
        rw [show Int32.ofNat k + 1 = Int32.ofNat (k + 1) from n_add k 1]
        have F : fr fp_rM σ σ2 := fr_tr (fr_w _ f rfl) f2
        exact ih (k + 1) _ (mst n w a e m) (by omega) (hM.ag (fr_ag F rfl)) hm2 (fun σ4 f4 hm4 => K' σ4 (fr_tr F f4) hm4)
    · rw [m3] at h
      have K2 := K σ fr_rf
      unfold mrun at K2
      rw [if_neg h] at K2
      exact K2 ⟨mf, m1, m2, m3, m4⟩
theorem cs_run (xs : Nat → Int32) (L : Nat) (x : Int32) : CallS xs L 78 129 [.inl x] := by
  intro σ r
  obtain ⟨n, w, hV, hC, hM⟩ := r.2.2.1
  refine w_U_run_0 (fun h => ⟨_, rfl, ?_⟩) (fun h1 h2 => ?_) (fun h1 h2 => ⟨_, rfl, ?_⟩)
  · exact w_M_run_0 (fun _ => ⟨rfl, r⟩) (fun h' => absurd h h') (fun h' => absurd h h')
  · have h2' : ¬ (30 : Int32) < x := Int32.not_lt.mpr h2
    have h0 : ¬ x < 0 := fun z => h1 (z_lt.mpr (Int.lt_trans (z_lt.mp z) (by decide)))
    obtain ⟨N, hN, rfl⟩ := n_in h0 (b := 30) (by omega) h2'
    obtain ⟨a1, a2, a3, a4, a5, a6, a7⟩ := r
    obtain ⟨b1, b2, b3, b4, b5⟩ := a4
    have mc : mC (σ.1 23 0, σ.1 22 0 1, σ.1 22 0 2, σ.1 22 0 3, σ.1 22 0 4) σ := ⟨fun _ _ => rfl, rfl, rfl, rfl, rfl⟩
    have mm : mM (σ.1 23 0, σ.1 22 0 1, σ.1 22 0 2, σ.1 22 0 3, σ.1 22 0 4) σ := ⟨fun j hj => (b5 j hj).symm, b1.symm, b2.symm, b3.symm, b4.symm⟩
    generalize (σ.1 23 0, σ.1 22 0 1, σ.1 22 0 2, σ.1 22 0 3, σ.1 22 0 4) = m at mc mm
    refine w_Machine_goOn_0 (s_goOn hV hN N 0 σ m (by omega) hC a5 mc (fun σ1 f1 hR1 hm1 => w_U_run_29 ⟨_, rfl, ?_⟩))
    have mm1 : mM m σ1 := ⟨fun j hj => (f1.2 46 0 j rfl).trans (mm.1 j hj), (f1.2 26 0 41 rfl).trans mm.2.1, (f1.2 26 0 42 rfl).trans mm.2.2.1, (f1.2 26 0 43 rfl).trans mm.2.2.2.1, (f1.2 26 0 44 rfl).trans mm.2.2.2.2⟩
    refine w_M_run_0 (fun h => absurd h h1) (fun _ h => absurd h h2') (fun _ _ => s_mrun hV hN N 0 σ1 m (by omega) (hM.ag (fr_ag f1 rfl)) mm1 (fun σ2 f2 hm2 => ⟨rfl, ?_⟩))
    refine ⟨(a1.ag (fr_ag f1 rfl)).ag (fr_ag f2 rfl), (a2.ag (fr_ag f1 rfl) (fr_ag f1 rfl) (fr_ag f1 rfl)).ag (fr_ag f2 rfl) (fr_ag f2 rfl) (fr_ag f2 rfl), (a3.ag (fr_ag f1 rfl)).ag (fr_ag f2 rfl), ?_, hR1.ag (fr_ag f2 rfl), (a6.ag f1.1 (fr_ag f1 rfl)).ag f2.1 (fr_ag f2 rfl), (a7.ag f1.1 (fr_ag f1 rfl)).ag f2.1 (fr_ag f2 rfl)⟩
    obtain ⟨c0, c1, c2, c3, c4⟩ := hm1
    obtain ⟨d0, d1, d2, d3, d4⟩ := hm2
    exact ⟨((f2.2 22 0 1 rfl).trans c1).trans d1.symm, ((f2.2 22 0 2 rfl).trans c2).trans d2.symm, ((f2.2 22 0 3 rfl).trans c3).trans d3.symm, ((f2.2 22 0 4 rfl).trans c4).trans d4.symm, fun j hj => ((f2.2 23 0 j rfl).trans (c0 j hj)).trans (d0 j hj).symm⟩
  · have h2' : (30 : Int32) < x := Int32.not_le.mp h2
    exact w_M_run_0 (fun _ => ⟨rfl, r⟩) (fun _ _ => ⟨rfl, r⟩) (fun _ h' => absurd h2' h')
