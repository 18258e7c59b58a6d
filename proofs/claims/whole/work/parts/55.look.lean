/-! READING, the reference's way -/
abbrev fp_L : List (Nat × Nat) := [(26, 28), (26, 29), (26, 30), (26, 31), (26, 32), (26, 33), (26, 34), (26, 35)]
theorem sg_lo {v k : Nat} (h : v < k / 2) : Int32.ofNat v = sg v k := by unfold sg; rw [if_neg (by omega)]
theorem sg_hi {v k : Nat} (h : ¬ v < k / 2) : Int32.ofNat v - Int32.ofNat k = sg v k := by unfold sg; rw [if_pos (by omega)]
theorem s_look510 {σ σ1 : st_S} {n a e : Nat} {w : Nat → Nat} (hV : cc_V n w) (ha : a < n) (hM : cc_M n w σ) {Q : st_S → Option eg_V → Prop}
    (K0 : ∀ σ', fr fp_L σ σ' → (∀ e, ¬ rd_ok n w a e) → Q σ' (some (.inl 0)))
    (K1 : ∀ σ' e, fr fp_L σ σ' → rd_ok n w a e → rd_M n w a e σ' → Q σ' (some (.inl 1)))
    (f : fr fp_L σ σ1) (hk : rk (w a) = some e) (h15 : e = 15 → 1 ≤ rn n w a ∧ rn n w a ≤ 4) (hr : rd_M n w a e σ1) : pw_E 120 510 σ1 (0, 0) [(0, .inr (26, 0)), (1, .inl (Int32.ofNat a))] [] Q := by
  have hn := hV.1
  have hru : ru e (rn n w a) ≤ 7 := by
    unfold ru
    split
    · rename_i h; have := h15 h; omega
    · have : ∀ e, e < 16 → ku e ≤ 3 := by decide +kernel
      have := this e (rk_lt hk)
      omega
  have e1 : σ1.1 26 0 27 = Int32.ofNat n := (f.2 26 0 27 rfl).trans hM.1
  have e2 : Int32.ofNat a + σ1.1 26 0 29 = Int32.ofNat (a + ru e (rn n w a)) := by rw [hr.2.1, n_add]
  refine w_M_look_510 (fun h => ?_) (fun h => ?_)
  · rw [e1, e2, n_lt (by omega) (by omega)] at h
    refine w_M_look_528 rfl (K0 σ1 f (fun e' z => ?_))
    have : e' = e := Option.some.inj (z.2.1.symm.trans hk)
    subst this
    have := z.2.2.2
    omega
  · rw [e1, e2, n_lt (by omega) (by omega)] at h
    exact w_M_look_528 rfl (K1 σ1 e f ⟨ha, hk, h15, by omega⟩ hr)
theorem s_look45 {σ : st_S} {n a : Nat} {w : Nat → Nat} (hV : cc_V n w) (ha : a < n) (hM : cc_M n w σ) {Q : st_S → Option eg_V → Prop}
    (K0 : ∀ σ', fr fp_L σ σ' → (∀ e, ¬ rd_ok n w a e) → Q σ' (some (.inl 0)))
    (K1 : ∀ σ' e, fr fp_L σ σ' → rd_ok n w a e → rd_M n w a e σ' → Q σ' (some (.inl 1))) : pw_E 120 45 σ (0, 0) [(0, .inr (26, 0)), (1, .inl (Int32.ofNat a)), (2, .inl (Int32.ofNat (w a)))] [.inl (Int32.ofNat (rn n w a))] Q := by
  have hn := hV.1
  have hW := hV.2 a ha
  have hN : rn n w a < 65536 := by
    unfold rn; split
    · exact hV.2 _ (by assumption)
    · omega
  have L := fun {σ1 : st_S} {e : Nat} => s_look510 (σ := σ) (σ1 := σ1) (e := e) hV ha hM K0 K1
  have hW256 : Int32.ofNat (w a) - Int32.ofNat (w a) / 256 * 256 = Int32.ofNat (w a % 256) := n_rem (b := 256) (by omega) (by omega)
  have op : ∀ c, c < 256 → Int32.ofNat (w a) - Int32.ofNat (w a) / 256 * 256 = Int32.ofNat c → w a % 256 = c := fun c hc h => by
    rw [hW256, n_inj (by omega) (by omega)] at h; exact h
  have nop : ∀ c, c < 256 → ¬ Int32.ofNat (w a) - Int32.ofNat (w a) / 256 * 256 = Int32.ofNat c → w a % 256 ≠ c := fun c hc h => by
    rw [hW256, n_inj (by omega) (by omega)] at h; exact h
  have hA : Int32.ofNat (w a) / 256 - Int32.ofNat (w a) / 256 / 16 * 16 = Int32.ofNat (w a / 256 % 16) := by
    have h1 : Int32.ofNat (w a) / 256 = Int32.ofNat (w a / 256) := n_div (b := 256) (by omega) (by omega)
    rw [h1]
    exact n_rem (b := 16) (by omega) (by omega)
  have hB : Int32.ofNat (w a) / 4096 = Int32.ofNat (w a / 4096 % 16) := by
    have h1 : Int32.ofNat (w a) / 4096 = Int32.ofNat (w a / 4096) := n_div (b := 4096) (by omega) (by omega)
    rw [h1]; congr 1; omega
  have hB2 : Int32.ofNat (rn n w a) - Int32.ofNat (rn n w a) / 16 * 16 = Int32.ofNat (rn n w a % 16) := n_rem (b := 16) (by omega) (by omega)
  have hC : Int32.ofNat (rn n w a) / 256 - Int32.ofNat (rn n w a) / 256 / 16 * 16 = Int32.ofNat (rn n w a / 256 % 16) := by
    have h1 : Int32.ofNat (rn n w a) / 256 = Int32.ofNat (rn n w a / 256) := n_div (b := 256) (by omega) (by omega)
    rw [h1]
    exact n_rem (b := 16) (by omega) (by omega)
  have lo : ∀ v k : Nat, v < 65536 → k ≤ 65536 → Int32.ofNat v < Int32.ofNat (k / 2) → Int32.ofNat v = sg v k := fun v k h1 h2 h => by
    rw [n_lt (by omega) (by omega)] at h; exact sg_lo h
  have hi : ∀ v k : Nat, v < 65536 → k ≤ 65536 → ¬ Int32.ofNat v < Int32.ofNat (k / 2) → Int32.ofNat v - Int32.ofNat k = sg v k := fun v k h1 h2 h => by
    rw [n_lt (by omega) (by omega)] at h; exact sg_hi h
  have d4096 : Int32.ofNat (w a) / 4096 = Int32.ofNat (w a / 4096) := n_div (b := 4096) (by omega) (by omega)
  have d256 : Int32.ofNat (w a) / 256 = Int32.ofNat (w a / 256) := n_div (b := 256) (by omega) (by omega)
  have dN256 : Int32.ofNat (rn n w a) / 256 = Int32.ofNat (rn n w a / 256) := n_div (b := 256) (by omega) (by omega)
  have q16 : (65536 : Int32) / 2 = Int32.ofNat (65536 / 2) := by decide
  have q4 : (16 : Int32) / 2 = Int32.ofNat (16 / 2) := by decide
  have q8 : (256 : Int32) / 2 = Int32.ofNat (256 / 2) := by decide
  have nlo : Int32.ofNat (rn n w a) < (65536 : Int32) / 2 → Int32.ofNat (rn n w a) = sg (rn n w a) 65536 := fun h => lo _ 65536 hN (by omega) (by rw [← q16]; exact h)
  have nhi : ¬ Int32.ofNat (rn n w a) < (65536 : Int32) / 2 → Int32.ofNat (rn n w a) - 65536 = sg (rn n w a) 65536 := fun h => hi _ 65536 hN (by omega) (by rw [← q16]; exact h)
  have w4lo : Int32.ofNat (w a) / 4096 < (16 : Int32) / 2 → Int32.ofNat (w a) / 4096 = sg (w a / 4096) 16 := fun h => by
    rw [d4096] at h ⊢; exact lo _ 16 (by omega) (by omega) (by rw [← q4]; exact h)
  have w4hi : ¬ Int32.ofNat (w a) / 4096 < (16 : Int32) / 2 → Int32.ofNat (w a) / 4096 - 16 = sg (w a / 4096) 16 := fun h => by
    rw [d4096] at h ⊢; exact hi _ 16 (by omega) (by omega) (by rw [← q4]; exact h)
  have w8lo : Int32.ofNat (w a) / 256 < (256 : Int32) / 2 → Int32.ofNat (w a) / 256 = sg (w a / 256) 256 := fun h => by
    rw [d256] at h ⊢; exact lo _ 256 (by omega) (by omega) (by rw [← q8]; exact h)
  have w8hi : ¬ Int32.ofNat (w a) / 256 < (256 : Int32) / 2 → Int32.ofNat (w a) / 256 - 256 = sg (w a / 256) 256 := fun h => by
    rw [d256] at h ⊢; exact hi _ 256 (by omega) (by omega) (by rw [← q8]; exact h)
  have n8lo : Int32.ofNat (rn n w a) / 256 < (256 : Int32) / 2 → Int32.ofNat (rn n w a) / 256 = sg (rn n w a / 256) 256 := fun h => by
    rw [dN256] at h ⊢; exact lo _ 256 (by omega) (by omega) (by rw [← q8]; exact h)
  have n8hi : ¬ Int32.ofNat (rn n w a) / 256 < (256 : Int32) / 2 → Int32.ofNat (rn n w a) / 256 - 256 = sg (rn n w a / 256) 256 := fun h => by
    rw [dN256] at h ⊢; exact hi _ 256 (by omega) (by omega) (by rw [← q8]; exact h)
  have no : ∀ {σ1 : st_S}, fr fp_L σ σ1 → rk (w a) = none → Q σ1 (some (.inl 0)) := fun f h => K0 _ f (fun e z => by
    have := z.2.1
    rw [h] at this; cases this)
  have rk0 : ∀ c e, w a % 256 = c → (if c = 0 then (if w a = 0 then some 0 else if w a = 256 then some 15 else none) else if c = 1 then some 1 else if c = 15 then some 2 else if c = 18 then some 3 else if c = 19 then some 4 else if c = 144 then some 5 else if c = 145 then some 6 else if c = 146 then some 7 else if c = 216 then some 8 else if c = 40 then some 9 else if c = 41 then some 10 else if c = 50 then some 11 else if c = 51 then some 12 else if c = 56 then some 13 else if c = 43 then some 14 else none) = some e → rk (w a) = some e := fun c e h1 h2 => by
    unfold rk; rw [h1]; exact h2
  refine w_M_look_45 (fun h1 h2 => ?_) (fun h1 h2 h3 h4 => ?_) (fun h1 h2 h3 h4 h5 => ?_) (fun h1 h2 h3 h4 h5 h6 => ?_) (fun h1 h2 h3 h4 h5 h6 h7 => ?_) (fun h1 h2 h3 h4 h5 h6 h7 => ?_) (fun h1 h2 h3 h4 h5 h6 => ?_) (fun h1 h2 h3 => ?_) (fun h => ?_) (fun h => ?_) (fun h h2 => ?_) (fun h h2 => ?_) (fun h h2 => ?_) (fun h h2 => ?_) (fun h h2 => ?_) (fun h h2 => ?_) (fun h h2 => ?_) (fun h h2 => ?_) (fun h h2 => ?_) (fun h h2 => ?_) (fun h h2 => ?_) (fun h h2 => ?_) (fun h h2 => ?_) (fun h h2 => ?_) (fun h h2 => ?_) (fun h h2 => ?_) (fun h => ?_) (fun h => ?_) (fun h => ?_) (fun h h2 => ?_) (fun h h2 => ?_) (fun h0 h1 h15 h18 h19 h40 h41 h43 h50 h51 h56 h144 h145 h146 h216 => ?_)
  · have z : w a = 0 := by
      rw [show (0 : Int32) = Int32.ofNat 0 from rfl, n_inj (by omega) (by omega)] at h2; exact h2
    refine w_M_look_310 (L (e := 0) (by repeat first | exact fr_rf | refine fr_up ?_ rfl) (by rw [z]; rfl) (fun h => nomatch h) ⟨h1, rfl, rfl, rfl, rfl, rfl, rfl, rfl⟩)
  · have z : w a = 256 := by
      rw [show (256 : Int32) = Int32.ofNat 256 from rfl, n_inj (by omega) (by omega)] at h3; exact h3
    have zk : rk (w a) = some 15 := by rw [z]; rfl
    have one : ∀ e, rd_ok n w a e → e = 15 := fun e z => Option.some.inj (z.2.1.symm.trans zk)
    rw [show (1 : Int32) = Int32.ofNat 1 from rfl, n_lt (by omega) (by omega)] at h4
    refine w_M_look_272 (K0 _ (by repeat first | exact fr_rf | refine fr_up ?_ rfl) (fun e y => ?_))
    have := one e y
    subst this
    have := (y.2.2.1 rfl).1
    omega
  · have z : w a = 256 := by
      rw [show (256 : Int32) = Int32.ofNat 256 from rfl, n_inj (by omega) (by omega)] at h3; exact h3
    have zk : rk (w a) = some 15 := by rw [z]; rfl
    have one : ∀ e, rd_ok n w a e → e = 15 := fun e z => Option.some.inj (z.2.1.symm.trans zk)
    rw [show (4 : Int32) = Int32.ofNat 4 from rfl, n_lt (by omega) (by omega)] at h5
    refine w_M_look_272 (K0 _ (by repeat first | exact fr_rf | refine fr_up ?_ rfl) (fun e y => ?_))
    have := one e y
    subst this
    have := (y.2.2.1 rfl).2
    omega
  · rw [show (1 : Int32) = Int32.ofNat 1 from rfl, n_lt (by omega) (by omega)] at h4
    have e3 : Int32.ofNat a + 3 + Int32.ofNat (rn n w a) = Int32.ofNat (a + 3 + rn n w a) := by rw [show (3 : Int32) = Int32.ofNat 3 from rfl, n_add, n_add]
    rw [e3, hM.1, n_le (by omega) (by omega)] at h6
    have e2 : Int32.ofNat a + 2 = Int32.ofNat (a + 2) := n_add a 2
    rw [e2]; exact n_inb (by omega) (by omega)
  · have z : w a = 256 := by
      rw [show (256 : Int32) = Int32.ofNat 256 from rfl, n_inj (by omega) (by omega)] at h3; exact h3
    have zk : rk (w a) = some 15 := by rw [z]; rfl
    have one : ∀ e, rd_ok n w a e → e = 15 := fun e z => Option.some.inj (z.2.1.symm.trans zk)
    rw [show (1 : Int32) = Int32.ofNat 1 from rfl, n_lt (by omega) (by omega)] at h4
    rw [show (4 : Int32) = Int32.ofNat 4 from rfl, n_lt (by omega) (by omega)] at h5
    have e3 : Int32.ofNat a + 3 + Int32.ofNat (rn n w a) = Int32.ofNat (a + 3 + rn n w a) := by rw [show (3 : Int32) = Int32.ofNat 3 from rfl, n_add, n_add]
    rw [e3, hM.1, n_le (by omega) (by omega)] at h6
    have e2 : Int32.ofNat a + 2 = Int32.ofNat (a + 2) := n_add a 2
    have e5 : σ.1 42 0 (Int32.ofNat a + 2).toNatClampNeg = Int32.ofNat (w (a + 2)) := by rw [e2, n_cl (by omega), hM.2 _ (by omega)]
    rw [e5] at h7 ⊢
    have hw2 := hV.2 (a + 2) (by omega)
    refine w_M_look_310 (L (e := 15) (by repeat first | exact fr_rf | refine fr_up ?_ rfl) zk (fun _ => by omega) ⟨rfl, n_add 3 _, rfl, rfl, rfl, ?_, rfl, rfl⟩)
    exact lo (w (a + 2)) 65536 hw2 (by omega) (by rw [← q16]; exact h7)
  · have z : w a = 256 := by
      rw [show (256 : Int32) = Int32.ofNat 256 from rfl, n_inj (by omega) (by omega)] at h3; exact h3
    have zk : rk (w a) = some 15 := by rw [z]; rfl
    have one : ∀ e, rd_ok n w a e → e = 15 := fun e z => Option.some.inj (z.2.1.symm.trans zk)
    rw [show (1 : Int32) = Int32.ofNat 1 from rfl, n_lt (by omega) (by omega)] at h4
    rw [show (4 : Int32) = Int32.ofNat 4 from rfl, n_lt (by omega) (by omega)] at h5
    have e3 : Int32.ofNat a + 3 + Int32.ofNat (rn n w a) = Int32.ofNat (a + 3 + rn n w a) := by rw [show (3 : Int32) = Int32.ofNat 3 from rfl, n_add, n_add]
    rw [e3, hM.1, n_le (by omega) (by omega)] at h6
    have e2 : Int32.ofNat a + 2 = Int32.ofNat (a + 2) := n_add a 2
    have e5 : σ.1 42 0 (Int32.ofNat a + 2).toNatClampNeg = Int32.ofNat (w (a + 2)) := by rw [e2, n_cl (by omega), hM.2 _ (by omega)]
    rw [e5] at h7 ⊢
    have hw2 := hV.2 (a + 2) (by omega)
    refine w_M_look_310 (L (e := 15) (by repeat first | exact fr_rf | refine fr_up ?_ rfl) zk (fun _ => by omega) ⟨rfl, n_add 3 _, rfl, rfl, rfl, ?_, rfl, rfl⟩)
    exact hi (w (a + 2)) 65536 hw2 (by omega) (by rw [← q16]; exact h7)
  · have z : w a = 256 := by
      rw [show (256 : Int32) = Int32.ofNat 256 from rfl, n_inj (by omega) (by omega)] at h3; exact h3
    have zk : rk (w a) = some 15 := by rw [z]; rfl
    have one : ∀ e, rd_ok n w a e → e = 15 := fun e z => Option.some.inj (z.2.1.symm.trans zk)
    rw [show (1 : Int32) = Int32.ofNat 1 from rfl, n_lt (by omega) (by omega)] at h4
    rw [show (4 : Int32) = Int32.ofNat 4 from rfl, n_lt (by omega) (by omega)] at h5
    have e3 : Int32.ofNat a + 3 + Int32.ofNat (rn n w a) = Int32.ofNat (a + 3 + rn n w a) := by rw [show (3 : Int32) = Int32.ofNat 3 from rfl, n_add, n_add]
    rw [e3, hM.1, n_le (by omega) (by omega)] at h6
    have e2 : Int32.ofNat a + 2 = Int32.ofNat (a + 2) := n_add a 2
    refine w_M_look_272 (K0 _ (by repeat first | exact fr_rf | refine fr_up ?_ rfl) (fun e y => ?_))
    have := one e y
    subst this
    have := y.2.2.2
    unfold ru at this
    rw [if_pos rfl] at this
    omega
  · have z1 := op 0 (by omega) h1
    rw [show (0 : Int32) = Int32.ofNat 0 from rfl, n_inj (by omega) (by omega)] at h2
    rw [show (256 : Int32) = Int32.ofNat 256 from rfl, n_inj (by omega) (by omega)] at h3
    refine w_M_look_272 (no (by repeat first | exact fr_rf | refine fr_up ?_ rfl) ?_)
    unfold rk
    rw [if_pos z1, if_neg h2, if_neg h3]
  · exact L (e := 1) (by repeat first | exact fr_rf | refine fr_up ?_ rfl) (rk0 1 1 (op 1 (by omega) h) rfl) (fun h => nomatch h) ⟨h, rfl, hA, hB, rfl, rfl, rfl, rfl⟩
  · exact L (e := 2) (by repeat first | exact fr_rf | refine fr_up ?_ rfl) (rk0 15 2 (op 15 (by omega) h) rfl) (fun h => nomatch h) ⟨h, rfl, hA, rfl, rfl, rfl, rfl, rfl⟩
  · exact L (e := 3) (by repeat first | exact fr_rf | refine fr_up ?_ rfl) (rk0 18 3 (op 18 (by omega) h) rfl) (fun h => nomatch h) ⟨h, rfl, hA, rfl, rfl, w4lo h2, rfl, rfl⟩
  · exact L (e := 3) (by repeat first | exact fr_rf | refine fr_up ?_ rfl) (rk0 18 3 (op 18 (by omega) h) rfl) (fun h => nomatch h) ⟨h, rfl, hA, rfl, rfl, w4hi h2, rfl, rfl⟩
  · exact L (e := 4) (by repeat first | exact fr_rf | refine fr_up ?_ rfl) (rk0 19 4 (op 19 (by omega) h) rfl) (fun h => nomatch h) ⟨h, rfl, hA, rfl, rfl, nlo h2, rfl, rfl⟩
  · exact L (e := 4) (by repeat first | exact fr_rf | refine fr_up ?_ rfl) (rk0 19 4 (op 19 (by omega) h) rfl) (fun h => nomatch h) ⟨h, rfl, hA, rfl, rfl, nhi h2, rfl, rfl⟩
  · exact L (e := 9) (by repeat first | exact fr_rf | refine fr_up ?_ rfl) (rk0 40 9 (op 40 (by omega) h) rfl) (fun h => nomatch h) ⟨h, rfl, rfl, rfl, rfl, rfl, w8lo h2, rfl⟩
  · exact L (e := 9) (by repeat first | exact fr_rf | refine fr_up ?_ rfl) (rk0 40 9 (op 40 (by omega) h) rfl) (fun h => nomatch h) ⟨h, rfl, rfl, rfl, rfl, rfl, w8hi h2, rfl⟩
  · exact L (e := 10) (by repeat first | exact fr_rf | refine fr_up ?_ rfl) (rk0 41 10 (op 41 (by omega) h) rfl) (fun h => nomatch h) ⟨h, rfl, rfl, rfl, rfl, rfl, nlo h2, rfl⟩
  · exact L (e := 10) (by repeat first | exact fr_rf | refine fr_up ?_ rfl) (rk0 41 10 (op 41 (by omega) h) rfl) (fun h => nomatch h) ⟨h, rfl, rfl, rfl, rfl, rfl, nhi h2, rfl⟩
  · exact L (e := 14) (by repeat first | exact fr_rf | refine fr_up ?_ rfl) (rk0 43 14 (op 43 (by omega) h) rfl) (fun h => nomatch h) ⟨h, rfl, hA, rfl, rfl, rfl, nlo h2, rfl⟩
  · exact L (e := 14) (by repeat first | exact fr_rf | refine fr_up ?_ rfl) (rk0 43 14 (op 43 (by omega) h) rfl) (fun h => nomatch h) ⟨h, rfl, hA, rfl, rfl, rfl, nhi h2, rfl⟩
  · exact L (e := 11) (by repeat first | exact fr_rf | refine fr_up ?_ rfl) (rk0 50 11 (op 50 (by omega) h) rfl) (fun h => nomatch h) ⟨h, rfl, hA, hB, rfl, rfl, nlo h2, rfl⟩
  · exact L (e := 11) (by repeat first | exact fr_rf | refine fr_up ?_ rfl) (rk0 50 11 (op 50 (by omega) h) rfl) (fun h => nomatch h) ⟨h, rfl, hA, hB, rfl, rfl, nhi h2, rfl⟩
  · exact L (e := 12) (by repeat first | exact fr_rf | refine fr_up ?_ rfl) (rk0 51 12 (op 51 (by omega) h) rfl) (fun h => nomatch h) ⟨h, rfl, hA, hB, rfl, rfl, nlo h2, rfl⟩
  · exact L (e := 12) (by repeat first | exact fr_rf | refine fr_up ?_ rfl) (rk0 51 12 (op 51 (by omega) h) rfl) (fun h => nomatch h) ⟨h, rfl, hA, hB, rfl, rfl, nhi h2, rfl⟩
  · exact L (e := 13) (by repeat first | exact fr_rf | refine fr_up ?_ rfl) (rk0 56 13 (op 56 (by omega) h) rfl) (fun h => nomatch h) ⟨h, rfl, hA, rfl, rfl, rfl, nlo h2, rfl⟩
  · exact L (e := 13) (by repeat first | exact fr_rf | refine fr_up ?_ rfl) (rk0 56 13 (op 56 (by omega) h) rfl) (fun h => nomatch h) ⟨h, rfl, hA, rfl, rfl, rfl, nhi h2, rfl⟩
  · exact L (e := 5) (by repeat first | exact fr_rf | refine fr_up ?_ rfl) (rk0 144 5 (op 144 (by omega) h) rfl) (fun h => nomatch h) ⟨h, rfl, hA, hB2, hC, rfl, rfl, rfl⟩
  · exact L (e := 6) (by repeat first | exact fr_rf | refine fr_up ?_ rfl) (rk0 145 6 (op 145 (by omega) h) rfl) (fun h => nomatch h) ⟨h, rfl, hA, hB2, hC, rfl, rfl, rfl⟩
  · exact L (e := 7) (by repeat first | exact fr_rf | refine fr_up ?_ rfl) (rk0 146 7 (op 146 (by omega) h) rfl) (fun h => nomatch h) ⟨h, rfl, hA, hB2, hC, rfl, rfl, rfl⟩
  · exact L (e := 8) (by repeat first | exact fr_rf | refine fr_up ?_ rfl) (rk0 216 8 (op 216 (by omega) h) rfl) (fun h => nomatch h) ⟨h, rfl, hA, hB2, rfl, n8lo h2, rfl, rfl⟩
  · exact L (e := 8) (by repeat first | exact fr_rf | refine fr_up ?_ rfl) (rk0 216 8 (op 216 (by omega) h) rfl) (fun h => nomatch h) ⟨h, rfl, hA, hB2, rfl, n8hi h2, rfl, rfl⟩
  · refine no (by repeat first | exact fr_rf | refine fr_up ?_ rfl) ?_
    unfold rk
    rw [if_neg (nop 0 (by omega) h0), if_neg (nop 1 (by omega) h1), if_neg (nop 15 (by omega) h15), if_neg (nop 18 (by omega) h18), if_neg (nop 19 (by omega) h19), if_neg (nop 144 (by omega) h144), if_neg (nop 145 (by omega) h145), if_neg (nop 146 (by omega) h146), if_neg (nop 216 (by omega) h216), if_neg (nop 40 (by omega) h40), if_neg (nop 41 (by omega) h41), if_neg (nop 50 (by omega) h50), if_neg (nop 51 (by omega) h51), if_neg (nop 56 (by omega) h56), if_neg (nop 43 (by omega) h43)]
/-- the reference reads -/
theorem s_look {σ : st_S} {n : Nat} {w : Nat → Nat} {x : Int32} (hV : cc_V n w) (hM : cc_M n w σ) {Q : st_S → Option eg_V → Prop}
    (K0 : ∀ σ', fr fp_L σ σ' → (∀ a e, x = Int32.ofNat a → a < 2147483648 → ¬ rd_ok n w a e) → Q σ' (some (.inl 0)))
    (K1 : ∀ σ' a e, fr fp_L σ σ' → x = Int32.ofNat a → rd_ok n w a e → rd_M n w a e σ' → Q σ' (some (.inl 1))) : pw_E 120 0 σ (0, 0) [(0, .inr (26, 0)), (1, .inl x)] [] Q := by
  have hn := hV.1
  by_cases h0 : x < 0
  · refine w_M_look_0 (fun _ => K0 σ fr_rf (fun a e ha hb z => ?_)) (fun h => absurd h0 h) (fun h => absurd h0 h) (fun h => absurd h0 h) (fun h => absurd h0 h) (fun h => absurd h0 h)
    subst ha
    rw [show (0 : Int32) = Int32.ofNat 0 from rfl, n_lt hb (by omega)] at h0
    omega
  · obtain ⟨a, ha, rfl⟩ := n_of' h0
    have hun : ∀ a' e, Int32.ofNat a = Int32.ofNat a' → a' < 2147483648 → rd_ok n w a' e → rd_ok n w a e := fun a' e h1 h2 h3 => by
      rw [n_inj ha h2] at h1; rw [h1]; exact h3
    by_cases han : a < n
    · have hc : ¬ σ.1 26 0 27 - 1 < Int32.ofNat a := by
        rw [hM.1, show (1 : Int32) = Int32.ofNat 1 from rfl, n_sub (by omega), n_lt (by omega) ha]; omega
      have e1 : Int32.ofNat a + 1 = Int32.ofNat (a + 1) := n_add a 1
      have go := s_look45 (Q := Q) hV han hM (fun σ' f h => K0 σ' f (fun a' e z1 z2 z3 => h e (hun a' e z1 z2 z3))) (fun σ' e f h1 h2 => K1 σ' a e f rfl h1 h2)
      refine w_M_look_0 (fun h => absurd h h0) (fun _ h => absurd h hc) (fun _ _ => n_inb (by omega) (by omega)) (fun _ _ h3 => ?_) (fun _ _ h3 => ?_) (fun _ _ h3 => ?_)
      · rw [hM.1, e1, n_le (by omega) (by omega)] at h3
        rw [n_cl ha, hM.2 a han]
        have : rn n w a = 0 := by unfold rn; rw [if_neg (by omega)]
        rw [this] at go
        exact go
      · rw [hM.1, e1, n_le (by omega) (by omega)] at h3
        rw [e1]; exact n_inb (by omega) (by omega)
      · rw [hM.1, e1, n_le (by omega) (by omega)] at h3
        rw [n_cl ha, hM.2 a han, e1, n_cl (by omega), hM.2 (a + 1) (by omega)]
        have : rn n w a = w (a + 1) := by unfold rn; rw [if_pos (by omega)]
        rw [this] at go
        exact go
    · have hc : σ.1 26 0 27 - 1 < Int32.ofNat a := by
        rw [hM.1]
        rcases Nat.eq_zero_or_pos n with rfl | hp
        · rw [z_lt, n_toInt ha]
          exact Int.lt_of_lt_of_le (by decide : (Int32.ofNat 0 - 1).toInt < 0) (Int.natCast_nonneg a)
        · rw [show (1 : Int32) = Int32.ofNat 1 from rfl, n_sub hp, n_lt (by omega) ha]; omega
      refine w_M_look_0 (fun h => absurd h h0) (fun _ _ => K0 σ fr_rf (fun a' e z1 z2 z3 => ?_)) (fun _ h => absurd hc h) (fun _ h => absurd hc h) (fun _ h => absurd hc h) (fun _ h => absurd hc h)
      have := (hun a' e z1 z2 z3).1
      omega
