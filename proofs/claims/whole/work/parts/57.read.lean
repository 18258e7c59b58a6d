/-! THE CALL read -/
theorem RR_frx {xs : Nat → Int32} {L i : Nat} {σ σ' : st_S} (f : frx i σ σ') (g : rgk i σ σ') (r : RR xs L σ) : RR xs L σ' := by
  obtain ⟨a1, a2, a3, a4, a5, a6, a7⟩ := r
  have h := frx_fr f
  refine ⟨a1.ag (fr_ag h rfl), a2.ag (fr_ag h rfl) (fr_ag h rfl) (fr_ag h rfl), a3.ag (fr_ag h rfl), a4.ag (fr_ag h rfl), fun i' j hi hj => ?_, a6.ag h.1 (fr_ag h rfl), a7.ag h.1 (fr_ag h rfl)⟩
  by_cases hii : i' = i
  · subst hii
    rcases g j hj with z | z
    · exact z
    · rw [z]; exact a5 _ j hi hj
  · rw [f.2 20 i' j (Or.inl hii)]; exact a5 i' j hi hj
theorem RR_L {xs : Nat → Int32} {L : Nat} {σ σ' : st_S} (f : fr fp_L σ σ') (r : RR xs L σ) : RR xs L σ' := r.fr f rfl
def rp (n : Nat) (w : Nat → Nat) (a e : Nat) : Nat → Int32
  | 0 => kd_op e
  | 1 => Int32.ofNat (ru e (rn n w a))
  | 2 => if 1 ≤ kr e then Int32.ofNat (w a / 256 % 16) else -2
  | 3 => if 2 ≤ kr e then Int32.ofNat (rb e (w a) (rn n w a)) else -2
  | 4 => if 3 ≤ kr e then Int32.ofNat (rc e (rn n w a)) else -2
  | 5 => if kn e = true then rf w e (w a) (rn n w a) a else -2
  | 6 => if kd_goes e = 1 then Int32.ofNat a + rf w e (w a) (rn n w a) a else -2
  | 7 => if e = 15 then Int32.ofNat (rn n w a) else -2
  | t + 8 => if e = 15 ∧ t < rn n w a then sg (w (a + 3 + t)) 65536 else -2
theorem k_go : ∀ e, e < 16 → kd_goes e = 0 ∨ kd_goes e = 1 := by decide +kernel
theorem s_part {σ : st_S} {i n a e t : Nat} {w : Nat → Nat} (ok : rd_ok n w a e) (hc : rd_C i n w a e σ) (ht : t ≤ 11) {Q : st_S → Option eg_V → Prop} (K : Q σ (some (.inl (rp n w a e t)))) : pw_E 67 0 σ (0, 0) [(0, .inr (19, i)), (1, .inl (Int32.ofNat t))] [] Q := by
  have he : e < 16 := rk_lt ok.2.1
  have hN : e = 15 → rn n w a ≤ 4 := fun z => (ok.2.2.1 z).2
  obtain ⟨c0, c1, c2, c4, cr, cc⟩ := hc
  have hk : (σ.1 19 i 0).toNatClampNeg = e := by rw [c0]; exact n_cl (by omega)
  have q : ∀ k, k < 100 → Int32.ofNat t = Int32.ofNat k → t = k := fun k hk h => by rw [n_inj (by omega) (by omega)] at h; exact h
  have nq : ∀ k, k < 100 → ¬ Int32.ofNat t = Int32.ofNat k → t ≠ k := fun k hk h => by rw [n_inj (by omega) (by omega)] at h; exact h
  have hn15 : ∀ r, 1 ≤ r → r ≤ kr e → e ≠ 15 := by
    intro r h1 h2 h; subst h
    have : kr 15 = 0 := rfl
    omega
  obtain ⟨hA, hB, hCc, hNn⟩ := kh_A e he
  have s8 : 8 ≤ t → Int32.ofNat t - 8 = Int32.ofNat (t - 8) := fun h => n_sub h
  have d8 : 8 ≤ t → ∃ s, t = s + 8 := fun h => ⟨t - 8, by omega⟩
  have d0 : ∀ s : Nat, s < 100 → ¬ Int32.ofNat s < 0 := fun s h => by rw [show (0 : Int32) = Int32.ofNat 0 from rfl, n_lt (by omega) (by omega)]; omega
  have all : ¬ (Int32.ofNat t = 0) → ¬ (Int32.ofNat t = 1) → ¬ (Int32.ofNat t = 2) → ¬ (Int32.ofNat t = 3) → ¬ (Int32.ofNat t = 4) → ¬ (Int32.ofNat t = 5) → ¬ (Int32.ofNat t = 6) → ¬ (Int32.ofNat t = 7) → 8 ≤ t := fun h0 h1 h2 h3 h4 h5 h6 h7 => by
    have := nq 0 (by omega) h0; have := nq 1 (by omega) h1; have := nq 2 (by omega) h2; have := nq 3 (by omega) h3
    have := nq 4 (by omega) h4; have := nq 5 (by omega) h5; have := nq 6 (by omega) h6; have := nq 7 (by omega) h7
    omega
  refine w_Reading_part_0 (fun h => ?_) (fun h => ?_) (fun h => ?_) (fun h => ?_) (fun h => ?_) (fun h => ?_) (fun h h' => ?_) (fun h h' => ?_) (fun h h' => ?_) (fun h h' => ?_) (fun h0 h1 h2 h3 h4 h5 h6 h7 g1 g2 => ?_) (fun h0 h1 h2 h3 h4 h5 h6 h7 g1 g2 g3 => ?_) (fun h0 h1 h2 h3 h4 h5 h6 h7 g1 g2 g3 => ?_) (fun h0 h1 h2 h3 h4 h5 h6 h7 g1 g2 g3 => ?_) (fun h0 h1 h2 h3 h4 h5 h6 h7 g1 => ?_)
  · have := q 0 (by omega) h; subst this; rw [hk]; exact K
  · have := q 1 (by omega) h; subst this; rw [c2]; exact K
  · have := q 2 (by omega) h; subst this
    rw [hk]
    refine s_has (c := 65) he (by omega) ?_
    rw [hA]
    by_cases hr : 1 ≤ kr e
    · rw [decide_eq_true hr]
      refine w_Reading_part_75 (fun z => absurd z (by decide)) (fun _ => by decide) (fun _ => ?_)
      have K' : Q σ (some (.inl (if 1 ≤ kr e then Int32.ofNat (w a / 256 % 16) else -2))) := K
      rw [if_pos hr, ← (cr (hn15 1 (by omega) hr)).1] at K'
      exact K'
    · rw [decide_eq_false hr]
      refine w_Reading_part_75 (fun _ => ?_) (fun z => absurd rfl z) (fun z => absurd rfl z)
      have K' : Q σ (some (.inl (if 1 ≤ kr e then Int32.ofNat (w a / 256 % 16) else -2))) := K
      rw [if_neg hr] at K'
      exact K'
  · have := q 3 (by omega) h; subst this
    rw [hk]
    refine s_has (c := 66) he (by omega) ?_
    rw [hB]
    by_cases hr : 2 ≤ kr e
    · rw [decide_eq_true hr]
      refine w_Reading_part_75 (fun z => absurd z (by decide)) (fun _ => by decide) (fun _ => ?_)
      have K' : Q σ (some (.inl (if 2 ≤ kr e then Int32.ofNat (rb e (w a) (rn n w a)) else -2))) := K
      rw [if_pos hr, ← (cr (hn15 2 (by omega) hr)).2.1] at K'
      exact K'
    · rw [decide_eq_false hr]
      refine w_Reading_part_75 (fun _ => ?_) (fun z => absurd rfl z) (fun z => absurd rfl z)
      have K' : Q σ (some (.inl (if 2 ≤ kr e then Int32.ofNat (rb e (w a) (rn n w a)) else -2))) := K
      rw [if_neg hr] at K'
      exact K'
  · have := q 4 (by omega) h; subst this
    rw [hk]
    refine s_has (c := 67) he (by omega) ?_
    rw [hCc]
    by_cases hr : 3 ≤ kr e
    · rw [decide_eq_true hr]
      refine w_Reading_part_75 (fun z => absurd z (by decide)) (fun _ => by decide) (fun _ => ?_)
      have K' : Q σ (some (.inl (if 3 ≤ kr e then Int32.ofNat (rc e (rn n w a)) else -2))) := K
      rw [if_pos hr, ← (cr (hn15 3 (by omega) hr)).2.2] at K'
      exact K'
    · rw [decide_eq_false hr]
      refine w_Reading_part_75 (fun _ => ?_) (fun z => absurd rfl z) (fun z => absurd rfl z)
      have K' : Q σ (some (.inl (if 3 ≤ kr e then Int32.ofNat (rc e (rn n w a)) else -2))) := K
      rw [if_neg hr] at K'
      exact K'
  · have := q 5 (by omega) h; subst this
    rw [hk]
    refine s_has (c := 110) he (by omega) ?_
    have K' : Q σ (some (.inl (if kn e = true then rf w e (w a) (rn n w a) a else -2))) := K
    rw [hNn]
    by_cases hr : kn e = true
    · rw [if_pos hr, ← c4] at K'
      rw [hr]
      exact w_Reading_part_101 (fun z => absurd z (by decide)) (fun _ => K')
    · rw [if_neg hr] at K'
      rw [Bool.not_eq_true] at hr
      rw [hr]
      exact w_Reading_part_101 (fun _ => K') (fun z => absurd rfl z)
  · have := q 6 (by omega) h; subst this
    rw [hk] at h'
    have K' : Q σ (some (.inl (if kd_goes e = 1 then Int32.ofNat a + rf w e (w a) (rn n w a) a else -2))) := K
    rw [h', if_neg (by decide)] at K'
    exact K'
  · have := q 6 (by omega) h; subst this
    rw [hk] at h'
    have K' : Q σ (some (.inl (if kd_goes e = 1 then Int32.ofNat a + rf w e (w a) (rn n w a) a else -2))) := K
    rw [if_pos ((k_go e he).resolve_left h')] at K'
    rw [c1, c4]
    exact K'
  · have := q 7 (by omega) h; subst this
    rw [hk] at h'
    have K' : Q σ (some (.inl (if e = 15 then Int32.ofNat (rn n w a) else -2))) := K
    rw [if_pos h', ← (cc h').1] at K'
    exact K'
  · have := q 7 (by omega) h; subst this
    rw [hk] at h'
    have K' : Q σ (some (.inl (if e = 15 then Int32.ofNat (rn n w a) else -2))) := K
    rw [if_neg h'] at K'
    exact K'
  · have h8 := all h0 h1 h2 h3 h4 h5 h6 h7
    rw [s8 h8] at g2
    exact absurd g2 (d0 _ (by omega))
  · have h8 := all h0 h1 h2 h3 h4 h5 h6 h7
    rw [hk] at g1
    have := hN g1
    rw [s8 h8, (cc g1).1, n_le (by omega) (by omega)] at g3
    obtain ⟨s, rfl⟩ := d8 h8
    have K' : Q σ (some (.inl (if e = 15 ∧ s < rn n w a then sg (w (a + 3 + s)) 65536 else -2))) := K
    rw [if_neg (by omega)] at K'
    exact K'
  · have h8 := all h0 h1 h2 h3 h4 h5 h6 h7
    rw [hk] at g1
    have := hN g1
    rw [s8 h8, (cc g1).1, n_le (by omega) (by omega)] at g3
    rw [s8 h8]
    exact n_inb (by omega) (by omega)
  · have h8 := all h0 h1 h2 h3 h4 h5 h6 h7
    rw [hk] at g1
    have := hN g1
    rw [s8 h8, (cc g1).1, n_le (by omega) (by omega)] at g3
    rw [s8 h8, n_cl (by omega), (cc g1).2 _ (by omega)]
    obtain ⟨s, rfl⟩ := d8 h8
    have K' : Q σ (some (.inl (if e = 15 ∧ s < rn n w a then sg (w (a + 3 + s)) 65536 else -2))) := K
    rw [if_pos ⟨g1, by omega⟩] at K'
    exact K'
  · have h8 := all h0 h1 h2 h3 h4 h5 h6 h7
    rw [hk] at g1
    obtain ⟨s, rfl⟩ := d8 h8
    have K' : Q σ (some (.inl (if e = 15 ∧ s < rn n w a then sg (w (a + 3 + s)) 65536 else -2))) := K
    rw [if_neg (fun z => g1 z.1)] at K'
    exact K'
theorem rn_lt {n : Nat} {w : Nat → Nat} {a : Nat} (hV : cc_V n w) : rn n w a < 65536 := by
  unfold rn; split
  · exact hV.2 _ (by assumption)
  · omega
theorem rf_b {n : Nat} {w : Nat → Nat} {a e : Nat} (hV : cc_V n w) (ok : rd_ok n w a e) : -32768 ≤ (rf w e (w a) (rn n w a) a).toInt ∧ (rf w e (w a) (rn n w a) a).toInt ≤ 32767 := by
  have hW := hV.2 a ok.1
  have hN := rn_lt (a := a) hV
  have S : ∀ v k, v < k → k ≤ 65536 → k % 2 = 0 → -32768 ≤ (sg v k).toInt ∧ (sg v k).toInt ≤ 32767 := fun v k h1 h2 h3 => by
    rw [sg_toInt h1 h2]; split <;> omega
  unfold rf
  split
  · exact S _ _ (by omega) (by omega) (by omega)
  · split
    · exact S _ _ (by omega) (by omega) (by omega)
    · split
      · exact S _ _ (by omega) (by omega) (by omega)
      · split
        · rename_i h15
          subst h15
          have h1 := ok.2.2.2
          have h2 := (ok.2.2.1 rfl).1
          unfold ru at h1
          rw [if_pos rfl] at h1
          exact S _ _ (hV.2 _ (by omega)) (by omega) (by omega)
        · split
          · exact S _ _ hN (by omega) (by omega)
          · decide
theorem s_caseAt {σ : st_S} {n a t : Nat} {w : Nat → Nat} (hV : cc_V n w) (hM : cc_M n w σ) (h : a + 3 + t < n) {Q : st_S → Option eg_V → Prop} (K : Q σ (some (.inl (sg (w (a + 3 + t)) 65536)))) : pw_E 122 0 σ (0, 0) [(0, .inr (26, 0)), (1, .inl (Int32.ofNat a)), (2, .inl (Int32.ofNat t))] [] Q := by
  have hn := hV.1
  have hw := hV.2 _ h
  have e1 : Int32.ofNat a + 3 + Int32.ofNat t = Int32.ofNat (a + 3 + t) := by rw [show (3 : Int32) = Int32.ofNat 3 from rfl, n_add, n_add]
  have e2 : (65536 : Int32) / 2 = Int32.ofNat 32768 := by decide
  refine w_M_caseAt_0 ?_ (fun z => ?_) (fun z => ?_)
  · rw [e1]; exact n_inb (by omega) (by omega)
  · rw [e1, n_cl (by omega), hM.2 _ h] at z ⊢
    rw [e2, n_lt (by omega) (by omega)] at z
    rw [sg_lo (k := 65536) z]; exact K
  · rw [e1, n_cl (by omega), hM.2 _ h] at z ⊢
    rw [e2, n_lt (by omega) (by omega)] at z
    rw [show (65536 : Int32) = Int32.ofNat 65536 from rfl, sg_hi (k := 65536) z]; exact K
theorem n_0le {a : Nat} (h : a < 2147483648) : (0 : Int32) ≤ Int32.ofNat a := by rw [show (0 : Int32) = Int32.ofNat 0 from rfl, n_le (by omega) h]; omega
theorem s_Mread17 {σ : st_S} {n a e t : Nat} {w : Nat → Nat} (hV : cc_V n w) (ok : rd_ok n w a e) (hM : cc_M n w σ) (hm : rd_M n w a e σ) (ht : t ≤ 11) {Q : st_S → Option eg_V → Prop} (K : Q σ (some (.inl (rp n w a e t)))) : pw_E 119 17 σ (0, 0) [(0, .inr (26, 0)), (1, .inl (Int32.ofNat a)), (2, .inl (Int32.ofNat t))] [.inl 1] Q := by
  have he : e < 16 := rk_lt ok.2.1
  have hN : e = 15 → rn n w a ≤ 4 := fun z => (ok.2.2.1 z).2
  have hrf := rf_b hV ok
  obtain ⟨m0, m1, mA, mB, mC, mN, mD, mM⟩ := hm
  have q : ∀ k, k < 100 → Int32.ofNat t = Int32.ofNat k → t = k := fun k hk h => by rw [n_inj (by omega) (by omega)] at h; exact h
  have nq : ∀ k, k < 100 → ¬ Int32.ofNat t = Int32.ofNat k → t ≠ k := fun k hk h => by rw [n_inj (by omega) (by omega)] at h; exact h
  have s8 : 8 ≤ t → Int32.ofNat t - 8 = Int32.ofNat (t - 8) := fun h => n_sub h
  have d8 : 8 ≤ t → ∃ s, t = s + 8 := fun h => ⟨t - 8, by omega⟩
  have all : ¬ (Int32.ofNat t = 0) → ¬ (Int32.ofNat t = 1) → ¬ (Int32.ofNat t = 2) → ¬ (Int32.ofNat t = 3) → ¬ (Int32.ofNat t = 4) → ¬ (Int32.ofNat t = 5) → ¬ (Int32.ofNat t = 6) → ¬ (Int32.ofNat t = 7) → 8 ≤ t := fun h0 h1 h2 h3 h4 h5 h6 h7 => by
    have := nq 0 (by omega) h0; have := nq 1 (by omega) h1; have := nq 2 (by omega) h2; have := nq 3 (by omega) h3
    have := nq 4 (by omega) h4; have := nq 5 (by omega) h5; have := nq 6 (by omega) h6; have := nq 7 (by omega) h7
    omega
  have n16 : ∀ x y, (x % 16 : Nat) < 2147483648 := fun x _ => by omega
  have hrb : rb e (w a) (rn n w a) < 16 := by unfold rb; split <;> omega
  have hrc : rc e (rn n w a) < 16 := by unfold rc; split <;> omega
  have big : ¬ rf w e (w a) (rn n w a) a = 99999999 := fun z => by
    rw [z] at hrf
    exact absurd hrf.2 (by decide)
  refine w_M_read_17 (fun z => absurd z (by decide)) (fun _ h => ?_) (fun _ h => ?_) (fun _ h h' => ?_) (fun _ h h' => ?_) (fun _ h h' => ?_) (fun _ h h' => ?_) (fun _ h h' => ?_) (fun _ h h' => ?_) (fun _ h h' => ?_) (fun _ h h' => ?_) (fun _ h h' => ?_) (fun _ h h' => ?_) (fun _ h h' => ?_) (fun _ h h' => ?_) (fun _ h0 h1 h2 h3 h4 h5 h6 h7 g => ?_) (fun _ h0 h1 h2 h3 h4 h5 h6 h7 g => ?_)
  · have := q 0 (by omega) h; subst this; rw [m0]; exact K
  · have := q 1 (by omega) h; subst this; rw [m1]; exact K
  · have := q 2 (by omega) h; subst this
    rw [mA] at h' ⊢
    have K' : Q σ (some (.inl (if 1 ≤ kr e then Int32.ofNat (w a / 256 % 16) else -2))) := K
    by_cases hr : 1 ≤ kr e
    · rw [if_pos hr] at K' ⊢; exact K'
    · rw [if_neg hr] at h'; exact absurd h' (by decide)
  · have := q 2 (by omega) h; subst this
    rw [mA] at h'
    have K' : Q σ (some (.inl (if 1 ≤ kr e then Int32.ofNat (w a / 256 % 16) else -2))) := K
    by_cases hr : 1 ≤ kr e
    · rw [if_pos hr] at h'; exact absurd (n_0le (by omega)) h'
    · rw [if_neg hr] at K'; exact K'
  · have := q 3 (by omega) h; subst this
    rw [mB] at h' ⊢
    have K' : Q σ (some (.inl (if 2 ≤ kr e then Int32.ofNat (rb e (w a) (rn n w a)) else -2))) := K
    by_cases hr : 2 ≤ kr e
    · rw [if_pos hr] at K' ⊢; exact K'
    · rw [if_neg hr] at h'; exact absurd h' (by decide)
  · have := q 3 (by omega) h; subst this
    rw [mB] at h'
    have K' : Q σ (some (.inl (if 2 ≤ kr e then Int32.ofNat (rb e (w a) (rn n w a)) else -2))) := K
    by_cases hr : 2 ≤ kr e
    · rw [if_pos hr] at h'; exact absurd (n_0le (by omega)) h'
    · rw [if_neg hr] at K'; exact K'
  · have := q 4 (by omega) h; subst this
    rw [mC] at h' ⊢
    have K' : Q σ (some (.inl (if 3 ≤ kr e then Int32.ofNat (rc e (rn n w a)) else -2))) := K
    by_cases hr : 3 ≤ kr e
    · rw [if_pos hr] at K' ⊢; exact K'
    · rw [if_neg hr] at h'; exact absurd h' (by decide)
  · have := q 4 (by omega) h; subst this
    rw [mC] at h'
    have K' : Q σ (some (.inl (if 3 ≤ kr e then Int32.ofNat (rc e (rn n w a)) else -2))) := K
    by_cases hr : 3 ≤ kr e
    · rw [if_pos hr] at h'; exact absurd (n_0le (by omega)) h'
    · rw [if_neg hr] at K'; exact K'
  · have := q 5 (by omega) h; subst this
    rw [mN] at h'
    have K' : Q σ (some (.inl (if kn e = true then rf w e (w a) (rn n w a) a else -2))) := K
    by_cases hr : kn e = true
    · rw [if_pos hr] at h'; exact absurd h' big
    · rw [if_neg hr] at K'; exact K'
  · have := q 5 (by omega) h; subst this
    rw [mN] at h' ⊢
    have K' : Q σ (some (.inl (if kn e = true then rf w e (w a) (rn n w a) a else -2))) := K
    by_cases hr : kn e = true
    · rw [if_pos hr] at K' ⊢; exact K'
    · rw [if_neg hr] at h'; exact absurd rfl h'
  · have := q 6 (by omega) h; subst this
    rw [mD] at h'
    have K' : Q σ (some (.inl (if kd_goes e = 1 then Int32.ofNat a + rf w e (w a) (rn n w a) a else -2))) := K
    by_cases hr : kd_goes e = 1
    · rw [if_pos hr] at h'; exact absurd h' big
    · rw [if_neg hr] at K'; exact K'
  · have := q 6 (by omega) h; subst this
    rw [mD] at h' ⊢
    have K' : Q σ (some (.inl (if kd_goes e = 1 then Int32.ofNat a + rf w e (w a) (rn n w a) a else -2))) := K
    by_cases hr : kd_goes e = 1
    · rw [if_pos hr] at K' ⊢; exact K'
    · rw [if_neg hr] at h'; exact absurd rfl h'
  · have := q 7 (by omega) h; subst this
    rw [mM] at h' ⊢
    have K' : Q σ (some (.inl (if e = 15 then Int32.ofNat (rn n w a) else -2))) := K
    by_cases hr : e = 15
    · rw [if_pos hr] at K' ⊢; exact K'
    · rw [if_neg hr] at h'; exact absurd h' (by decide)
  · have := q 7 (by omega) h; subst this
    rw [mM] at h'
    have K' : Q σ (some (.inl (if e = 15 then Int32.ofNat (rn n w a) else -2))) := K
    by_cases hr : e = 15
    · have := hN hr
      rw [if_pos hr] at h'; exact absurd (n_0le (by omega)) h'
    · rw [if_neg hr] at K'; exact K'
  · have h8 := all h0 h1 h2 h3 h4 h5 h6 h7
    rw [mM, s8 h8] at g
    obtain ⟨s, rfl⟩ := d8 h8
    have K' : Q σ (some (.inl (if e = 15 ∧ s < rn n w a then sg (w (a + 3 + s)) 65536 else -2))) := K
    by_cases hr : e = 15
    · have := hN hr
      rw [if_pos hr, n_le (by omega) (by omega)] at g
      rw [if_neg (by omega)] at K'; exact K'
    · rw [if_neg (fun z => hr z.1)] at K'; exact K'
  · have h8 := all h0 h1 h2 h3 h4 h5 h6 h7
    rw [mM, s8 h8] at g
    rw [s8 h8]
    obtain ⟨s, rfl⟩ := d8 h8
    have K' : Q σ (some (.inl (if e = 15 ∧ s < rn n w a then sg (w (a + 3 + s)) 65536 else -2))) := K
    rw [Nat.add_sub_cancel] at g ⊢
    by_cases hr : e = 15
    · have := hN hr
      have hf := ok.2.2.2
      unfold ru at hf
      rw [if_pos hr] at hf
      rw [if_pos hr, n_le (by omega) (by omega)] at g
      rw [if_pos ⟨hr, by omega⟩] at K'
      exact s_caseAt hV hM (by omega) (w_M_read_210 K')
    · rw [if_neg hr] at g
      refine absurd ?_ g
      rw [z_le, n_toInt (by omega)]
      exact Int.le_trans (by decide : (-1 : Int32).toInt ≤ 0) (Int.natCast_nonneg s)
theorem cs_read (xs : Nat → Int32) (L : Nat) (x y : Int32) : CallS xs L 61 119 [.inl x, .inl y] := by
  intro σ r
  obtain ⟨n, w, hV, hC, hM⟩ := r.2.2.1
  have hn := hV.1
  refine w_U_read_0 (fun h => ⟨_, rfl, ?_⟩) (fun h1 h2 => ?_) (fun h1 h2 => ⟨_, rfl, ?_⟩)
  · exact w_M_read_0 (fun _ => ⟨rfl, r⟩) (fun h' => absurd h h') (fun h' => absurd h h')
  · have h2' : ¬ (11 : Int32) < y := Int32.not_lt.mpr h2
    obtain ⟨t, ht, rfl⟩ := n_in h1 (b := 11) (by omega) h2'
    have hM' : ∀ {σ1 : st_S}, frx 0 σ σ1 → cc_M n w σ1 := fun f => hM.ag (fr_ag (frx_fr f) rfl)
    refine s_canRead hV hC (fun σ1 f g no => w_U_read_24 (fun _ => ⟨_, rfl, ?_⟩) (fun h => absurd rfl h)) (fun σ1 a e f g hx ok rc => w_U_read_24 (fun h => absurd h (by decide)) (fun _ => s_part ok rc ht (w_U_read_38 ⟨_, rfl, ?_⟩)))
    · refine w_M_read_0 (fun h => absurd h h1) (fun _ h => absurd h h2') (fun _ _ => s_look hV (hM' f) (fun σ2 f2 _ => w_M_read_17 (fun _ => ⟨rfl, RR_L f2 (RR_frx f g r)⟩) ?_ ?_ ?_ ?_ ?_ ?_ ?_ ?_ ?_ ?_ ?_ ?_ ?_ ?_ ?_ ?_) (fun σ2 a e f2 hx ok _ => absurd ok (no a e hx (by have := ok.1; omega))))
      all_goals exact fun z => absurd rfl z
    · subst hx
      have ha := ok.1
      refine w_M_read_0 (fun h => absurd h h1) (fun _ h => absurd h h2') (fun _ _ => s_look hV (hM' f) (fun σ2 f2 no => absurd ok (no a e rfl (by omega))) (fun σ2 a' e' f2 hx' ok' hm => ?_))
      have ha' := ok'.1
      rw [n_inj (by omega) (by omega)] at hx'
      subst hx'
      have : e' = e := Option.some.inj (ok'.2.1.symm.trans ok.2.1)
      subst this
      exact s_Mread17 hV ok ((hM' f).ag (fr_ag f2 rfl)) hm ht ⟨rfl, RR_L f2 (RR_frx f g r)⟩
  · have h2' : (11 : Int32) < y := Int32.not_le.mp h2
    exact w_M_read_0 (fun _ => ⟨rfl, r⟩) (fun _ _ => ⟨rfl, r⟩) (fun _ h' => absurd h2' h')
