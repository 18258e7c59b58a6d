/-! RUNNING, both ways -/
abbrev fp_rC : List (Nat × Nat) := [(19, 999), (20, 999), (21, 999), (22, 999), (23, 999)]
theorem s_move {σ : st_S} {n a e : Nat} {w : Nat → Nat} {m : MS} (hV : cc_V n w) (hC : cc_C n w σ) (hR : R_R σ) (he : e < 16) (ok : rd_ok n w a e) (hc : rd_C 0 n w a e σ)
    (hf : ∀ j, j < 16 → σ.1 23 0 j = mcal e (w a / 256 % 16) (rb e (w a) (rn n w a)) (rc e (rn n w a)) (rf w e (w a) (rn n w a) a) m.1 j) (hm : σ.1 22 0 1 = m.2.1 ∧ σ.1 22 0 2 = m.2.2.1 ∧ σ.1 22 0 3 = m.2.2.2.1 ∧ σ.1 22 0 4 = m.2.2.2.2) (hp : m.2.1 = Int32.ofNat a) {Q : st_S → Option eg_V → Prop}
    (K : ∀ σ', fr fp_rC σ σ' → R_R σ' → mC ((mst n w a e m).1, (mst n w a e m).2.1, m.2.2.1, (mst n w a e m).2.2.2.1, (mst n w a e m).2.2.2.2) σ' → Q σ' none) :
    pw_E 81 0 σ (0, 0) [(0, .inr (22, 0)), (1, .inr (16, 0)), (2, .inr (19, 0))] [] Q := by
  have hc' := hc
  obtain ⟨c0, c1, c2, c4, cr, cc⟩ := hc
  obtain ⟨m1, m2, m3, m4⟩ := hm
  have hk : (σ.1 19 0 0).toNatClampNeg = e := by rw [c0]; exact n_cl (by omega)
  have inb : ∀ j, j < 3 → eg_inb (σ.1 20 0 j) 16 = true := fun j hj => by
    obtain ⟨r, h1, h2⟩ := hR 0 j (by omega) hj
    rw [h2]; exact n_inb h1 (by omega)
  have rA : e ≠ 15 → σ.1 23 0 (σ.1 20 0 0).toNatClampNeg = mcal e (w a / 256 % 16) (rb e (w a) (rn n w a)) (rc e (rn n w a)) (rf w e (w a) (rn n w a) a) m.1 (w a / 256 % 16) := fun h => by
    rw [(cr h).1, n_cl (by omega)]; exact hf _ (by omega)
  have hsame : (e = 2 ∨ e = 14 ∨ 9 ≤ e) → mcal e (w a / 256 % 16) (rb e (w a) (rn n w a)) (rc e (rn n w a)) (rf w e (w a) (rn n w a) a) m.1 = m.1 := fun h => by
    unfold mcal
    rw [if_neg (by omega), if_neg (by omega), if_neg (by omega), if_neg (by omega), if_neg (by omega), if_neg (by omega)]
  have hlp : mlp e (w a / 256 % 16) (rb e (w a) (rn n w a)) (mcal e (w a / 256 % 16) (rb e (w a) (rn n w a)) (rc e (rn n w a)) (rf w e (w a) (rn n w a) a) m.1) = mlp e (w a / 256 % 16) (rb e (w a) (rn n w a)) m.1 := by
    by_cases h9 : 9 ≤ e
    · rw [hsame (by omega)]
    · unfold mlp
      rw [decide_eq_false (by omega), decide_eq_false (by omega)]
  refine w_Machine_moveOn_0 (inb 0 (by omega)) (fun h => ?_) (fun h h' => ?_) (fun h h' => ?_)
  · rw [hk] at h
    rw [rA (by omega), hsame (by omega)]
    refine K _ (fr_up (fr_up fr_rf rfl) rfl) (fun i j hi hj => hR i j hi hj) ⟨hf, ?_, m2, ?_, ?_⟩
    · show σ.1 22 0 1 = (mst n w a e m).2.1
      rw [m1]
      show m.2.1 = if e = 2 then m.2.1 else _
      rw [if_pos h]
    · show (1 : Int32) = if e = 2 then 1 else _
      rw [if_pos h]
    · refine (up_eq ..).trans ?_
      show m.1 (w a / 256 % 16) = if e = 2 then m.1 (w a / 256 % 16) else _
      rw [if_pos h]
  · rw [hk] at h h'
    rw [rA (by omega), hsame (by omega), m1]
    refine s_td hV hC hc' (fun σ1 f1 g1 => ?_)
    have f1' := frx_fr f1
    refine w_Machine_moveOn_57 (K _ (fr_up (fr_w _ f1' rfl) rfl) (fun i j hi hj => ?_) ⟨fun j hj => ?_, ?_, ?_, ?_, ?_⟩)
    · show ∃ r, r < 16 ∧ σ1.1 20 i j = Int32.ofNat r
      by_cases hi1 : i = 1
      · subst hi1
        rcases g1 j hj with z | z
        · exact z
        · rw [z]; exact hR 1 j hi hj
      · rw [f1.2 20 i j (Or.inl hi1)]; exact hR i j hi hj
    · exact (f1'.2 23 0 j rfl).trans (hf j hj)
    · refine (up_eq ..).trans ?_
      show _ = if e = 2 then m.2.1 else if e = 14 then _ else _
      rw [if_neg h, if_pos h']
    · exact (f1'.2 22 0 2 rfl).trans m2
    · refine ((f1'.2 22 0 3 rfl).trans m3).trans ?_
      show _ = if e = 2 then 1 else m.2.2.2.1
      rw [if_neg h]
    · refine ((f1'.2 22 0 4 rfl).trans m4).trans ?_
      show _ = if e = 2 then _ else m.2.2.2.2
      rw [if_neg h]
  · rw [hk] at h h'
    refine s_leaps (by omega) hR he hc' hf rA ?_
    rw [hlp]
    have fin : ∀ x, x = (mst n w a e m).2.1 → Q (st_up σ 22 0 1 x) none := fun x hx => by
      refine K _ (fr_up fr_rf rfl) (fun i j hi hj => hR i j hi hj) ⟨hf, (up_eq ..).trans hx, m2, ?_, ?_⟩
      · refine m3.trans ?_
        show _ = if e = 2 then 1 else m.2.2.2.1
        rw [if_neg h]
      · refine m4.trans ?_
        show _ = if e = 2 then _ else m.2.2.2.2
        rw [if_neg h]
    refine w_Machine_moveOn_71 (fun z => fin _ ?_) (fun z => fin _ ?_)
    · show _ = if e = 2 then m.2.1 else if e = 14 then _ else if mlp e (w a / 256 % 16) (rb e (w a) (rn n w a)) m.1 = true then _ else _
      rw [tx_b0] at z
      rw [if_neg h, if_neg h', if_neg (by rw [z]; decide), m1, c2]
    · show _ = if e = 2 then m.2.1 else if e = 14 then _ else if mlp e (w a / 256 % 16) (rb e (w a) (rn n w a)) m.1 = true then _ else _
      rw [tx_b0, Bool.not_eq_false] at z
      rw [if_neg h, if_neg h', if_pos z, c1, c4]
def mrun (n : Nat) (w : Nat → Nat) : Nat → Nat → MS → MS × Int32
  | 0, k, m => (m, Int32.ofNat k)
  | d + 1, k, m => if m.2.2.2.1 = 0 then (match rdx n w m.2.1 with
    | none => ((m.1, m.2.1, m.2.2.1, 2, m.2.2.2.2), -7)
    | some (a, e) => mrun n w d (k + 1) (mst n w a e m)) else (m, Int32.ofNat k)
theorem s_goOn {n N : Nat} {w : Nat → Nat} (hV : cc_V n w) (hN : N ≤ 30) {Q : st_S → Option eg_V → Prop} : ∀ d k (σ : st_S) (m : MS), k + d = N → cc_C n w σ → R_R σ → mC m σ →
    (∀ σ', fr fp_rC σ σ' → R_R σ' → mC (mrun n w d k m).1 σ' → Q σ' (some (.inl (mrun n w d k m).2))) →
    pw_E 79 3 σ (0, 0) [(0, .inr (22, 0)), (1, .inr (16, 0)), (2, .inr (19, 0)), (3, .inl (Int32.ofNat N)), (4, .inl (Int32.ofNat k))] [] Q := by
  intro d
  induction d with
  | zero =>
    intro k σ m hk hC hR hm K
    have hc : Int32.ofNat N ≤ Int32.ofNat k := by rw [n_le (by omega) (by omega)]; omega
    exact w_Machine_goOn_3 (fun _ => K σ fr_rf hR hm) (fun h => absurd hc h) (fun h => absurd hc h)
  | succ d ih =>
    intro k σ m hk hC hR hm K
    have hc : ¬ Int32.ofNat N ≤ Int32.ofNat k := by rw [n_le (by omega) (by omega)]; omega
    obtain ⟨mf, m1, m2, m3, m4⟩ := hm
    refine w_Machine_goOn_3 (fun h => absurd h hc) (fun _ h => ?_) (fun _ h => ?_)
    · rw [m3] at h
      have K' : ∀ σ', fr fp_rC σ σ' → R_R σ' → mC (match rdx n w m.2.1 with | none => ((m.1, m.2.1, m.2.2.1, 2, m.2.2.2.2), (-7 : Int32)) | some (a, e) => mrun n w d (k + 1) (mst n w a e m)).1 σ' → Q σ' (some (.inl (match rdx n w m.2.1 with | none => ((m.1, m.2.1, m.2.2.1, 2, m.2.2.2.2), (-7 : Int32)) | some (a, e) => mrun n w d (k + 1) (mst n w a e m)).2)) := by
        have K2 := K
        unfold mrun at K2
        rw [if_pos h] at K2
        exact K2
      rw [m1]
      refine c_read hV hC (fun σ1 f g hx => ?_) (fun σ1 a e f g hx hr ok hcc => ?_)
      · rw [hx] at K'
        have f' := frx_fr f
        refine w_Machine_goOn_25 (fun _ => K' _ (fr_up (fr_w _ f' rfl) rfl) (fun i j hi hj => ?_) ⟨fun j hj => (f'.2 23 0 j rfl).trans (mf j hj), (f'.2 22 0 1 rfl).trans m1, (f'.2 22 0 2 rfl).trans m2, up_eq .., (f'.2 22 0 4 rfl).trans m4⟩) (fun z => absurd rfl z)
        show ∃ r, r < 16 ∧ σ1.1 20 i j = Int32.ofNat r
        by_cases hi1 : i = 0
        · subst hi1
          rcases g j hj with z | z
          · exact z
          · rw [z]; exact hR 0 j hi hj
        · rw [f.2 20 i j (Or.inl hi1)]; exact hR i j hi hj
      · rw [hr] at K'
        have f' := frx_fr f
        have he := rk_lt ok.2.1
        have hR1 : R_R σ1 := fun i j hi hj => by
          by_cases hi1 : i = 0
          · subst hi1
            rcases g j hj with z | z
            · exact z
            · rw [z]; exact hR 0 j hi hj
          · rw [f.2 20 i j (Or.inl hi1)]; exact hR i j hi hj
        have hC1 : cc_C n w σ1 := hC.ag (fr_ag f' rfl)
        refine w_Machine_goOn_25 (fun z => absurd z (by decide)) (fun _ => ?_)
        refine s_calc (by omega) hR1 he hcc (fun j hj => (f'.2 23 0 j rfl).trans (mf j hj)) (fun σ2 f2 h2 => ?_)
        refine w_Machine_goOn_41 ?_
        have hR2 : R_R σ2 := hR1.ag (fr_ag f2 rfl)
        have hc2 : rd_C 0 n w a e σ2 := by
          obtain ⟨c0, c1, c2, c4, cr, cc⟩ := hcc
          exact ⟨(f2.2 19 0 0 rfl).trans c0, (f2.2 19 0 1 rfl).trans c1, (f2.2 19 0 2 rfl).trans c2, (f2.2 19 0 4 rfl).trans c4, fun z => ⟨(f2.2 20 0 0 rfl).trans (cr z).1, (f2.2 20 0 1 rfl).trans (cr z).2.1, (f2.2 20 0 2 rfl).trans (cr z).2.2⟩, fun z => ⟨(f2.2 19 0 5 rfl).trans (cc z).1, fun k hk => (f2.2 21 0 k rfl).trans ((cc z).2 k hk)⟩⟩
        refine s_move (m := m) hV (hC1.ag (fr_ag f2 rfl)) hR2 he ok hc2 h2 ⟨(f2.2 22 0 1 rfl).trans ((f'.2 22 0 1 rfl).trans m1), (f2.2 22 0 2 rfl).trans ((f'.2 22 0 2 rfl).trans m2), (f2.2 22 0 3 rfl).trans ((f'.2 22 0 3 rfl).trans m3), (f2.2 22 0 4 rfl).trans ((f'.2 22 0 4 rfl).trans m4)⟩ hx (fun σ3 f3 hR3 hm3 => ?_)
        refine w_Machine_goOn_47 ?_
        rw [show Int32.ofNat k + 1 = Int32.ofNat (k + 1) from n_add k 1]
        have F : fr fp_rC σ (st_up σ3 22 0 2 (σ3.1 22 0 2 + 1)) := fr_up (fr_tr (fr_w _ f' rfl) (fr_tr (fr_w _ f2 rfl) f3)) rfl
        refine ih (k + 1) _ (mst n w a e m) (by omega) (hC.ag (fr_ag F rfl)) (fun i j hi hj => hR3 i j hi hj) ⟨hm3.1, hm3.2.1, ?_, hm3.2.2.2.1, hm3.2.2.2.2⟩ (fun σ4 f4 hR4 hm4 => K' σ4 (fr_tr F f4) hR4 hm4)
        refine (up_eq ..).trans ?_
        rw [hm3.2.2.1]
        rfl
    · rw [m3] at h
      have K2 := K σ fr_rf hR
      unfold mrun at K2
      rw [if_neg h] at K2
      exact K2 ⟨mf, m1, m2, m3, m4⟩
