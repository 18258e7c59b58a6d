/-! RUNNING: one step of the machine, as data: registers, place, steps, stopped, outcome -/
def rdx (n : Nat) (w : Nat → Nat) (x : Int32) : Option (Nat × Nat) :=
  if x < 0 then none else if x.toNatClampNeg < n then (match rk (w x.toNatClampNeg) with
    | some e => if (e = 15 → 1 ≤ rn n w x.toNatClampNeg ∧ rn n w x.toNatClampNeg ≤ 4) ∧ x.toNatClampNeg + ru e (rn n w x.toNatClampNeg) ≤ n then some (x.toNatClampNeg, e) else none
    | none => none) else none
theorem n_n0 {a : Nat} (h : a < 2147483648) : ¬ Int32.ofNat a < 0 := by rw [show (0 : Int32) = Int32.ofNat 0 from rfl, n_lt h (by omega)]; omega
theorem rdx_some {n a e : Nat} {w : Nat → Nat} (hn : n ≤ 200) (ok : rd_ok n w a e) : rdx n w (Int32.ofNat a) = some (a, e) := by
  obtain ⟨h1, h2, h3, h4⟩ := ok
  unfold rdx
  rw [if_neg (n_n0 (by omega)), n_cl (by omega), if_pos h1, h2]
  show (if (e = 15 → 1 ≤ rn n w a ∧ rn n w a ≤ 4) ∧ a + ru e (rn n w a) ≤ n then some (a, e) else none) = _
  rw [if_pos ⟨h3, h4⟩]
theorem rdx_none {n : Nat} {w : Nat → Nat} {x : Int32} (no : ∀ a e, x = Int32.ofNat a → a < 2147483648 → ¬ rd_ok n w a e) : rdx n w x = none := by
  unfold rdx
  by_cases h0 : x < 0
  · rw [if_pos h0]
  · obtain ⟨a, ha, rfl⟩ := n_of' h0
    rw [if_neg h0, n_cl ha]
    by_cases h1 : a < n
    · rw [if_pos h1]
      cases h2 : rk (w a) with
      | none => rfl
      | some e =>
        show (if (e = 15 → 1 ≤ rn n w a ∧ rn n w a ≤ 4) ∧ a + ru e (rn n w a) ≤ n then some (a, e) else none) = none
        rw [if_neg (fun z => no a e rfl ha ⟨h1, h2, z.1, z.2⟩)]
    · rw [if_neg h1]
theorem rdx_ok {n : Nat} {w : Nat → Nat} {x : Int32} {a e : Nat} (h : rdx n w x = some (a, e)) : x = Int32.ofNat a ∧ rd_ok n w a e := by
  unfold rdx at h
  by_cases h0 : x < 0
  · rw [if_pos h0] at h; cases h
  · obtain ⟨b, hb, rfl⟩ := n_of' h0
    rw [if_neg h0, n_cl hb] at h
    by_cases h1 : b < n
    · rw [if_pos h1] at h
      cases h2 : rk (w b) with
      | none => rw [h2] at h; cases h
      | some e' =>
        rw [h2] at h
        have h' : (if (e' = 15 → 1 ≤ rn n w b ∧ rn n w b ≤ 4) ∧ b + ru e' (rn n w b) ≤ n then some (b, e') else none) = some (a, e) := h
        by_cases h3 : (e' = 15 → 1 ≤ rn n w b ∧ rn n w b ≤ 4) ∧ b + ru e' (rn n w b) ≤ n
        · rw [if_pos h3] at h'
          cases h'
          exact ⟨rfl, h1, h2, h3.1, h3.2⟩
        · rw [if_neg h3] at h'; cases h'
    · rw [if_neg h1] at h; cases h
/-- the class reads, by rdx -/
theorem c_read {σ : st_S} {i n : Nat} {w : Nat → Nat} {x : Int32} (hV : cc_V n w) (hC : cc_C n w σ) {Q : st_S → Option eg_V → Prop}
    (K0 : ∀ σ', frx i σ σ' → rgk i σ σ' → rdx n w x = none → Q σ' (some (.inl 0)))
    (K1 : ∀ σ' a e, frx i σ σ' → rgk i σ σ' → x = Int32.ofNat a → rdx n w x = some (a, e) → rd_ok n w a e → rd_C i n w a e σ' → Q σ' (some (.inl 1))) :
    pw_E 62 0 σ (0, 0) [(0, .inr (19, i)), (1, .inr (16, 0)), (2, .inl x)] [] Q :=
  s_canRead hV hC (fun σ' f g no => K0 σ' f g (rdx_none no)) (fun σ' a e f g hx ok hc => K1 σ' a e f g hx (by rw [hx]; exact rdx_some hV.1 ok) ok hc)
theorem m_read {σ : st_S} {n : Nat} {w : Nat → Nat} {x : Int32} (hV : cc_V n w) (hM : cc_M n w σ) {Q : st_S → Option eg_V → Prop}
    (K0 : ∀ σ', fr fp_L σ σ' → rdx n w x = none → Q σ' (some (.inl 0)))
    (K1 : ∀ σ' a e, fr fp_L σ σ' → x = Int32.ofNat a → rdx n w x = some (a, e) → rd_ok n w a e → rd_M n w a e σ' → Q σ' (some (.inl 1))) : pw_E 120 0 σ (0, 0) [(0, .inr (26, 0)), (1, .inl x)] [] Q :=
  s_look hV hM (fun σ' f no => K0 σ' f (rdx_none no)) (fun σ' a e f hx ok hc => K1 σ' a e f hx (by rw [hx]; exact rdx_some hV.1 ok) ok hc)
abbrev MS : Type := (Nat → Int32) × Int32 × Int32 × Int32 × Int32
def mu (f : Nat → Int32) (a : Nat) (x : Int32) : Nat → Int32 := fun j => if j = a then x else f j
def mcal (e A B C : Nat) (F : Int32) (f : Nat → Int32) : Nat → Int32 :=
  if e = 1 then mu f A (f B) else if e = 3 ∨ e = 4 then mu f A F else if e = 5 then mu f A (f B + f C) else if e = 6 then mu f A (f B - f C) else if e = 7 then mu f A (f B * f C) else if e = 8 then mu f A (f B + F) else f
def mlp (e A B : Nat) (f : Nat → Int32) : Bool := decide (e = 9 ∨ e = 10 ∨ (e = 11 ∧ f A = f B) ∨ (e = 12 ∧ f A < f B) ∨ (e = 13 ∧ f A = 0))
def mtd (n : Nat) (w : Nat → Nat) (U : Nat) (t r : Int32) : Int32 :=
  match rdx n w t with
  | some (a, e) => if e = 15 ∧ ¬ r - rf w e (w a) (rn n w a) a < 0 ∧ r - rf w e (w a) (rn n w a) a < Int32.ofNat (rn n w a) then sg (w (a + 3 + (r - rf w e (w a) (rn n w a) a).toNatClampNeg)) 65536 else Int32.ofNat U
  | none => Int32.ofNat U
def mst (n : Nat) (w : Nat → Nat) (a e : Nat) (m : MS) : MS :=
  (mcal e (w a / 256 % 16) (rb e (w a) (rn n w a)) (rc e (rn n w a)) (rf w e (w a) (rn n w a) a) m.1,
   (if e = 2 then m.2.1 else if e = 14 then m.2.1 + mtd n w (ru e (rn n w a)) (Int32.ofNat a + rf w e (w a) (rn n w a) a) (m.1 (w a / 256 % 16)) else if mlp e (w a / 256 % 16) (rb e (w a) (rn n w a)) m.1 = true then Int32.ofNat a + rf w e (w a) (rn n w a) a else m.2.1 + Int32.ofNat (ru e (rn n w a))),
   m.2.2.1 + 1, (if e = 2 then 1 else m.2.2.2.1), (if e = 2 then m.1 (w a / 256 % 16) else m.2.2.2.2))
def mC (m : MS) (σ : st_S) : Prop := (∀ j, j < 16 → σ.1 23 0 j = m.1 j) ∧ σ.1 22 0 1 = m.2.1 ∧ σ.1 22 0 2 = m.2.2.1 ∧ σ.1 22 0 3 = m.2.2.2.1 ∧ σ.1 22 0 4 = m.2.2.2.2
def mM (m : MS) (σ : st_S) : Prop := (∀ j, j < 16 → σ.1 46 0 j = m.1 j) ∧ σ.1 26 0 41 = m.2.1 ∧ σ.1 26 0 42 = m.2.2.1 ∧ σ.1 26 0 43 = m.2.2.2.1 ∧ σ.1 26 0 44 = m.2.2.2.2
theorem k_sw : ∀ e, e < 16 → kd_sw (kd_ordinal e).toNatClampNeg = Int32.ofNat (([0, 1, 0, 2, 3, 4, 5, 6, 7, 8, 9, 10, 11, 12, 0, 0] : List Nat).getD e 0) ∧ eg_inb (kd_ordinal e) 16 = true := by decide +kernel
theorem k_swi : ∀ e, e < 16 → ∀ c, c < 13 → Int32.ofNat (([0, 1, 0, 2, 3, 4, 5, 6, 7, 8, 9, 10, 11, 12, 0, 0] : List Nat).getD e 0) = Int32.ofNat c → c = 0 ∨ e = ([0, 1, 3, 4, 5, 6, 7, 8, 9, 10, 11, 12, 13] : List Nat).getD c 0 := by decide +kernel
theorem k_swn : ∀ e, e < 16 → ∀ c, c < 13 → c ≠ 0 → e = ([0, 1, 3, 4, 5, 6, 7, 8, 9, 10, 11, 12, 13] : List Nat).getD c 0 → Int32.ofNat (([0, 1, 0, 2, 3, 4, 5, 6, 7, 8, 9, 10, 11, 12, 0, 0] : List Nat).getD e 0) = Int32.ofNat c := by decide +kernel
theorem mu_up {k : Nat} {σ : st_S} {f : Nat → Int32} {A : Nat} {x : Int32} (h : ∀ j, j < 16 → σ.1 k 0 j = f j) : ∀ j, j < 16 → (st_up σ k 0 A x).1 k 0 j = mu f A x j := by
  intro j hj
  unfold mu
  rw [st_up_at]
  by_cases hja : j = A
  · rw [if_pos ⟨rfl, rfl, hja⟩, if_pos hja]
  · rw [if_neg (fun z => hja z.2.2), if_neg hja, h j hj]
theorem s_calc {σ : st_S} {i n a e : Nat} {w : Nat → Nat} {f : Nat → Int32} (hi : i < 2) (hR : R_R σ) (he : e < 16) (hc : rd_C i n w a e σ) (hf : ∀ j, j < 16 → σ.1 23 0 j = f j) {Q : st_S → Option eg_V → Prop}
    (K : ∀ σ', fr [(23, 999)] σ σ' → (∀ j, j < 16 → σ'.1 23 0 j = mcal e (w a / 256 % 16) (rb e (w a) (rn n w a)) (rc e (rn n w a)) (rf w e (w a) (rn n w a) a) f j) → Q σ' none) :
    pw_E 80 0 σ (0, 0) [(0, .inr (22, 0)), (1, .inr (19, i))] [] Q := by
  obtain ⟨c0, c1, c2, c4, cr, cc⟩ := hc
  have hk : (σ.1 19 i 0).toNatClampNeg = e := by rw [c0]; exact n_cl (by omega)
  have inb : ∀ j, j < 3 → eg_inb (σ.1 20 i j) 16 = true := fun j hj => by
    obtain ⟨r, h1, h2⟩ := hR i j hi hj
    rw [h2]; exact n_inb h1 (by omega)
  have hA : w a / 256 % 16 < 16 := by omega
  have hB : rb e (w a) (rn n w a) < 16 := by unfold rb; split <;> omega
  have hC : rc e (rn n w a) < 16 := by unfold rc; split <;> omega
  obtain ⟨s1, s2⟩ := k_sw e he
  have sw : ∀ c, c < 13 → c ≠ 0 → kd_sw (kd_ordinal (σ.1 19 i 0).toNatClampNeg).toNatClampNeg = Int32.ofNat c → e = ([0, 1, 3, 4, 5, 6, 7, 8, 9, 10, 11, 12, 13] : List Nat).getD c 0 := fun c h1 h2 h3 => by
    rw [hk, s1] at h3
    exact (k_swi e he c h1 h3).resolve_left h2
  have nsw : ∀ c, c < 13 → c ≠ 0 → ¬ kd_sw (kd_ordinal (σ.1 19 i 0).toNatClampNeg).toNatClampNeg = Int32.ofNat c → e ≠ ([0, 1, 3, 4, 5, 6, 7, 8, 9, 10, 11, 12, 13] : List Nat).getD c 0 := fun c h1 h2 h3 h4 => by
    rw [hk, s1] at h3
    exact h3 (k_swn e he c h1 h2 h4)
  have rA : e ≠ 15 → (σ.1 20 i 0).toNatClampNeg = w a / 256 % 16 := fun h => by rw [(cr h).1]; exact n_cl (by omega)
  have rB : e ≠ 15 → σ.1 23 0 (σ.1 20 i 1).toNatClampNeg = f (rb e (w a) (rn n w a)) := fun h => by rw [(cr h).2.1, n_cl (by omega)]; exact hf _ hB
  have rC : e ≠ 15 → σ.1 23 0 (σ.1 20 i 2).toNatClampNeg = f (rc e (rn n w a)) := fun h => by rw [(cr h).2.2, n_cl (by omega)]; exact hf _ hC
  refine w_Machine_calculate_0 (inb 1 (by omega)) (inb 2 (by omega)) (by rw [hk]; exact s2) (fun _ => inb 0 (by omega)) (fun h => ?_) (fun _ => inb 0 (by omega)) (fun h => ?_) (fun _ => inb 0 (by omega)) (fun h => ?_) (fun _ => inb 0 (by omega)) (fun h => ?_) (fun _ => inb 0 (by omega)) (fun h => ?_) (fun _ => inb 0 (by omega)) (fun h => ?_) (fun _ => inb 0 (by omega)) (fun h => ?_) (fun h1 h2 h3 h4 h5 h6 h7 => ?_)
  · have z : e = 1 := sw 1 (by omega) (by omega) h
    rw [rA (by omega), rB (by omega)]
    refine K _ (fr_up fr_rf rfl) (fun j hj => ?_)
    rw [mu_up hf j hj]
    unfold mcal; rw [if_pos z]
  · have z : e = 3 := sw 2 (by omega) (by omega) h
    rw [rA (by omega), c4]
    refine K _ (fr_up fr_rf rfl) (fun j hj => ?_)
    rw [mu_up hf j hj]
    unfold mcal; rw [if_neg (by omega), if_pos (by omega)]
  · have z : e = 4 := sw 3 (by omega) (by omega) h
    rw [rA (by omega), c4]
    refine K _ (fr_up fr_rf rfl) (fun j hj => ?_)
    rw [mu_up hf j hj]
    unfold mcal; rw [if_neg (by omega), if_pos (by omega)]
  · have z : e = 5 := sw 4 (by omega) (by omega) h
    rw [rA (by omega), rB (by omega), rC (by omega)]
    refine K _ (fr_up fr_rf rfl) (fun j hj => ?_)
    rw [mu_up hf j hj]
    unfold mcal; rw [if_neg (by omega), if_neg (by omega), if_pos (by omega)]
  · have z : e = 6 := sw 5 (by omega) (by omega) h
    rw [rA (by omega), rB (by omega), rC (by omega)]
    refine K _ (fr_up fr_rf rfl) (fun j hj => ?_)
    rw [mu_up hf j hj]
    unfold mcal; rw [if_neg (by omega), if_neg (by omega), if_neg (by omega), if_pos (by omega)]
  · have z : e = 7 := sw 6 (by omega) (by omega) h
    rw [rA (by omega), rB (by omega), rC (by omega)]
    refine K _ (fr_up fr_rf rfl) (fun j hj => ?_)
    rw [mu_up hf j hj]
    unfold mcal; rw [if_neg (by omega), if_neg (by omega), if_neg (by omega), if_neg (by omega), if_pos (by omega)]
  · have z : e = 8 := sw 7 (by omega) (by omega) h
    rw [rA (by omega), rB (by omega), c4]
    refine K _ (fr_up fr_rf rfl) (fun j hj => ?_)
    rw [mu_up hf j hj]
    unfold mcal; rw [if_neg (by omega), if_neg (by omega), if_neg (by omega), if_neg (by omega), if_neg (by omega), if_pos (by omega)]
  · have z1 : e ≠ 1 := nsw 1 (by omega) (by omega) h1
    have z2 : e ≠ 3 := nsw 2 (by omega) (by omega) h2
    have z3 : e ≠ 4 := nsw 3 (by omega) (by omega) h3
    have z4 : e ≠ 5 := nsw 4 (by omega) (by omega) h4
    have z5 : e ≠ 6 := nsw 5 (by omega) (by omega) h5
    have z6 : e ≠ 7 := nsw 6 (by omega) (by omega) h6
    have z7 : e ≠ 8 := nsw 7 (by omega) (by omega) h7
    refine K σ fr_rf (fun j hj => ?_)
    unfold mcal; rw [if_neg (by omega), if_neg (by omega), if_neg (by omega), if_neg (by omega), if_neg (by omega), if_neg (by omega)]
    exact hf j hj
theorem s_leaps {σ : st_S} {i n a e : Nat} {w : Nat → Nat} {f : Nat → Int32} {x : Int32} (hi : i < 2) (hR : R_R σ) (he : e < 16) (hc : rd_C i n w a e σ) (hf : ∀ j, j < 16 → σ.1 23 0 j = f j) (hx : e ≠ 15 → x = f (w a / 256 % 16)) {Q : st_S → Option eg_V → Prop}
    (K : Q σ (some (.inl (tx_b (mlp e (w a / 256 % 16) (rb e (w a) (rn n w a)) f))))) :
    pw_E 83 0 σ (0, 0) [(0, .inr (22, 0)), (1, .inr (19, i)), (2, .inl x)] [] Q := by
  obtain ⟨c0, c1, c2, c4, cr, cc⟩ := hc
  have hk : (σ.1 19 i 0).toNatClampNeg = e := by rw [c0]; exact n_cl (by omega)
  have inb : ∀ j, j < 3 → eg_inb (σ.1 20 i j) 16 = true := fun j hj => by
    obtain ⟨r, h1, h2⟩ := hR i j hi hj
    rw [h2]; exact n_inb h1 (by omega)
  have hB : rb e (w a) (rn n w a) < 16 := by unfold rb; split <;> omega
  obtain ⟨s1, s2⟩ := k_sw e he
  have sw : ∀ c, c < 13 → c ≠ 0 → kd_sw (kd_ordinal (σ.1 19 i 0).toNatClampNeg).toNatClampNeg = Int32.ofNat c → e = ([0, 1, 3, 4, 5, 6, 7, 8, 9, 10, 11, 12, 13] : List Nat).getD c 0 := fun c h1 h2 h3 => by
    rw [hk, s1] at h3
    exact (k_swi e he c h1 h3).resolve_left h2
  have nsw : ∀ c, c < 13 → c ≠ 0 → ¬ kd_sw (kd_ordinal (σ.1 19 i 0).toNatClampNeg).toNatClampNeg = Int32.ofNat c → e ≠ ([0, 1, 3, 4, 5, 6, 7, 8, 9, 10, 11, 12, 13] : List Nat).getD c 0 := fun c h1 h2 h3 h4 => by
    rw [hk, s1] at h3
    exact h3 (k_swn e he c h1 h2 h4)
  have rB : e ≠ 15 → σ.1 23 0 (σ.1 20 i 1).toNatClampNeg = f (rb e (w a) (rn n w a)) := fun h => by rw [(cr h).2.1, n_cl (by omega)]; exact hf _ hB
  have yes : (e = 9 ∨ e = 10 ∨ (e = 11 ∧ f (w a / 256 % 16) = f (rb e (w a) (rn n w a))) ∨ (e = 12 ∧ f (w a / 256 % 16) < f (rb e (w a) (rn n w a))) ∨ (e = 13 ∧ f (w a / 256 % 16) = 0)) → Q σ (some (.inl 1)) := fun h => by
    unfold mlp at K
    rw [decide_eq_true h] at K
    exact K
  have no : ¬ (e = 9 ∨ e = 10 ∨ (e = 11 ∧ f (w a / 256 % 16) = f (rb e (w a) (rn n w a))) ∨ (e = 12 ∧ f (w a / 256 % 16) < f (rb e (w a) (rn n w a))) ∨ (e = 13 ∧ f (w a / 256 % 16) = 0)) → Q σ (some (.inl 0)) := fun h => by
    unfold mlp at K
    rw [decide_eq_false h] at K
    exact K
  refine w_Machine_leaps_0 (inb 1 (by omega)) (by rw [hk]; exact s2) (fun h => ?_) (fun h => ?_) (fun h h' => ?_) (fun h h' => ?_) (fun h h' => ?_) (fun h h' => ?_) (fun h h' => ?_) (fun h h' => ?_) (fun h1 h2 h3 h4 h5 => ?_)
  · have z : e = 9 := sw 8 (by omega) (by omega) h
    exact yes (Or.inl z)
  · have z : e = 10 := sw 9 (by omega) (by omega) h
    exact yes (Or.inr (Or.inl z))
  · have z : e = 11 := sw 10 (by omega) (by omega) h
    rw [hx (by omega), rB (by omega)] at h'
    exact yes (Or.inr (Or.inr (Or.inl ⟨z, h'⟩)))
  · have z : e = 11 := sw 10 (by omega) (by omega) h
    rw [hx (by omega), rB (by omega)] at h'
    refine no (fun y => ?_)
    rcases y with y | y | y | y | y
    · omega
    · omega
    · exact h' y.2
    · omega
    · omega
  · have z : e = 12 := sw 11 (by omega) (by omega) h
    rw [hx (by omega), rB (by omega)] at h'
    refine no (fun y => ?_)
    rcases y with y | y | y | y | y
    · omega
    · omega
    · omega
    · exact absurd y.2 (Int32.not_lt.mpr h')
    · omega
  · have z : e = 12 := sw 11 (by omega) (by omega) h
    rw [hx (by omega), rB (by omega)] at h'
    exact yes (Or.inr (Or.inr (Or.inr (Or.inl ⟨z, Int32.not_le.mp h'⟩))))
  · have z : e = 13 := sw 12 (by omega) (by omega) h
    rw [hx (by omega)] at h'
    exact yes (Or.inr (Or.inr (Or.inr (Or.inr ⟨z, h'⟩))))
  · have z : e = 13 := sw 12 (by omega) (by omega) h
    rw [hx (by omega)] at h'
    refine no (fun y => ?_)
    rcases y with y | y | y | y | y
    · omega
    · omega
    · omega
    · omega
    · exact h' y.2
  · have z1 : e ≠ 9 := nsw 8 (by omega) (by omega) h1
    have z2 : e ≠ 10 := nsw 9 (by omega) (by omega) h2
    have z3 : e ≠ 11 := nsw 10 (by omega) (by omega) h3
    have z4 : e ≠ 12 := nsw 11 (by omega) (by omega) h4
    have z5 : e ≠ 13 := nsw 12 (by omega) (by omega) h5
    exact no (by omega)
theorem s_td {σ : st_S} {n a e : Nat} {w : Nat → Nat} {r : Int32} (hV : cc_V n w) (hC : cc_C n w σ) (hc : rd_C 0 n w a e σ) {Q : st_S → Option eg_V → Prop}
    (K : ∀ σ', frx 1 σ σ' → rgk 1 σ σ' → Q σ' (some (.inl (mtd n w (ru e (rn n w a)) (Int32.ofNat a + rf w e (w a) (rn n w a) a) r)))) :
    pw_E 82 0 σ (0, 0) [(0, .inr (22, 0)), (1, .inr (16, 0)), (2, .inr (19, 0)), (3, .inl r)] [] Q := by
  obtain ⟨c0, c1, c2, c4, cr, cc⟩ := hc
  refine w_Machine_tableDistance_0 ?_
  rw [c1, c4]
  unfold mtd at K
  refine c_read hV hC (fun σ1 f g hx => ?_) (fun σ1 a' e' f g hx hr ok hc' => ?_)
  · rw [hx] at K
    refine w_Machine_tableDistance_12 (fun _ => ?_) (fun z => absurd rfl z) (fun z => absurd rfl z) (fun z => absurd rfl z) (fun z => absurd rfl z) (fun z => absurd rfl z)
    rw [f.2 19 0 2 (Or.inl (by decide)), c2]
    exact K σ1 f g
  · rw [hr] at K
    have K := K σ1 f g
    obtain ⟨d0, d1, d2, d4, dr, dc⟩ := hc'
    have he' := rk_lt ok.2.1
    have hk : (σ1.1 19 1 0).toNatClampNeg = e' := by rw [d0]; exact n_cl (by omega)
    have h2 : σ1.1 19 0 2 = Int32.ofNat (ru e (rn n w a)) := (f.2 19 0 2 (Or.inl (by decide))).trans c2
    have K : Q σ1 (some (.inl (if e' = 15 ∧ ¬ r - rf w e' (w a') (rn n w a') a' < 0 ∧ r - rf w e' (w a') (rn n w a') a' < Int32.ofNat (rn n w a') then sg (w (a' + 3 + (r - rf w e' (w a') (rn n w a') a').toNatClampNeg)) 65536 else Int32.ofNat (ru e (rn n w a))))) := K
    refine w_Machine_tableDistance_12 (fun z => absurd z (by decide)) (fun _ g1 g2 => ?_) (fun _ g1 g2 g3 => ?_) (fun _ g1 g2 g3 => ?_) (fun _ g1 g2 g3 => ?_) (fun _ g1 => ?_)
    · rw [d4] at g2
      rw [if_neg (fun z => z.2.1 g2)] at K
      rw [h2]; exact K
    · rw [hk] at g1
      rw [d4] at g3
      rw [(dc g1).1] at g3
      rw [if_neg (fun z => absurd z.2.2 (Int32.not_lt.mpr g3))] at K
      rw [h2]; exact K
    · rw [hk] at g1
      rw [d4] at g2 g3 ⊢
      rw [(dc g1).1] at g3
      obtain ⟨k, hkk, e1⟩ := n_of' g2
      rw [e1] at g3 ⊢
      have := (ok.2.2.1 g1).2
      rw [n_le (by omega) hkk] at g3
      exact n_inb (by omega) (by omega)
    · rw [hk] at g1
      rw [d4] at g2 g3 ⊢
      rw [(dc g1).1] at g3
      rw [if_pos ⟨g1, g2, Int32.not_le.mp g3⟩] at K
      obtain ⟨k, hkk, e1⟩ := n_of' g2
      rw [e1] at g3 K ⊢
      have := (ok.2.2.1 g1).2
      rw [n_le (by omega) hkk] at g3
      rw [n_cl hkk] at K ⊢
      rw [(dc g1).2 k (by omega)]
      exact K
    · rw [hk] at g1
      rw [if_neg (fun z => g1 z.1)] at K
      rw [h2]; exact K
