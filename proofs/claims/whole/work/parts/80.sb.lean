/-! TELLING: the builder -/
def fbb (σ σ' : st_S) : Prop := (∀ k i j, k ≠ 24 → k ≠ 25 → σ'.1 k i j = σ.1 k i j) ∧ σ'.2.2.2.2 = σ.2.2.2.2
theorem fbb_rf {σ : st_S} : fbb σ σ := ⟨fun _ _ _ _ _ => rfl, rfl⟩
theorem fbb_tr {σ σ1 σ2 : st_S} (h1 : fbb σ σ1) (h2 : fbb σ1 σ2) : fbb σ σ2 := ⟨fun k i j a b => (h2.1 k i j a b).trans (h1.1 k i j a b), h2.2.trans h1.2⟩
theorem fbb_up {σ σ1 : st_S} {k i j : Nat} {x : Int32} (h : fbb σ σ1) (hk : k = 24 ∨ k = 25) : fbb σ (st_up σ1 k i j x) := ⟨fun k' i' j' a b => (up_k (by omega)).trans (h.1 k' i' j' a b), h.2⟩
/-- the builder's array is sound, its text is t -/
def BC (σ : st_S) : Prop := σ.1 24 0 1 = 0 ∧ σ.2.2.2.1 < σ.2.1 ∧ 16 ≤ σ.2.2.1 σ.2.2.2.1 ∧ σ.2.2.1 σ.2.2.2.1 ≤ 200 ∧ ∀ i j, (σ.1 25 i j).toInt8.toInt32 = σ.1 25 i j
def BU (t : List Nat) (σ : st_S) : Prop := BC σ ∧ t.length ≤ σ.2.2.1 σ.2.2.2.1 ∧ σ.1 24 0 3 = Int32.ofNat t.length ∧ ∀ j, j < t.length → σ.1 25 σ.2.2.2.1 j = Int32.ofNat (t.getD j 0)
theorem n_sl0 (x : Int32) : x <<< 0 = x := by
  have h := n_shl (s := 0) (by omega) x.toBitVec.toNat
  rw [Nat.pow_zero, Nat.mul_one, ← n_un x] at h
  exact h
theorem sh0 : ((0 : Int32) &&& 31) = 0 := by decide
/-- room for need -/
theorem s_ens {t : List Nat} {σ : st_S} {need : Nat} (hB : BU t σ) (hn : need ≤ 60) {Q : st_S → Option eg_V → Prop} (K : ∀ σ', fbb σ σ' → BU t σ' → need ≤ σ'.2.2.1 σ'.2.2.2.1 → Q σ' none) : pw_E 161 0 σ (0, 0) [(0, .inr (24, 0)), (1, .inl (Int32.ofNat need))] [] Q := by
  have hB' := hB
  obtain ⟨⟨b1, b2, b3, b4, b5⟩, b6, b7, b8⟩ := hB
  obtain ⟨cap, hcap⟩ : ∃ cap, cap = σ.2.2.1 σ.2.2.2.1 := ⟨_, rfl⟩
  rw [← hcap] at b3 b4 b6
  have c1 : (Int32.ofNat need - Int32.ofNat cap ≤ 0) = (need ≤ cap) := by
    rw [z_le, z_sub (by rw [n_toInt (by omega), n_toInt (by omega)]; omega) (by rw [n_toInt (by omega), n_toInt (by omega)]; omega), n_toInt (by omega), n_toInt (by omega)]
    apply propext
    show ((need : Int) - cap ≤ 0) ↔ _
    omega
  obtain ⟨nc, hnc⟩ : ∃ nc, nc = cap + (if need - cap < cap + 2 then cap + 2 else need - cap) := ⟨_, rfl⟩
  have c2 : cap < need → Int32.ofNat cap + (if Int32.ofNat need - Int32.ofNat cap < Int32.ofNat cap + 2 then Int32.ofNat cap + 2 else Int32.ofNat need - Int32.ofNat cap) = Int32.ofNat nc := fun h => by
    rw [n_sub (Nat.le_of_lt h), show Int32.ofNat cap + 2 = Int32.ofNat (cap + 2) from n_add cap 2, hnc]
    by_cases hc : need - cap < cap + 2
    · rw [if_pos (show Int32.ofNat (need - cap) < Int32.ofNat (cap + 2) by rw [n_lt (by omega) (by omega)]; exact hc), if_pos hc, n_add]
    · rw [if_neg (show ¬ Int32.ofNat (need - cap) < Int32.ofNat (cap + 2) by rw [n_lt (by omega) (by omega)]; exact hc), if_neg hc, n_add]
  have c3 : cap < need → cap < nc ∧ nc ≤ 200 ∧ need ≤ nc := fun h => by rw [hnc]; split <;> omega
  have nosm : ∀ {P : Prop}, cap < need → Int32.ofNat nc ≤ 0 → P := fun h z => by
    have := c3 h
    rw [show (0 : Int32) = Int32.ofNat 0 from rfl, n_le (by omega) (by omega)] at z
    omega
  refine w_ASB_ensureCapacityInternal_0 ?_ ?_ ?_ ?_ ?_
  all_goals rw [← hcap, b1, sh0, n_sr0]
  all_goals try rw [n_sl0, n_sl0]
  · rw [c1]
    intro h
    exact K σ fbb_rf hB' (by rw [← hcap]; exact h)
  · rw [c1]
    intro h z
    rw [c2 (by omega)] at z
    exact nosm (by omega) z
  · rw [c1]
    intro h _ z
    rw [c2 (by omega)] at z
    have := c3 (by omega)
    rw [show (2147483639 : Int32) = Int32.ofNat 2147483639 from rfl, n_lt (by omega) (by omega)] at z
    omega
  · rw [c1]
    intro h _ _ z
    rw [c2 (by omega)] at z
    have := c3 (by omega)
    rw [show (2147483647 : Int32) = Int32.ofNat 2147483647 from rfl, n_inj (by omega) (by omega)] at z
    omega
  · rw [c1]
    intro h _ _ _
    have h := Nat.lt_of_not_le h
    rw [c2 h, n_sr0, n_sl0]
    obtain ⟨d1, d2, d3⟩ := c3 h
    have hcl : (Int32.ofNat nc).toNatClampNeg = nc := n_cl (by omega)
    have hclc : (Int32.ofNat cap).toNatClampNeg = cap := n_cl (by omega)
    have hmk : (st_mk σ nc).2.2.1 σ.2.2.2.1 = cap := by
      show (bif Nat.beq σ.2.2.2.1 σ.2.1 then nc else σ.2.2.1 σ.2.2.2.1) = cap
      rw [beq_ff (by omega), hcap]; rfl
    have hmk2 : (st_mk σ nc).2.2.1 σ.2.1 = nc := by
      show (bif Nat.beq σ.2.1 σ.2.1 then nc else σ.2.2.1 σ.2.1) = nc
      rw [Nat.beq_refl]; rfl
    have hmin : (if Int32.ofNat nc < Int32.ofNat ((st_mk σ nc).2.2.1 σ.2.2.2.1) then Int32.ofNat nc else Int32.ofNat ((st_mk σ nc).2.2.1 σ.2.2.2.1)) = Int32.ofNat cap := by
      rw [hmk]
      exact if_neg (by rw [n_lt (by omega) (by omega)]; omega)
    have hcell : ∀ j, (st_mk σ nc).1 25 σ.2.2.2.1 j = σ.1 25 σ.2.2.2.1 j := fun j => by
      show (bif Nat.beq 25 25 && Nat.beq σ.2.2.2.1 σ.2.1 then 0 else σ.1 25 σ.2.2.2.1 j) = _
      rw [beq_ff (a := σ.2.2.2.1) (b := σ.2.1) (by omega)]; rfl
    have hrd : ∀ j, eg_int (st_rd (st_mk σ nc) 25 σ.2.2.2.1 j) = σ.1 25 σ.2.2.2.1 j := fun j => hcell j
    refine w_Arrays_copyOf_0 (fun z => ?_) (fun _ => ?_) (fun _ => ?_) (fun _ => ?_)
    · rw [← hcap, n_inj (by omega) (by omega)] at z
      omega
    · rw [hcl, decide_eq_false (n_n0 (by omega)), Nat.ble_eq_true_of_le (show nc ≤ 65536 by omega), Nat.zero_add nc, Nat.ble_eq_true_of_le (show nc ≤ 200 by omega)]
      rfl
    · rw [hcl, hmin, hclc, decide_eq_false (n_n0 (a := cap) (by omega)), hmk, hmk2, Nat.zero_add, Nat.ble_eq_true_of_le (Nat.le_refl cap), Nat.ble_eq_true_of_le (show cap ≤ nc by omega)]
      show eg_byt st_X (st_mk σ nc) (25, σ.2.2.2.1) 0 cap = true
      refine List.all_eq_true.mpr (fun j _ => decide_eq_true ?_)
      show (eg_int (st_rd (st_mk σ nc) 25 σ.2.2.2.1 (0 + j))).toInt8.toInt32 = eg_int (st_rd (st_mk σ nc) 25 σ.2.2.2.1 (0 + j))
      rw [hrd]; exact b5 _ _
    · rw [hcl, hmin, hclc]
      refine w_ASB_ensureCapacityInternal_35 (K _ ⟨fun k i j h1 h2 => ?_, rfl⟩ ⟨⟨?_, ?_, ?_, ?_, fun i j => ?_⟩, ?_, ?_, fun j hj => ?_⟩ ?_)
      · show (bif Nat.beq k 25 && _ then _ else (st_mk σ nc).1 k i j) = _
        rw [beq_ff h2]
        show (bif Nat.beq k 25 && _ then _ else σ.1 k i j) = _
        rw [beq_ff h2]; rfl
      · exact b1
      · exact Nat.lt_succ_self _
      · show 16 ≤ (st_mk σ nc).2.2.1 σ.2.1
        rw [hmk2]; omega
      · show (st_mk σ nc).2.2.1 σ.2.1 ≤ 200
        rw [hmk2]; omega
      · have hv : ∀ (p q : Bool) (x y : Int32), x.toInt8.toInt32 = x → y.toInt8.toInt32 = y → (bif p then x else bif q then 0 else y).toInt8.toInt32 = (bif p then x else bif q then 0 else y) := fun p q x y hx hy => by
          cases p with
          | true => exact hx
          | false =>
            cases q with
            | true => exact (by decide : (0 : Int32).toInt8.toInt32 = 0)
            | false => exact hy
        exact hv (Nat.beq 25 25 && (Nat.beq i σ.2.1 && (Nat.ble 0 j && Nat.blt j (0 + cap)))) (Nat.beq 25 25 && Nat.beq i σ.2.1) (eg_int (st_rd (st_mk σ nc) 25 σ.2.2.2.1 (0 + (j - 0)))) (σ.1 25 i j) (by rw [hrd]; exact b5 _ _) (b5 _ _)
      · show t.length ≤ (st_mk σ nc).2.2.1 σ.2.1
        rw [hmk2]; omega
      · exact b7
      · show (bif Nat.beq 25 25 && (Nat.beq σ.2.1 σ.2.1 && (Nat.ble 0 j && Nat.blt j (0 + cap))) then eg_int (st_rd (st_mk σ nc) 25 σ.2.2.2.1 (0 + (j - 0))) else _) = _
        rw [Nat.beq_refl, Nat.beq_refl, Nat.ble_eq_true_of_le (Nat.zero_le j), Nat.zero_add, show Nat.blt j cap = true from Nat.ble_eq_true_of_le (by omega), hrd, Nat.zero_add, Nat.sub_zero]
        exact b8 j hj
      · show need ≤ (st_mk σ nc).2.2.1 σ.2.1
        rw [hmk2]; exact d3
theorem l_getD_app {l l' : List Nat} {j : Nat} : (l ++ l').getD j 0 = if j < l.length then l.getD j 0 else l'.getD (j - l.length) 0 := by
  induction l generalizing j with
  | nil => rw [if_neg (show ¬ j < ([] : List Nat).length from Nat.not_lt_zero j)]; rfl
  | cons a l ih =>
    cases j with
    | zero => rw [if_pos (show 0 < (a :: l).length from Nat.succ_pos _)]; rfl
    | succ j =>
      show (l ++ l').getD j 0 = if j + 1 < l.length + 1 then l.getD j 0 else l'.getD (j + 1 - (l.length + 1)) 0
      rw [ih]
      by_cases h : j < l.length
      · rw [if_pos h, if_pos (by omega)]
      · rw [if_neg h, if_neg (by omega), Nat.add_sub_add_right]
/-- bytes written behind the text -/
def WR (cur s : Nat) (l : List Nat) (σ σ' : st_S) : Prop := σ'.2 = σ.2 ∧ (∀ k i j, ¬ (k = 25 ∧ i = cur ∧ s ≤ j ∧ j < s + l.length) → σ'.1 k i j = σ.1 k i j) ∧ ∀ j, j < l.length → σ'.1 25 cur (s + j) = Int32.ofNat (l.getD j 0)
theorem WR_nil {cur s : Nat} {σ : st_S} : WR cur s [] σ σ := ⟨rfl, fun _ _ _ _ => rfl, fun j hj => absurd hj (Nat.not_lt_zero j)⟩
theorem WR_cons {cur s c : Nat} {l : List Nat} {σ σ1 : st_S} (h : WR cur (s + 1) l σ σ1) : WR cur s (c :: l) σ (st_up σ1 25 cur s (Int32.ofNat c)) := by
  obtain ⟨h1, h2, h3⟩ := h
  refine ⟨h1, fun k i j hz => ?_, fun j hj => ?_⟩
  · rw [List.length_cons] at hz
    rw [st_up_at, if_neg (fun z => hz ⟨z.1, z.2.1, by omega, by omega⟩)]
    exact h2 k i j (fun z => hz ⟨z.1, z.2.1, by omega, by omega⟩)
  · rw [List.length_cons] at hj
    cases j with
    | zero => rw [Nat.add_zero]; exact up_eq ..
    | succ j =>
      rw [up_j (by omega), show s + (j + 1) = s + 1 + j by omega, h3 j (by omega)]
      rfl
theorem t_i8n {c : Nat} (hc : c < 128) : (Int32.ofNat c).toInt8.toInt32 = Int32.ofNat c := t_i8 c hc
theorem BU_WR {t l : List Nat} {σ σ1 : st_S} (hB : BU t σ) (hw : WR σ.2.2.2.1 t.length l σ σ1) (hl : ∀ c ∈ l, c < 128) (hcap : t.length + l.length ≤ σ.2.2.1 σ.2.2.2.1) {x : Int32} (hx : x = Int32.ofNat (t.length + l.length)) : BU (t ++ l) (st_up σ1 24 0 3 x) ∧ fbb σ (st_up σ1 24 0 3 x) := by
  obtain ⟨⟨b1, b2, b3, b4, b5⟩, b6, b7, b8⟩ := hB
  obtain ⟨w1, w2, w3⟩ := hw
  have e2 : (st_up σ1 24 0 3 x).2 = σ.2 := w1
  have hgd : ∀ j, j < l.length → l.getD j 0 < 128 := fun j hj => hl _ (by
    rw [List.getD_eq_getElem?_getD, List.getElem?_eq_getElem hj]
    exact List.getElem_mem hj)
  refine ⟨⟨⟨?_, ?_, ?_, ?_, fun i j => ?_⟩, ?_, ?_, fun j hj => ?_⟩, fun k i j h1 h2 => ?_, ?_⟩
  · refine (up_j (by decide)).trans ((w2 24 0 1 (fun z => absurd z.1 (by decide))).trans b1)
  · rw [e2]; exact b2
  · rw [e2]; exact b3
  · rw [e2]; exact b4
  · rw [up_k (by decide)]
    by_cases hz : (25 = 25 ∧ i = σ.2.2.2.1 ∧ t.length ≤ j ∧ j < t.length + l.length)
    · obtain ⟨-, z1, z2, z3⟩ := hz
      rw [z1, show j = t.length + (j - t.length) by omega, w3 _ (by omega)]
      exact t_i8n (hgd _ (by omega))
    · rw [w2 25 i j hz]; exact b5 i j
  · rw [e2, List.length_append]; exact hcap
  · rw [List.length_append]; exact (up_eq ..).trans hx
  · rw [List.length_append] at hj
    rw [e2, up_k (by decide), l_getD_app]
    by_cases hlt : j < t.length
    · rw [if_pos hlt, w2 25 _ j (fun z => by have := z.2.2.1; omega)]
      exact b8 j hlt
    · rw [if_neg hlt, show σ1.1 25 σ.2.2.2.1 j = σ1.1 25 σ.2.2.2.1 (t.length + (j - t.length)) from by rw [show t.length + (j - t.length) = j by omega]]
      exact w3 _ (by omega)
  · rw [up_k h1]
    exact w2 k i j (fun z => h2 z.1)
  · rw [e2]
theorem WR_snd {cur s : Nat} {l : List Nat} {σ σ1 : st_S} (h : WR cur s l σ σ1) : σ1.2 = σ.2 := h.1
theorem s_appc {t : List Nat} {σ : st_S} {c : Nat} (hB : BU t σ) (hc : c < 128) (hl : t.length + 1 ≤ 60) {Q : st_S → Option eg_V → Prop} (K : ∀ σ', fbb σ σ' → BU (t ++ [c]) σ' → Q σ' (some (.inr (24, 0)))) : pw_E 150 0 σ (0, 0) [(0, .inr (24, 0)), (1, .inl (Int32.ofNat c))] [] Q := by
  refine w_SB_append_0 (w_ASB_append_0 ?_)
  rw [hB.2.2.1, show Int32.ofNat t.length + 1 = Int32.ofNat (t.length + 1) from n_add _ 1]
  refine s_ens hB hl (fun σ1 f1 B1 r1 => ?_)
  have c0 := B1.1.1
  have hle : ¬ (255 : Int32) < Int32.ofNat c := by rw [show (255 : Int32) = Int32.ofNat 255 from rfl, n_lt (by omega) (by omega)]; omega
  have hcap := B1.1.2.2.2.1
  refine w_ASB_append_10 rfl (fun _ z => absurd z hle) (fun _ _ => ?_) (fun _ _ => ?_) (fun z => absurd c0 z)
  · rw [B1.2.2.1]; exact n_inb (by omega) (by omega)
  · rw [B1.2.2.1, n_cl (by omega), t_i8 c hc, t_i8 c hc, show Int32.ofNat t.length + 1 = Int32.ofNat (t.length + 1) from n_add _ 1]
    have hw : WR σ1.2.2.2.1 t.length [c] σ1 (st_up σ1 25 σ1.2.2.2.1 t.length (Int32.ofNat c)) := WR_cons WR_nil
    have := BU_WR (x := Int32.ofNat (t.length + 1)) B1 hw (fun y hy => by rw [List.mem_singleton.mp hy]; exact hc) r1 rfl
    have sw : st_up (st_up σ1 24 0 3 (Int32.ofNat (t.length + 1))) 25 σ1.2.2.2.1 t.length (Int32.ofNat c) = st_up (st_up σ1 25 σ1.2.2.2.1 t.length (Int32.ofNat c)) 24 0 3 (Int32.ofNat (t.length + 1)) := by
      refine Prod.ext ?_ rfl
      funext k i j
      rw [st_up_at, st_up_at, st_up_at, st_up_at]
      by_cases h1 : k = 25 ∧ i = σ1.2.2.2.1 ∧ j = t.length
      · rw [if_pos h1, if_neg (fun z => by have := z.1; omega), if_pos h1]
      · rw [if_neg h1, if_neg h1]
    rw [sw]
    exact w_SB_append_5 (K _ (fbb_tr f1 this.2) this.1)
def tn (i : Nat) : List Nat := ([[32, 118], [110, 111, 112], [], [106, 117, 109, 112], [76], [99, 97, 115, 101, 115], [110, 76], [99, 111, 110, 115, 116], [65, 110], [97, 100, 100, 105], [65, 66, 110], [116, 97, 98, 108, 101], [65, 76], [114, 101, 116], [65], [109, 111, 118, 101], [65, 66], [97, 100, 100], [65, 66, 67], [115, 117, 98], [109, 117, 108], [106, 101, 113], [65, 66, 76], [106, 108, 116], [106, 122]] : List (List Nat)).getD i []
theorem tn_ok : ∀ i, i < 25 → (tn i).length = (kd_txt i).length ∧ (tn i).all (fun c => decide (c < 128)) = true ∧ (∀ j, j < (tn i).length → (kd_txt i).getD j 0 = Int32.ofNat ((tn i).getD j 0)) := by decide +kernel
theorem t_b8 : ∀ i, i < 25 → ∀ j, j < (kd_txt i).length → ((kd_txt i).getD j 0).toInt8.toInt32 = (kd_txt i).getD j 0 := by decide +kernel
theorem s_apps {t : List Nat} {σ : st_S} {i : Nat} (hB : BU t σ) (hi : i < 25) (hl : t.length + 5 ≤ 60) {Q : st_S → Option eg_V → Prop} (K : ∀ σ', fbb σ σ' → BU (t ++ tn i) σ' → Q σ' (some (.inr (24, 0)))) : pw_E 152 0 σ (0, 0) [(0, .inr (24, 0)), (1, .inr (53, i))] [] Q := by
  have h5 := t_len i hi
  obtain ⟨a1, a2, a3⟩ := tn_ok i hi
  refine w_SB_append3_0 (w_ASB_append3_0 (s_len (w_ASB_append3_13 rfl ?_)))
  rw [hB.2.2.1, n_add]
  refine s_ens hB (by omega) (fun σ1 f1 B1 r1 => ?_)
  have c0 := B1.1.1
  have hcap := B1.1.2.2.2.1
  have hcl : (Int32.ofNat (kd_txt i).length).toNatClampNeg = (kd_txt i).length := n_cl (by omega)
  refine w_ASB_append3_24 rfl (fun _ _ => ?_) (fun _ _ => ?_) (fun _ z => absurd c0.symm z) (fun z => absurd c0 z)
  · rw [c0, sh0, n_sl0, B1.2.2.1, hcl, n_cl (by omega), decide_eq_false (n_n0 (a := (kd_txt i).length) (by omega)), decide_eq_false (n_n0 (a := t.length) (by omega)), Nat.zero_add, Nat.ble_eq_true_of_le (Nat.le_refl _), Nat.ble_eq_true_of_le r1]
    show eg_byt st_X σ1 (54, i) 0 (kd_txt i).length = true
    refine List.all_eq_true.mpr (fun j hj => decide_eq_true ?_)
    show (eg_int (st_rd σ1 54 i (0 + j))).toInt8.toInt32 = eg_int (st_rd σ1 54 i (0 + j))
    rw [Nat.zero_add]
    exact t_b8 i hi j (List.mem_range.mp hj)
  · rw [c0, sh0, n_sl0, B1.2.2.1, hcl, n_cl (by omega), n_add]
    have hw : WR σ1.2.2.2.1 t.length (tn i) σ1 (st_cy σ1 (54, i) 0 σ1.2.2.2.1 t.length (kd_txt i).length) := by
      refine ⟨rfl, fun k i' j hz => ?_, fun j hj => ?_⟩
      · show (bif Nat.beq k 25 && (Nat.beq i' σ1.2.2.2.1 && (Nat.ble t.length j && Nat.blt j (t.length + (kd_txt i).length))) then _ else σ1.1 k i' j) = _
        cases hb : (Nat.beq k 25 && (Nat.beq i' σ1.2.2.2.1 && (Nat.ble t.length j && Nat.blt j (t.length + (kd_txt i).length)))) with
        | false => rfl
        | true =>
          simp only [Bool.and_eq_true] at hb
          exact absurd ⟨Nat.eq_of_beq_eq_true hb.1, Nat.eq_of_beq_eq_true hb.2.1, Nat.le_of_ble_eq_true hb.2.2.1, by rw [a1]; exact Nat.le_of_ble_eq_true hb.2.2.2⟩ hz
      · show (bif Nat.beq 25 25 && (Nat.beq σ1.2.2.2.1 σ1.2.2.2.1 && (Nat.ble t.length (t.length + j) && Nat.blt (t.length + j) (t.length + (kd_txt i).length))) then eg_int (st_rd σ1 54 i (0 + (t.length + j - t.length))) else _) = _
        rw [Nat.beq_refl, Nat.beq_refl, Nat.ble_eq_true_of_le (Nat.le_add_right _ _), show Nat.blt (t.length + j) (t.length + (kd_txt i).length) = true from Nat.ble_eq_true_of_le (by omega), Nat.zero_add, Nat.add_sub_cancel_left]
        exact a3 j hj
    have := BU_WR (x := Int32.ofNat (t.length + (kd_txt i).length)) B1 hw (fun y hy => of_decide_eq_true (List.all_eq_true.mp a2 y hy)) (by rw [a1]; exact r1) (by rw [a1])
    exact w_SB_append3_5 (K _ (fbb_tr f1 this.2) this.1)
theorem s_setlen {t : List Nat} {σ : st_S} (hB : BU t σ) {Q : st_S → Option eg_V → Prop} (K : ∀ σ', fbb σ σ' → BU [] σ' → Q σ' none) : pw_E 155 0 σ (0, 0) [(0, .inr (24, 0)), (1, .inl 0)] [] Q := by
  refine w_SB_setLength_0 (w_ASB_setLength_0 (fun _ => s_ens (need := 0) hB (by omega) (fun σ1 f1 B1 _ => ?_)) (fun z => absurd (by decide) z))
  obtain ⟨⟨b1, b2, b3, b4, b5⟩, b6, b7, b8⟩ := B1
  have h0 : (0 : Int32) ≤ σ1.1 24 0 3 := by rw [b7]; exact n_0le (by omega)
  have N : ∀ {σ2 : st_S}, fbb σ1 σ2 → σ2.2 = σ1.2 → σ2.1 24 0 1 = 0 → σ2.1 24 0 3 = 0 → (∀ i j, σ2.1 25 i j = σ1.1 25 i j) → Q σ2 none := fun {σ2} f2 e2 z1 z3 z25 => K σ2 (fbb_tr f1 f2) ⟨⟨z1, by rw [e2]; exact b2, by rw [e2]; exact b3, by rw [e2]; exact b4, fun i j => by rw [z25]; exact b5 i j⟩, Nat.zero_le _, z3, fun j hj => absurd hj (Nat.not_lt_zero j)⟩
  refine w_ASB_setLength_18 (fun _ _ => w_SB_setLength_5 (N (fbb_up fbb_rf (Or.inl rfl)) rfl b1 rfl (fun _ _ => rfl))) (fun _ _ => w_SB_setLength_5 (N (fbb_up (fbb_up fbb_rf (Or.inl rfl)) (Or.inl rfl)) rfl b1 rfl (fun _ _ => rfl))) (fun z => absurd h0 z) (fun z => absurd h0 z) (fun z => absurd h0 z)
