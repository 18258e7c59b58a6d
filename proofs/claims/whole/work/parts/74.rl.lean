/-! LINES: arguments, the reference's way -/
abbrev fp_ln : List (Nat × Nat) := [(26, 16), (26, 17), (26, 18), (26, 19), (26, 20), (26, 21), (39, 999)]
theorem s_regsOf {σ : st_S} {f : Nat} (hf : f < 16) (h4 : f ≠ 4) (h10 : f ≠ 10) {Q : st_S → Option eg_V → Prop} (K : Q σ (some (.inl (Int32.ofNat (kr f))))) : pw_E 99 0 σ (0, 0) [(0, .inl (kd_op f))] [] Q := by
  have op : ∀ o, o < 16 → kd_op f = kd_op o → f = o := fun o ho h => k_opx f hf o ho h
  have nop : ∀ o, o < 16 → ¬ kd_op f = kd_op o → f ≠ o := fun o ho h z => h (by rw [z])
  refine w_M_registersOf_0 (fun h => ?_) (fun _ h => ?_) (fun _ _ h => ?_) (fun _ _ _ h => ?_) (fun _ _ _ _ h => ?_) (fun _ _ _ _ _ h => ?_) (fun _ _ _ _ _ _ h => ?_) (fun _ _ _ _ _ _ _ h => ?_) (fun _ _ _ _ _ _ _ _ h => ?_) (fun _ _ _ _ _ _ _ _ _ h => ?_) (fun _ _ _ _ _ _ _ _ _ _ h => ?_) (fun h0 h1 h2 h3 h4' h5 h6 h7 h8 h9 h10' => ?_)
  · have z := op 0 (by omega) h; subst z; exact K
  · have z := op 9 (by omega) h; subst z; exact K
  · have z := op 15 (by omega) h; subst z; exact K
  · have z := op 2 (by omega) h; subst z; exact K
  · have z := op 3 (by omega) h; subst z; exact K
  · have z := op 13 (by omega) h; subst z; exact K
  · have z := op 14 (by omega) h; subst z; exact K
  · have z := op 1 (by omega) h; subst z; exact K
  · have z := op 8 (by omega) h; subst z; exact K
  · have z := op 11 (by omega) h; subst z; exact K
  · have z := op 12 (by omega) h; subst z; exact K
  · have z0 := nop 0 (by omega) h0; have z1 := nop 9 (by omega) h1; have z2 := nop 15 (by omega) h2; have z3 := nop 2 (by omega) h3; have z4 := nop 3 (by omega) h4'; have z5 := nop 13 (by omega) h5; have z6 := nop 14 (by omega) h6; have z7 := nop 1 (by omega) h7; have z8 := nop 8 (by omega) h8; have z9 := nop 11 (by omega) h9; have z10 := nop 12 (by omega) h10'
    have : kr f = 3 := (by decide +kernel : ∀ f, f < 16 → f = 5 ∨ f = 6 ∨ f = 7 → kr f = 3) f hf (by omega)
    rw [this] at K; exact K
theorem s_numOf {σ : st_S} {f : Nat} (hf : f < 16) (h4 : f ≠ 4) {Q : st_S → Option eg_V → Prop} (K : Q σ (some (.inl (Int32.ofNat (if f = 8 then 2 else if kn f = true then 1 else 0))))) : pw_E 100 0 σ (0, 0) [(0, .inl (kd_op f))] [] Q := by
  have op : ∀ o, o < 16 → kd_op f = kd_op o → f = o := fun o ho h => k_opx f hf o ho h
  have nop : ∀ o, o < 16 → ¬ kd_op f = kd_op o → f ≠ o := fun o ho h z => h (by rw [z])
  refine w_M_numberOf_0 (fun h => ?_) (fun _ h => ?_) (fun _ _ h => ?_) (fun h0 h1 h2 => ?_)
  · have z := op 3 (by omega) h; subst z; exact K
  · have z := op 15 (by omega) h; subst z; exact K
  · have z := op 8 (by omega) h; subst z; exact K
  · have z0 := nop 3 (by omega) h0; have z1 := nop 15 (by omega) h1; have z2 := nop 8 (by omega) h2
    have : kn f = false := (by decide +kernel : ∀ f, f < 16 → f ≠ 3 → f ≠ 4 → f ≠ 8 → f ≠ 15 → kn f = false) f hf z0 h4 z2 z1
    rw [if_neg z2, this, if_neg (by decide)] at K; exact K
section
variable {r : Nat → Int32} {E n : Nat}
theorem wM.fr {σ σ' : st_S} (h : wM r E σ) (f : fr fp_ln σ σ') : wM r E σ' := ⟨(f.2 26 0 4 rfl).trans h.1, fun j hj => ⟨(f.2 28 0 j rfl).trans (h.2 j hj).1, (f.2 29 0 j rfl).trans (h.2 j hj).2⟩⟩
/-- a register of word w, -1 for none -/
def mR (r : Nat → Int32) (E w : Nat) : Int32 := if w < sW r E then tx_sv (wR r E w) else -1
theorem mR_0 {w : Nat} : (mR r E w < 0) ↔ ¬ (w < sW r E ∧ wR r E w ≠ none) := by
  unfold mR
  by_cases h : w < sW r E
  · rw [if_pos h]
    cases hr : wR r E w with
    | none => exact ⟨fun _ z => z.2 rfl, fun _ => (by decide : (-1 : Int32) < 0)⟩
    | some v =>
      have hv := rgP_lt hr
      exact ⟨fun z => absurd z (n_n0 (a := v) (by omega)), fun z => absurd ⟨h, fun y => by cases y⟩ z⟩
  · rw [if_neg h]
    exact ⟨fun _ z => h z.1, fun _ => by decide⟩
theorem s_mR {σ : st_S} {w : Nat} (hn : n ≤ 40) (hE : E ≤ n) (hw3 : w ≤ 3) (h27 : ∀ j, j < n → σ.1 27 0 j = r j) (hw : wM r E σ) {Q : st_S → Option eg_V → Prop} (K : Q σ (some (.inl (mR r E w)))) : pw_E 102 0 σ (0, 0) [(0, .inr (26, 0)), (1, .inl (Int32.ofNat w))] [] Q := by
  obtain ⟨k1, -, -, k4⟩ := sc_ok r E
  unfold mR at K
  by_cases h : w < sW r E
  · rw [if_pos h] at K
    obtain ⟨b1, b2⟩ := k4 w h
    exact s_mreg' hn (by omega) b1 h (by omega) h27 hw.1 (hw.2 w h).1 (hw.2 w h).2 K
  · rw [if_neg h] at K
    have hle : σ.1 26 0 4 ≤ Int32.ofNat w := by rw [hw.1, n_le (by omega) (by omega)]; omega
    exact w_M_registerIn_0 (fun _ => K) (fun z => absurd hle z) (fun z => absurd hle z) (fun z => absurd hle z) (fun z => absurd hle z)
theorem aL_pos {e j : Nat} (hj : 1 + kc e + j < sW r E) (h : wL r E (1 + kc e + j) ≠ none) : aL r E e j = tx_sv (wL r E (1 + kc e + j)) ∧ (0 : Int32) ≤ aL r E e j := by
  obtain ⟨-, -, -, k4⟩ := sc_ok r E
  unfold aL
  cases hl : wL r E (1 + kc e + j) with
  | none => exact absurd hl h
  | some v => exact ⟨rfl, n_0le (by have := lab_b (k4 _ hj).1 hl; omega)⟩
/-- what the reference has read -/
def MR (r : Nat → Int32) (E e : Nat) (σ : st_S) : Prop := σ.1 26 0 16 = kd_op e ∧ σ.1 26 0 17 = Int32.ofNat (aR r E e 0) ∧ σ.1 26 0 18 = Int32.ofNat (aR r E e 1) ∧ σ.1 26 0 19 = Int32.ofNat (aR r E e 2) ∧ σ.1 26 0 20 = aN r E e ∧ σ.1 26 0 21 = Int32.ofNat (sW r E - 1 - kc e) ∧ ∀ j, j < sW r E - 1 - kc e → σ.1 39 0 j = aL r E e j
theorem s_mrl204 {e : Nat} (hn : n ≤ 40) (hE : E ≤ n) (hW : kc e + 1 ≤ sW r E) (hL4 : sW r E - 1 - kc e ≤ 4) {Q : st_S → Option eg_V → Prop} : ∀ d q (σ : st_S), q + d = sW r E - 1 - kc e → (∀ j, j < n → σ.1 27 0 j = r j) → wM r E σ → σ.1 26 0 21 = Int32.ofNat (sW r E - 1 - kc e) → (∀ j, j < q → wL r E (1 + kc e + j) ≠ none ∧ σ.1 39 0 j = aL r E e j) →
    (∀ σ', fr [(39, 999)] σ σ' → (∃ j, j < sW r E - 1 - kc e ∧ wL r E (1 + kc e + j) = none) → Q σ' (some (.inl 0))) →
    (∀ σ', fr [(39, 999)] σ σ' → (∀ j, j < sW r E - 1 - kc e → wL r E (1 + kc e + j) ≠ none ∧ σ'.1 39 0 j = aL r E e j) → Q σ' (some (.inl 1))) →
    pw_E 98 204 σ (0, 0) [(0, .inr (26, 0)), (4, .inl (Int32.ofNat (1 + kc e))), (5, .inl (Int32.ofNat q))] [] Q := by
  obtain ⟨k1, -, -, k4⟩ := sc_ok r E
  intro d
  induction d with
  | zero =>
    intro q σ hd h27 hw h21 hq K0 K1
    have hle : σ.1 26 0 21 ≤ Int32.ofNat q := by rw [h21, n_le (by omega) (by omega)]; omega
    exact w_M_readLine_204 (fun _ => K1 σ fr_rf (fun j hj => hq j (by omega))) (fun h => absurd hle h)
  | succ d ih =>
    intro q σ hd h27 hw h21 hq K0 K1
    have hle : ¬ σ.1 26 0 21 ≤ Int32.ofNat q := by rw [h21, n_le (by omega) (by omega)]; omega
    have hqW : 1 + kc e + q < sW r E := by omega
    obtain ⟨b1, b2⟩ := k4 _ hqW
    have hclq : (Int32.ofNat q).toNatClampNeg = q := n_cl (by omega)
    refine w_M_readLine_204 (fun h => absurd h hle) (fun _ => ?_)
    rw [n_add]
    refine s_mlab hn (by omega) b1 (by omega) h27 (hw.2 _ hqW).1 (hw.2 _ hqW).2 (w_M_readLine_228 (n_inb (by omega) (by omega)) (n_inb (by omega) (by omega)) (fun z => ?_) (fun z => ?_))
    · rw [hclq, up_eq] at z
      rw [hclq, show Int32.ofNat q + 1 = Int32.ofNat (q + 1) from n_add q 1]
      have hne : wL r E (1 + kc e + q) ≠ none := fun y => by
        rw [show lab r (sS r E (1 + kc e + q)) (sT r E (1 + kc e + q)) = none from y] at z
        exact absurd z (by decide)
      refine ih (q + 1) _ (by omega) h27 hw h21 (fun j hj => ?_) (fun σ' f => K0 σ' (fr_tr (fr_up fr_rf rfl) f)) (fun σ' f => K1 σ' (fr_tr (fr_up fr_rf rfl) f))
      by_cases hjq : j = q
      · subst hjq
        exact ⟨hne, (up_eq ..).trans (aL_pos hqW hne).1.symm⟩
      · exact ⟨(hq j (by omega)).1, (up_j hjq).trans (hq j (by omega)).2⟩
    · rw [hclq, up_eq] at z
      rw [hclq]
      refine K0 _ (fr_up fr_rf rfl) ⟨q, by omega, ?_⟩
      cases hl : wL r E (1 + kc e + q) with
      | none => rfl
      | some v =>
        rw [show lab r (sS r E (1 + kc e + q)) (sT r E (1 + kc e + q)) = some v from hl] at z
        exact absurd (n_0le (by have := lab_b b1 hl; omega)) z
theorem s_mrl {σ : st_S} {e : Nat} (hn : n ≤ 40) (hE : E ≤ n) (he : e < 16) (h4 : e ≠ 4) (h10 : e ≠ 10) (hW0 : 1 ≤ sW r E) (h27 : ∀ j, j < n → σ.1 27 0 j = r j) (hw : wM r E σ) (h16 : σ.1 26 0 16 = kd_op e) {Q : st_S → Option eg_V → Prop}
    (K0 : ∀ σ', fr fp_ln σ σ' → ¬ GA r E e → Q σ' (some (.inl 0)))
    (K1 : ∀ σ', fr fp_ln σ σ' → GA r E e → MR r E e σ' → Q σ' (some (.inl 1))) :
    pw_E 98 0 σ (0, 0) [(0, .inr (26, 0))] [] Q := by
  obtain ⟨a1, a2, a3, a4, a5⟩ := ar_ok e he
  obtain ⟨k1, -, -, k4⟩ := sc_ok r E
  have hkc : kc e = kr e + (if kn e = true then 1 else 0) := rfl
  have s151 : ∀ σ1, fr fp_ln σ σ1 → σ1.1 26 0 16 = kd_op e → σ1.1 26 0 17 = Int32.ofNat (aR r E e 0) → σ1.1 26 0 18 = Int32.ofNat (aR r E e 1) → σ1.1 26 0 19 = Int32.ofNat (aR r E e 2) → (∀ j, j < kr e → wR r E (1 + j) ≠ none) → 1 + kr e ≤ sW r E → (kn e = false → σ1.1 26 0 20 = 0) → (kn e = true → σ1.1 26 0 20 = if 1 + kr e < sW r E then nm9 e (wN r E (1 + kr e)) else 99999999) → pw_E 98 151 σ1 (0, 0) [(0, .inr (26, 0)), (3, .inl (if e = 15 then -1 else if e = 9 ∨ 11 ≤ e then 1 else 0)), (4, .inl (Int32.ofNat (1 + kc e)))] [] Q := by
    intro σ1 f1 q16 q17 q18 q19 hreg hrW hnf hnt
    have gn : kn e = true → (σ1.1 26 0 20 = 99999999 → ¬ ∃ x, 1 + kr e < sW r E ∧ wN r E (1 + kr e) = some x ∧ hold e x) ∧ (¬ σ1.1 26 0 20 = 99999999 → 1 + kr e < sW r E ∧ ∃ x, wN r E (1 + kr e) = some x ∧ hold e x ∧ σ1.1 26 0 20 = x) := fun hk => by
      have h20 := hnt hk
      by_cases hlt : 1 + kr e < sW r E
      · rw [if_pos hlt] at h20
        cases hN : wN r E (1 + kr e) with
        | none =>
          rw [hN] at h20
          refine ⟨fun _ z => ?_, fun z => absurd h20 z⟩
          obtain ⟨x, -, h, -⟩ := z
          cases h
        | some x =>
          rw [hN] at h20
          have h20 : σ1.1 26 0 20 = if (if e = 8 then (-128 ≤ x.toInt ∧ x.toInt ≤ 127) else (-32768 ≤ x.toInt ∧ x.toInt ≤ 32767)) then x else 99999999 := h20
          by_cases hh : hold e x
          · rw [if_pos (hold_iff.mp hh)] at h20
            refine ⟨fun z => ?_, fun _ => ⟨hlt, x, rfl, hh, h20⟩⟩
            rw [h20] at z
            rw [z, hold_iff] at hh
            by_cases h8 : e = 8
            · rw [if_pos h8] at hh; exact absurd hh.2 (by decide)
            · rw [if_neg h8] at hh; exact absurd hh.2 (by decide)
          · rw [if_neg (fun y => hh (hold_iff.mpr y))] at h20
            refine ⟨fun _ z => ?_, fun z => absurd h20 z⟩
            obtain ⟨x', -, h, h'⟩ := z
            cases h
            exact hh h'
      · rw [if_neg hlt] at h20
        exact ⟨fun _ z => hlt z.choose_spec.1, fun z => absurd h20 z⟩
    have bad20 : σ1.1 26 0 20 = 99999999 → ¬ GA r E e := fun z g => by
      cases hk : kn e with
      | false => rw [hnf hk] at z; exact absurd z (by decide)
      | true =>
        have hW1 : 1 + kr e < sW r E := by
          rw [if_pos hk] at hkc
          have := g.1; omega
        obtain ⟨x, h1, h2⟩ := g.2.2.2.2.1 hk (by omega)
        exact (gn hk).1 z ⟨x, hW1, h1, h2⟩
    have good20 : ¬ σ1.1 26 0 20 = 99999999 → kc e + 1 ≤ sW r E ∧ (kn e = true → ∃ x, wN r E (1 + kr e) = some x ∧ hold e x) ∧ σ1.1 26 0 20 = aN r E e := fun z => by
      unfold aN
      cases hk : kn e with
      | false =>
        rw [hk, if_neg (by decide)] at hkc
        exact ⟨by omega, fun y => (by cases y), by rw [if_neg (by decide)]; exact hnf hk⟩
      | true =>
        rw [hk, if_pos rfl] at hkc
        obtain ⟨g1, x, g2, g3, g4⟩ := (gn hk).2 z
        exact ⟨by omega, fun _ => ⟨x, g2, g3⟩, by rw [if_pos rfl, g2, g4]; rfl⟩
    have sub : kc e + 1 ≤ sW r E → σ1.1 26 0 4 - Int32.ofNat (1 + kc e) = Int32.ofNat (sW r E - 1 - kc e) := fun h => by
      rw [show σ1.1 26 0 4 = Int32.ofNat (sW r E) from (f1.2 26 0 4 rfl).trans hw.1, n_sub (by omega)]
      congr 1; omega
    have fail : ∀ x, ¬ GA r E e → pw_E 98 199 (st_up σ1 26 0 21 x) (0, 0) [] [] Q := fun x g => w_M_readLine_199 (K0 _ (fr_up f1 rfl) g)
    have go : ¬ σ1.1 26 0 20 = 99999999 → (e ≠ 15 → sW r E - 1 - kc e = kl e) → (e = 15 → 1 ≤ sW r E - 1 - kc e ∧ sW r E - 1 - kc e ≤ 4) → pw_E 98 201 (st_up σ1 26 0 21 (Int32.ofNat (sW r E - 1 - kc e))) (0, 0) [(0, .inr (26, 0)), (4, .inl (Int32.ofNat (1 + kc e)))] [] Q := fun z g1 g2 => by
      obtain ⟨y1, y2, y3⟩ := good20 z
      have hL4 : sW r E - 1 - kc e ≤ 4 := by
        by_cases h15 : e = 15
        · exact (g2 h15).2
        · have := g1 h15; omega
      have F : fr fp_ln σ (st_up σ1 26 0 21 (Int32.ofNat (sW r E - 1 - kc e))) := fr_up f1 rfl
      refine w_M_readLine_201 (s_mrl204 hn hE y1 hL4 (sW r E - 1 - kc e) 0 _ (by omega) (fun j hj => (F.2 27 0 j rfl).trans (h27 j hj)) (hw.fr F) (up_eq ..) (fun j hj => by omega) (fun σ2 f2 h => K0 σ2 (fr_tr F (fr_w _ f2 rfl)) (fun g => ?_)) (fun σ2 f2 h => K1 σ2 (fr_tr F (fr_w _ f2 rfl)) ⟨y1, g1, g2, fun j hj _ => hreg j hj, fun hk _ => y2 hk, fun j hj => (h j hj).1⟩ ⟨?_, ?_, ?_, ?_, ?_, ?_, fun j hj => (h j hj).2⟩))
      · obtain ⟨j, h1, h2⟩ := h
        exact g.2.2.2.2.2 j h1 h2
      · exact (f2.2 26 0 16 rfl).trans q16
      · exact (f2.2 26 0 17 rfl).trans q17
      · exact (f2.2 26 0 18 rfl).trans q18
      · exact (f2.2 26 0 19 rfl).trans q19
      · exact (f2.2 26 0 20 rfl).trans y3
      · exact (f2.2 26 0 21 rfl).trans (up_eq ..)
    have klv : e ≠ 15 → (if e = 9 ∨ 11 ≤ e then (1 : Int32) else 0) = Int32.ofNat (kl e) := fun h15 => (by decide +kernel : ∀ e, e < 16 → e ≠ 15 → e ≠ 10 → (if e = 9 ∨ 11 ≤ e then (1 : Int32) else 0) = Int32.ofNat (kl e)) e he h15 h10
    by_cases h15 : e = 15
    · rw [if_pos h15]
      refine w_M_readLine_151 (fun z => fail _ (bad20 z)) (fun z _ => ?_) (fun _ z => absurd (by decide) z) (fun _ z => absurd (by decide) z)
      obtain ⟨y1, y2, y3⟩ := good20 z
      rw [sub y1]
      have e21 : (st_up σ1 26 0 21 (Int32.ofNat (sW r E - 1 - kc e))).1 26 0 21 = Int32.ofNat (sW r E - 1 - kc e) := up_eq ..
      refine w_M_readLine_183 (fun y => absurd y (by decide)) (fun _ y => fail _ (fun g => ?_)) (fun _ _ y => fail _ (fun g => ?_)) (fun _ y y' => go z (fun y => absurd h15 y) (fun _ => ?_))
      · rw [e21, show (1 : Int32) = Int32.ofNat 1 from rfl, n_lt (by omega) (by omega)] at y
        have := (g.2.2.1 h15).1; omega
      · rw [e21, show (4 : Int32) = Int32.ofNat 4 from rfl, n_lt (by omega) (by omega)] at y
        have := (g.2.2.1 h15).2; omega
      · rw [e21, show (1 : Int32) = Int32.ofNat 1 from rfl, n_lt (by omega) (by omega)] at y
        rw [e21, show (4 : Int32) = Int32.ofNat 4 from rfl, n_lt (by omega) (by omega)] at y'
        omega
    · rw [if_neg h15, klv h15]
      have nneg : ¬ Int32.ofNat (kl e) < 0 := n_n0 (by omega)
      refine w_M_readLine_151 (fun z => fail _ (bad20 z)) (fun _ z => absurd z nneg) (fun z _ y => ?_) (fun z _ y => fail _ (fun g => ?_))
      · obtain ⟨y1, y2, y3⟩ := good20 z
        rw [sub y1, n_inj (by omega) (by omega)] at y
        rw [sub y1]
        exact w_M_readLine_183 (fun _ => go z (fun _ => y) (fun x => absurd x h15)) (fun x => absurd (n_0le (by omega)) x) (fun x => absurd (n_0le (by omega)) x) (fun x => absurd (n_0le (by omega)) x)
      · obtain ⟨y1, y2, y3⟩ := good20 z
        rw [sub y1, n_inj (by omega) (by omega)] at y
        exact y (g.2.1 h15)
  have vj : ∀ j, (j < kr e → wR r E (1 + j) ≠ none ∧ 1 + j < sW r E) → (if j < kr e then mR r E (1 + j) else 0) = Int32.ofNat (aR r E e j) := fun j h => by
    unfold aR
    by_cases hj : j < kr e
    · obtain ⟨h1, h2⟩ := h hj
      rw [if_pos hj, if_pos hj]
      unfold mR
      rw [if_pos h2]
      cases hr : wR r E (1 + j) with
      | none => exact absurd hr h1
      | some v => rfl
    · rw [if_neg hj, if_neg hj]; rfl
  have ng : ∀ j, (if j < kr e then mR r E (1 + j) else 0) < 0 → ¬ GA r E e := fun j h g => by
    by_cases hj : j < kr e
    · rw [if_pos hj, mR_0] at h
      have := g.1
      exact h ⟨by omega, g.2.2.2.1 j hj (by omega)⟩
    · rw [if_neg hj] at h; exact absurd h (by decide)
  have pg : ∀ j, ¬ (if j < kr e then mR r E (1 + j) else 0) < 0 → (j < kr e → wR r E (1 + j) ≠ none ∧ 1 + j < sW r E) := fun j h hj => by
    rw [if_pos hj, mR_0] at h
    have h := Classical.byContradiction h
    exact ⟨h.2, h.1⟩
  have s79 : ∀ σ1, fr fp_ln σ σ1 → σ1.1 26 0 16 = kd_op e → σ1.1 26 0 17 = (if 0 < kr e then mR r E (1 + 0) else 0) → σ1.1 26 0 18 = (if 1 < kr e then mR r E (1 + 1) else 0) → ∀ x, x = (if 2 < kr e then mR r E (1 + 2) else 0) → pw_E 98 79 σ1 (0, 0) [(0, .inr (26, 0)), (2, .inl (Int32.ofNat (if e = 8 then 2 else if kn e = true then 1 else 0))), (3, .inl (if e = 15 then -1 else if e = 9 ∨ 11 ≤ e then 1 else 0)), (4, .inl (Int32.ofNat (1 + kr e)))] [.inl x, .inr (26, 0)] Q := by
    intro σ1 f1 q16 q17 q18 x hx
    have all : ¬ σ1.1 26 0 17 < 0 → ¬ σ1.1 26 0 18 < 0 → (0 : Int32) ≤ x → (∀ j, j < kr e → wR r E (1 + j) ≠ none ∧ 1 + j < sW r E) := fun h0 h1 h2 j hj => by
      rw [q17] at h0; rw [q18] at h1
      have h2 : ¬ x < 0 := Int32.not_lt.mpr h2
      rw [hx] at h2
      have : j = 0 ∨ j = 1 ∨ j = 2 := by omega
      rcases this with z | z | z
      · subst z; exact pg 0 h0 hj
      · subst z; exact pg 1 h1 hj
      · subst z; exact pg 2 h2 hj
    have ready : (∀ j, j < kr e → wR r E (1 + j) ≠ none ∧ 1 + j < sW r E) → 1 + kr e ≤ sW r E := fun h => by
      rcases Nat.eq_zero_or_pos (kr e) with z | z
      · omega
      · have := (h (kr e - 1) (by omega)).2; omega
    have fin : kn e = true → (∀ j, j < kr e → wR r E (1 + j) ≠ none ∧ 1 + j < sW r E) → ∀ v, v = (if 1 + kr e < sW r E then nm9 e (wN r E (1 + kr e)) else 99999999) → pw_E 98 145 (st_up (st_up σ1 26 0 19 x) 26 0 20 0) (0, 0) [(0, .inr (26, 0)), (3, .inl (if e = 15 then -1 else if e = 9 ∨ 11 ≤ e then 1 else 0)), (4, .inl (Int32.ofNat (1 + kr e)))] [.inl v, .inr (26, 0)] Q := fun hk h v hv => by
      rw [if_pos hk] at hkc
      have F : fr fp_ln σ (st_up (st_up σ1 26 0 19 x) 26 0 20 0) := fr_up (fr_up f1 rfl) rfl
      refine w_M_readLine_145 ?_
      rw [show Int32.ofNat (1 + kr e) + 1 = Int32.ofNat (1 + kc e) from by rw [show (1 : Int32) = Int32.ofNat 1 from rfl, n_add]; congr 1; omega]
      refine s151 _ (fr_up F rfl) q16 (q17.trans (vj 0 (h 0))) (q18.trans (vj 1 (h 1))) ?_ (fun j hj => (h j hj).1) (ready h) (fun z => by rw [hk] at z; cases z) (fun _ => (up_eq ..).trans hv)
      exact ((up_j (by decide)).trans ((up_j (by decide)).trans (up_eq ..))).trans (hx.trans (vj 2 (h 2)))
    have num : ∀ (lo hi : Int32), (lo, hi) = (if e = 8 then ((-128 : Int32), (127 : Int32)) else (-32768, 32767)) → ∀ {Q' : st_S → Option eg_V → Prop}, (∀ v, v = (if 1 + kr e < sW r E then nm9 e (wN r E (1 + kr e)) else 99999999) → Q' (st_up (st_up σ1 26 0 19 x) 26 0 20 0) (some (.inl v))) → pw_E 104 0 (st_up (st_up σ1 26 0 19 x) 26 0 20 0) (0, 0) [(0, .inr (26, 0)), (1, .inl (Int32.ofNat (1 + kr e))), (2, .inl lo), (3, .inl hi)] [] Q' := by
      intro lo hi hlh Q' Kq
      have F : fr fp_ln σ (st_up (st_up σ1 26 0 19 x) 26 0 20 0) := fr_up (fr_up f1 rfl) rfl
      have wF := hw.fr F
      by_cases hlt : 1 + kr e < sW r E
      · obtain ⟨b1, b2⟩ := k4 _ hlt
        exact s_mnum (e := e) hn (by omega) b1 hlt (by omega) hlh (fun j hj => (F.2 27 0 j rfl).trans (h27 j hj)) wF.1 (wF.2 _ hlt).1 (wF.2 _ hlt).2 (Kq _ (by rw [if_pos hlt]))
      · have hnl : ¬ Int32.ofNat (1 + kr e) < (st_up (st_up σ1 26 0 19 x) 26 0 20 0).1 26 0 4 := by rw [wF.1, n_lt (by omega) (by omega)]; exact hlt
        exact w_M_numberIn_0 (fun z => absurd z hnl) (fun z => absurd z hnl) (fun z => absurd z hnl) (fun z => absurd z hnl) (fun _ => Kq _ (by rw [if_neg hlt]))
    have le0 : (Int32.ofNat (if e = 8 then 2 else if kn e = true then 1 else 0) ≤ 0) ↔ kn e = false := (by decide +kernel : ∀ e, e < 16 → ((Int32.ofNat (if e = 8 then 2 else if kn e = true then 1 else 0) ≤ 0) ↔ kn e = false)) e he
    have eq1 : kn e = true → ((Int32.ofNat (if e = 8 then 2 else if kn e = true then 1 else 0) = 1) ↔ e ≠ 8) := (by decide +kernel : ∀ e, e < 16 → kn e = true → ((Int32.ofNat (if e = 8 then 2 else if kn e = true then 1 else 0) = 1) ↔ e ≠ 8)) e he
    refine w_M_readLine_79 (fun z => ?_) (fun _ z => ?_) (fun z0 z1 z2 z => ?_) (fun z0 z1 z2 z z' => ?_) (fun z0 z1 z2 z z' => ?_) (fun _ _ z => ?_)
    · rw [q17] at z
      exact w_M_readLine_103 (K0 _ (fr_up f1 rfl) (ng 0 z))
    · rw [q18] at z
      exact w_M_readLine_103 (K0 _ (fr_up f1 rfl) (ng 1 z))
    · have h := all z0 z1 z2
      rw [le0] at z
      have hk0 : kc e = kr e := by rw [hkc, z, if_neg (by decide), Nat.add_zero]
      rw [← hk0]
      refine s151 _ (fr_up (fr_up f1 rfl) rfl) q16 (q17.trans (vj 0 (h 0))) (q18.trans (vj 1 (h 1))) ?_ (fun j hj => (h j hj).1) (ready h) (fun _ => up_eq ..) (fun y => by rw [z] at y; cases y)
      exact ((up_j (by decide)).trans (up_eq ..)).trans (hx.trans (vj 2 (h 2)))
    · have h := all z0 z1 z2
      rw [le0, Bool.not_eq_false] at z
      have h8 := (eq1 z).mp z'
      exact num _ _ (by rw [if_neg h8]) (fun v hv => w_M_readLine_132 (fin z h v hv))
    · have h := all z0 z1 z2
      rw [le0, Bool.not_eq_false] at z
      have h8 : e = 8 := Classical.byContradiction fun y => z' ((eq1 z).mpr y)
      exact num _ _ (by rw [if_pos h8]) (fun v hv => fin z h v hv)
    · have z : x < 0 := Int32.not_le.mp z
      rw [hx] at z
      exact w_M_readLine_103 (K0 _ (fr_up f1 rfl) (ng 2 z))
  have s61 : ∀ σ1, fr fp_ln σ σ1 → σ1.1 26 0 16 = kd_op e → σ1.1 26 0 17 = (if 0 < kr e then mR r E (1 + 0) else 0) → ∀ x, x = (if 1 < kr e then mR r E (1 + 1) else 0) → pw_E 98 61 σ1 (0, 0) [(0, .inr (26, 0)), (1, .inl (Int32.ofNat (kr e))), (2, .inl (Int32.ofNat (if e = 8 then 2 else if kn e = true then 1 else 0))), (3, .inl (if e = 15 then -1 else if e = 9 ∨ 11 ≤ e then 1 else 0)), (4, .inl (Int32.ofNat (1 + kr e)))] [.inl x, .inr (26, 0)] Q := by
    intro σ1 f1 q16 q17 x hx
    have F : fr fp_ln σ (st_up σ1 26 0 18 x) := fr_up f1 rfl
    refine w_M_readLine_61 (fun z => ?_) (fun z => ?_)
    · rw [show (2 : Int32) = Int32.ofNat 2 from rfl, n_le (by omega) (by omega)] at z
      exact s79 _ F q16 q17 ((up_eq ..).trans hx) _ (by rw [if_neg (by omega)])
    · rw [show (2 : Int32) = Int32.ofNat 2 from rfl, n_le (by omega) (by omega)] at z
      exact s_mR (w := 3) hn hE (by omega) (fun j hj => (F.2 27 0 j rfl).trans (h27 j hj)) (hw.fr F) (w_M_readLine_75 (s79 _ F q16 q17 ((up_eq ..).trans hx) _ (by rw [if_pos (by omega)])))
  have s43 : ∀ x, x = (if 0 < kr e then mR r E (1 + 0) else 0) → pw_E 98 43 σ (0, 0) [(0, .inr (26, 0)), (1, .inl (Int32.ofNat (kr e))), (2, .inl (Int32.ofNat (if e = 8 then 2 else if kn e = true then 1 else 0))), (3, .inl (if e = 15 then -1 else if e = 9 ∨ 11 ≤ e then 1 else 0)), (4, .inl (Int32.ofNat (1 + kr e)))] [.inl x, .inr (26, 0)] Q := by
    intro x hx
    have F : fr fp_ln σ (st_up σ 26 0 17 x) := fr_up fr_rf rfl
    refine w_M_readLine_43 (fun z => ?_) (fun z => ?_)
    · rw [show (1 : Int32) = Int32.ofNat 1 from rfl, n_le (by omega) (by omega)] at z
      exact s61 _ F h16 ((up_eq ..).trans hx) _ (by rw [if_neg (by omega)])
    · rw [show (1 : Int32) = Int32.ofNat 1 from rfl, n_le (by omega) (by omega)] at z
      exact s_mR (w := 2) hn hE (by omega) (fun j hj => (F.2 27 0 j rfl).trans (h27 j hj)) (hw.fr F) (w_M_readLine_57 (s61 _ F h16 ((up_eq ..).trans hx) _ (by rw [if_pos (by omega)])))
  refine w_M_readLine_0 ?_
  rw [h16]
  refine s_regsOf he h4 h10 (w_M_readLine_7 ?_)
  rw [h16]
  refine s_numOf he h4 (w_M_readLine_15 ?_)
  rw [h16]
  refine s_labelsOf he (w_M_readLine_23 (fun z => ?_) (fun z => ?_))
  · rw [show (0 : Int32) = Int32.ofNat 0 from rfl, n_le (by omega) (by omega)] at z
    rw [show (1 : Int32) + Int32.ofNat (kr e) = Int32.ofNat (1 + kr e) from n_add 1 _]
    exact s43 _ (by rw [if_neg (by omega)])
  · rw [show (0 : Int32) = Int32.ofNat 0 from rfl, n_le (by omega) (by omega)] at z
    rw [show (1 : Int32) + Int32.ofNat (kr e) = Int32.ofNat (1 + kr e) from n_add 1 _]
    exact s_mR (w := 1) hn hE (by omega) h27 hw (w_M_readLine_39 (s43 _ (by rw [if_pos (by omega)])))
end
