/-! LINES: arguments -/
def kc (e : Nat) : Nat := kr e + (if kn e = true then 1 else 0)
def ar (e k : Nat) : Nat := if k < kr e then 65 + k else if kn e = true ∧ k = kr e then 110 else 76
theorem ar_ok : ∀ e, e < 16 → (kd_txt (kd_arguments e)).length = kc e + kl e ∧ kc e ≤ 3 ∧ kr e ≤ 3 ∧ kl e ≤ 1 ∧ (∀ k, k < (kd_txt (kd_arguments e)).length → (kd_txt (kd_arguments e)).getD k 0 = Int32.ofNat (ar e k) ∧ eg_rf 3 ((kd_txt (kd_arguments e)).getD k 0) = true) := by decide +kernel
theorem s_argument {σ : st_S} {e k : Nat} (he : e < 16) (hk : k < 10) {Q : st_S → Option eg_V → Prop} (K : Q σ (some (.inl (Int32.ofNat (ar e k))))) : pw_E 33 0 σ (0, 0) [(0, .inr (50, e)), (1, .inl (Int32.ofNat k))] [] Q := by
  obtain ⟨a1, a2, a3, a4, a5⟩ := ar_ok e he
  refine w_Kind_argument_0 (fun h => absurd h (n_n0 (by omega))) (fun _ => s_len (w_Kind_argument_12 (fun h => ?_) (fun h => ?_)))
  · rw [n_le (by omega) (by omega)] at h
    have : ar e k = 76 := by
      unfold ar
      have hkc : kc e = kr e + (if kn e = true then 1 else 0) := rfl
      by_cases hn : kn e = true
      · rw [if_pos hn] at hkc
        rw [if_neg (by omega), if_neg (by omega)]
      · rw [if_neg hn] at hkc
        rw [if_neg (by omega), if_neg (fun z => hn z.1)]
    rw [this] at K; exact K
  · rw [n_le (by omega) (by omega)] at h
    have hb : (kd_txt (kd_arguments e)).length ≤ 5 := by omega
    refine s_charAt (t_arg e he) (by omega) (w_Kind_argument_23 (a5 k (by omega)).2 ?_)
    rw [(a5 k (by omega)).1]; exact K
/-- only the item i is touched -/
def frc (i : Nat) (σ σ' : st_S) : Prop := σ'.2 = σ.2 ∧ ∀ k i' j, (i' ≠ i ∨ fp_in [(9, 999), (10, 999), (11, 999), (12, 999)] k j = false) → σ'.1 k i' j = σ.1 k i' j
theorem frc_rf {i : Nat} {σ : st_S} : frc i σ σ := ⟨rfl, fun _ _ _ _ => rfl⟩
theorem frc_tr {i : Nat} {σ σ1 σ2 : st_S} (h1 : frc i σ σ1) (h2 : frc i σ1 σ2) : frc i σ σ2 := ⟨h2.1.trans h1.1, fun k i' j h => (h2.2 k i' j h).trans (h1.2 k i' j h)⟩
theorem frc_up {i : Nat} {σ σ1 : st_S} {k j : Nat} {x : Int32} (h : frc i σ σ1) (hl : fp_in [(9, 999), (10, 999), (11, 999), (12, 999)] k j = true) : frc i σ (st_up σ1 k i j x) := by
  refine ⟨h.1, fun k2 i2 j2 h2 => ?_⟩
  rw [st_up_at, if_neg, h.2 k2 i2 j2 h2]
  rintro ⟨rfl, rfl, rfl⟩
  rcases h2 with z | z
  · exact z rfl
  · rw [hl] at z; cases z
theorem frc_fr {i : Nat} {σ σ' : st_S} (f : frc i σ σ') : fr [(9, 999), (10, 999), (11, 999), (12, 999)] σ σ' := ⟨f.1, fun k i' j h => f.2 k i' j (Or.inr h)⟩
section
variable {r : Nat → Int32} {E n : Nat}
abbrev wR (r : Nat → Int32) (E k : Nat) : Option Nat := rgP r (sS r E k) (sT r E k)
abbrev wN (r : Nat → Int32) (E k : Nat) : Option Int32 := nmP r (sS r E k) (sT r E k)
abbrev wL (r : Nat → Int32) (E k : Nat) : Option Nat := lab r (sS r E k) (sT r E k)
/-- the first p arguments are good -/
def GP (r : Nat → Int32) (E e p : Nat) : Prop := (∀ j, j < kr e → j < p → wR r E (1 + j) ≠ none) ∧ (kn e = true → kr e < p → ∃ x, wN r E (1 + kr e) = some x ∧ hold e x) ∧ ∀ j, j < p - kc e → wL r E (1 + kc e + j) ≠ none
def GA (r : Nat → Int32) (E e : Nat) : Prop := kc e + 1 ≤ sW r E ∧ (e ≠ 15 → sW r E - 1 - kc e = kl e) ∧ (e = 15 → 1 ≤ sW r E - 1 - kc e ∧ sW r E - 1 - kc e ≤ 4) ∧ GP r E e (sW r E - 1)
def aR (r : Nat → Int32) (E e j : Nat) : Nat := if j < kr e then (wR r E (1 + j)).getD 0 else 0
def aN (r : Nat → Int32) (E e : Nat) : Int32 := if kn e = true then (wN r E (1 + kr e)).getD 0 else 0
def aL (r : Nat → Int32) (E e j : Nat) : Int32 := nv (wL r E (1 + kc e + j))
/-- the item i with p arguments taken -/
def IA (r : Nat → Int32) (E e p i : Nat) (σ : st_S) : Prop := σ.1 9 i 0 = Int32.ofNat e ∧ (∀ j, j < 3 → σ.1 10 i j = Int32.ofNat (if j < p then aR r E e j else 0)) ∧ σ.1 9 i 3 = (if kr e < p then aN r E e else 0) ∧ σ.1 9 i 1 = (if e = 3 ∧ kr e < p ∧ ¬ (-8 ≤ aN r E e ∧ aN r E e ≤ 7) then 1 else 0) ∧ σ.1 9 i 4 = Int32.ofNat (p - kc e) ∧ ∀ j, j < p - kc e → σ.1 11 i j = aL r E e j
theorem hold_iff {e : Nat} {x : Int32} : hold e x ↔ (if e = 8 then (-128 ≤ x.toInt ∧ x.toInt ≤ 127) else (-32768 ≤ x.toInt ∧ x.toInt ≤ 32767)) := Iff.rfl
theorem s_holds {σ : st_S} {e : Nat} {x : Int32} {Q : st_S → Option eg_V → Prop} (K0 : ¬ hold e x → Q σ (some (.inl 0))) (K1 : hold e x → Q σ (some (.inl 1))) : pw_E 38 0 σ (0, 0) [(0, .inr (50, e)), (1, .inl x)] [] Q := by
  refine w_Kind_holdsNumber_0 (fun h g => K0 (fun z => ?_)) (fun h _ g => K0 (fun z => ?_)) (fun h g g' => K1 ?_) (fun h g => K0 (fun z => ?_)) (fun h _ g => K0 (fun z => ?_)) (fun h g g' => K1 ?_)
  · rw [hold_iff, if_pos h] at z
    rw [z_lt] at g
    have g : x.toInt < -128 := g
    omega
  · rw [hold_iff, if_pos h] at z
    rw [z_le] at g
    have g : (128 : Int) ≤ x.toInt := g
    omega
  · rw [hold_iff, if_pos h]
    rw [z_lt] at g
    rw [z_le] at g'
    have g : ¬ x.toInt < -128 := g
    have g' : ¬ (128 : Int) ≤ x.toInt := g'
    omega
  · rw [hold_iff, if_neg h] at z
    rw [z_lt] at g
    have g : x.toInt < -32768 := g
    omega
  · rw [hold_iff, if_neg h] at z
    rw [z_le] at g
    have g : (32768 : Int) ≤ x.toInt := g
    omega
  · rw [hold_iff, if_neg h]
    rw [z_lt] at g
    rw [z_le] at g'
    have g : ¬ x.toInt < -32768 := g
    have g' : ¬ (32768 : Int) ≤ x.toInt := g'
    omega
theorem eg_b01 : eg_rf 2 0 = true ∧ eg_rf 2 1 = true := by decide
theorem s_cargs36 {e i : Nat} (hn : n ≤ 40) (hE : E ≤ n) (he : e < 16) (hW : sW r E - 1 ≤ 5) (hmx : sW r E - 1 - kc e ≤ 4) {Q : st_S → Option eg_V → Prop} : ∀ d p (σ : st_S), p + d = sW r E - 1 → (∀ j, j < n → σ.1 4 0 j = r j) → wC r E σ → GP r E e p → IA r E e p i σ →
    (∀ σ', frc i σ σ' → ¬ GP r E e (sW r E - 1) → Q σ' (some (.inl 0))) →
    (∀ σ', frc i σ σ' → GP r E e (sW r E - 1) → IA r E e (sW r E - 1) i σ' → Q σ' (some (.inl 1))) →
    pw_E 30 36 σ (0, 0) [(0, .inr (2, 0)), (1, .inr (9, i)), (2, .inl (Int32.ofNat (sW r E - 1))), (3, .inl (Int32.ofNat p))] [] Q := by
  obtain ⟨a1, a2, a3, a4, a5⟩ := ar_ok e he
  have hkc : kc e = kr e + (if kn e = true then 1 else 0) := rfl
  obtain ⟨k1, -, -, k4⟩ := sc_ok r E
  intro d
  induction d with
  | zero =>
    intro p σ hd h4 hw hg hI K0 K1
    have hle : Int32.ofNat (sW r E - 1) ≤ Int32.ofNat p := by rw [n_le (by omega) (by omega)]; omega
    have : p = sW r E - 1 := by omega
    subst this
    exact w_U_takeArguments_36 (fun _ => K1 σ frc_rf hg hI) (fun h => absurd hle h)
  | succ d ih =>
    intro p σ hd h4 hw hg hI K0 K1
    have hle : ¬ Int32.ofNat (sW r E - 1) ≤ Int32.ofNat p := by rw [n_le (by omega) (by omega)]; omega
    obtain ⟨i0, i1, i2, i3, i4, i5⟩ := hI
    have hk9 : (σ.1 9 i 0).toNatClampNeg = e := by rw [i0]; exact n_cl (by omega)
    have hpW : p + 1 < sW r E := by omega
    obtain ⟨w5, w6⟩ := hw.2 (p + 1) hpW
    obtain ⟨b1, b2⟩ := k4 (p + 1) hpW
    have e1 : Int32.ofNat p + 1 = Int32.ofNat (p + 1) := n_add p 1
    have go : ∀ {σ1 : st_S}, frc i σ σ1 → GP r E e (p + 1) → IA r E e (p + 1) i σ1 → pw_E 30 36 σ1 (0, 0) [(0, .inr (2, 0)), (1, .inr (9, i)), (2, .inl (Int32.ofNat (sW r E - 1))), (3, .inl (Int32.ofNat p + 1))] [] Q := fun {σ1} f g1 I1 => by
      rw [e1]
      have f' := frc_fr f
      exact ih (p + 1) σ1 (by omega) (fun j hj => (f'.2 4 0 j rfl).trans (h4 j hj)) ⟨(f'.2 3 0 4 rfl).trans hw.1, fun j hj => ⟨(f'.2 5 0 j rfl).trans (hw.2 j hj).1, (f'.2 6 0 j rfl).trans (hw.2 j hj).2⟩⟩ g1 I1 (fun σ' f2 => K0 σ' (frc_tr f f2)) (fun σ' f2 => K1 σ' (frc_tr f f2))
    refine w_U_takeArguments_36 (fun h => absurd h hle) (fun _ => ?_)
    rw [hk9]
    refine s_argument he (by omega) (w_U_takeArguments_51 ?_)
    rw [e1]
    have vN : (Int32.ofNat (ar e p) = 110) = (ar e p = 110) := n_inj (b := 110) (by unfold ar; split; omega; split <;> omega) (by omega)
    have vL : (Int32.ofNat (ar e p) = 76) = (ar e p = 76) := n_inj (b := 76) (by unfold ar; split; omega; split <;> omega) (by omega)
    by_cases hr : p < kr e
    · have har : ar e p = 65 + p := by unfold ar; rw [if_pos hr]
      refine w_U_takeArgument_0 (fun z => ?_) (fun _ z => ?_) (fun _ _ => ?_)
      · rw [vN] at z; omega
      · rw [vL] at z; omega
      · refine s_creg hn (by omega) b1 (by omega) h4 w5 w6 (w_U_takeArgument_51 ?_)
        rw [har, show Int32.ofNat (65 + p) - 65 = Int32.ofNat p from by rw [show (65 : Int32) = Int32.ofNat 65 from rfl, n_sub (by omega), Nat.add_sub_cancel_left]]
        obtain ⟨o, hR⟩ : ∃ o, rgP r (sS r E (p + 1)) (sT r E (p + 1)) = o := ⟨_, rfl⟩
        rw [hR]
        cases o with
        | none =>
          refine w_Item_takeRegister_0 (fun _ => w_U_takeArgument_54 eg_b01.1 (w_U_takeArguments_57 (fun _ => K0 σ frc_rf (fun z => z.1 p hr (by omega) (by rw [Nat.add_comm]; exact hR))) (fun y => absurd rfl y))) (fun y => absurd rfl y) (fun y => absurd rfl y) (fun y => absurd rfl y) (fun y => absurd rfl y)
        | some v =>
          have hv := rgP_lt hR
          have hne : ¬ tx_sv (some v) = -1 := fun z => by
            have := n_n0 (a := v) (by omega)
            rw [show Int32.ofNat v = -1 from z] at this
            exact this (by decide)
          have h0 : ¬ Int32.ofNat p < 0 := n_n0 (by omega)
          have h2 : Int32.ofNat p ≤ 2 := by rw [show (2 : Int32) = Int32.ofNat 2 from rfl, n_le (by omega) (by omega)]; omega
          refine w_Item_takeRegister_0 (fun y => absurd y hne) (fun _ y => absurd y h0) (fun _ _ _ => n_inb (by omega) (by omega)) (fun _ _ _ => ?_) (fun _ _ y => absurd h2 y)
          rw [n_cl (by omega)]
          refine w_U_takeArgument_54 eg_b01.2 (w_U_takeArguments_57 (fun y => absurd y (by decide)) (fun _ => go (frc_up frc_rf rfl) ⟨fun j hj hjp => ?_, fun hk hkp => by omega, fun j hj => by omega⟩ ⟨i0, fun j hj => ?_, ?_, ?_, ?_, fun j hj => by omega⟩))
          · by_cases hjp' : j = p
            · rw [hjp', Nat.add_comm, show wR r E (p + 1) = some v from hR]; exact fun z => by cases z
            · exact hg.1 j hj (by omega)
          · by_cases hjp' : j = p
            · rw [hjp', if_pos (by omega)]
              refine (up_eq ..).trans ?_
              unfold aR
              rw [if_pos hr, Nat.add_comm 1 p, show wR r E (p + 1) = some v from hR]; rfl
            · refine (up_j hjp').trans ((i1 j hj).trans ?_)
              by_cases hlt : j < p
              · rw [if_pos hlt, if_pos (by omega)]
              · rw [if_neg hlt, if_neg (by omega)]
          · refine i2.trans ?_
            rw [if_neg (by omega), if_neg (by omega)]
          · refine i3.trans ?_
            rw [if_neg (by omega), if_neg (by omega)]
          · refine i4.trans ?_
            congr 1; omega
    · by_cases hnk : kn e = true ∧ p = kr e
      · obtain ⟨hnk, hpk⟩ := hnk
        rw [if_pos hnk] at hkc
        have har : ar e p = 110 := by unfold ar; rw [if_neg hr, if_pos ⟨hnk, hpk⟩]
        refine w_U_takeArgument_0 (fun _ => ?_) (fun z => ?_) (fun z => ?_)
        · refine s_cnum hn (by omega) b1 (by omega) h4 w5 w6 (w_U_takeArgument_15 (w_Item_takeNumber_0 ?_))
          rw [hk9]
          have bad : ¬ (∃ x, wN r E (1 + kr e) = some x ∧ hold e x) → Q σ (some (.inl 0)) := fun z => K0 σ frc_rf (fun y => z (y.2.1 hnk (by omega)))
          obtain ⟨o, hN⟩ : ∃ o, nmP r (sS r E (p + 1)) (sT r E (p + 1)) = o := ⟨_, rfl⟩
          rw [hN]
          cases o with
          | none =>
            refine s_holds (fun _ => w_Item_takeNumber_8 (fun _ => w_U_takeArgument_18 eg_b01.1 (w_U_takeArguments_57 (fun _ => bad ?_) (fun y => absurd rfl y))) (fun y => absurd rfl y) (fun y => absurd rfl y) (fun y => absurd rfl y) (fun y => absurd rfl y)) (fun h => ?_)
            · rintro ⟨x, h1, -⟩
              rw [← hpk, Nat.add_comm, show wN r E (p + 1) = none from hN] at h1; cases h1
            · rw [hold_iff] at h
              by_cases h8 : e = 8
              · rw [if_pos h8] at h; exact absurd h.1 (by decide)
              · rw [if_neg h8] at h; exact absurd h.1 (by decide)
          | some x =>
            have hx9 : wN r E (1 + kr e) = some x := by rw [← hpk, Nat.add_comm]; exact hN
            have haN : aN r E e = x := by unfold aN; rw [if_pos hnk, hx9]; rfl
            refine s_holds (fun h => w_Item_takeNumber_8 (fun _ => w_U_takeArgument_18 eg_b01.1 (w_U_takeArguments_57 (fun _ => bad ?_) (fun y => absurd rfl y))) (fun y => absurd rfl y) (fun y => absurd rfl y) (fun y => absurd rfl y) (fun y => absurd rfl y)) (fun h => ?_)
            · rintro ⟨x', h1, h2⟩
              rw [hx9] at h1; cases h1; exact h h2
            · have fin : ∀ y, y = (if e = 3 ∧ ¬ (-8 ≤ x ∧ x ≤ 7) then (1 : Int32) else 0) → pw_E 34 18 (st_up (st_up σ 9 i 3 x) 9 i 1 y) (0, 0) [] [.inl 1] (fun σ1 r1 => pw_E 30 57 σ1 (0, 0) [(0, .inr (2, 0)), (1, .inr (9, i)), (2, .inl (Int32.ofNat (sW r E - 1))), (3, .inl (Int32.ofNat p))] (r1.toList ++ []) Q) := fun y hy => by
                refine w_U_takeArgument_18 eg_b01.2 (w_U_takeArguments_57 (fun y => absurd y (by decide)) (fun _ => go (frc_up (frc_up frc_rf rfl) rfl) ⟨fun j hj hjp => hg.1 j hj (by omega), fun _ _ => ⟨x, hx9, h⟩, fun j hj => by omega⟩ ⟨i0, fun j hj => ?_, ?_, ?_, ?_, fun j hj => by omega⟩))
                · refine (i1 j hj).trans ?_
                  by_cases hlt : j < p
                  · rw [if_pos hlt, if_pos (by omega)]
                  · rw [if_neg hlt]
                    by_cases hjp' : j < p + 1
                    · rw [if_pos hjp']
                      unfold aR
                      rw [if_neg (by omega)]
                    · rw [if_neg hjp']
                · refine ((up_j (by decide)).trans (up_eq ..)).trans ?_
                  rw [if_pos (by omega), haN]
                · refine (up_eq ..).trans ?_
                  rw [hy, haN]
                  by_cases h3 : e = 3 ∧ ¬ (-8 ≤ x ∧ x ≤ 7)
                  · rw [if_pos h3, if_pos ⟨h3.1, by omega, h3.2⟩]
                  · rw [if_neg h3, if_neg (fun z => h3 ⟨z.1, z.2.2⟩)]
                · refine ((up_j (by decide)).trans ((up_j (by decide)).trans i4)).trans ?_
                  congr 1; omega
              refine w_Item_takeNumber_8 (fun y => absurd y (by decide)) (fun _ g g' => fin 1 ?_) (fun _ g g' g'' => fin 0 ?_) (fun _ g g' g'' => fin 1 ?_) (fun _ g => fin 0 ?_)
              · rw [hk9] at g
                have g' : x < -8 := g'
                rw [if_pos ⟨g, fun z => absurd z.1 (Int32.not_le.mpr g')⟩]
              · have g' : ¬ x < -8 := g'
                have g'' : x ≤ 7 := g''
                rw [if_neg (fun z => z.2 ⟨Int32.not_lt.mp g', g''⟩)]
              · rw [hk9] at g
                have g'' : ¬ x ≤ 7 := g''
                rw [if_pos ⟨g, fun z => g'' z.2⟩]
              · rw [hk9] at g
                rw [if_neg (fun z => g z.1)]
        · rw [vN] at z; exact absurd har z
        · rw [vN] at z; exact absurd har z
      · have hkcp : kc e ≤ p := by
          by_cases h : kn e = true
          · rw [if_pos h] at hkc
            have : p ≠ kr e := fun z => hnk ⟨h, z⟩
            omega
          · rw [if_neg h] at hkc; omega
        have hkp : kn e = true → kr e < p := fun h => by
          rw [if_pos h] at hkc; omega
        have har : ar e p = 76 := by unfold ar; rw [if_neg hr, if_neg hnk]
        refine w_U_takeArgument_0 (fun z => ?_) (fun _ _ => ?_) (fun _ z => ?_)
        · rw [vN] at z; omega
        · refine s_clab hn (by omega) b1 (by omega) h4 w5 w6 (w_U_takeArgument_34 ?_)
          have hidx : 1 + kc e + (p - kc e) = p + 1 := by omega
          obtain ⟨o, hL⟩ : ∃ o, lab r (sS r E (p + 1)) (sT r E (p + 1)) = o := ⟨_, rfl⟩
          rw [hL]
          cases o with
          | none =>
            refine w_Item_takeName_0 (fun _ => w_U_takeArgument_37 eg_b01.1 (w_U_takeArguments_57 (fun _ => K0 σ frc_rf (fun z => z.2.2 (p - kc e) (by omega) (by rw [hidx]; exact hL))) (fun y => absurd rfl y))) (fun y => absurd rfl y) (fun y => absurd rfl y) (fun y => absurd rfl y)
          | some v =>
            have hv := lab_b b1 hL
            have hne : ¬ nv (some v) = 0 := fun z => by
              have z : Int32.ofNat v = 0 := z
              rw [show (0 : Int32) = Int32.ofNat 0 from rfl, n_inj (by omega) (by omega)] at z
              omega
            have h4' : σ.1 9 i 4 < 4 := by rw [i4, show (4 : Int32) = Int32.ofNat 4 from rfl, n_lt (by omega) (by omega)]; omega
            refine w_Item_takeName_0 (fun y => absurd y hne) (fun _ _ => by rw [i4]; exact n_inb (by omega) (by omega)) (fun _ _ => ?_) (fun _ y => absurd h4' y)
            rw [i4, n_cl (by omega), show Int32.ofNat (p - kc e) + 1 = Int32.ofNat (p - kc e + 1) from n_add _ 1]
            refine w_U_takeArgument_37 eg_b01.2 (w_U_takeArguments_57 (fun y => absurd y (by decide)) (fun _ => go (frc_up (frc_up frc_rf rfl) rfl) ⟨fun j hj hjp => hg.1 j hj (by omega), fun h1 h2 => hg.2.1 h1 (hkp h1), fun j hj => ?_⟩ ⟨i0, fun j hj => ?_, ?_, ?_, ?_, fun j hj => ?_⟩))
            · by_cases hjp' : j = p - kc e
              · rw [hjp', hidx, show wL r E (p + 1) = some v from hL]; exact fun z => by cases z
              · exact hg.2.2 j (by omega)
            · refine (i1 j hj).trans ?_
              by_cases hlt : j < p
              · rw [if_pos hlt, if_pos (by omega)]
              · rw [if_neg hlt]
                by_cases hjp' : j < p + 1
                · rw [if_pos hjp']
                  unfold aR
                  rw [if_neg (by omega)]
                · rw [if_neg hjp']
            · refine i2.trans ?_
              by_cases h : kn e = true
              · rw [if_pos (hkp h), if_pos (by have := hkp h; omega)]
              · have : aN r E e = 0 := by unfold aN; rw [if_neg h]
                rw [this]; split <;> split <;> rfl
            · refine ((up_j (by decide)).trans i3).trans ?_
              by_cases h3 : e = 3
              · have hn3 : kn e = true := by rw [h3]; rfl
                have := hkp hn3
                by_cases hb : -8 ≤ aN r E e ∧ aN r E e ≤ 7
                · rw [if_neg (fun z => z.2.2 hb), if_neg (fun z => z.2.2 hb)]
                · rw [if_pos ⟨h3, this, hb⟩, if_pos ⟨h3, by omega, hb⟩]
              · rw [if_neg (fun z => h3 z.1), if_neg (fun z => h3 z.1)]
            · refine (up_eq ..).trans ?_
              congr 1; omega
            · by_cases hjp' : j = p - kc e
              · rw [hjp']
                refine ((up_k (by decide)).trans (up_eq ..)).trans ?_
                unfold aL
                rw [hidx, show wL r E (p + 1) = some v from hL]
              · exact ((up_k (by decide)).trans (up_j hjp')).trans (i5 j (by omega))
        · rw [vL] at z; exact absurd har z
theorem s_cargs {σ : st_S} {e i : Nat} (hn : n ≤ 40) (hE : E ≤ n) (he : e < 16) (h10 : e ≠ 4 ∧ e ≠ 10) (hW0 : 1 ≤ sW r E) (h4 : ∀ j, j < n → σ.1 4 0 j = r j) (hw : wC r E σ) (hI : IA r E e 0 i σ) {Q : st_S → Option eg_V → Prop}
    (K0 : ∀ σ', frc i σ σ' → ¬ GA r E e → Q σ' (some (.inl 0)))
    (K1 : ∀ σ', frc i σ σ' → GA r E e → IA r E e (sW r E - 1) i σ' → Q σ' (some (.inl 1))) :
    pw_E 30 0 σ (0, 0) [(0, .inr (2, 0)), (1, .inr (9, i))] [] Q := by
  obtain ⟨a1, a2, a3, a4, a5⟩ := ar_ok e he
  obtain ⟨k1, -, -, k4⟩ := sc_ok r E
  have hk9 : (σ.1 9 i 0).toNatClampNeg = e := by rw [hI.1]; exact n_cl (by omega)
  have hkl : e ≠ 15 → kl e = kl e := fun _ => rfl
  have e1 : σ.1 3 0 4 - 1 = Int32.ofNat (sW r E - 1) := by rw [hw.1, show (1 : Int32) = Int32.ofNat 1 from rfl, n_sub hW0]
  refine w_U_takeArguments_0 ?_
  rw [hk9, e1]
  refine w_Kind_leastArguments_0 (s_len (w_Kind_leastArguments_7 (w_U_takeArguments_18 (fun h => ?_) (fun h => ?_))))
  · rw [n_lt (by omega) (by omega)] at h
    refine K0 σ frc_rf (fun z => ?_)
    by_cases h15 : e = 15
    · have := z.2.2.1 h15
      have : kl e = 1 := by rw [h15]; rfl
      omega
    · have := z.2.1 h15
      have := z.1
      omega
  · rw [n_lt (by omega) (by omega)] at h
    rw [hk9]
    have go : (e ≠ 15 → sW r E - 1 - kc e = kl e) → (e = 15 → 1 ≤ sW r E - 1 - kc e ∧ sW r E - 1 - kc e ≤ 4) → pw_E 30 36 σ (0, 0) [(0, .inr (2, 0)), (1, .inr (9, i)), (2, .inl (Int32.ofNat (sW r E - 1))), (3, .inl 0)] [] Q := fun g1 g2 => by
      refine s_cargs36 hn hE he ?_ ?_ (sW r E - 1) 0 σ (by omega) h4 hw ⟨fun j _ hj => by omega, fun _ hj => by omega, fun j hj => by omega⟩ hI (fun σ' f z => K0 σ' f (fun y => z y.2.2.2)) (fun σ' f z I => K1 σ' f ⟨by omega, g1, g2, z⟩ I)
      · by_cases h15 : e = 15
        · have := g2 h15
          have : kc e = 1 := by rw [h15]; rfl
          omega
        · have := g1 h15; omega
      · by_cases h15 : e = 15
        · exact (g2 h15).2
        · have := g1 h15; omega
    refine w_Kind_mostArguments_0 (fun h15 => ?_) (fun h15 => s_len (w_Kind_mostArguments_18 ?_))
    · have k15 : kc e = 1 ∧ kl e = 1 := by rw [h15]; exact ⟨rfl, rfl⟩
      refine w_U_takeArguments_29 (fun g => ?_) (fun g => K0 σ frc_rf (fun z => ?_))
      · rw [show (5 : Int32) = Int32.ofNat 5 from rfl, n_le (by omega) (by omega)] at g
        exact go (fun z => absurd h15 z) (fun _ => ⟨by omega, by omega⟩)
      · rw [show (5 : Int32) = Int32.ofNat 5 from rfl, n_le (by omega) (by omega)] at g
        have := (z.2.2.1 h15).2
        omega
    · refine w_U_takeArguments_29 (fun g => ?_) (fun g => K0 σ frc_rf (fun z => ?_))
      · rw [n_le (by omega) (by omega)] at g
        exact go (fun _ => by omega) (fun z => absurd z h15)
      · rw [n_le (by omega) (by omega)] at g
        have := z.2.1 h15
        have := z.1
        omega
end
