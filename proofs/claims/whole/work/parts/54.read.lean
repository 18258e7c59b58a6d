theorem s_canReadCases100 {i a n m : Nat} {w : Nat → Nat} (hV : cc_V n w) (hm : m ≤ 4) (hfit : a + 3 + m ≤ n) {Q : st_S → Option eg_V → Prop} : ∀ d k (σ : st_S), k + d = m → cc_C n w σ → σ.1 19 i 1 = Int32.ofNat a → σ.1 19 i 5 = Int32.ofNat m → (∀ j, j < k → σ.1 21 i j = sg (w (a + 3 + j)) 65536) →
    (∀ σ', frx i σ σ' → (∀ j, σ'.1 19 i j = σ.1 19 i j) → (∀ j, σ'.1 20 i j = σ.1 20 i j) → (∀ j, j < m → σ'.1 21 i j = sg (w (a + 3 + j)) 65536) → Q σ' (some (.inl 1))) →
    pw_E 64 100 σ (0, 0) [(0, .inr (19, i)), (1, .inr (16, 0)), (2, .inl (Int32.ofNat k))] [] Q := by
  intro d
  obtain ⟨hn, hw⟩ := hV
  induction d with
  | zero =>
    intro k σ hk hC h1 h5 hj K
    refine w_Reading_canReadCases_100 (fun _ => K σ frx_rf (fun _ => rfl) (fun _ => rfl) (fun j hjm => hj j (by omega))) (fun h => absurd ?_ h) (fun h => absurd ?_ h) (fun h => absurd ?_ h)
    all_goals (rw [h5, n_le (by omega) (by omega)]; omega)
  | succ d ih =>
    intro k σ hk hC h1 h5 hj K
    have hlt : ¬ σ.1 19 i 5 ≤ Int32.ofNat k := by rw [h5, n_le (by omega) (by omega)]; omega
    have hidx : σ.1 19 i 1 + 3 + Int32.ofNat k = Int32.ofNat (a + 3 + k) := by
      rw [h1, show (3 : Int32) = Int32.ofNat 3 from rfl, n_add, n_add]
    refine w_Reading_canReadCases_100 (fun h => absurd h hlt) (fun _ => ?_) (fun _ => n_inb (by omega) (by omega)) (fun _ => ?_)
    · rw [hidx]; exact n_inb (by omega) (by omega)
    · rw [hidx, n_cl (by omega), n_cl (by omega), hC.2 _ (by omega), n_i2s (hw _ (by omega)), show Int32.ofNat k + 1 = Int32.ofNat (k + 1) from n_add k 1]
      refine ih (k + 1) _ (by omega) ⟨hC.1, hC.2⟩ h1 h5 (fun j hj1 => ?_) (fun σ' f1 f2 f3 f4 => K σ' (frx_tr (frx_up frx_rf rfl) f1) f2 f3 f4)
      by_cases he : j = k
      · subst he; exact up_eq ..
      · rw [up_j he]; exact hj j (by omega)
theorem s_canReadCases {σ : st_S} {i a n : Nat} {w : Nat → Nat} (hV : cc_V n w) (hC : cc_C n w σ) (ha : a < n) (h0 : σ.1 19 i 0 = Int32.ofNat 15) (h1 : σ.1 19 i 1 = Int32.ofNat a) {Q : st_S → Option eg_V → Prop}
    (K0 : ∀ σ', frx i σ σ' → rgk i σ σ' → ¬ (1 ≤ rn n w a ∧ rn n w a ≤ 4 ∧ a + 3 + rn n w a ≤ n) → Q σ' (some (.inl 0)))
    (K1 : ∀ σ', frx i σ σ' → rgk i σ σ' → (1 ≤ rn n w a ∧ rn n w a ≤ 4 ∧ a + 3 + rn n w a ≤ n) → σ'.1 19 i 0 = Int32.ofNat 15 → σ'.1 19 i 1 = Int32.ofNat a → σ'.1 19 i 2 = Int32.ofNat (3 + rn n w a) → σ'.1 19 i 4 = sg (w (a + 2)) 65536 → σ'.1 19 i 5 = Int32.ofNat (rn n w a) → (∀ k, k < rn n w a → σ'.1 21 i k = sg (w (a + 3 + k)) 65536) → Q σ' (some (.inl 1))) :
    pw_E 64 0 σ (0, 0) [(0, .inr (19, i)), (1, .inr (16, 0))] [] Q := by
  have hV' := hV
  obtain ⟨hn, hw⟩ := hV
  have e2 : σ.1 19 i 1 + 2 = Int32.ofNat (a + 2) := by rw [h1]; exact n_add a 2
  have e1 : σ.1 19 i 1 + 1 = Int32.ofNat (a + 1) := by rw [h1]; exact n_add a 1
  have hnn : ¬ σ.1 19 i 1 + 2 < 0 := by rw [e2, show (0 : Int32) = Int32.ofNat 0 from rfl, n_lt (by omega) (by omega)]; omega
  have hun : kd_units (Int32.ofNat 15).toNatClampNeg = Int32.ofNat 3 := by decide +kernel
  by_cases hfit : a + 2 < n
  · have c2 : ¬ σ.1 16 0 1 ≤ σ.1 19 i 1 + 2 := by rw [e2, hC.1, n_le (by omega) (by omega)]; omega
    have hrn : rn n w a = w (a + 1) := by unfold rn; rw [if_pos (by omega)]
    have hm1 : σ.1 17 0 (σ.1 19 i 1 + 1).toNatClampNeg = Int32.ofNat (rn n w a) := by rw [e1, n_cl (by omega), hC.2 _ (by omega), hrn]
    have hm2 : σ.1 17 0 (Int32.ofNat a + 1).toNatClampNeg = Int32.ofNat (rn n w a) := by rw [← h1]; exact hm1
    have hmb : rn n w a < 65536 := by rw [hrn]; exact hw _ (by omega)
    have hu : Int32.ofNat a + (Int32.ofNat 3 + Int32.ofNat (rn n w a)) - 1 = Int32.ofNat (a + (3 + rn n w a) - 1) := by
      rw [n_add, n_add, show (1 : Int32) = Int32.ofNat 1 from rfl, n_sub (by omega)]
    have rk0 : ∀ (x y : Int32), rgk i σ (st_up (st_up σ 19 i 5 x) 19 i 2 y) := fun x y j _ => Or.inr rfl
    refine w_Reading_canReadCases_0 (fun h => absurd h hnn) (fun _ h => absurd h c2) (fun _ _ => ?_) (fun _ _ c3 => ?_) (fun _ _ c3 c4 => ?_) (fun _ _ c3 c4 c5 => ?_) (fun _ _ c3 c4 c5 c6 => ?_) (fun _ _ c3 c4 c5 c6 => ?_) (fun _ _ c3 c4 c5 c6 => ?_)
    · rw [e1]; exact n_inb (by omega) (by omega)
    · simp only [up_eq, hm1] at c3
      rw [show (1 : Int32) = Int32.ofNat 1 from rfl, n_lt (by omega) (by omega)] at c3
      exact K0 _ (frx_up (frx_up frx_rf rfl) rfl) (rk0 _ _) (by omega)
    · simp only [up_eq, hm1] at c4
      rw [show (4 : Int32) = Int32.ofNat 4 from rfl, n_lt (by omega) (by omega)] at c4
      exact K0 _ (frx_up (frx_up frx_rf rfl) rfl) (rk0 _ _) (by omega)
    · simp only [up_eq, hm1, hm2, h0, h1, hun, hu] at c5
      rw [show (0 : Int32) = Int32.ofNat 0 from rfl, n_lt (by omega) (by omega)] at c5
      omega
    · simp only [up_eq, hm1, hm2, h0, h1, hun, hu, hC.1] at c6
      rw [n_le (by omega) (by omega)] at c6
      exact K0 _ (frx_up (frx_up frx_rf rfl) rfl) (rk0 _ _) (by omega)
    · rw [e2]; exact n_inb (by omega) (by omega)
    · simp only [up_eq, hm1, hm2, h0, h1, hun, hu, hC.1] at c3 c4 c5 c6
      rw [n_le (by omega) (by omega)] at c6
      rw [show (1 : Int32) = Int32.ofNat 1 from rfl, n_lt (by omega) (by omega)] at c3
      rw [show (4 : Int32) = Int32.ofNat 4 from rfl, n_lt (by omega) (by omega)] at c4
      simp only [up_eq, hm1, h0, hun, n_add, e2]
      rw [n_cl (by omega), hC.2 _ (by omega), n_i2s (hw _ (by omega))]
      refine s_canReadCases100 (a := a) (m := rn n w a) hV' (by omega) (by omega) (rn n w a) 0 _ (by omega) ⟨hC.1, hC.2⟩ h1 (up_eq ..) (fun j hj => by omega) (fun σ' f1 f2 f3 f4 => ?_)
      refine K1 σ' (frx_tr (frx_up (frx_up (frx_up frx_rf rfl) rfl) rfl) f1) (fun j hj => Or.inr (f3 j)) (by omega) ?_ ?_ ?_ ?_ ?_ f4
      · exact (f2 0).trans h0
      · exact (f2 1).trans h1
      · exact (f2 2).trans (up_eq ..)
      · exact (f2 4).trans (up_eq ..)
      · exact (f2 5).trans (up_eq ..)
  · have c2 : σ.1 16 0 1 ≤ σ.1 19 i 1 + 2 := by rw [e2, hC.1, n_le (by omega) (by omega)]; omega
    refine w_Reading_canReadCases_0 (fun h => absurd h hnn) (fun _ _ => K0 σ frx_rf (fun j _ => Or.inr rfl) (by omega)) (fun _ h => absurd c2 h) (fun _ h => absurd c2 h) (fun _ h => absurd c2 h) (fun _ h => absurd c2 h) (fun _ h => absurd c2 h) (fun _ h => absurd c2 h) (fun _ h => absurd c2 h)
theorem rk_lt {W e : Nat} (h : rk W = some e) : e < 16 := by
  have P : ∀ (c : Prop) [Decidable c] (a b : Option Nat), (∀ e, a = some e → e < 16) → (∀ e, b = some e → e < 16) → ∀ e, (if c then a else b) = some e → e < 16 := by
    intro c _ a b ha hb e h
    by_cases hc : c
    · rw [if_pos hc] at h; exact ha e h
    · rw [if_neg hc] at h; exact hb e h
  have S : ∀ k, k < 16 → ∀ e, some k = some e → e < 16 := fun k hk e h => by cases h; exact hk
  have N : ∀ e, (none : Option Nat) = some e → e < 16 := fun e h => by cases h
  exact P _ _ _ (P _ _ _ (S _ (by decide)) (P _ _ _ (S _ (by decide)) N)) (P _ _ _ (S _ (by decide)) (P _ _ _ (S _ (by decide)) (P _ _ _ (S _ (by decide)) (P _ _ _ (S _ (by decide)) (P _ _ _ (S _ (by decide)) (P _ _ _ (S _ (by decide)) (P _ _ _ (S _ (by decide)) (P _ _ _ (S _ (by decide)) (P _ _ _ (S _ (by decide)) (P _ _ _ (S _ (by decide)) (P _ _ _ (S _ (by decide)) (P _ _ _ (S _ (by decide)) (P _ _ _ (S _ (by decide)) (P _ _ _ (S _ (by decide)) N)))))))))))))) e h
/-- the class reads -/
theorem s_canRead {σ : st_S} {i n : Nat} {w : Nat → Nat} {x : Int32} (hV : cc_V n w) (hC : cc_C n w σ) {Q : st_S → Option eg_V → Prop}
    (K0 : ∀ σ', frx i σ σ' → rgk i σ σ' → (∀ a e, x = Int32.ofNat a → a < 2147483648 → ¬ rd_ok n w a e) → Q σ' (some (.inl 0)))
    (K1 : ∀ σ' a e, frx i σ σ' → rgk i σ σ' → x = Int32.ofNat a → rd_ok n w a e → rd_C i n w a e σ' → Q σ' (some (.inl 1))) :
    pw_E 62 0 σ (0, 0) [(0, .inr (19, i)), (1, .inr (16, 0)), (2, .inl x)] [] Q := by
  have hV' := hV
  obtain ⟨hn, hw⟩ := hV
  have rk0 : rgk i σ σ := fun j _ => Or.inr rfl
  refine w_Reading_canRead_0 (fun h => K0 σ frx_rf rk0 (fun a e ha hb => ?_)) (fun h1 h2 => K0 σ frx_rf rk0 (fun a e ha hb hr => ?_)) (fun h1 h2 => ?_) (fun h1 h2 => ?_)
  · subst ha
    rw [show (0 : Int32) = Int32.ofNat 0 from rfl, n_lt hb (by omega)] at h
    omega
  · subst ha
    rw [hC.1, n_le (by omega) hb] at h2
    have := hr.1
    omega
  · obtain ⟨a, ha, rfl⟩ := n_of' h1
    rw [hC.1, n_le (by omega) ha] at h2
    exact n_inb (by omega) (by omega)
  · obtain ⟨a, ha, rfl⟩ := n_of' h1
    rw [hC.1, n_le (by omega) ha] at h2
    have han : a < n := by omega
    rw [n_cl ha, hC.2 a han]
    have hun : ∀ a' e, Int32.ofNat a = Int32.ofNat a' → a' < 2147483648 → rd_ok n w a' e → rd_ok n w a e := fun a' e h1 h2 h3 => by
      rw [n_inj ha h2] at h1; rw [h1]; exact h3
    refine s_kindOf (hw a han) (fun e he he16 => ?_) (fun he => w_Reading_canRead_20n (K0 σ frx_rf rk0 (fun a' e z1 z2 z3 => ?_)))
    · refine w_Reading_canRead_20 (fun h15 => ?_) (fun h15 => ?_)
      · rw [up_eq, n_cl (by omega)] at h15
        subst h15
        refine s_canReadCases (σ := st_up (st_up σ 19 i 0 (Int32.ofNat 15)) 19 i 1 (Int32.ofNat a)) hV' ⟨hC.1, hC.2⟩ han (up_eq ..) (up_eq ..) (fun σ' f1 f2 f3 => ?_) (fun σ' f1 f2 f3 c0 c1 c2 c4 c5 c6 => ?_)
        · refine w_Reading_canRead_52 rfl (K0 σ' (frx_tr (frx_up (frx_up frx_rf rfl) rfl) f1) (fun j hj => (f2 j hj).imp id id) (fun a' e z1 z2 z3 => f3 ?_))
          have z4 := hun a' e z1 z2 z3
          have : e = 15 := Option.some.inj (z4.2.1.symm.trans he)
          subst this
          have z5 := z4.2.2.2
          unfold ru at z5
          rw [if_pos rfl] at z5
          exact ⟨(z4.2.2.1 rfl).1, (z4.2.2.1 rfl).2, by omega⟩
        · refine w_Reading_canRead_52 rfl (K1 σ' a 15 (frx_tr (frx_up (frx_up frx_rf rfl) rfl) f1) (fun j hj => (f2 j hj).imp id id) rfl ⟨han, he, fun _ => ⟨f3.1, f3.2.1⟩, by unfold ru; rw [if_pos rfl]; omega⟩ ⟨c0, c1, by unfold ru; rw [if_pos rfl]; exact c2, c4, fun z => absurd rfl z, fun _ => ⟨c5, c6⟩⟩)
      · rw [up_eq, n_cl (by omega)] at h15
        refine s_canReadBits (σ := st_up (st_up σ 19 i 0 (Int32.ofNat e)) 19 i 1 (Int32.ofNat a)) (e := e) (by omega) hV' ⟨hC.1, hC.2⟩ han (up_eq ..) (up_eq ..) (fun σ' f1 f2 f3 => ?_) (fun σ' f1 f2 f3 c0 c1 c2 c4 d0 d1 d2 => ?_)
        · refine w_Reading_canRead_60 rfl (K0 σ' (frx_tr (frx_up (frx_up frx_rf rfl) rfl) f1) (fun j hj => (f2 j hj).imp id id) (fun a' e' z1 z2 z3 => f3 ?_))
          have z4 := hun a' e' z1 z2 z3
          have : e' = e := Option.some.inj (z4.2.1.symm.trans he)
          subst this
          have z5 := z4.2.2.2
          unfold ru at z5
          rw [if_neg h15] at z5
          exact z5
        · refine w_Reading_canRead_60 rfl (K1 σ' a e (frx_tr (frx_up (frx_up frx_rf rfl) rfl) f1) (fun j hj => (f2 j hj).imp id id) rfl ⟨han, he, fun z => absurd z h15, by unfold ru; rw [if_neg h15]; exact f3⟩ ⟨c0, c1, by unfold ru; rw [if_neg h15]; exact c2, c4, fun _ => ⟨d0, d1, d2⟩, fun z => absurd z h15⟩)
    · have z4 := hun a' e z1 z2 z3
      have z5 := z4.2.1
      rw [he] at z5
      cases z5
