/-! READING, the class's way -/
theorem k_sh : ∀ e, e < 15 → kd_fieldAt e ≠ 0 → ((32 : Int32) - 16 * kd_units e) &&& 31 = Int32.ofNat (32 - 16 * ku e) ∧ (((32 : Int32) - 16 * kd_units e) + kd_fieldAt e) &&& 31 = Int32.ofNat (32 - 16 * ku e + (kd_fieldAt e).toNatClampNeg) := by decide +kernel
theorem k_cs {P : Nat → Prop} {e : Nat} (he : e < 15) (h0 : P 0) (h1 : P 1) (h2 : P 2) (h3 : P 3) (h4 : P 4) (h5 : P 5) (h6 : P 6) (h7 : P 7) (h8 : P 8) (h9 : P 9) (h10 : P 10) (h11 : P 11) (h12 : P 12) (h13 : P 13) (h14 : P 14) : P e := by
  have : e = 0 ∨ e = 1 ∨ e = 2 ∨ e = 3 ∨ e = 4 ∨ e = 5 ∨ e = 6 ∨ e = 7 ∨ e = 8 ∨ e = 9 ∨ e = 10 ∨ e = 11 ∨ e = 12 ∨ e = 13 ∨ e = 14 := by omega
  rcases this with rfl | rfl | rfl | rfl | rfl | rfl | rfl | rfl | rfl | rfl | rfl | rfl | rfl | rfl | rfl <;> assumption
theorem f_1 {W : Nat} (hW : W < 65536) (s : Nat) (h1 : 16 ≤ s) (h2 : s ≤ 28) : (Int32.ofNat W <<< Int32.ofNat 16) >>> Int32.ofNat s = sg (W * 65536 / 2 ^ s) (2 ^ (32 - s)) := by
  rw [n_shl (by omega), n_sx h1 h2 (by omega)]
theorem s_fieldOf {σ : st_S} {Q : st_S → Option eg_V → Prop} {e W N a : Nat} {w : Nat → Nat} {B : Int32} (he : e < 15) (hW : W < 65536) (hN : N < 65536) (hB1 : ku e = 1 → B = Int32.ofNat W) (hB2 : ku e = 2 → B = Int32.ofNat (W + N * 65536)) (k : Q σ (some (.inl (rf w e W N a)))) : pw_E 66 0 σ (0, 0) [(0, .inr (50, e)), (1, .inl B)] [] Q := by
  have hf0 : (kd_fieldAt e = 0) → rf w e W N a = 0 := by
    refine k_cs (P := fun e => (kd_fieldAt e = 0) → rf w e W N a = 0) he ?_ ?_ ?_ ?_ ?_ ?_ ?_ ?_ ?_ ?_ ?_ ?_ ?_ ?_ ?_
    all_goals first | (intro _; rfl) | (intro h; exact absurd h (by decide))
  refine w_Kind_fieldOf_0 (fun h => ?_) (fun h => ?_)
  · rw [hf0 h] at k; exact k
  · obtain ⟨s1, s2⟩ := k_sh e he h
    rw [s1, s2]
    have key : (B <<< Int32.ofNat (32 - 16 * ku e)) >>> Int32.ofNat (32 - 16 * ku e + (kd_fieldAt e).toNatClampNeg) = rf w e W N a := by
      clear k hf0 s1 s2
      have two : ∀ s, 16 ≤ s → s ≤ 28 → (Int32.ofNat (W + N * 65536) <<< Int32.ofNat 0) >>> Int32.ofNat s = sg ((W + N * 65536) / 2 ^ s) (2 ^ (32 - s)) := fun s h1 h2 => by
        rw [n_shl (by omega), Nat.pow_zero, Nat.mul_one, n_sx h1 h2 (by omega)]
      have d16 : (W + N * 65536) / 2 ^ 16 = N := by simp only [Nat.reducePow]; omega
      have d24 : (W + N * 65536) / 2 ^ 24 = N / 256 := by simp only [Nat.reducePow]; omega
      refine (k_cs (P := fun e => kd_fieldAt e ≠ 0 → (ku e = 1 → B = Int32.ofNat W) → (ku e = 2 → B = Int32.ofNat (W + N * 65536)) → (B <<< Int32.ofNat (32 - 16 * ku e)) >>> Int32.ofNat (32 - 16 * ku e + (kd_fieldAt e).toNatClampNeg) = rf w e W N a) he ?_ ?_ ?_ ?_ ?_ ?_ ?_ ?_ ?_ ?_ ?_ ?_ ?_ ?_ ?_) h hB1 hB2
      · intro g; exact absurd rfl g
      · intro g; exact absurd rfl g
      · intro g; exact absurd rfl g
      · intro _ g _
        rw [g rfl]
        refine (f_1 hW 28 (by omega) (by omega)).trans ?_
        show sg (W * 65536 / 2 ^ 28) 16 = sg (W / 4096) 16
        congr 1
        simp only [Nat.reducePow]; omega
      · intro _ _ g
        rw [g rfl]
        refine (two 16 (by omega) (by omega)).trans ?_
        rw [d16]; rfl
      · intro g; exact absurd rfl g
      · intro g; exact absurd rfl g
      · intro g; exact absurd rfl g
      · intro _ _ g
        rw [g rfl]
        refine (two 24 (by omega) (by omega)).trans ?_
        rw [d24]; rfl
      · intro _ g _
        rw [g rfl]
        refine (f_1 hW 24 (by omega) (by omega)).trans ?_
        show sg (W * 65536 / 2 ^ 24) 256 = sg (W / 256) 256
        congr 1
        simp only [Nat.reducePow]; omega
      · intro _ _ g
        rw [g rfl]
        refine (two 16 (by omega) (by omega)).trans ?_
        rw [d16]; rfl
      · intro _ _ g
        rw [g rfl]
        refine (two 16 (by omega) (by omega)).trans ?_
        rw [d16]; rfl
      · intro _ _ g
        rw [g rfl]
        refine (two 16 (by omega) (by omega)).trans ?_
        rw [d16]; rfl
      · intro _ _ g
        rw [g rfl]
        refine (two 16 (by omega) (by omega)).trans ?_
        rw [d16]; rfl
      · intro _ _ g
        rw [g rfl]
        refine (two 16 (by omega) (by omega)).trans ?_
        rw [d16]; rfl
    rw [key]
    exact k
theorem s_canReadBits {σ : st_S} {i a n e : Nat} {w : Nat → Nat} (he : e < 15) (hV : cc_V n w) (hC : cc_C n w σ) (ha : a < n) (h0 : σ.1 19 i 0 = Int32.ofNat e) (h1 : σ.1 19 i 1 = Int32.ofNat a) {Q : st_S → Option eg_V → Prop}
    (K0 : ∀ σ', frx i σ σ' → rgk i σ σ' → ¬ a + ku e ≤ n → Q σ' (some (.inl 0)))
    (K1 : ∀ σ', frx i σ σ' → rgk i σ σ' → a + ku e ≤ n → σ'.1 19 i 0 = Int32.ofNat e → σ'.1 19 i 1 = Int32.ofNat a → σ'.1 19 i 2 = Int32.ofNat (ku e) → σ'.1 19 i 4 = rf w e (w a) (rn n w a) a → σ'.1 20 i 0 = Int32.ofNat (w a / 256 % 16) → σ'.1 20 i 1 = Int32.ofNat (rb e (w a) (rn n w a)) → σ'.1 20 i 2 = Int32.ofNat (rc e (rn n w a)) → Q σ' (some (.inl 1))) :
    pw_E 65 0 σ (0, 0) [(0, .inr (19, i)), (1, .inr (16, 0))] [] Q := by
  obtain ⟨hn, hw⟩ := hV
  have hku : ku e = 1 ∨ ku e = 2 := by
    refine k_cs (P := fun e => ku e = 1 ∨ ku e = 2) he ?_ ?_ ?_ ?_ ?_ ?_ ?_ ?_ ?_ ?_ ?_ ?_ ?_ ?_ ?_ <;> decide
  have hkd : kd_units (Int32.ofNat e).toNatClampNeg = Int32.ofNat (ku e) := by rw [n_cl (by omega)]; exact k_un e (by omega)
  have hlast : Int32.ofNat a + Int32.ofNat (ku e) - 1 = Int32.ofNat (a + ku e - 1) := by
    rw [n_add, show (1 : Int32) = Int32.ofNat 1 from rfl, n_sub (by omega)]
  have hWa := hw a ha
  have hN : rn n w a < 65536 := by
    unfold rn; split
    · exact hw _ (by assumption)
    · omega
  have e12 : kd_secondRegisterAt e = 12 ∨ (kd_secondRegisterAt e = 16 ∧ ku e = 2) := by
    refine k_cs (P := fun e => kd_secondRegisterAt e = 12 ∨ (kd_secondRegisterAt e = 16 ∧ ku e = 2)) he ?_ ?_ ?_ ?_ ?_ ?_ ?_ ?_ ?_ ?_ ?_ ?_ ?_ ?_ ?_ <;> decide
  refine w_Reading_canReadBits_0 (fun c1 => ?_) (fun c1 c2 => ?_) (fun c1 c2 => ?_) (fun c1 c2 c3 => ?_) (fun c1 c2 c3 => ?_) (fun c1 c2 c3 => ?_)
  · simp only [up_eq, h0, h1, hkd, hlast] at c1
    rw [show (0 : Int32) = Int32.ofNat 0 from rfl, n_lt (by omega) (by omega)] at c1
    omega
  · simp only [up_eq, h0, h1, hkd, hlast, hC.1] at c2
    rw [n_le (by omega) (by omega)] at c2
    exact K0 _ (frx_up frx_rf rfl) (fun j hj => Or.inr (up_k (by decide))) (by omega)
  · rw [h1]; exact n_inb (by omega) (by omega)
  · simp only [up_eq, h0, hkd] at c3
    rw [show (2 : Int32) = Int32.ofNat 2 from rfl, n_inj (by omega) (by omega)] at c3
    simp only [up_eq, h0, h1, hkd, hlast, hC.1] at c2
    rw [n_le (by omega) (by omega)] at c2
    rw [h1, show (1 : Int32) = Int32.ofNat 1 from rfl, n_add]
    exact n_inb (by omega) (by omega)
  · simp only [up_eq, h0, hkd] at c3
    rw [show (2 : Int32) = Int32.ofNat 2 from rfl, n_inj (by omega) (by omega)] at c3
    simp only [up_eq, h0, h1, hkd, hlast, hC.1] at c2
    rw [n_le (by omega) (by omega)] at c2
    have hrn : rn n w a = w (a + 1) := by unfold rn; rw [if_pos (by omega)]
    have hb : (σ.1 17 0 (σ.1 19 i 1).toNatClampNeg ||| (σ.1 17 0 (σ.1 19 i 1 + 1).toNatClampNeg <<< 16)) = Int32.ofNat (w a + rn n w a * 65536) := by
      rw [h1, show (Int32.ofNat a + 1) = Int32.ofNat (a + 1) from n_add a 1, n_cl (by omega), n_cl (by omega), hC.2 a ha, hC.2 (a + 1) (by omega), hrn, show (16 : Int32) = Int32.ofNat 16 from rfl, n_shl (by omega)]
      exact n_orp 16 _ (by omega)
    rw [hb, h0, n_cl (by omega)]
    have n8 := n_nib (s := 8) (a := w a + rn n w a * 65536) (by omega) (by omega)
    have n24 := n_nib (s := 24) (a := w a + rn n w a * 65536) (by omega) (by omega)
    have n12 := n_nib (s := 12) (a := w a + rn n w a * 65536) (by omega) (by omega)
    have n16 := n_nib (s := 16) (a := w a + rn n w a * 65536) (by omega) (by omega)
    have r0 : (Int32.ofNat (w a + rn n w a * 65536) >>> 8) &&& 15 = Int32.ofNat (w a / 256 % 16) := n8.trans (by congr 1; simp only [Nat.reducePow]; omega)
    have r2 : (Int32.ofNat (w a + rn n w a * 65536) >>> 24) &&& 15 = Int32.ofNat (rc e (rn n w a)) := n24.trans (by unfold rc; rw [if_pos c3]; congr 1; simp only [Nat.reducePow]; omega)
    have r1 : (Int32.ofNat (w a + rn n w a * 65536) >>> (kd_secondRegisterAt e &&& 31)) &&& 15 = Int32.ofNat (rb e (w a) (rn n w a)) := by
      unfold rb
      rcases e12 with h | ⟨h, -⟩
      · rw [h, if_neg (by decide)]
        exact n12.trans (by congr 1; simp only [Nat.reducePow]; omega)
      · rw [h, if_pos rfl]
        exact n16.trans (by congr 1; simp only [Nat.reducePow]; omega)
    rw [r0, r1, r2]
    refine s_fieldOf (w := w) (a := a) (W := w a) (N := rn n w a) he hWa hN (fun z => by omega) (fun _ => rfl) ?_
    refine w_Reading_canReadBits_119 (K1 _ (frx_up (frx_up (frx_up (frx_up (frx_up frx_rf rfl) rfl) rfl) rfl) rfl) (fun j hj => Or.inl ?_) (by omega) ?_ ?_ ?_ ?_ ?_ ?_ ?_)
    · have : j = 0 ∨ j = 1 ∨ j = 2 := by omega
      rcases this with rfl | rfl | rfl
      · exact ⟨_, Nat.mod_lt _ (by decide), up_eq ..⟩
      · exact ⟨_, by unfold rb; split <;> exact Nat.mod_lt _ (by decide), up_eq ..⟩
      · exact ⟨_, by unfold rc; split <;> first | exact Nat.mod_lt _ (by decide) | decide, up_eq ..⟩
    · exact h0
    · exact h1
    · exact (up_eq ..).trans (k_un e (by omega))
    · exact up_eq ..
    · exact up_eq ..
    · exact up_eq ..
    · exact up_eq ..
  · simp only [up_eq, h0, hkd] at c3
    rw [show (2 : Int32) = Int32.ofNat 2 from rfl, n_inj (by omega) (by omega)] at c3
    simp only [up_eq, h0, h1, hkd, hlast, hC.1] at c2
    rw [n_le (by omega) (by omega)] at c2
    have hk1 : ku e = 1 := by omega
    have hb : σ.1 17 0 (σ.1 19 i 1).toNatClampNeg = Int32.ofNat (w a) := by rw [h1, n_cl (by omega), hC.2 a ha]
    rw [hb, h0, n_cl (by omega)]
    have n8 := n_nib (s := 8) (a := w a) (by omega) (by omega)
    have n24 := n_nib (s := 24) (a := w a) (by omega) (by omega)
    have n12 := n_nib (s := 12) (a := w a) (by omega) (by omega)
    have r2 : (Int32.ofNat (w a) >>> 24) &&& 15 = Int32.ofNat (rc e (rn n w a)) := n24.trans (by unfold rc; rw [if_neg c3]; congr 1; simp only [Nat.reducePow]; omega)
    have r1 : (Int32.ofNat (w a) >>> (kd_secondRegisterAt e &&& 31)) &&& 15 = Int32.ofNat (rb e (w a) (rn n w a)) := by
      unfold rb
      rcases e12 with h | ⟨-, h⟩
      · rw [h, if_neg (by decide)]
        exact n12
      · omega
    rw [r1, r2, show (Int32.ofNat (w a) >>> 8) &&& 15 = Int32.ofNat (w a / 256 % 16) from n8]
    refine s_fieldOf (w := w) (a := a) (W := w a) (N := rn n w a) he hWa hN (fun _ => rfl) (fun z => by omega) ?_
    refine w_Reading_canReadBits_119 (K1 _ (frx_up (frx_up (frx_up (frx_up (frx_up frx_rf rfl) rfl) rfl) rfl) rfl) (fun j hj => Or.inl ?_) (by omega) ?_ ?_ ?_ ?_ ?_ ?_ ?_)
    · have : j = 0 ∨ j = 1 ∨ j = 2 := by omega
      rcases this with rfl | rfl | rfl
      · exact ⟨_, Nat.mod_lt _ (by decide), up_eq ..⟩
      · exact ⟨_, by unfold rb; split <;> exact Nat.mod_lt _ (by decide), up_eq ..⟩
      · exact ⟨_, by unfold rc; split <;> first | exact Nat.mod_lt _ (by decide) | decide, up_eq ..⟩
    · exact h0
    · exact h1
    · exact (up_eq ..).trans (k_un e (by omega))
    · exact up_eq ..
    · exact up_eq ..
    · exact up_eq ..
    · exact up_eq ..
