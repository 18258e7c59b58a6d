/-! READING: what stands at an address of the code -/
def rk (W : Nat) : Option Nat := if W % 256 = 0 then (if W = 0 then some 0 else if W = 256 then some 15 else none) else if W % 256 = 1 then some 1 else if W % 256 = 15 then some 2 else if W % 256 = 18 then some 3 else if W % 256 = 19 then some 4 else if W % 256 = 144 then some 5 else if W % 256 = 145 then some 6 else if W % 256 = 146 then some 7 else if W % 256 = 216 then some 8 else if W % 256 = 40 then some 9 else if W % 256 = 41 then some 10 else if W % 256 = 50 then some 11 else if W % 256 = 51 then some 12 else if W % 256 = 56 then some 13 else if W % 256 = 43 then some 14 else none
def rn (n : Nat) (w : Nat → Nat) (a : Nat) : Nat := if a + 1 < n then w (a + 1) else 0
def ru (e N : Nat) : Nat := if e = 15 then 3 + N else ku e
def rd_ok (n : Nat) (w : Nat → Nat) (a e : Nat) : Prop := a < n ∧ rk (w a) = some e ∧ (e = 15 → 1 ≤ rn n w a ∧ rn n w a ≤ 4) ∧ a + ru e (rn n w a) ≤ n
def rb (e W N : Nat) : Nat := if kd_secondRegisterAt e = 16 then N % 16 else W / 4096 % 16
def rc (e N : Nat) : Nat := if ku e = 2 then N / 256 % 16 else 0
def rf (w : Nat → Nat) (e W N a : Nat) : Int32 := if e = 3 then sg (W / 4096) 16 else if e = 8 then sg (N / 256) 256 else if e = 9 then sg (W / 256) 256 else if e = 15 then sg (w (a + 2)) 65536 else if kd_fieldAt e = 16 then sg N 65536 else 0
/-- in the class's reading i -/
def rd_C (i n : Nat) (w : Nat → Nat) (a e : Nat) (σ : st_S) : Prop := σ.1 19 i 0 = Int32.ofNat e ∧ σ.1 19 i 1 = Int32.ofNat a ∧ σ.1 19 i 2 = Int32.ofNat (ru e (rn n w a)) ∧ σ.1 19 i 4 = rf w e (w a) (rn n w a) a ∧
  (e ≠ 15 → σ.1 20 i 0 = Int32.ofNat (w a / 256 % 16) ∧ σ.1 20 i 1 = Int32.ofNat (rb e (w a) (rn n w a)) ∧ σ.1 20 i 2 = Int32.ofNat (rc e (rn n w a))) ∧
  (e = 15 → σ.1 19 i 5 = Int32.ofNat (rn n w a) ∧ ∀ k, k < rn n w a → σ.1 21 i k = sg (w (a + 3 + k)) 65536)
/-- in the reference -/
def rd_M (n : Nat) (w : Nat → Nat) (a e : Nat) (σ : st_S) : Prop := σ.1 26 0 28 = kd_op e ∧ σ.1 26 0 29 = Int32.ofNat (ru e (rn n w a)) ∧ σ.1 26 0 30 = (if 1 ≤ kr e then Int32.ofNat (w a / 256 % 16) else -1) ∧ σ.1 26 0 31 = (if 2 ≤ kr e then Int32.ofNat (rb e (w a) (rn n w a)) else -1) ∧ σ.1 26 0 32 = (if 3 ≤ kr e then Int32.ofNat (rc e (rn n w a)) else -1) ∧
  σ.1 26 0 33 = (if kn e = true then rf w e (w a) (rn n w a) a else 99999999) ∧ σ.1 26 0 34 = (if kd_goes e = 1 then rf w e (w a) (rn n w a) a else 99999999) ∧ σ.1 26 0 35 = (if e = 15 then Int32.ofNat (rn n w a) else -1)
/-- only the reading i is touched -/
def frx (i : Nat) (σ σ' : st_S) : Prop := σ'.2 = σ.2 ∧ ∀ k i' j, (i' ≠ i ∨ fp_in [(19, 999), (20, 999), (21, 999)] k j = false) → σ'.1 k i' j = σ.1 k i' j
theorem frx_rf {i : Nat} {σ : st_S} : frx i σ σ := ⟨rfl, fun _ _ _ _ => rfl⟩
theorem frx_tr {i : Nat} {σ σ1 σ2 : st_S} (h1 : frx i σ σ1) (h2 : frx i σ1 σ2) : frx i σ σ2 := ⟨h2.1.trans h1.1, fun k i' j h => (h2.2 k i' j h).trans (h1.2 k i' j h)⟩
theorem frx_up {i : Nat} {σ σ1 : st_S} {k j : Nat} {x : Int32} (h : frx i σ σ1) (hl : fp_in [(19, 999), (20, 999), (21, 999)] k j = true) : frx i σ (st_up σ1 k i j x) := by
  refine ⟨h.1, fun k2 i2 j2 h2 => ?_⟩
  rw [st_up_at, if_neg, h.2 k2 i2 j2 h2]
  rintro ⟨rfl, rfl, rfl⟩
  rcases h2 with h2 | h2
  · exact h2 rfl
  · rw [hl] at h2; cases h2
theorem frx_fr {i : Nat} {σ σ1 : st_S} (h : frx i σ σ1) : fr [(19, 999), (20, 999), (21, 999)] σ σ1 := ⟨h.1, fun k i' j hf => h.2 k i' j (Or.inr hf)⟩
/-- registers stay small -/
def rgk (i : Nat) (σ σ' : st_S) : Prop := ∀ j, j < 3 → (∃ r, r < 16 ∧ σ'.1 20 i j = Int32.ofNat r) ∨ σ'.1 20 i j = σ.1 20 i j
theorem k_op : ∀ e, e < 16 → ∃ o, o < 2147483648 ∧ kd_op e = Int32.ofNat o := by
  intro e he
  have : ∀ e, e < 16 → kd_op e = Int32.ofNat ((kd_op e).toNatClampNeg) ∧ (kd_op e).toNatClampNeg < 2147483648 := by decide +kernel
  exact ⟨_, (this e he).2, (this e he).1⟩
theorem k_un : ∀ e, e < 16 → kd_units e = Int32.ofNat (ku e) := by decide +kernel
/-- the search by number -/
theorem s_kindOf20 {σ : st_S} {Q : st_S → Option eg_V → Prop} {o : Nat} (ho : o < 2147483648) : ∀ d k, k + d = 16 → (∀ e, k ≤ e → e < 16 → (∀ e', k ≤ e' → e' < e → kd_op e' ≠ Int32.ofNat o) → kd_op e = Int32.ofNat o → Q σ (some (.inr (50, e)))) → ((∀ e, k ≤ e → e < 16 → kd_op e ≠ Int32.ofNat o) → Q σ (some (.inr (0, 0)))) → pw_E 63 20 σ (0, 0) [(2, .inl (Int32.ofNat o)), (3, .inl (Int32.ofNat k))] [] Q := by
  intro d
  induction d with
  | zero =>
    intro k hk h1 h2
    have hk' : k = 16 := by omega
    subst hk'
    refine w_Reading_kindOf_20 (fun _ => h2 (fun e z1 z2 => by omega)) (fun h => absurd (by decide) h) (fun h => absurd (by decide) h) (fun h => absurd (by decide) h)
  | succ d ih =>
    intro k hk h1 h2
    have hk' : ¬ (16 : Int32) ≤ Int32.ofNat k := by
      rw [show (16 : Int32) = Int32.ofNat 16 from rfl, n_le (by omega) (by omega)]; omega
    refine w_Reading_kindOf_20 (fun h => absurd h hk') (fun _ => n_inb (by omega) (by omega)) (fun _ h => ?_) (fun _ h => ?_)
    · rw [n_cl (by omega)] at h ⊢
      exact h1 k (Nat.le_refl _) (by omega) (fun e' z1 z2 => by omega) h
    · rw [n_cl (by omega)] at h
      rw [show Int32.ofNat k + 1 = Int32.ofNat (k + 1) from n_add k 1]
      refine ih (k + 1) (by omega) (fun e z1 z2 z3 z4 => h1 e (by omega) z2 (fun e' y1 y2 => ?_) z4) (fun z => h2 (fun e y1 y2 => ?_))
      · by_cases he : e' = k
        · rw [he]; exact h
        · exact z3 e' (by omega) y2
      · by_cases he : e = k
        · rw [he]; exact h
        · exact z e (by omega) y2
theorem k_opv : ∀ e, e < 16 → kd_op e = Int32.ofNat (([0, 1, 15, 18, 19, 144, 145, 146, 216, 40, 41, 50, 51, 56, 43, 256] : List Nat).getD e 0) := by decide +kernel
theorem s_kindOf {σ : st_S} {Q : st_S → Option eg_V → Prop} {i W : Nat} (hW : W < 65536) (h1 : ∀ e, rk W = some e → e < 16 → Q σ (some (.inr (50, e)))) (h2 : rk W = none → Q σ (some (.inr (0, 0)))) : pw_E 63 0 σ (0, 0) [(0, .inr (19, i)), (1, .inl (Int32.ofNat W))] [] Q := by
  have hr : Int32.ofNat W - Int32.ofNat W / 256 * 256 = Int32.ofNat (W % 256) := n_rem (b := 256) (by omega) (by omega)
  have go : ∀ o, o < 65537 → (∀ e, e < 16 → (([0, 1, 15, 18, 19, 144, 145, 146, 216, 40, 41, 50, 51, 56, 43, 256] : List Nat).getD e 0 = o) → rk W = some e) → ((∀ e, e < 16 → (([0, 1, 15, 18, 19, 144, 145, 146, 216, 40, 41, 50, 51, 56, 43, 256] : List Nat).getD e 0 ≠ o)) → rk W = none) → pw_E 63 20 σ (0, 0) [(2, .inl (Int32.ofNat o)), (3, .inl (Int32.ofNat 0))] [] Q := by
    intro o ho g1 g2
    have key : ∀ e, e < 16 → (kd_op e = Int32.ofNat o ↔ (([0, 1, 15, 18, 19, 144, 145, 146, 216, 40, 41, 50, 51, 56, 43, 256] : List Nat).getD e 0 = o)) := by
      intro e he
      have hb : ∀ e, e < 16 → ([0, 1, 15, 18, 19, 144, 145, 146, 216, 40, 41, 50, 51, 56, 43, 256] : List Nat).getD e 0 < 300 := by decide +kernel
      have := hb e he
      rw [k_opv e he, n_inj (by omega) (by omega)]
    refine s_kindOf20 (by omega) 16 0 rfl (fun e _ he _ hk => h1 e (g1 e he ((key e he).mp hk)) he) (fun z => h2 (g2 (fun e he y => z e (Nat.zero_le _) he ((key e he).mpr y))))
  have hall : ∀ o, (∀ e, e < 16 → (([0, 1, 15, 18, 19, 144, 145, 146, 216, 40, 41, 50, 51, 56, 43, 256] : List Nat).getD e 0 ≠ o)) → o ≠ 0 ∧ o ≠ 1 ∧ o ≠ 15 ∧ o ≠ 18 ∧ o ≠ 19 ∧ o ≠ 144 ∧ o ≠ 145 ∧ o ≠ 146 ∧ o ≠ 216 ∧ o ≠ 40 ∧ o ≠ 41 ∧ o ≠ 50 ∧ o ≠ 51 ∧ o ≠ 56 ∧ o ≠ 43 ∧ o ≠ 256 := fun o h => ⟨(h 0 (by decide)).symm, (h 1 (by decide)).symm, (h 2 (by decide)).symm, (h 3 (by decide)).symm, (h 4 (by decide)).symm, (h 5 (by decide)).symm, (h 6 (by decide)).symm, (h 7 (by decide)).symm, (h 8 (by decide)).symm, (h 9 (by decide)).symm, (h 10 (by decide)).symm, (h 11 (by decide)).symm, (h 12 (by decide)).symm, (h 13 (by decide)).symm, (h 14 (by decide)).symm, (h 15 (by decide)).symm⟩
  have hcs : ∀ e, e < 16 → e = 0 ∨ e = 1 ∨ e = 2 ∨ e = 3 ∨ e = 4 ∨ e = 5 ∨ e = 6 ∨ e = 7 ∨ e = 8 ∨ e = 9 ∨ e = 10 ∨ e = 11 ∨ e = 12 ∨ e = 13 ∨ e = 14 ∨ e = 15 := by omega
  refine w_Reading_kindOf_0 (fun h => ?_) (fun h => ?_)
  · rw [hr, show (0 : Int32) = Int32.ofNat 0 from rfl, n_inj (by omega) (by omega)] at h
    refine go W (by omega) (fun e he z => ?_) (fun z => ?_)
    · rcases hcs e he with rfl | rfl | rfl | rfl | rfl | rfl | rfl | rfl | rfl | rfl | rfl | rfl | rfl | rfl | rfl | rfl <;> simp only [List.getD_cons_zero, List.getD_cons_succ] at z <;> subst z <;> first | rfl | (simp at h)
    · obtain ⟨z0, z1, z2, z3, z4, z5, z6, z7, z8, z9, z10, z11, z12, z13, z14, z15⟩ := hall W z
      unfold rk
      rw [if_pos h, if_neg z0, if_neg z15]
  · rw [hr, show (0 : Int32) = Int32.ofNat 0 from rfl, n_inj (by omega) (by omega)] at h
    rw [hr]
    refine go (W % 256) (by omega) (fun e he z => ?_) (fun z => ?_)
    · rcases hcs e he with rfl | rfl | rfl | rfl | rfl | rfl | rfl | rfl | rfl | rfl | rfl | rfl | rfl | rfl | rfl | rfl <;> simp only [List.getD_cons_zero, List.getD_cons_succ] at z <;> first | (unfold rk; rw [← z]; rfl) | omega
    · obtain ⟨z0, z1, z2, z3, z4, z5, z6, z7, z8, z9, z10, z11, z12, z13, z14, z15⟩ := hall (W % 256) z
      unfold rk
      rw [if_neg h, if_neg z1, if_neg z2, if_neg z3, if_neg z4, if_neg z5, if_neg z6, if_neg z7, if_neg z8, if_neg z9, if_neg z10, if_neg z11, if_neg z12, if_neg z13, if_neg z14]
