/-! THE CALL line -/
def uf {α : Type} (f : Nat → α) (a : Nat) (x : α) : Nat → α := fun j => if j = a then x else f j
theorem uf_eq {α : Type} {f : Nat → α} {a : Nat} {x : α} : uf f a x a = x := if_pos rfl
theorem uf_ne {α : Type} {f : Nat → α} {a j : Nat} {x : α} (h : j ≠ a) : uf f a x j = f j := if_neg h
/-- the reference parts, and goes on to reading -/
theorem s_mline {σ : st_S} {n E : Nat} {r : Nat → Int32} (hn : n ≤ 40) (hE : isE n r E) (h3 : σ.1 26 0 3 = Int32.ofNat n) (h27 : ∀ j, j < n → σ.1 27 0 j = r j) {Q : st_S → Option eg_V → Prop}
    (K : ∀ σ', fr [(26, 4), (28, 999), (29, 999)] σ σ' → wM r E σ' → pw_E 90 0 σ' (0, 0) [(0, .inr (26, 0))] [] (fun σ1 r1 => pw_E 88 8 σ1 (0, 0) [(0, .inr (26, 0))] (r1.toList ++ []) Q)) : pw_E 88 0 σ (0, 0) [(0, .inr (26, 0))] [] Q := by
  refine w_M_line_0 (w_M_part_0 (s_mend (σ := st_up σ 26 0 4 0) (n := n) (r := r) hn h3 h27 (fun E' hE' => ?_) n 0 (by omega) (fun j hj => by omega)))
  have := isE_un hE hE'
  subst this
  refine (s_mpart (n := n) (E := E) (r := r) hn hE.1 E).1 0 (st_up σ 26 0 4 0) (by omega) h27 ⟨rfl, fun j hj => absurd hj (Nat.not_lt_zero j)⟩ (fun z => nomatch z) (fun σ1 f1 w1 => w_M_line_4 (K σ1 (fr_tr (fr_up fr_rf rfl) f1) w1))
theorem aR_lt {r : Nat → Int32} {E e j : Nat} : aR r E e j < 16 := by
  unfold aR
  split
  · cases h : wR r E (1 + j) with
    | none => decide
    | some v => exact rgP_lt h
  · decide
theorem tx_ok_new {r : Nat → Int32} {E e l : Nat} {lk' : Nat → Nat} (he : e < 16) (h4 : e ≠ 4) (h10 : e ≠ 10) (hg : GA r E e) (hlk : ∀ q, q < sW r E - 1 - kc e → lk' q < l) : tx_ok l e (aR r E e) (aN r E e) (sW r E - 1 - kc e) lk' := by
  have hkc : kc e = kr e + (if kn e = true then 1 else 0) := rfl
  have hN : (-32768 ≤ (aN r E e).toInt ∧ (aN r E e).toInt ≤ 32767) ∧ (e = 8 → -128 ≤ (aN r E e).toInt ∧ (aN r E e).toInt ≤ 127) ∧ (kn e = false → aN r E e = 0) := by
    unfold aN
    cases hk : kn e with
    | false =>
      rw [if_neg (by decide)]
      exact ⟨by decide, fun _ => by decide, fun _ => rfl⟩
    | true =>
      rw [if_pos rfl]
      rw [hk, if_pos rfl] at hkc
      obtain ⟨x, h1, h2⟩ := hg.2.2.2.2.1 hk (by have := hg.1; omega)
      rw [h1]
      show (-32768 ≤ x.toInt ∧ x.toInt ≤ 32767) ∧ (e = 8 → -128 ≤ x.toInt ∧ x.toInt ≤ 127) ∧ _
      rw [hold_iff] at h2
      refine ⟨?_, fun h8 => ?_, fun z => by cases z⟩
      · by_cases h8 : e = 8
        · rw [if_pos h8] at h2; omega
        · rw [if_neg h8] at h2; exact h2
      · rw [if_pos h8] at h2; exact h2
  exact ⟨he, h4, h10, fun _ _ => aR_lt, fun j hj => by unfold aR; rw [if_neg (by omega)], hN.1, hN.2.1, hN.2.2, hg.2.1, hg.2.2.1, hlk⟩
/-- a new item of text -/
theorem tx_V_new {c l l' e' m' : Nat} {e : Nat → Nat} {rg : Nat → Nat → Nat} {n : Nat → Int32} {m : Nat → Nat} {lb : Nat → Nat → Nat} {sb sb' : Nat → Option Nat} {rg' : Nat → Nat} {n' : Int32} {lb' : Nat → Nat} (hV : tx_V c l e rg n m lb sb) (hc : c < 40) (hl : l ≤ l') (hl' : l' ≤ 12) (hsb : ∀ j, j < l → sb' j = sb j) (hsn : ∀ j, l ≤ j → j < l' → sb' j = none) (hok : tx_ok l' e' rg' n' m' lb') : tx_V (c + 1) l' (uf e c e') (uf rg c rg') (uf n c n') (uf m c m') (uf lb c lb') sb' := by
  refine ⟨by omega, hl', fun i hi => ?_, fun j b hj hb => ?_⟩
  · by_cases hic : i = c
    · subst hic
      rw [uf_eq, uf_eq, uf_eq, uf_eq, uf_eq]; exact hok
    · rw [uf_ne hic, uf_ne hic, uf_ne hic, uf_ne hic, uf_ne hic]
      obtain ⟨a1, a2, a3, a4, a5, a6, a7, a8, a9, a10, a11⟩ := hV.2.2.1 i (by omega)
      exact ⟨a1, a2, a3, a4, a5, a6, a7, a8, a9, a10, fun k hk => Nat.lt_of_lt_of_le (a11 k hk) hl⟩
  · by_cases hjl : j < l
    · rw [hsb j hjl] at hb
      have := hV.2.2.2 j b hjl hb
      omega
    · rw [hsn j (by omega) hj] at hb; cases hb
theorem s_mnames {c M : Nat} {X : Nat → Int32} {s : LbS} (hM : M ≤ 4) (hc : c < 40) (h12 : (lq X s M).1 ≤ 12) {Q : st_S → Option eg_V → Prop} : ∀ d q (σ : st_S), q + d = M → σ.1 26 0 12 = Int32.ofNat c → σ.1 26 0 21 = Int32.ofNat M → (∀ j, j < M → σ.1 39 0 j = X j) → mLs (lq X s q) σ → (∀ j, j < q → σ.1 36 0 (4 * c + j) = Int32.ofNat (lk X s j)) →
    (∀ σ', fr [(26, 15), (37, 999), (38, 999), (36, 999)] σ σ' → (∀ x, x < 4 * c → σ'.1 36 0 x = σ.1 36 0 x) → mLs (lq X s M) σ' → (∀ j, j < M → σ'.1 36 0 (4 * c + j) = Int32.ofNat (lk X s j)) → Q (st_up σ' 26 0 12 (Int32.ofNat (c + 1))) (some (.inl (Int32.ofNat c)))) →
    pw_E 90 185 σ (0, 0) [(0, .inr (26, 0)), (3, .inl (Int32.ofNat q))] [] Q := by
  intro d
  induction d with
  | zero =>
    intro q σ hd h12' h21 hX hL hk K
    have : q = M := by omega
    subst this
    have hle : σ.1 26 0 21 ≤ Int32.ofNat q := by rw [h21]; exact Int32.le_refl _
    refine w_M_lineRead_185 (fun _ => ?_) (fun h => absurd hle h) (fun h => absurd hle h)
    rw [h12', show Int32.ofNat c + 1 = Int32.ofNat (c + 1) from n_add c 1, show (1 : Int32) = Int32.ofNat 1 from rfl, n_sub (by omega), Nat.add_sub_cancel]
    exact K σ fr_rf (fun _ _ => rfl) hL hk
  | succ d ih =>
    intro q σ hd h12' h21 hX hL hk K
    have hle : ¬ σ.1 26 0 21 ≤ Int32.ofNat q := by rw [h21, n_le (by omega) (by omega)]; omega
    have hcl : (Int32.ofNat q).toNatClampNeg = q := n_cl (by omega)
    have hl1 : (lq X s q).1 ≤ 12 := Nat.le_trans (lq_mono' (by omega)) h12
    have hl2 : (lq X s (q + 1)).1 ≤ 12 := Nat.le_trans (lq_mono' (by omega)) h12
    refine w_M_lineRead_185 (fun h => absurd h hle) (fun _ => n_inb (by omega) (by omega)) (fun _ => ?_)
    rw [hcl, hX q (by omega), h12', show (4 : Int32) * Int32.ofNat c + Int32.ofNat q = Int32.ofNat (4 * c + q) from by rw [show (4 : Int32) = Int32.ofNat 4 from rfl, n_mul, n_add]]
    refine s_mnamed hl1 hL hl2 (fun σ1 f1 c1 => w_M_lineRead_215 (n_inb (by omega) (by omega)) ?_)
    rw [n_cl (by omega), show Int32.ofNat q + 1 = Int32.ofNat (q + 1) from n_add q 1]
    have F : fr [(26, 15), (37, 999), (38, 999), (36, 999)] σ (st_up σ1 36 0 (4 * c + q) (Int32.ofNat (lsK (X q) (lq X s q)))) := fr_up (fr_w _ f1 rfl) rfl
    refine ih (q + 1) _ (by omega) ((F.2 26 0 12 rfl).trans h12') ((F.2 26 0 21 rfl).trans h21) (fun j hj => (F.2 39 0 j rfl).trans (hX j hj)) ⟨c1.1, c1.2⟩ (fun j hj => ?_) (fun σ' f g => K σ' (fr_tr F f) (fun x hx => (g x hx).trans ((up_j (by omega)).trans (f1.2 36 0 x rfl))))
    by_cases hjq : j = q
    · subst hjq; exact up_eq ..
    · exact (up_j (by omega)).trans ((f1.2 36 0 _ rfl).trans (hk j (by omega)))
theorem tx_C.frc {c l i : Nat} {e : Nat → Nat} {rg : Nat → Nat → Nat} {n : Nat → Int32} {m : Nat → Nat} {lb : Nat → Nat → Nat} {na : Nat → Int32} {sb : Nat → Option Nat} {σ σ' : st_S} (hi : c ≤ i) (f : frc i σ σ') (r : tx_C c l e rg n m lb na sb σ) : tx_C c l e rg n m lb na sb σ' := by
  obtain ⟨h1, h2, h3, h4⟩ := r
  refine ⟨(f.2 7 0 1 (Or.inr rfl)).trans h1, (f.2 13 0 2 (Or.inr rfl)).trans h2, fun j hj => ?_, fun i' hi' => ?_⟩
  · rw [f.2 14 0 j (Or.inr rfl), f.2 15 0 j (Or.inr rfl)]; exact h3 j hj
  · obtain ⟨a1, a2, a3, a4, a5⟩ := h4 i' hi'
    have ne : i' ≠ i := by omega
    exact ⟨(f.2 9 i' 0 (Or.inl ne)).trans a1, fun r hr => (f.2 10 i' r (Or.inl ne)).trans (a2 r hr), (f.2 9 i' 3 (Or.inl ne)).trans a3, (f.2 9 i' 4 (Or.inl ne)).trans a4, fun k hk => (f.2 12 i' k (Or.inl ne)).trans (a5 k hk)⟩
theorem tx_L.frc {c i : Nat} {e : Nat → Nat} {n : Nat → Int32} {m : Nat → Nat} {lb : Nat → Nat → Nat} {sb : Nat → Option Nat} {σ σ' : st_S} (hi : c ≤ i) (f : frc i σ σ') (r : tx_L c e n m lb sb σ) : tx_L c e n m lb sb σ' := by
  obtain ⟨lg, h1, h2, h3, h4⟩ := r
  refine ⟨lg, h1, fun i' hi' => ?_, (f.2 7 0 3 (Or.inr rfl)).trans h3, (f.2 7 0 4 (Or.inr rfl)).trans h4⟩
  have ne : i' ≠ i := by omega
  exact ⟨(f.2 9 i' 1 (Or.inl ne)).trans (h2 i' hi').1, (f.2 9 i' 7 (Or.inl ne)).trans (h2 i' hi').2⟩
theorem lt6_58 {r : Nat → Int32} {a b : Nat} (hab : a < b) (h : r a = 58) : lt6 r a b = none := by
  unfold lt6
  by_cases hc : a = b ∨ 6 < b - a
  · rw [if_pos hc]
  · rw [if_neg hc]
    obtain ⟨d, hd⟩ : ∃ d, b - a = d + 1 := ⟨b - a - 1, by omega⟩
    rw [hd]
    show (if r a < 97 ∨ (122 : Int32) < r a then none else _) = none
    rw [if_pos (Or.inl (by rw [h]; decide))]
/-- class and reference alike, but for what a line changes -/
abbrev fp_lc : List (Nat × Nat) := [(3, 999), (5, 999), (6, 999), (7, 999), (9, 999), (10, 999), (11, 999), (12, 999), (13, 999), (14, 999), (15, 999)]
abbrev fp_lm : List (Nat × Nat) := [(26, 3), (26, 4), (26, 12), (26, 15), (26, 16), (26, 17), (26, 18), (26, 19), (26, 20), (26, 21), (28, 999), (29, 999), (30, 999), (31, 999), (32, 999), (33, 999), (34, 999), (35, 999), (36, 999), (37, 999), (38, 999), (39, 999)]
theorem RR_line {xs : Nat → Int32} {L : Nat} {σ σ2 σ4 : st_S} (rr : RR xs L σ) (f2 : fr fp_lc σ σ2) (z2 : σ2.1 3 0 1 = 0) (f4 : fr fp_lm σ2 σ4) (z4 : σ4.1 26 0 3 = 0) (t : R_T σ4) : RR xs L σ4 := by
  obtain ⟨-, -, a3, a4, a5, a6, a7⟩ := rr
  refine ⟨⟨0, by omega, (f4.2 3 0 1 rfl).trans z2, z4, fun j hj => absurd hj (Nat.not_lt_zero j)⟩, t, (a3.ag (fr_ag f2 rfl)).ag (fr_ag f4 rfl), (a4.ag (fr_ag f2 rfl)).ag (fr_ag f4 rfl), (a5.ag (fr_ag f2 rfl)).ag (fr_ag f4 rfl), (a6.ag f2.1 (fr_ag f2 rfl)).ag f4.1 (fr_ag f4 rfl), (a7.ag f2.1 (fr_ag f2 rfl)).ag f4.1 (fr_ag f4 rfl)⟩
/-- the reference's way to the kind of a line -/
theorem s_mkind {σ : st_S} {n0 E : Nat} {row : Nat → Int32} (hn : n0 ≤ 40) (hE : E ≤ n0) (hW : 1 ≤ sW row E) (h27 : ∀ j, j < n0 → σ.1 27 0 j = row j) (hw : wM row E σ) {Q : st_S → Option eg_V → Prop}
    (K0 : (∀ k, k < 16 → ¬ fw row (sS row E 0) (sT row E 0) k) → Q (st_up σ 26 0 16 (-1)) (some (.inl (-4))))
    (K1 : ∀ k, k < 16 → k ≠ 4 → k ≠ 10 → fw row (sS row E 0) (sT row E 0) k → pw_E 98 0 (st_up σ 26 0 16 (kd_op k)) (0, 0) [(0, .inr (26, 0))] [] (fun σ1 r1 => pw_E 90 71 σ1 (0, 0) [(0, .inr (26, 0))] (r1.toList ++ []) Q)) :
    pw_E 92 0 σ (0, 0) [(0, .inr (26, 0)), (1, .inl (σ.1 28 0 0)), (2, .inl (σ.1 29 0 0))] [] (fun σ1 r1 => pw_E 90 51 σ1 (0, 0) [(0, .inr (26, 0))] (r1.toList ++ [.inr (26, 0)]) Q) := by
  obtain ⟨k1, -, -, k4⟩ := sc_ok row E
  obtain ⟨b1, b2⟩ := k4 0 (by omega)
  obtain ⟨w1, w2⟩ := hw.2 0 (by omega)
  rw [w1, w2]
  refine s_mlt hn (by omega) (by omega) h27 (w_M_lineRead_51 (w_M_opNamed_0 ?_))
  refine s_opNamed (v := lt6 row (sS row E 0) (sT row E 0)) (fun u hu => lt6_b (by omega) hu) (fun z => ?_) (fun k hk h4 h10 z => ?_) 257 0 (by omega) (fun q hq => by omega)
  · exact w_M_lineRead_54 (fun y => absurd y (by decide)) (fun _ => K0 (fun k hk y => z k hk ((fw_iff b1 hk).mp y)))
  · have h0 : (0 : Int32) ≤ kd_op k := (by decide +kernel : ∀ k, k < 16 → (0 : Int32) ≤ kd_op k) k hk
    exact w_M_lineRead_54 (fun _ => K1 k hk h4 h10 ((fw_iff b1 hk).mpr z)) (fun y => absurd h0 y)
theorem fw_un {row : Nat → Int32} {a b k q : Nat} (hab : a < b) (hk : k < 16) (hq : q < 16) (k4 : k ≠ 4) (k10 : k ≠ 10) (q4 : q ≠ 4) (q10 : q ≠ 10) (h1 : fw row a b k) (h2 : fw row a b q) : k = q := by
  have e1 := (fw_iff hab hk).mp h1
  have e2 := (fw_iff hab hq).mp h2
  rw [e1] at e2
  exact kz_inj k hk q hq k4 k10 q4 q10 (Option.some.inj e2)
