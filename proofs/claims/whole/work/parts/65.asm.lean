/-! ASSEMBLING, the reference's way -/
theorem gbn_lo {f A B C x4 x8 x16 : Nat} (hf : f < 15) (n3 : f ≠ 3) (n9 : f ≠ 9) (h : gr f A B C) : gbn f A B C x4 x8 x16 % 65536 = ([0, 1, 15, 18, 19, 144, 145, 146, 216, 40, 41, 50, 51, 56, 43] : List Nat).getD f 0 + 256 * A + (if f = 1 ∨ f = 11 ∨ f = 12 then 4096 * B else 0) := by
  obtain ⟨h1, h2, h3, g1, g2, g3⟩ := h
  have hc : f = 0 ∨ f = 1 ∨ f = 2 ∨ f = 4 ∨ f = 5 ∨ f = 6 ∨ f = 7 ∨ f = 8 ∨ f = 10 ∨ f = 11 ∨ f = 12 ∨ f = 13 ∨ f = 14 := by omega
  clear hf n3 n9
  rcases hc with rfl | rfl | rfl | rfl | rfl | rfl | rfl | rfl | rfl | rfl | rfl | rfl | rfl
  · have zA := g1 (by decide); have zB := g2 (by decide); have zC := g3 (by decide)
    show (0 + A * 256 + B * 4096 + C * 16777216 + 0) % 65536 = 0 + 256 * A + 0
    clear g1 g2 g3; omega
  · have zC := g3 (by decide)
    show (1 + A * 256 + B * 4096 + C * 16777216 + 0) % 65536 = 1 + 256 * A + 4096 * B
    clear g1 g2 g3; omega
  · have zB := g2 (by decide); have zC := g3 (by decide)
    show (15 + A * 256 + B * 4096 + C * 16777216 + 0) % 65536 = 15 + 256 * A + 0
    clear g1 g2 g3; omega
  · have zB := g2 (by decide); have zC := g3 (by decide)
    show (19 + A * 256 + B * 65536 + C * 16777216 + x16 * 65536) % 65536 = 19 + 256 * A + 0
    clear g1 g2 g3; omega
  · show (144 + A * 256 + B * 65536 + C * 16777216 + 0) % 65536 = 144 + 256 * A + 0
    clear g1 g2 g3; omega
  · show (145 + A * 256 + B * 65536 + C * 16777216 + 0) % 65536 = 145 + 256 * A + 0
    clear g1 g2 g3; omega
  · show (146 + A * 256 + B * 65536 + C * 16777216 + 0) % 65536 = 146 + 256 * A + 0
    clear g1 g2 g3; omega
  · have zC := g3 (by decide)
    show (216 + A * 256 + B * 65536 + C * 16777216 + x8 * 16777216) % 65536 = 216 + 256 * A + 0
    clear g1 g2 g3; omega
  · have zA := g1 (by decide); have zB := g2 (by decide); have zC := g3 (by decide)
    show (41 + A * 256 + B * 4096 + C * 16777216 + x16 * 65536) % 65536 = 41 + 256 * A + 0
    clear g1 g2 g3; omega
  · have zC := g3 (by decide)
    show (50 + A * 256 + B * 4096 + C * 16777216 + x16 * 65536) % 65536 = 50 + 256 * A + 4096 * B
    clear g1 g2 g3; omega
  · have zC := g3 (by decide)
    show (51 + A * 256 + B * 4096 + C * 16777216 + x16 * 65536) % 65536 = 51 + 256 * A + 4096 * B
    clear g1 g2 g3; omega
  · have zB := g2 (by decide); have zC := g3 (by decide)
    show (56 + A * 256 + B * 4096 + C * 16777216 + x16 * 65536) % 65536 = 56 + 256 * A + 0
    clear g1 g2 g3; omega
  · have zB := g2 (by decide); have zC := g3 (by decide)
    show (43 + A * 256 + B * 4096 + C * 16777216 + x16 * 65536) % 65536 = 43 + 256 * A + 0
    clear g1 g2 g3; omega
theorem gb_lo {f A B C : Nat} {v : Int32} (hf : f < 15) (h3 : f ≠ 3) (h9 : f ≠ 9) (h : gr f A B C) : gb f A B C v % 65536 = ([0, 1, 15, 18, 19, 144, 145, 146, 216, 40, 41, 50, 51, 56, 43] : List Nat).getD f 0 + 256 * A + (if f = 1 ∨ f = 11 ∨ f = 12 then 4096 * B else 0) := gbn_lo hf h3 h9 h
theorem gbn_lo3 {A x4 x8 x16 : Nat} (hA : A < 16) (h4 : x4 < 16) : gbn 3 A 0 0 x4 x8 x16 % 65536 = 18 + 256 * A + 4096 * x4 := by
  show (18 + A * 256 + 0 * 4096 + 0 * 16777216 + x4 * 4096) % 65536 = _
  omega
theorem gb_lo3 {A : Nat} {v : Int32} (hA : A < 16) : gb 3 A 0 0 v % 65536 = 18 + 256 * A + 4096 * xm v 4 := gbn_lo3 hA (xm_lt v 4)
theorem gbn_lo9 {x4 x8 x16 : Nat} (h8 : x8 < 256) : gbn 9 0 0 0 x4 x8 x16 % 65536 = 40 + 256 * x8 := by
  show (40 + 0 * 256 + 0 * 4096 + 0 * 16777216 + x8 * 256) % 65536 = _
  omega
theorem gb_lo9 {v : Int32} : gb 9 0 0 0 v % 65536 = 40 + 256 * xm v 8 := gbn_lo9 (xm_lt v 8)
theorem gbn_hi {f A B C x4 x8 x16 : Nat} (hf : f < 15) (hu : ku f = 2) (h : gr f A B C) : gbn f A B C x4 x8 x16 / 65536 = if f = 8 then B + 256 * x8 else if f = 5 ∨ f = 6 ∨ f = 7 then B + 256 * C else x16 := by
  obtain ⟨h1, h2, h3, g1, g2, g3⟩ := h
  have hq := (by decide +kernel : ∀ f, f < 15 → (ku f ≠ 2 ∨ (f = 4 ∨ f = 5 ∨ f = 6 ∨ f = 7 ∨ f = 8 ∨ f = 10 ∨ f = 11 ∨ f = 12 ∨ f = 13 ∨ f = 14))) f hf
  have hc : f = 4 ∨ f = 5 ∨ f = 6 ∨ f = 7 ∨ f = 8 ∨ f = 10 ∨ f = 11 ∨ f = 12 ∨ f = 13 ∨ f = 14 := by omega
  clear hf hq hu
  rcases hc with rfl | rfl | rfl | rfl | rfl | rfl | rfl | rfl | rfl | rfl
  · have zB := g2 (by decide); have zC := g3 (by decide)
    show (19 + A * 256 + B * 65536 + C * 16777216 + x16 * 65536) / 65536 = x16
    clear g1 g2 g3; omega
  · show (144 + A * 256 + B * 65536 + C * 16777216 + 0) / 65536 = B + 256 * C
    clear g1 g2 g3; omega
  · show (145 + A * 256 + B * 65536 + C * 16777216 + 0) / 65536 = B + 256 * C
    clear g1 g2 g3; omega
  · show (146 + A * 256 + B * 65536 + C * 16777216 + 0) / 65536 = B + 256 * C
    clear g1 g2 g3; omega
  · have zC := g3 (by decide)
    show (216 + A * 256 + B * 65536 + C * 16777216 + x8 * 16777216) / 65536 = B + 256 * x8
    clear g1 g2 g3; omega
  · have zA := g1 (by decide); have zB := g2 (by decide); have zC := g3 (by decide)
    show (41 + A * 256 + B * 4096 + C * 16777216 + x16 * 65536) / 65536 = x16
    clear g1 g2 g3; omega
  · have zC := g3 (by decide)
    show (50 + A * 256 + B * 4096 + C * 16777216 + x16 * 65536) / 65536 = x16
    clear g1 g2 g3; omega
  · have zC := g3 (by decide)
    show (51 + A * 256 + B * 4096 + C * 16777216 + x16 * 65536) / 65536 = x16
    clear g1 g2 g3; omega
  · have zB := g2 (by decide); have zC := g3 (by decide)
    show (56 + A * 256 + B * 4096 + C * 16777216 + x16 * 65536) / 65536 = x16
    clear g1 g2 g3; omega
  · have zB := g2 (by decide); have zC := g3 (by decide)
    show (43 + A * 256 + B * 4096 + C * 16777216 + x16 * 65536) / 65536 = x16
    clear g1 g2 g3; omega
theorem gb_hi {f A B C : Nat} {v : Int32} (hf : f < 15) (h2 : ku f = 2) (h : gr f A B C) : gb f A B C v / 65536 = if f = 8 then B + 256 * xm v 8 else if f = 5 ∨ f = 6 ∨ f = 7 then B + 256 * C else xm v 16 := gbn_hi hf h2 h
section
variable {c l : Nat} {e : Nat → Nat} {rg : Nat → Nat → Nat} {n : Nat → Int32} {m : Nat → Nat} {lb : Nat → Nat → Nat} {na : Nat → Int32} {sb : Nat → Option Nat}
/-- p units of item i are written -/
def WM (c : Nat) (e : Nat → Nat) (rg : Nat → Nat → Nat) (n : Nat → Int32) (m : Nat → Nat) (lb : Nat → Nat → Nat) (sb : Nat → Option Nat) (lg : Nat → Bool) (T i p : Nat) (σ : st_S) : Prop := ∀ x, x < T → σ.1 42 0 x = Int32.ofNat (if Lad e n m lg i ≤ x ∧ x < Lad e n m lg i + p then it c e rg n m lb sb lg i (x - Lad e n m lg i) else cd c e rg n m lb sb lg i x)
theorem WM_up {lg : Nat → Bool} {T i p : Nat} {σ : st_S} {v : Int32} (h : WM c e rg n m lb sb lg T i p σ) (hv : v = Int32.ofNat (it c e rg n m lb sb lg i p)) : WM c e rg n m lb sb lg T i (p + 1) (st_up σ 42 0 (Lad e n m lg i + p) v) := by
  intro x hx
  rw [st_up_at]
  by_cases hxa : x = Lad e n m lg i + p
  · rw [if_pos ⟨rfl, rfl, hxa⟩, if_pos ⟨by omega, by omega⟩, hv, hxa, Nat.add_sub_cancel_left]
  · rw [if_neg (fun z => hxa z.2.2), h x hx]
    by_cases hin : Lad e n m lg i ≤ x ∧ x < Lad e n m lg i + p
    · rw [if_pos hin, if_pos ⟨hin.1, by omega⟩]
    · rw [if_neg hin, if_neg (by omega)]
theorem WM_0 {lg : Nat → Bool} {T i : Nat} {σ : st_S} (h : ∀ x, x < T → σ.1 42 0 x = Int32.ofNat (cd c e rg n m lb sb lg i x)) : WM c e rg n m lb sb lg T i 0 σ := fun x hx => by rw [h x hx, if_neg (by omega)]
theorem WM_end {lg : Nat → Bool} {T i : Nat} {σ : st_S} (h : WM c e rg n m lb sb lg T i (Lsz e n m lg i) σ) : ∀ x, x < T → σ.1 42 0 x = Int32.ofNat (cd c e rg n m lb sb lg (i + 1) x) := fun x hx => by
  rw [h x hx]
  congr 1
  show _ = (if x < Lad e n m lg i then cd c e rg n m lb sb lg i x else if x < Lad e n m lg i + Lsz e n m lg i then it c e rg n m lb sb lg i (x - Lad e n m lg i) else 0)
  by_cases h1 : x < Lad e n m lg i
  · rw [if_neg (by omega), if_pos h1]
  · by_cases h2 : x < Lad e n m lg i + Lsz e n m lg i
    · rw [if_pos ⟨by omega, h2⟩, if_neg h1, if_pos h2]
    · rw [if_neg (by omega), if_neg h1, if_neg h2]
      exact cd_end i x (by have := (Lad_ge (e := e) (n := n) (m := m) (lg := lg) (i := i)).1; omega)
theorem s_rest {σ : st_S} {x : Int32} {Q : st_S → Option eg_V → Prop} (K : Q σ (some (.inl (Int32.ofNat (xm x 16))))) : pw_E 115 0 σ (0, 0) [(0, .inr (26, 0)), (1, .inl x)] [] Q := by
  refine w_M_rest_0 ?_
  rw [show (65535 : Int32) = Int32.ofNat (2 ^ 16 - 1) from rfl, x_mask]; exact K
/-- what holds all through the writing -/
def WH (c l : Nat) (e : Nat → Nat) (rg : Nat → Nat → Nat) (n : Nat → Int32) (m : Nat → Nat) (lb : Nat → Nat → Nat) (na : Nat → Int32) (sb : Nat → Option Nat) (lg : Nat → Bool) (σ : st_S) : Prop := tx_M c l e rg n m lb na sb σ ∧ (∀ j, j < c → σ.1 40 0 j = tx_b (lg j)) ∧ MA c e n m lg σ
theorem WH.fr {lg : Nat → Bool} {σ σ' : st_S} (h : WH c l e rg n m lb na sb lg σ) (f : fr [(42, 999)] σ σ') : WH c l e rg n m lb na sb lg σ' := ⟨h.1.ag (fr_ag f rfl), fun j hj => (f.2 40 0 j rfl).trans (h.2.1 j hj), fun j hj => (f.2 41 0 j rfl).trans (h.2.2.1 j hj), (f.2 26 0 25 rfl).trans h.2.2.2⟩
theorem s_mcases370 {lg : Nat → Bool} {T i tbl : Nat} (hV : tx_V c l e rg n m lb sb) (hi : i < c) (h15 : e i = 15) (hT : Lad e n m lg i + Lsz e n m lg i ≤ T) (hT2 : T ≤ 200) (htb : tbl = tb e n m lg i) {Q : st_S → Option eg_V → Prop} : ∀ d q (σ : st_S), q + d = m i → WH c l e rg n m lb na sb lg σ → WM c e rg n m lb sb lg T i (3 + q) σ →
    (∀ σ', fr [(42, 999)] σ σ' → WM c e rg n m lb sb lg T i (3 + m i) σ' → Q σ' none) →
    pw_E 114 370 σ (0, 0) [(0, .inr (26, 0)), (1, .inl (Int32.ofNat i)), (2, .inl (Int32.ofNat tbl)), (3, .inl (Int32.ofNat (Lad e n m lg i))), (7, .inl (Int32.ofNat q))] [] Q := by
  have hc40 := hV.1
  obtain ⟨he, -, -, -, -, -, -, -, -, hm4, hlb⟩ := hV.2.2.1 i hi
  have hm4 := hm4 h15
  have hsz : Lsz e n m lg i = 3 + m i := by
    show (if (tx_jp e i && lg i) = true then 2 else tx_s0 e n m i) = _
    rw [show tx_jp e i = false from beq_ff (by omega), Bool.false_and, if_neg (by decide)]
    unfold tx_s0; rw [if_pos h15]
  rw [hsz] at hT
  have hcl : (Int32.ofNat i).toNatClampNeg = i := n_cl (by omega)
  intro d
  induction d with
  | zero =>
    intro q σ hd hW hm K
    have : q = m i := by omega
    subst this
    have a6 := (hW.1.2.2.2 i hi).2.2.2.2.2.1
    have hle : σ.1 35 0 (Int32.ofNat i).toNatClampNeg ≤ Int32.ofNat (m i) := by rw [hcl, a6]; exact Int32.le_refl _
    exact w_M_write_370 (n_inb (by omega) (by omega)) (fun _ => w_M_write_419 (K σ fr_rf hm)) (fun h => absurd hle h) (fun h => absurd hle h)
  | succ d ih =>
    intro q σ hd hW hm K
    obtain ⟨a1, a2, a3, a4, a5, a6, a7⟩ := hW.1.2.2.2 i hi
    have hle : ¬ σ.1 35 0 (Int32.ofNat i).toNatClampNeg ≤ Int32.ofNat q := by rw [hcl, a6, n_le (by omega) (by omega)]; omega
    have hlq := hlb q (by omega)
    have h4 : (4 : Int32) * Int32.ofNat i + Int32.ofNat q = Int32.ofNat (4 * i + q) := by rw [show (4 : Int32) = Int32.ofNat 4 from rfl, n_mul, n_add]
    have h3 : Int32.ofNat (Lad e n m lg i) + 3 + Int32.ofNat q = Int32.ofNat (Lad e n m lg i + (3 + q)) := by rw [show (3 : Int32) = Int32.ofNat 3 from rfl, n_add, n_add]; congr 1; omega
    refine w_M_write_370 (n_inb (by omega) (by omega)) (fun h => absurd h hle) (fun _ => ?_) (fun _ => ?_)
    · rw [h4]; exact n_inb (by omega) (by omega)
    · rw [h4, n_cl (by omega), a7 q (by omega), h3]
      refine s_mean hV hlq hW.1 hW.2.2 (w_M_write_407 (s_rest (w_M_write_412 (n_inb (by omega) (by omega)) ?_)))
      rw [n_cl (by omega), show Int32.ofNat q + 1 = Int32.ofNat (q + 1) from n_add q 1]
      have F : fr [(42, 999)] σ (st_up σ 42 0 (Lad e n m lg i + (3 + q)) (Int32.ofNat (xm (Int32.ofNat (Lmn c e n m lg (sb (lb i q))) - Int32.ofNat tbl) 16))) := fr_up fr_rf rfl
      refine ih (q + 1) _ (by omega) (hW.fr F) (WM_up (p := 3 + q) hm ?_) (fun σ' f => K σ' (fr_tr F f))
      unfold it
      rw [if_pos h15, if_neg (by omega), if_neg (by omega), if_neg (by omega), htb, Nat.add_sub_cancel_left]
theorem s_labelsOf {σ : st_S} {f : Nat} (hf : f < 16) {Q : st_S → Option eg_V → Prop} (K : Q σ (some (.inl (if f = 15 then -1 else if f = 9 ∨ 11 ≤ f then 1 else 0)))) : pw_E 101 0 σ (0, 0) [(0, .inl (kd_op f))] [] Q := by
  have op : ∀ o, o < 16 → kd_op f = kd_op o → f = o := fun o ho h => k_opx f hf o ho h
  have nop : ∀ o, o < 16 → ¬ kd_op f = kd_op o → f ≠ o := fun o ho h z => h (by rw [z])
  refine w_M_labelsOf_0 (fun h => ?_) (fun h0 h => ?_) (fun h0 _ h => ?_) (fun h0 _ _ h => ?_) (fun h0 _ _ _ h => ?_) (fun h0 _ _ _ _ h => ?_) (fun h0 h1 h2 h3 h4 h5 => ?_)
  · rw [if_pos (op 15 (by omega) h)] at K; exact K
  · have := op 9 (by omega) h; rw [if_neg (by omega), if_pos (by omega)] at K; exact K
  · have := op 11 (by omega) h; rw [if_neg (by omega), if_pos (by omega)] at K; exact K
  · have := op 12 (by omega) h; rw [if_neg (by omega), if_pos (by omega)] at K; exact K
  · have := op 13 (by omega) h; rw [if_neg (by omega), if_pos (by omega)] at K; exact K
  · have := op 14 (by omega) h; rw [if_neg (by omega), if_pos (by omega)] at K; exact K
  · have z0 := nop 15 (by omega) h0; have z1 := nop 9 (by omega) h1; have z2 := nop 11 (by omega) h2; have z3 := nop 12 (by omega) h3; have z4 := nop 13 (by omega) h4; have z5 := nop 14 (by omega) h5
    rw [if_neg z0, if_neg (by omega)] at K; exact K
theorem k_opl : ∀ f, f < 15 → kd_op f = Int32.ofNat (([0, 1, 15, 18, 19, 144, 145, 146, 216, 40, 41, 50, 51, 56, 43] : List Nat).getD f 0) := by decide +kernel
theorem s_mwrite {σ : st_S} {lg : Nat → Bool} {T i tbl : Nat} (hV : tx_V c l e rg n m lb sb) (hi : i < c) (hT : Lad e n m lg i + Lsz e n m lg i ≤ T) (hT2 : T ≤ 200) (htb : e i = 15 → tbl = tb e n m lg i) (hW : WH c l e rg n m lb na sb lg σ) (hm : ∀ x, x < T → σ.1 42 0 x = Int32.ofNat (cd c e rg n m lb sb lg i x)) {Q : st_S → Option eg_V → Prop}
    (K : ∀ σ', fr [(42, 999)] σ σ' → (∀ x, x < T → σ'.1 42 0 x = Int32.ofNat (cd c e rg n m lb sb lg (i + 1) x)) → Q σ' none) : pw_E 114 0 σ (0, 0) [(0, .inr (26, 0)), (1, .inl (Int32.ofNat i)), (2, .inl (Int32.ofNat tbl))] [] Q := by
  have hc40 := hV.1
  have hpos := Lsz_pos hV (lg := lg) hi
  obtain ⟨he, hn4, hn10, -, -, -, -, -, hml, hm4, hlb⟩ := hV.2.2.1 i hi
  obtain ⟨a1, a2, a3, a4, a5, a6, a7⟩ := hW.1.2.2.2 i hi
  have hcl : (Int32.ofNat i).toNatClampNeg = i := n_cl (by omega)
  have inb : eg_inb (Int32.ofNat i) 40 = true := n_inb (by omega) (by omega)
  have opi : ∀ o, o < 16 → kd_op (e i) = kd_op o → e i = o := fun o ho h => k_opx (e i) he o ho h
  have nopi : ∀ o, o < 16 → ¬ kd_op (e i) = kd_op o → e i ≠ o := fun o ho h z => h (by rw [z])
  have hflag := hW.2.1 i hi
  have fok := fun h15 => fm_ok hV (lg := lg) hi h15
  have it0 : e i ≠ 15 → ∀ j, it c e rg n m lb sb lg i j = if j = 0 then ib c e rg n m lb sb lg i % 65536 else ib c e rg n m lb sb lg i / 65536 := fun h15 j => by unfold it; rw [if_neg h15]
  have fme : e i ≠ 3 → e i ≠ 9 → fm e n lg i = e i := fun h3 h9 => by unfold fm tx_lgv; rw [if_neg h9, if_neg h3, if_pos rfl]
  have fm9 : e i = 9 → fm e n lg i = if lg i = true then 10 else 9 := fun h9 => by
    unfold fm tx_lgv; rw [if_pos h9]
    cases hl : lg i with
    | false => rw [if_pos (show tx_b false = 0 from rfl), if_neg (by decide)]; exact h9
    | true => rw [if_neg (show ¬ tx_b true = 0 by decide), if_pos h9, if_pos rfl]
  have fm3 : e i = 3 → fm e n lg i = if -8 ≤ n i ∧ n i ≤ 7 then 3 else 4 := fun h3 => by
    unfold fm tx_lgv; rw [if_neg (show ¬ e i = 9 by omega), if_pos h3]
    by_cases hb : -8 ≤ n i ∧ n i ≤ 7
    · rw [if_pos hb, if_pos rfl, if_pos hb]; exact h3
    · rw [if_neg hb, if_neg (by decide), if_neg (show ¬ e i = 9 by omega), if_neg hb]
  have fvg : e i ≠ 15 → kd_goes (e i) = 0 → fv c e n m lb sb lg i = n i := fun h15 h => by unfold fv; rw [if_pos ((fok h15).2.2.2.mpr h)]
  have fvd : e i ≠ 15 → ¬ kd_goes (e i) = 0 → fv c e n m lb sb lg i = fD c e n m lb sb lg i := fun h15 h => by unfold fv; rw [if_neg (fun z => h ((fok h15).2.2.2.mp z))]
  have e1' : Int32.ofNat (Lad e n m lg i) + 1 = Int32.ofNat (Lad e n m lg i + 1) := n_add _ 1
  have e2' : Int32.ofNat (Lad e n m lg i) + 2 = Int32.ofNat (Lad e n m lg i + 2) := n_add _ 2
  have s195 : ∀ (σ1 : st_S) x5, fr [(42, 999)] σ σ1 → WM c e rg n m lb sb lg T i 1 σ1 → (e i = 9 ∨ 11 ≤ e i ∧ e i ≤ 14 → x5 = fD c e n m lb sb lg i) → pw_E 114 195 σ1 (0, 0) [(0, .inr (26, 0)), (1, .inl (Int32.ofNat i)), (2, .inl (Int32.ofNat tbl)), (3, .inl (Int32.ofNat (Lad e n m lg i))), (4, .inl (kd_op (e i))), (5, .inl x5)] [.inl (Int32.ofNat (Lsz e n m lg i))] Q := by
    intro σ1 x5 f1 w1 hx5
    have b1 := (f1.2 32 0 i rfl).trans a3
    have b2 := (f1.2 33 0 i rfl).trans a4
    have b3 := (f1.2 34 0 i rfl).trans a5
    have b4 := (f1.2 35 0 i rfl).trans a6
    have one : (Int32.ofNat (Lsz e n m lg i) = 1) = (Lsz e n m lg i = 1) := n_inj (b := 1) (by have := Lsz_le hV (lg := lg) hi; omega) (by omega)
    have two : e i ≠ 15 → ¬ Lsz e n m lg i = 1 → Lsz e n m lg i = 2 := fun h15 h => by
      have := fok h15
      have := (by decide +kernel : ∀ f, f < 15 → ku f = 1 ∨ ku f = 2) _ this.1
      omega
    have fin : ∀ v, e i ≠ 15 → ¬ Lsz e n m lg i = 1 → v = Int32.ofNat (ib c e rg n m lb sb lg i / 65536) → pw_E 114 419 (st_up σ1 42 0 (Int32.ofNat (Lad e n m lg i + 1)).toNatClampNeg v) (0, 0) [] [] Q := fun v h15 h1 hv => by
      rw [n_cl (by omega)]
      refine w_M_write_419 (K _ (fr_up f1 rfl) (WM_end ?_))
      rw [two h15 h1]
      refine WM_up w1 ?_
      rw [it0 h15, if_neg (by omega)]; exact hv
    have hi1 : ¬ Lsz e n m lg i = 1 → eg_inb (Int32.ofNat (Lad e n m lg i + 1)) 200 = true := fun h => n_inb (by omega) (by omega)
    have hib : e i ≠ 15 → ¬ Lsz e n m lg i = 1 → ib c e rg n m lb sb lg i / 65536 = if fm e n lg i = 8 then rg i 1 + 256 * xm (fv c e n m lb sb lg i) 8 else if fm e n lg i = 5 ∨ fm e n lg i = 6 ∨ fm e n lg i = 7 then rg i 1 + 256 * rg i 2 else xm (fv c e n m lb sb lg i) 16 := fun h15 h1 => gb_hi (fok h15).1 (by rw [(fok h15).2.2.1]; exact two h15 h1) (fok h15).2.1
    have c8 : kd_op (e i) = 216 → ¬ Lsz e n m lg i = 1 → pw_E 114 419 (st_up σ1 42 0 (Int32.ofNat (Lad e n m lg i) + 1).toNatClampNeg ((σ1.1 32 0 (Int32.ofNat i).toNatClampNeg) + ((256 : Int32) * ((σ1.1 34 0 (Int32.ofNat i).toNatClampNeg) &&& 255)))) (0, 0) [] [] Q := fun h h1 => by
      have z : e i = 8 := opi 8 (by omega) h
      rw [e1']
      refine fin _ (by omega) h1 ?_
      rw [hib (by omega) h1, fme (by omega) (by omega), if_pos z, hcl, b1, b3, show (255 : Int32) = Int32.ofNat (2 ^ 8 - 1) from rfl, x_mask, show (256 : Int32) = Int32.ofNat 256 from rfl, n_mul, n_add, fvg (by omega) (by rw [z]; rfl)]
    have c15 : kd_op (e i) = 256 → ¬ Lsz e n m lg i = 1 → pw_E 115 0 (st_up σ1 42 0 (Int32.ofNat (Lad e n m lg i) + 1).toNatClampNeg (σ1.1 35 0 (Int32.ofNat i).toNatClampNeg)) (0, 0) [(0, .inr (26, 0)), (1, .inl (σ1.1 34 0 (Int32.ofNat i).toNatClampNeg))] [] (fun σ1 r1 => pw_E 114 366 σ1 (0, 0) [(0, .inr (26, 0)), (1, .inl (Int32.ofNat i)), (2, .inl (Int32.ofNat tbl)), (3, .inl (Int32.ofNat (Lad e n m lg i)))] (r1.toList ++ [.inl (Int32.ofNat (Lad e n m lg i) + 2), .inr (42, 0)]) Q) := fun h h1 => by
      have z : e i = 15 := opi 15 (by omega) h
      have hm4 := hm4 z
      have hsz : Lsz e n m lg i = 3 + m i := by
        show (if (tx_jp e i && lg i) = true then 2 else tx_s0 e n m i) = _
        rw [show tx_jp e i = false from beq_ff (by omega), Bool.false_and, if_neg (by decide)]
        unfold tx_s0; rw [if_pos z]
      rw [e1', n_cl (by omega), hcl, b4, b3, e2']
      refine s_rest (w_M_write_366 (n_inb (by omega) (by omega)) ?_)
      rw [n_cl (by omega)]
      have F : fr [(42, 999)] σ (st_up (st_up σ1 42 0 (Lad e n m lg i + 1) (Int32.ofNat (m i))) 42 0 (Lad e n m lg i + 2) (Int32.ofNat (xm (n i) 16))) := fr_up (fr_up f1 rfl) rfl
      refine s_mcases370 hV hi z hT hT2 (htb z) (m i) 0 _ (by omega) (hW.fr F) ?_ (fun σ' f w => K σ' (fr_tr F f) (WM_end (by rw [hsz]; exact w)))
      refine WM_up (p := 2) (WM_up (p := 1) w1 ?_) ?_
      · unfold it; rw [if_pos z, if_neg (by omega), if_pos rfl]
      · unfold it; rw [if_pos z, if_neg (by omega), if_neg (by omega), if_pos rfl]
    have cd' : e i ≠ 3 → e i ≠ 8 → e i ≠ 15 → e i ≠ 5 → e i ≠ 6 → e i ≠ 7 → ¬ Lsz e n m lg i = 1 → pw_E 115 0 σ1 (0, 0) [(0, .inr (26, 0)), (1, .inl x5)] [] (fun σ1 r1 => pw_E 114 331 σ1 (0, 0) [] (r1.toList ++ [.inl (Int32.ofNat (Lad e n m lg i) + 1), .inr (42, 0)]) Q) := fun h3 h8 h15 h5 h6 h7 h1 => by
      have hg : e i = 9 ∨ 11 ≤ e i ∧ e i ≤ 14 := by
        have h2 := two h15 h1
        rw [← (fok h15).2.2.1] at h2
        by_cases h9 : e i = 9
        · omega
        · rw [fme h3 h9] at h2
          have := (by decide +kernel : ∀ f, f < 16 → ku f = 2 → 4 ≤ f) _ he h2
          omega
      have hgo : ¬ kd_goes (e i) = 0 := by
        have := (by decide +kernel : ∀ f, f < 16 → (f = 9 ∨ 11 ≤ f ∧ f ≤ 14) → ¬ kd_goes f = 0) _ he hg
        exact this
      rw [e1', hx5 hg]
      refine s_rest (w_M_write_331 (hi1 h1) (fin _ h15 h1 ?_))
      have hf8 : fm e n lg i ≠ 8 ∧ fm e n lg i ≠ 5 ∧ fm e n lg i ≠ 6 ∧ fm e n lg i ≠ 7 := by
        by_cases h9 : e i = 9
        · rw [fm9 h9]; split <;> omega
        · rw [fme h3 h9]; omega
      rw [hib h15 h1, if_neg hf8.1, if_neg (by omega), fvd h15 hgo]
    refine w_M_write_195 (fun h => ?_) (fun _ _ => inb) (fun h h3 => ?_) (fun _ _ _ _ => inb) (fun h _ _ _ => ?_) (fun h _ _ h8 => ?_) (fun _ _ _ _ _ => inb) (fun h _ _ _ _ => ?_) (fun h _ _ _ h15 => ?_) (fun h h3 g1 h8 h15 => ?_) (fun _ _ _ _ _ => inb) (fun h _ _ _ _ => ?_) (fun h _ _ _ h8 => ?_) (fun _ _ _ _ _ _ => inb) (fun h _ _ _ _ _ => ?_) (fun h _ _ _ _ h15 => ?_) (fun h h3 g1 g2 h8 h15 => ?_) (fun _ _ _ _ => inb) (fun h _ _ _ => ?_) (fun h _ g1 g2 => ?_)
    · rw [one] at h
      exact K σ1 f1 (WM_end (by rw [h]; exact w1))
    · rw [one] at h
      have z : e i = 3 := opi 3 (by omega) h3
      rw [hcl, b3, e1']
      refine s_rest (w_M_write_224 (hi1 h) (fin _ (by omega) h ?_))
      have h2 := two (by omega) h
      have hb : ¬ (-8 ≤ n i ∧ n i ≤ 7) := fun hb => by
        have h2' := h2
        rw [← (fok (by omega)).2.2.1, fm3 z, if_pos hb] at h2'
        exact absurd h2' (by decide)
      rw [hib (by omega) h, fm3 z, if_neg hb, if_neg (by decide), if_neg (by decide), fvg (by omega) (by rw [z]; rfl)]
    · rw [one] at h; rw [e1']; exact hi1 h
    · rw [one] at h; exact c8 h8 h
    · rw [one] at h; rw [e1']; exact hi1 h
    · rw [one] at h; exact c15 h15 h
    · rw [one] at h
      have t : e i ≠ 5 ∧ e i ≠ 6 ∧ e i ≠ 7 := (by decide +kernel : ∀ f, f < 16 → kd_op f < 144 → f ≠ 5 ∧ f ≠ 6 ∧ f ≠ 7) _ he g1
      exact cd' (nopi 3 (by omega) h3) (nopi 8 (by omega) h8) (nopi 15 (by omega) h15) t.1 t.2.1 t.2.2 h
    · rw [one] at h; rw [e1']; exact hi1 h
    · rw [one] at h; exact c8 h8 h
    · rw [one] at h; rw [e1']; exact hi1 h
    · rw [one] at h; exact c15 h15 h
    · rw [one] at h
      have t : e i ≠ 5 ∧ e i ≠ 6 ∧ e i ≠ 7 := (by decide +kernel : ∀ f, f < 16 → (146 : Int32) < kd_op f → f ≠ 5 ∧ f ≠ 6 ∧ f ≠ 7) _ he g2
      exact cd' (nopi 3 (by omega) h3) (nopi 8 (by omega) h8) (nopi 15 (by omega) h15) t.1 t.2.1 t.2.2 h
    · rw [one] at h; rw [e1']; exact hi1 h
    · rw [one] at h
      have t : e i = 5 ∨ e i = 6 ∨ e i = 7 := (by decide +kernel : ∀ f, f < 16 → ¬ kd_op f < 144 → ¬ (146 : Int32) < kd_op f → f = 5 ∨ f = 6 ∨ f = 7) _ he g1 g2
      rw [e1']
      refine fin _ (by omega) h ?_
      rw [hib (by omega) h, fme (by omega) (by omega), if_neg (by omega), if_pos t, hcl, b1, b2, show (256 : Int32) = Int32.ofNat 256 from rfl, n_mul, n_add]
  have s182 : ∀ x5 x6, (e i = 9 ∨ 11 ≤ e i ∧ e i ≤ 14 → x5 = fD c e n m lb sb lg i) → x6 = Int32.ofNat (it c e rg n m lb sb lg i 0) → pw_E 114 182 σ (0, 0) [(0, .inr (26, 0)), (1, .inl (Int32.ofNat i)), (2, .inl (Int32.ofNat tbl)), (3, .inl (Int32.ofNat (Lad e n m lg i))), (4, .inl (kd_op (e i))), (5, .inl x5), (6, .inl x6)] [] Q := by
    intro x5 x6 hx5 hx6
    refine w_M_write_182 (n_inb (by omega) (by omega)) ?_
    rw [n_cl (by omega)]
    have F : fr [(42, 999)] σ (st_up σ 42 0 (Lad e n m lg i) x6) := fr_up fr_rf rfl
    exact s_size (σ := st_up σ 42 0 (Lad e n m lg i) x6) hV hi (hW.fr F).1 ((hW.fr F).2.1 i hi) (s195 _ x5 F (WM_up (p := 0) (WM_0 hm) hx6) hx5)
  have s169 : ∀ x5 x6, (e i = 9 ∨ 11 ≤ e i ∧ e i ≤ 14 → x5 = fD c e n m lb sb lg i) → (e i ≠ 15 → x6 = Int32.ofNat (it c e rg n m lb sb lg i 0)) → pw_E 114 169 σ (0, 0) [(0, .inr (26, 0)), (1, .inl (Int32.ofNat i)), (2, .inl (Int32.ofNat tbl)), (3, .inl (Int32.ofNat (Lad e n m lg i))), (4, .inl (kd_op (e i))), (5, .inl x5), (6, .inl x6)] [] Q := by
    intro x5 x6 hx5 hx6
    refine w_M_write_169 (fun h => s182 x5 _ hx5 ?_) (fun h => s182 x5 x6 hx5 (hx6 (nopi 15 (by omega) h)))
    have z : e i = 15 := opi 15 (by omega) h
    unfold it; rw [if_pos z, if_pos rfl]; rfl
  have s133 : ∀ x5 x6, (e i = 9 ∨ 11 ≤ e i ∧ e i ≤ 14 → x5 = fD c e n m lb sb lg i) → (e i ≠ 15 → e i ≠ 9 → x6 = Int32.ofNat (it c e rg n m lb sb lg i 0)) → pw_E 114 133 σ (0, 0) [(0, .inr (26, 0)), (1, .inl (Int32.ofNat i)), (2, .inl (Int32.ofNat tbl)), (3, .inl (Int32.ofNat (Lad e n m lg i))), (4, .inl (kd_op (e i))), (5, .inl x5), (6, .inl x6)] [] Q := by
    intro x5 x6 hx5 hx6
    refine w_M_write_133 (fun _ => inb) (fun h g => ?_) (fun h g => ?_) (fun h => s169 x5 x6 hx5 (fun h15 => hx6 h15 (nopi 9 (by omega) h)))
    · have z : e i = 9 := opi 9 (by omega) h
      rw [hcl, hflag, tx_b0] at g
      refine w_M_write_167 (s169 x5 _ hx5 (fun h15 => ?_))
      have hr := (fok h15).2.1
      rw [hx5 (Or.inl z), it0 h15, if_pos rfl]
      unfold ib
      rw [fvd h15 (by rw [z]; decide)]
      rw [fm9 z, g, if_neg (by decide)] at hr ⊢
      obtain ⟨-, -, -, r1, r2, r3⟩ := hr
      rw [r1 (by decide), r2 (by decide), r3 (by decide), gb_lo9, show (255 : Int32) = Int32.ofNat (2 ^ 8 - 1) from rfl, x_mask, show (256 : Int32) = Int32.ofNat 256 from rfl, n_mul, show (40 : Int32) = Int32.ofNat 40 from rfl, n_add]
    · have z : e i = 9 := opi 9 (by omega) h
      rw [hcl, hflag, tx_b0, Bool.not_eq_false] at g
      refine w_M_write_167 (s169 x5 _ hx5 (fun h15 => ?_))
      have hr := (fok h15).2.1
      rw [it0 h15, if_pos rfl]
      unfold ib
      rw [fm9 z, g, if_pos rfl] at hr ⊢
      rw [gb_lo (by omega) (by omega) (by omega) hr]
      obtain ⟨-, -, -, r1, r2, r3⟩ := hr
      rw [r1 (by decide)]
      rfl
  have s85 : ∀ x5 x6, (e i = 9 ∨ 11 ≤ e i ∧ e i ≤ 14 → x5 = fD c e n m lb sb lg i) → (e i ≠ 15 → x6 = Int32.ofNat (([0, 1, 15, 18, 19, 144, 145, 146, 216, 40, 41, 50, 51, 56, 43] : List Nat).getD (e i) 0 + 256 * rg i 0 + (if e i = 1 ∨ e i = 11 ∨ e i = 12 then 4096 * rg i 1 else 0))) → pw_E 114 85 σ (0, 0) [(0, .inr (26, 0)), (1, .inl (Int32.ofNat i)), (2, .inl (Int32.ofNat tbl)), (3, .inl (Int32.ofNat (Lad e n m lg i))), (4, .inl (kd_op (e i))), (5, .inl x5), (6, .inl x6)] [] Q := by
    intro x5 x6 hx5 hx6
    have long : e i = 3 → ¬ (-8 ≤ n i ∧ n i ≤ 7) → x6 + 1 = Int32.ofNat (it c e rg n m lb sb lg i 0) := fun z hb => by
      have hr := (fok (by omega)).2.1
      rw [it0 (by omega), if_pos rfl]
      unfold ib
      rw [fm3 z, if_neg hb] at hr ⊢
      rw [gb_lo (by omega) (by omega) (by omega) hr, hx6 (by omega), if_neg (by omega), z, show (1 : Int32) = Int32.ofNat 1 from rfl, n_add]
      congr 1
      simp only [List.getD_cons_zero, List.getD_cons_succ]
      simp
      omega
    refine w_M_write_85 (fun _ => inb) (fun h g => w_M_write_131 (s133 x5 _ hx5 (fun _ _ => ?_))) (fun h g g' => w_M_write_131 (s133 x5 _ hx5 (fun _ _ => ?_))) (fun h g g' => w_M_write_131 (s133 x5 _ hx5 (fun _ _ => ?_))) (fun h => s133 x5 x6 hx5 (fun h15 h9 => ?_))
    · have z : e i = 3 := opi 3 (by omega) h
      rw [hcl, a5] at g
      exact long z (fun y => absurd y.1 (Int32.not_le.mpr g))
    · have z : e i = 3 := opi 3 (by omega) h
      rw [hcl, a5] at g'
      exact long z (fun y => absurd y.2 (Int32.not_le.mpr g'))
    · have z : e i = 3 := opi 3 (by omega) h
      rw [hcl, a5] at g g' ⊢
      have hb : -8 ≤ n i ∧ n i ≤ 7 := ⟨Int32.not_lt.mp g, Int32.not_lt.mp g'⟩
      have hr := (fok (by omega)).2.1
      rw [it0 (by omega), if_pos rfl]
      unfold ib
      rw [fvg (by omega) (by rw [z]; rfl)]
      rw [fm3 z, if_pos hb] at hr ⊢
      obtain ⟨r0, -, -, -, r2, r3⟩ := hr
      rw [r2 (by decide), r3 (by decide), gb_lo3 r0, hx6 (by omega), if_neg (by omega), z, show (15 : Int32) = Int32.ofNat (2 ^ 4 - 1) from rfl, x_mask, show (4096 : Int32) = Int32.ofNat 4096 from rfl, n_mul, n_add]
      rfl
    · have h3 := nopi 3 (by omega) h
      rw [it0 h15, if_pos rfl]
      unfold ib
      have hr := (fok h15).2.1
      have hl := (fok h15).1
      rw [fme h3 h9] at hr hl ⊢
      rw [gb_lo hl h3 h9 hr]
      exact hx6 h15
  have s33 : ∀ x5, (e i = 9 ∨ 11 ≤ e i ∧ e i ≤ 14 → x5 = fD c e n m lb sb lg i) → pw_E 114 33 σ (0, 0) [(0, .inr (26, 0)), (1, .inl (Int32.ofNat i)), (2, .inl (Int32.ofNat tbl)), (3, .inl (Int32.ofNat (Lad e n m lg i))), (4, .inl (kd_op (e i)))] [.inl x5] Q := by
    intro x5 hx5
    have base : e i ≠ 15 → kd_op (e i) + (256 : Int32) * σ.1 31 0 (Int32.ofNat i).toNatClampNeg = Int32.ofNat (([0, 1, 15, 18, 19, 144, 145, 146, 216, 40, 41, 50, 51, 56, 43] : List Nat).getD (e i) 0 + 256 * rg i 0) := fun h15 => by
      rw [hcl, a2, k_opl (e i) (by omega), show (256 : Int32) = Int32.ofNat 256 from rfl, n_mul, n_add]
    have plus : (e i = 1 ∨ e i = 11 ∨ e i = 12) → kd_op (e i) + (256 : Int32) * σ.1 31 0 (Int32.ofNat i).toNatClampNeg + (4096 : Int32) * σ.1 32 0 (Int32.ofNat i).toNatClampNeg = Int32.ofNat (([0, 1, 15, 18, 19, 144, 145, 146, 216, 40, 41, 50, 51, 56, 43] : List Nat).getD (e i) 0 + 256 * rg i 0 + (if e i = 1 ∨ e i = 11 ∨ e i = 12 then 4096 * rg i 1 else 0)) := fun h => by
      rw [base (by omega), if_pos h, hcl, a3, show (4096 : Int32) = Int32.ofNat 4096 from rfl, n_mul, n_add]
    refine w_M_write_33 inb (fun h => w_M_write_70 inb (s85 _ _ hx5 (fun _ => plus (Or.inl (opi 1 (by omega) h))))) (fun _ h => w_M_write_70 inb (s85 _ _ hx5 (fun _ => plus (Or.inr (Or.inl (opi 11 (by omega) h)))))) (fun _ _ h => w_M_write_70 inb (s85 _ _ hx5 (fun _ => plus (Or.inr (Or.inr (opi 12 (by omega) h)))))) (fun h1 h2 h3 => s85 _ _ hx5 (fun h15 => ?_))
    have z1 := nopi 1 (by omega) h1
    have z2 := nopi 11 (by omega) h2
    have z3 := nopi 12 (by omega) h3
    rw [if_neg (by omega), Nat.add_zero]
    exact base h15
  refine w_M_write_0 (n_inb (by omega) (by omega)) inb ?_
  rw [hcl, a1, hW.2.2.1 i hi]
  refine s_labelsOf he (w_M_write_20 (fun h => ?_) (fun h => ?_))
  · have hg : e i = 9 ∨ 11 ≤ e i ∧ e i ≤ 14 := by
      by_cases h15 : e i = 15
      · rw [if_pos h15] at h; exact absurd h (by decide)
      · by_cases hg : e i = 9 ∨ 11 ≤ e i
        · omega
        · rw [if_neg h15, if_neg hg] at h; exact absurd h (by decide)
    have hm1 : m i = 1 := by
      rw [hml (by omega)]
      exact (by decide +kernel : ∀ f, f < 16 → (f = 9 ∨ 11 ≤ f ∧ f ≤ 14) → kl f = 1) _ he hg
    exact s_dist hV hi (by omega) hW.1 hW.2.2 (w_M_write_29 (s33 _ (fun _ => rfl)))
  · refine s33 _ (fun hg => absurd ?_ h)
    rw [if_neg (by omega), if_pos (by omega)]
end
