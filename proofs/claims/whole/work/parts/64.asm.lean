/-! ASSEMBLING: the units that are written, as numbers -/
def xm (x : Int32) (k : Nat) : Nat := x.toBitVec.toNat % 2 ^ k
theorem n_un (x : Int32) : x = Int32.ofNat x.toBitVec.toNat := by
  apply Int32.toBitVec_inj.1
  show x.toBitVec = BitVec.ofNat 32 x.toBitVec.toNat
  rw [BitVec.ofNat_toNat, BitVec.setWidth_eq]
theorem x_mask (x : Int32) (k : Nat) : x &&& Int32.ofNat (2 ^ k - 1) = Int32.ofNat (xm x k) := by
  rw [show x &&& Int32.ofNat (2 ^ k - 1) = Int32.ofNat x.toBitVec.toNat &&& Int32.ofNat (2 ^ k - 1) from by rw [← n_un x], n_mask]
  rfl
theorem xm_lt (x : Int32) (k : Nat) : xm x k < 2 ^ k := Nat.mod_lt _ (Nat.two_pow_pos k)
/-- the form f's bits; x4, x8, x16: the lowest bits of its field -/
def gbn (f A B C x4 x8 x16 : Nat) : Nat := ([0, 1, 15, 18, 19, 144, 145, 146, 216, 40, 41, 50, 51, 56, 43] : List Nat).getD f 0 + A * 256 + B * (if f = 4 ∨ f = 5 ∨ f = 6 ∨ f = 7 ∨ f = 8 then 65536 else 4096) + C * 16777216 +
  (if f = 3 then x4 * 4096 else if f = 8 then x8 * 16777216 else if f = 9 then x8 * 256 else if f = 4 ∨ 10 ≤ f then x16 * 65536 else 0)
def gb (f A B C : Nat) (v : Int32) : Nat := gbn f A B C (xm v 4) (xm v 8) (xm v 16)
/-- registers that a form has not are 0 -/
def gr (f A B C : Nat) : Prop := A < 16 ∧ B < 16 ∧ C < 16 ∧ (kr f < 1 → A = 0) ∧ (kr f < 2 → B = 0) ∧ (kr f < 3 → C = 0)
theorem gbn_lt {f A B C x4 x8 x16 : Nat} (hf : f < 15) (h : gr f A B C) (h4 : x4 < 16) (h8 : x8 < 256) (h16 : x16 < 65536) : gbn f A B C x4 x8 x16 < 4294967296 := by
  obtain ⟨h1, h2, h3, g1, g2, g3⟩ := h
  have hc : f = 0 ∨ f = 1 ∨ f = 2 ∨ f = 3 ∨ f = 4 ∨ f = 5 ∨ f = 6 ∨ f = 7 ∨ f = 8 ∨ f = 9 ∨ f = 10 ∨ f = 11 ∨ f = 12 ∨ f = 13 ∨ f = 14 := by omega
  clear hf
  rcases hc with rfl | rfl | rfl | rfl | rfl | rfl | rfl | rfl | rfl | rfl | rfl | rfl | rfl | rfl | rfl
  · have zA := g1 (by decide); have zB := g2 (by decide); have zC := g3 (by decide)
    show 0 + A * 256 + B * 4096 + C * 16777216 + 0 < 4294967296
    clear g1 g2 g3; omega
  · have zC := g3 (by decide)
    show 1 + A * 256 + B * 4096 + C * 16777216 + 0 < 4294967296
    clear g1 g2 g3; omega
  · have zB := g2 (by decide); have zC := g3 (by decide)
    show 15 + A * 256 + B * 4096 + C * 16777216 + 0 < 4294967296
    clear g1 g2 g3; omega
  · have zB := g2 (by decide); have zC := g3 (by decide)
    show 18 + A * 256 + B * 4096 + C * 16777216 + x4 * 4096 < 4294967296
    clear g1 g2 g3; omega
  · have zB := g2 (by decide); have zC := g3 (by decide)
    show 19 + A * 256 + B * 65536 + C * 16777216 + x16 * 65536 < 4294967296
    clear g1 g2 g3; omega
  · show 144 + A * 256 + B * 65536 + C * 16777216 + 0 < 4294967296
    clear g1 g2 g3; omega
  · show 145 + A * 256 + B * 65536 + C * 16777216 + 0 < 4294967296
    clear g1 g2 g3; omega
  · show 146 + A * 256 + B * 65536 + C * 16777216 + 0 < 4294967296
    clear g1 g2 g3; omega
  · have zC := g3 (by decide)
    show 216 + A * 256 + B * 65536 + C * 16777216 + x8 * 16777216 < 4294967296
    clear g1 g2 g3; omega
  · have zA := g1 (by decide); have zB := g2 (by decide); have zC := g3 (by decide)
    show 40 + A * 256 + B * 4096 + C * 16777216 + x8 * 256 < 4294967296
    clear g1 g2 g3; omega
  · have zA := g1 (by decide); have zB := g2 (by decide); have zC := g3 (by decide)
    show 41 + A * 256 + B * 4096 + C * 16777216 + x16 * 65536 < 4294967296
    clear g1 g2 g3; omega
  · have zC := g3 (by decide)
    show 50 + A * 256 + B * 4096 + C * 16777216 + x16 * 65536 < 4294967296
    clear g1 g2 g3; omega
  · have zC := g3 (by decide)
    show 51 + A * 256 + B * 4096 + C * 16777216 + x16 * 65536 < 4294967296
    clear g1 g2 g3; omega
  · have zB := g2 (by decide); have zC := g3 (by decide)
    show 56 + A * 256 + B * 4096 + C * 16777216 + x16 * 65536 < 4294967296
    clear g1 g2 g3; omega
  · have zB := g2 (by decide); have zC := g3 (by decide)
    show 43 + A * 256 + B * 4096 + C * 16777216 + x16 * 65536 < 4294967296
    clear g1 g2 g3; omega
theorem gb_lt {f A B C : Nat} {v : Int32} (hf : f < 15) (h : gr f A B C) : gb f A B C v < 4294967296 := gbn_lt hf h (xm_lt v 4) (xm_lt v 8) (xm_lt v 16)
theorem gb_class {f A B C : Nat} {v : Int32} (hf : f < 15) (h : gr f A B C) : ((((kd_op f ||| (Int32.ofNat A <<< 8)) ||| (Int32.ofNat B <<< (kd_secondRegisterAt f &&& 31))) ||| (Int32.ofNat C <<< 24)) ||| (if kd_fieldAt f = 0 then 0 else (v &&& (((1 : Int32) <<< ((((16 : Int32) * kd_units f) - kd_fieldAt f) &&& 31)) - 1)) <<< (kd_fieldAt f &&& 31))) = Int32.ofNat (gb f A B C v) := by
  obtain ⟨h1, h2, h3, h4, h5, h6⟩ := h
  have x4 : xm v 4 < 16 := xm_lt v 4
  have x8 : xm v 8 < 256 := xm_lt v 8
  have x16 : xm v 16 < 65536 := xm_lt v 16
  have m4 : v &&& (((1 : Int32) <<< (4 : Int32)) - 1) = Int32.ofNat (xm v 4) := x_mask v 4
  have m8 : v &&& (((1 : Int32) <<< (8 : Int32)) - 1) = Int32.ofNat (xm v 8) := x_mask v 8
  have m16 : v &&& (((1 : Int32) <<< (16 : Int32)) - 1) = Int32.ofNat (xm v 16) := x_mask v 16
  have s8 : ∀ a, Int32.ofNat a <<< (8 : Int32) = Int32.ofNat (a * 2 ^ 8) := n_shl (s := 8) (by omega)
  have s12 : ∀ a, Int32.ofNat a <<< (12 : Int32) = Int32.ofNat (a * 2 ^ 12) := n_shl (s := 12) (by omega)
  have s16 : ∀ a, Int32.ofNat a <<< (16 : Int32) = Int32.ofNat (a * 2 ^ 16) := n_shl (s := 16) (by omega)
  have s24 : ∀ a, Int32.ofNat a <<< (24 : Int32) = Int32.ofNat (a * 2 ^ 24) := n_shl (s := 24) (by omega)
  have key : ∀ (o k k2 y : Nat), o < 256 → k = 12 ∨ k = 16 → (o + A * 2 ^ 8 + B * 2 ^ k + C * 2 ^ 24 < 2 ^ k2 ∨ y = 0) → ((((Int32.ofNat o ||| Int32.ofNat (A * 2 ^ 8)) ||| Int32.ofNat (B * 2 ^ k)) ||| Int32.ofNat (C * 2 ^ 24)) ||| Int32.ofNat (y * 2 ^ k2)) = Int32.ofNat (o + A * 2 ^ 8 + B * 2 ^ k + C * 2 ^ 24 + y * 2 ^ k2) := by
    intro o k k2 y ho hk hb
    rw [n_orp 8 A (by omega)]
    have : o + A * 2 ^ 8 < 2 ^ k := by rcases hk with rfl | rfl <;> simp only [Nat.reducePow] <;> omega
    rw [n_orp k B this]
    have : o + A * 2 ^ 8 + B * 2 ^ k < 2 ^ 24 := by rcases hk with rfl | rfl <;> simp only [Nat.reducePow] <;> omega
    rw [n_orp 24 C this]
    rcases hb with hb | hb
    · rw [n_orp k2 y hb]
    · subst hb
      rw [Nat.zero_mul, Nat.add_zero, n_or, Nat.or_zero]
  refine k_cs (P := fun f => (kr f < 1 → A = 0) → (kr f < 2 → B = 0) → (kr f < 3 → C = 0) → ((((kd_op f ||| (Int32.ofNat A <<< 8)) ||| (Int32.ofNat B <<< (kd_secondRegisterAt f &&& 31))) ||| (Int32.ofNat C <<< 24)) ||| (if kd_fieldAt f = 0 then 0 else (v &&& (((1 : Int32) <<< ((((16 : Int32) * kd_units f) - kd_fieldAt f) &&& 31)) - 1)) <<< (kd_fieldAt f &&& 31))) = Int32.ofNat (gb f A B C v)) hf ?_ ?_ ?_ ?_ ?_ ?_ ?_ ?_ ?_ ?_ ?_ ?_ ?_ ?_ ?_ h4 h5 h6
  · intro g1 g2 g3
    have := key 0 12 0 0 (by omega) (by omega) (by omega)
    rw [← s8, ← s12, ← s24] at this
    exact this
  · intro g1 g2 g3
    have := key 1 12 0 0 (by omega) (by omega) (by omega)
    rw [← s8, ← s12, ← s24] at this
    exact this
  · intro g1 g2 g3
    have := key 15 12 0 0 (by omega) (by omega) (by omega)
    rw [← s8, ← s12, ← s24] at this
    exact this
  · intro g1 g2 g3
    have gB := g2 (by decide); have gC := g3 (by decide)
    have := key 18 12 12 (xm v 4) (by omega) (by omega) (Or.inl (by simp only [Nat.reducePow]; omega))
    rw [← s8, ← s12, ← s24, ← s12, ← m4] at this
    exact this
  · intro g1 g2 g3
    have gB := g2 (by decide); have gC := g3 (by decide)
    have := key 19 16 16 (xm v 16) (by omega) (by omega) (Or.inl (by simp only [Nat.reducePow]; omega))
    rw [← s8, ← s16, ← s24, ← s16, ← m16] at this
    exact this
  · intro g1 g2 g3
    have := key 144 16 0 0 (by omega) (by omega) (by omega)
    rw [← s8, ← s16, ← s24] at this
    exact this
  · intro g1 g2 g3
    have := key 145 16 0 0 (by omega) (by omega) (by omega)
    rw [← s8, ← s16, ← s24] at this
    exact this
  · intro g1 g2 g3
    have := key 146 16 0 0 (by omega) (by omega) (by omega)
    rw [← s8, ← s16, ← s24] at this
    exact this
  · intro g1 g2 g3
    have gC := g3 (by decide)
    have := key 216 16 24 (xm v 8) (by omega) (by omega) (Or.inl (by simp only [Nat.reducePow]; omega))
    rw [← s8, ← s16, ← s24, ← s24, ← m8] at this
    exact this
  · intro g1 g2 g3
    have gA := g1 (by decide); have gB := g2 (by decide); have gC := g3 (by decide)
    have := key 40 12 8 (xm v 8) (by omega) (by omega) (Or.inl (by simp only [Nat.reducePow]; omega))
    rw [← s8, ← s12, ← s24, ← s8, ← m8] at this
    exact this
  · intro g1 g2 g3
    have gC := g3 (by decide)
    have := key 41 12 16 (xm v 16) (by omega) (by omega) (Or.inl (by simp only [Nat.reducePow]; omega))
    rw [← s8, ← s12, ← s24, ← s16, ← m16] at this
    exact this
  · intro g1 g2 g3
    have gC := g3 (by decide)
    have := key 50 12 16 (xm v 16) (by omega) (by omega) (Or.inl (by simp only [Nat.reducePow]; omega))
    rw [← s8, ← s12, ← s24, ← s16, ← m16] at this
    exact this
  · intro g1 g2 g3
    have gC := g3 (by decide)
    have := key 51 12 16 (xm v 16) (by omega) (by omega) (Or.inl (by simp only [Nat.reducePow]; omega))
    rw [← s8, ← s12, ← s24, ← s16, ← m16] at this
    exact this
  · intro g1 g2 g3
    have gC := g3 (by decide)
    have := key 56 12 16 (xm v 16) (by omega) (by omega) (Or.inl (by simp only [Nat.reducePow]; omega))
    rw [← s8, ← s12, ← s24, ← s16, ← m16] at this
    exact this
  · intro g1 g2 g3
    have gC := g3 (by decide)
    have := key 43 12 16 (xm v 16) (by omega) (by omega) (Or.inl (by simp only [Nat.reducePow]; omega))
    rw [← s8, ← s12, ← s24, ← s16, ← m16] at this
    exact this
section
variable {c l : Nat} {e : Nat → Nat} {rg : Nat → Nat → Nat} {n : Nat → Int32} {m : Nat → Nat} {lb : Nat → Nat → Nat} {na : Nat → Int32} {sb : Nat → Option Nat}
/-- form and field of an item -/
def fm (e : Nat → Nat) (n : Nat → Int32) (lg : Nat → Bool) (i : Nat) : Nat := if tx_lgv e n lg i = 0 then e i else if e i = 9 then 10 else 4
def fD (c : Nat) (e : Nat → Nat) (n : Nat → Int32) (m : Nat → Nat) (lb : Nat → Nat → Nat) (sb : Nat → Option Nat) (lg : Nat → Bool) (i : Nat) : Int32 := Int32.ofNat (Lmn c e n m lg (sb (lb i 0))) - Int32.ofNat (Lad e n m lg i)
def fv (c : Nat) (e : Nat → Nat) (n : Nat → Int32) (m : Nat → Nat) (lb : Nat → Nat → Nat) (sb : Nat → Option Nat) (lg : Nat → Bool) (i : Nat) : Int32 := if kd_goes (fm e n lg i) = 0 then n i else fD c e n m lb sb lg i
def ib (c : Nat) (e : Nat → Nat) (rg : Nat → Nat → Nat) (n : Nat → Int32) (m : Nat → Nat) (lb : Nat → Nat → Nat) (sb : Nat → Option Nat) (lg : Nat → Bool) (i : Nat) : Nat := gb (fm e n lg i) (rg i 0) (rg i 1) (rg i 2) (fv c e n m lb sb lg i)
def tb (e : Nat → Nat) (n : Nat → Int32) (m : Nat → Nat) (lg : Nat → Bool) : Nat → Nat
  | 0 => 0
  | i + 1 => if e i = 14 then Lad e n m lg i else tb e n m lg i
/-- unit k of item i -/
def it (c : Nat) (e : Nat → Nat) (rg : Nat → Nat → Nat) (n : Nat → Int32) (m : Nat → Nat) (lb : Nat → Nat → Nat) (sb : Nat → Option Nat) (lg : Nat → Bool) (i k : Nat) : Nat :=
  if e i = 15 then (if k = 0 then 256 else if k = 1 then m i else if k = 2 then xm (n i) 16 else xm (Int32.ofNat (Lmn c e n m lg (sb (lb i (k - 3)))) - Int32.ofNat (tb e n m lg i)) 16)
  else (if k = 0 then ib c e rg n m lb sb lg i % 65536 else ib c e rg n m lb sb lg i / 65536)
def cd (c : Nat) (e : Nat → Nat) (rg : Nat → Nat → Nat) (n : Nat → Int32) (m : Nat → Nat) (lb : Nat → Nat → Nat) (sb : Nat → Option Nat) (lg : Nat → Bool) : Nat → Nat → Nat
  | 0 => fun _ => 0
  | i + 1 => fun x => if x < Lad e n m lg i then cd c e rg n m lb sb lg i x else if x < Lad e n m lg i + Lsz e n m lg i then it c e rg n m lb sb lg i (x - Lad e n m lg i) else 0
theorem fm_ok (hV : tx_V c l e rg n m lb sb) {lg : Nat → Bool} {i : Nat} (hi : i < c) (h15 : e i ≠ 15) : fm e n lg i < 15 ∧ gr (fm e n lg i) (rg i 0) (rg i 1) (rg i 2) ∧ ku (fm e n lg i) = Lsz e n m lg i ∧ (kd_goes (fm e n lg i) = 0 ↔ kd_goes (e i) = 0) := by
  obtain ⟨h1, h2, h3, h4, h5, -⟩ := hV.2.2.1 i hi
  have hsz : Lsz e n m lg i = if (tx_jp e i && lg i) = true then 2 else tx_s0 e n m i := rfl
  have r0 := h4 0 (by omega); have r1 := h4 1 (by omega); have r2 := h4 2 (by omega)
  have q0 := h5 0; have q1 := h5 1; have q2 := h5 2
  rw [hsz]
  unfold fm tx_lgv
  by_cases h9 : e i = 9
  · rw [if_pos h9]
    have hjp : tx_jp e i = true := by unfold tx_jp; rw [h9]; rfl
    have k9 : kr (e i) = 0 := by rw [h9]; rfl
    rw [hjp, Bool.true_and]
    cases hl : lg i with
    | false =>
      rw [if_pos (show tx_b false = 0 from rfl), if_neg (by decide)]
      refine ⟨by omega, ⟨r0, r1, r2, fun _ => q0 (by omega), fun _ => q1 (by omega), fun _ => q2 (by omega)⟩, ?_, Iff.rfl⟩
      unfold tx_s0; rw [if_neg h15, if_neg (by omega)]
    | true =>
      rw [if_neg (show ¬ tx_b true = 0 by decide), if_pos h9, if_pos rfl]
      refine ⟨by omega, ⟨r0, r1, r2, fun _ => q0 (by omega), fun _ => q1 (by omega), fun _ => q2 (by omega)⟩, rfl, ?_⟩
      rw [h9]; exact Iff.rfl
  · rw [if_neg h9, show tx_jp e i = false from beq_ff h9, Bool.false_and, if_neg (by decide : ¬ false = true)]
    by_cases h3 : e i = 3
    · rw [if_pos h3]
      have k3 : kr (e i) = 1 := by rw [h3]; rfl
      by_cases hb : -8 ≤ n i ∧ n i ≤ 7
      · rw [if_pos hb, if_pos rfl]
        refine ⟨by omega, ⟨r0, r1, r2, fun _ => by omega, fun _ => q1 (by omega), fun _ => q2 (by omega)⟩, ?_, Iff.rfl⟩
        unfold tx_s0; rw [if_neg h15, if_pos h3, if_pos hb, h3]; rfl
      · rw [if_neg hb, if_neg (by decide), if_neg h9]
        refine ⟨by omega, ⟨r0, r1, r2, fun z => absurd z (by decide), fun _ => q1 (by omega), fun _ => q2 (by omega)⟩, ?_, ?_⟩
        · unfold tx_s0; rw [if_neg h15, if_pos h3, if_neg hb]; rfl
        · rw [h3]; exact Iff.rfl
    · rw [if_neg h3, if_pos rfl]
      refine ⟨by omega, ⟨r0, r1, r2, fun z => q0 (by omega), fun z => q1 (by omega), fun z => q2 (by omega)⟩, ?_, Iff.rfl⟩
      unfold tx_s0; rw [if_neg h15, if_neg h3]
theorem Lsz_pos (hV : tx_V c l e rg n m lb sb) {lg : Nat → Bool} {i : Nat} (hi : i < c) : 1 ≤ Lsz e n m lg i := by
  by_cases h15 : e i = 15
  · show 1 ≤ if (tx_jp e i && lg i) = true then 2 else tx_s0 e n m i
    split
    · omega
    · unfold tx_s0; rw [if_pos h15]; omega
  · have h := fm_ok hV (lg := lg) hi h15
    rw [← h.2.2.1]
    exact (k_un2 _ (by omega)).2.2
theorem Lad_ge {lg : Nat → Bool} {i : Nat} : Lat e n m lg i ≤ Lad e n m lg i ∧ Lad e n m lg i ≤ Lat e n m lg i + 1 := by
  show Lat e n m lg i ≤ ly_pad (tx_cs e) (Lat e n m lg i) i ∧ ly_pad (tx_cs e) (Lat e n m lg i) i ≤ Lat e n m lg i + 1
  unfold ly_pad
  split <;> omega
theorem Lat_mono {lg : Nat → Bool} {i : Nat} : ∀ d, Lat e n m lg i ≤ Lat e n m lg (i + d)
  | 0 => Nat.le_refl _
  | d + 1 => by
    have := Lat_mono (lg := lg) (i := i) d
    have h := (Lad_ge (e := e) (n := n) (m := m) (lg := lg) (i := i + d)).1
    show _ ≤ Lad e n m lg (i + d) + Lsz e n m lg (i + d)
    omega
theorem Lat_mono' {lg : Nat → Bool} {i j : Nat} (h : i ≤ j) : Lat e n m lg i ≤ Lat e n m lg j := by
  have := Lat_mono (e := e) (n := n) (m := m) (lg := lg) (i := i) (j - i)
  rw [show i + (j - i) = j by omega] at this
  exact this
theorem cd_end {lg : Nat → Bool} : ∀ i x, Lat e n m lg i ≤ x → cd c e rg n m lb sb lg i x = 0
  | 0, _, _ => rfl
  | i + 1, x, h => by
    have h' : Lad e n m lg i + Lsz e n m lg i ≤ x := h
    show (if x < Lad e n m lg i then _ else if x < Lad e n m lg i + Lsz e n m lg i then _ else 0) = 0
    rw [if_neg (by omega), if_neg (by omega)]
theorem it_lt (hV : tx_V c l e rg n m lb sb) {lg : Nat → Bool} {i k : Nat} (hi : i < c) : it c e rg n m lb sb lg i k < 65536 := by
  unfold it
  by_cases h15 : e i = 15
  · rw [if_pos h15]
    obtain ⟨-, -, -, -, -, -, -, -, -, h2, -⟩ := hV.2.2.1 i hi
    have := h2 h15
    have a : xm (n i) 16 < 65536 := xm_lt _ 16
    split
    · omega
    · split
      · omega
      · split
        · exact a
        · exact xm_lt _ 16
  · rw [if_neg h15]
    have h := fm_ok hV (lg := lg) hi h15
    have : ib c e rg n m lb sb lg i < 4294967296 := gb_lt h.1 h.2.1
    split <;> omega
theorem cd_lt (hV : tx_V c l e rg n m lb sb) {lg : Nat → Bool} : ∀ i x, i ≤ c → cd c e rg n m lb sb lg i x < 65536
  | 0, _, _ => (by omega : (0 : Nat) < 65536)
  | i + 1, x, h => by
    show (if x < Lad e n m lg i then cd c e rg n m lb sb lg i x else if x < Lad e n m lg i + Lsz e n m lg i then it c e rg n m lb sb lg i (x - Lad e n m lg i) else 0) < 65536
    split
    · exact cd_lt hV i x (by omega)
    · split
      · exact it_lt hV (by omega)
      · decide
/-! the class writes -/
abbrev fp_wC : List (Nat × Nat) := [(16, 1), (17, 999)]
theorem cc_C.cg {k : Nat} {w w' : Nat → Nat} {σ : st_S} (h : cc_C k w σ) (hw : ∀ j, j < k → w' j = w j) : cc_C k w' σ := ⟨h.1, fun j hj => by rw [h.2 j hj, hw j hj]⟩
theorem s_wbits {σ : st_S} {lg : Nat → Bool} {i k : Nat} {w : Nat → Nat} (hV : tx_V c l e rg n m lb sb) (hi : i < c) (h15 : e i ≠ 15) (hC : tx_C c l e rg n m lb na sb σ) (hF : σ.1 9 i 1 = tx_lgv e n lg i) (hA : LA c e n m lg σ) (hk : k + Lsz e n m lg i ≤ 200) (hc : cc_C k w σ) {Q : st_S → Option eg_V → Prop}
    (K : ∀ σ', fr fp_wC σ σ' → cc_C (k + Lsz e n m lg i) (fun j => if j < k then w j else it c e rg n m lb sb lg i (j - k)) σ' → Q σ' none) : pw_E 54 0 σ (0, 0) [(0, .inr (7, 0)), (1, .inr (16, 0)), (2, .inr (9, i))] [] Q := by
  obtain ⟨he, -, -, -, -, -, -, -, hm, -, hlb⟩ := hV.2.2.1 i hi
  obtain ⟨i0, ir, i3, i4, il⟩ := hC.2.2.2 i hi
  obtain ⟨f1, f2, f3, f4⟩ := fm_ok hV (lg := lg) hi h15
  have hk9 : (σ.1 9 i 0).toNatClampNeg = e i := by rw [i0]; exact n_cl (by omega)
  have hb : ib c e rg n m lb sb lg i < 4294967296 := gb_lt (v := fv c e n m lb sb lg i) f1 f2
  have r0 := ir 0 (by omega); have r1 := ir 1 (by omega); have r2 := ir 2 (by omega)
  have it0 : ∀ j, it c e rg n m lb sb lg i j = if j = 0 then ib c e rg n m lb sb lg i % 65536 else ib c e rg n m lb sb lg i / 65536 := fun j => by unfold it; rw [if_neg h15]
  have hu := k_un2 (fm e n lg i) (by omega)
  have tail : ∀ x, x = Int32.ofNat (ib c e rg n m lb sb lg i) → ∀ {a b : Int32}, b ||| a = x → pw_E 54 78 σ (0, 0) [(1, .inr (16, 0)), (3, .inr (50, fm e n lg i))] [.inl a, .inl b] Q := by
    intro x hx a b hab
    refine w_Text_writeBits_78 ?_
    rw [hab, hx, show (65535 : Int32) = Int32.ofNat (2 ^ 16 - 1) from rfl, n_mask]
    have hpos := Lsz_pos hV (lg := lg) hi
    refine s_append (by omega) hc (fun σ1 g1 c1 => ?_)
    refine w_Text_writeBits_90 (fun z => ?_) (fun z => ?_)
    · rw [hu.1, show (2 : Int32) = Int32.ofNat 2 from rfl, n_inj (by omega) (by omega)] at z
      rw [n_ushr16 hb]
      refine s_append (by omega) c1 (fun σ2 g2 c2 => w_Text_writeBits_107 (K σ2 (fr_tr g1 g2) ?_))
      rw [show k + Lsz e n m lg i = k + 1 + 1 by omega]
      refine c2.cg (fun j hj => ?_)
      show (if j < k then w j else it c e rg n m lb sb lg i (j - k)) = if j = k + 1 then ib c e rg n m lb sb lg i / 65536 else if j = k then ib c e rg n m lb sb lg i % 65536 else w j
      by_cases h1 : j = k + 1
      · rw [if_neg (by omega), if_pos h1, it0, if_neg (by omega)]
      · by_cases h2 : j = k
        · rw [if_neg (by omega), if_neg h1, if_pos h2, it0, if_pos (by omega)]
        · rw [if_pos (by omega), if_neg h1, if_neg h2]
    · rw [hu.1, show (2 : Int32) = Int32.ofNat 2 from rfl, n_inj (by omega) (by omega)] at z
      have h1 : Lsz e n m lg i = 1 := by
        have := (by decide +kernel : ∀ f, f < 15 → ku f = 1 ∨ ku f = 2) _ f1
        omega
      refine K σ1 g1 ?_
      rw [h1]
      refine c1.cg (fun j hj => ?_)
      show (if j < k then w j else it c e rg n m lb sb lg i (j - k)) = if j = k then ib c e rg n m lb sb lg i % 65536 else w j
      by_cases h2 : j = k
      · rw [if_neg (by omega), if_pos h2, it0, if_pos (by omega)]
      · rw [if_pos (by omega), if_neg h2]
  have field : ∀ v, v = fv c e n m lb sb lg i → pw_E 55 0 σ (0, 0) [(0, .inr (50, fm e n lg i)), (1, .inl v)] [] (fun σ1 r1 => pw_E 54 78 σ1 (0, 0) [(1, .inr (16, 0)), (3, .inr (50, fm e n lg i))] (r1.toList ++ [.inl ((((kd_op (fm e n lg i)) ||| ((σ.1 10 i 0) <<< 8)) ||| ((σ.1 10 i 1) <<< ((kd_secondRegisterAt (fm e n lg i)) &&& 31))) ||| ((σ.1 10 i 2) <<< 24))]) Q) := by
    intro v hv
    have hg := gb_class (v := v) f1 f2
    rw [r0, r1, r2]
    refine w_Kind_fieldBits_0 (fun z => ?_) (fun z => ?_)
    · rw [if_pos z] at hg
      exact tail _ (by rw [hg, hv]; rfl) rfl
    · rw [if_neg z] at hg
      exact tail _ (by rw [hg, hv]; rfl) rfl
  have main : pw_E 54 4 σ (0, 0) [(0, .inr (7, 0)), (1, .inr (16, 0)), (2, .inr (9, i))] [.inr (50, fm e n lg i)] Q := by
    refine w_Text_writeBits_4 (fun z => ?_) (fun z => ?_)
    · rw [i3]
      refine field _ ?_
      unfold fv; rw [if_pos z]
    · have hgo : ¬ kd_goes (e i) = 0 := fun y => z (f4.mpr y)
      have hm1 : m i = 1 := by
        rw [hm h15]
        exact (by decide +kernel : ∀ e, e < 16 → e ≠ 15 → ¬ kd_goes e = 0 → kl e = 1) (e i) he h15 hgo
      have hl0 := hlb 0 (by omega)
      rw [il 0 (by omega)]
      refine s_addr (lg := lg) hV hl0 hC.1 (hC.2.2.1 _ hl0).2 hA (w_Text_writeBits_22 ?_)
      rw [hA.1 i hi]
      refine field _ ?_
      unfold fv; rw [if_neg z]; rfl
  refine w_Text_writeBits_0 (w_Item_form_0 (fun g => ?_) (fun g g' => ?_) (fun g g' => ?_))
  · rw [hk9]
    have : fm e n lg i = e i := by unfold fm; rw [← hF, if_pos g]
    rw [this] at main; exact main
  · rw [hk9] at g'
    have : fm e n lg i = 10 := by unfold fm; rw [← hF, if_neg g, if_pos g']
    rw [this] at main; exact main
  · rw [hk9] at g'
    have : fm e n lg i = 4 := by unfold fm; rw [← hF, if_neg g, if_neg g']
    rw [this] at main; exact main
theorem s_wcases33 {lg : Nat → Bool} {i k : Nat} {w : Nat → Nat} (hV : tx_V c l e rg n m lb sb) (hi : i < c) (h15 : e i = 15) (hk : k + (3 + m i) ≤ 200) {Q : st_S → Option eg_V → Prop} : ∀ d q (σ : st_S), q + d = m i → tx_C c l e rg n m lb na sb σ → LA c e n m lg σ → cc_C (k + 3 + q) (fun j => if j < k then w j else it c e rg n m lb sb lg i (j - k)) σ →
    (∀ σ', fr fp_wC σ σ' → cc_C (k + (3 + m i)) (fun j => if j < k then w j else it c e rg n m lb sb lg i (j - k)) σ' → Q σ' none) →
    pw_E 53 33 σ (0, 0) [(0, .inr (7, 0)), (1, .inr (16, 0)), (2, .inr (9, i)), (3, .inl (Int32.ofNat (tb e n m lg i))), (4, .inl (Int32.ofNat q))] [] Q := by
  obtain ⟨he, -, -, -, -, -, -, -, -, hm4, hlb⟩ := hV.2.2.1 i hi
  have hm4 := hm4 h15
  intro d
  induction d with
  | zero =>
    intro q σ hd hC hA hc K
    have : q = m i := by omega
    subst this
    have h4 := (hC.2.2.2 i hi).2.2.2.1
    have hle : σ.1 9 i 4 ≤ Int32.ofNat (m i) := by rw [h4]; exact Int32.le_refl _
    refine w_Text_writeCases_33 (fun _ => K σ fr_rf ?_) (fun h => absurd hle h) (fun h => absurd hle h)
    rw [← Nat.add_assoc]; exact hc
  | succ d ih =>
    intro q σ hd hC hA hc K
    obtain ⟨i0, ir, i3, i4, il⟩ := hC.2.2.2 i hi
    have hle : ¬ σ.1 9 i 4 ≤ Int32.ofNat q := by rw [i4, n_le (by omega) (by omega)]; omega
    have hlq := hlb q (by omega)
    refine w_Text_writeCases_33 (fun h => absurd h hle) (fun _ => n_inb (by omega) (by omega)) (fun _ => ?_)
    rw [n_cl (by omega), il q (by omega)]
    refine s_addr (lg := lg) hV hlq hC.1 (hC.2.2.1 _ hlq).2 hA (w_Text_writeCases_54 ?_)
    rw [show (65535 : Int32) = Int32.ofNat (2 ^ 16 - 1) from rfl, x_mask]
    refine s_append (by omega) hc (fun σ1 g1 c1 => w_Text_writeCases_62 ?_)
    rw [show Int32.ofNat q + 1 = Int32.ofNat (q + 1) from n_add q 1]
    refine ih (q + 1) σ1 (by omega) (hC.ag (fr_ag g1 rfl)) ⟨fun j hj => (g1.2 9 j 7 rfl).trans (hA.1 j hj), (g1.2 7 0 3 rfl).trans hA.2⟩ ?_ (fun σ' f => K σ' (fr_tr g1 f))
    rw [show k + 3 + (q + 1) = k + 3 + q + 1 by omega]
    refine c1.cg (fun j hj => ?_)
    show (if j < k then w j else it c e rg n m lb sb lg i (j - k)) = if j = k + 3 + q then _ else if j < k then w j else it c e rg n m lb sb lg i (j - k)
    by_cases h1 : j = k + 3 + q
    · rw [if_pos h1, if_neg (by omega), h1, show k + 3 + q - k = q + 3 by omega]
      unfold it
      rw [if_pos h15, if_neg (by omega), if_neg (by omega), if_neg (by omega), Nat.add_sub_cancel]
    · rw [if_neg h1]
theorem s_wcases {σ : st_S} {lg : Nat → Bool} {i k : Nat} {w : Nat → Nat} (hV : tx_V c l e rg n m lb sb) (hi : i < c) (h15 : e i = 15) (hC : tx_C c l e rg n m lb na sb σ) (hA : LA c e n m lg σ) (hk : k + Lsz e n m lg i ≤ 200) (hc : cc_C k w σ) {Q : st_S → Option eg_V → Prop}
    (K : ∀ σ', fr fp_wC σ σ' → cc_C (k + Lsz e n m lg i) (fun j => if j < k then w j else it c e rg n m lb sb lg i (j - k)) σ' → Q σ' none) : pw_E 53 0 σ (0, 0) [(0, .inr (7, 0)), (1, .inr (16, 0)), (2, .inr (9, i)), (3, .inl (Int32.ofNat (tb e n m lg i)))] [] Q := by
  obtain ⟨he, -, -, -, -, -, -, -, -, hm4, hlb⟩ := hV.2.2.1 i hi
  have hm4 := hm4 h15
  have hsz : Lsz e n m lg i = 3 + m i := by
    show (if (tx_jp e i && lg i) = true then 2 else tx_s0 e n m i) = _
    rw [show tx_jp e i = false from beq_ff (by omega), Bool.false_and, if_neg (by decide)]
    unfold tx_s0; rw [if_pos h15]
  rw [hsz] at K hk
  obtain ⟨i0, ir, i3, i4, il⟩ := hC.2.2.2 i hi
  have hk9 : (σ.1 9 i 0).toNatClampNeg = e i := by rw [i0]; exact n_cl (by omega)
  refine w_Text_writeCases_0 ?_
  rw [hk9, h15, show kd_op 15 = Int32.ofNat 256 from rfl]
  refine s_append (by omega) hc (fun σ1 g1 c1 => w_Text_writeCases_11 ?_)
  rw [show σ1.1 9 i 4 = Int32.ofNat (m i) from (g1.2 9 i 4 rfl).trans i4]
  refine s_append (by omega) c1 (fun σ2 g2 c2 => w_Text_writeCases_19 ?_)
  rw [show σ2.1 9 i 3 = n i from (g2.2 9 i 3 rfl).trans ((g1.2 9 i 3 rfl).trans i3), show (65535 : Int32) = Int32.ofNat (2 ^ 16 - 1) from rfl, x_mask]
  refine s_append (by omega) c2 (fun σ3 g3 c3 => w_Text_writeCases_30 ?_)
  have G : fr fp_wC σ σ3 := fr_tr g1 (fr_tr g2 g3)
  refine s_wcases33 (lg := lg) (k := k) (w := w) hV hi h15 hk (m i) 0 σ3 (by omega) (hC.ag (fr_ag G rfl)) ⟨fun j hj => (G.2 9 j 7 rfl).trans (hA.1 j hj), (G.2 7 0 3 rfl).trans hA.2⟩ ?_ (fun σ' f => K σ' (fr_tr G f))
  refine c3.cg (fun j hj => ?_)
  show (if j < k then w j else it c e rg n m lb sb lg i (j - k)) = if j = k + 1 + 1 then xm (n i) 16 else if j = k + 1 then m i else if j = k then 256 else w j
  unfold it
  rw [if_pos h15]
  by_cases h1 : j = k + 1 + 1
  · rw [if_neg (by omega), if_pos h1, if_neg (by omega), if_neg (by omega), if_pos (by omega)]
  · by_cases h2 : j = k + 1
    · rw [if_neg (by omega), if_neg h1, if_pos h2, if_neg (by omega), if_pos (by omega)]
    · by_cases h3 : j = k
      · rw [if_neg (by omega), if_neg h1, if_neg h2, if_pos h3, if_pos (by omega)]
      · rw [if_pos (by omega), if_neg h1, if_neg h2, if_neg h3]
theorem cd_step {lg : Nat → Bool} {i : Nat} {w : Nat → Nat} {σ : st_S} (h : cc_C (Lad e n m lg i + Lsz e n m lg i) (fun j => if j < Lad e n m lg i then cd c e rg n m lb sb lg i j else it c e rg n m lb sb lg i (j - Lad e n m lg i)) σ) : cc_C (Lat e n m lg (i + 1)) (cd c e rg n m lb sb lg (i + 1)) σ := by
  refine h.cg (fun j hj => ?_)
  show (if j < Lad e n m lg i then cd c e rg n m lb sb lg i j else if j < Lad e n m lg i + Lsz e n m lg i then it c e rg n m lb sb lg i (j - Lad e n m lg i) else 0) = if j < Lad e n m lg i then cd c e rg n m lb sb lg i j else it c e rg n m lb sb lg i (j - Lad e n m lg i)
  by_cases h1 : j < Lad e n m lg i
  · rw [if_pos h1, if_pos h1]
  · rw [if_neg h1, if_neg h1, if_pos hj]
theorem s_wto {lg : Nat → Bool} (hV : tx_V c l e rg n m lb sb) (hT : Lat e n m lg c ≤ 200) {Q : st_S → Option eg_V → Prop} : ∀ d i (σ : st_S), i + d = c → tx_C c l e rg n m lb na sb σ → (∀ j, j < c → σ.1 9 j 1 = tx_lgv e n lg j) → LA c e n m lg σ → cc_C (Lat e n m lg i) (cd c e rg n m lb sb lg i) σ →
    (∀ σ', fr fp_wC σ σ' → cc_C (Lat e n m lg c) (cd c e rg n m lb sb lg c) σ' → Q σ' none) →
    pw_E 51 9 σ (0, 0) [(0, .inr (7, 0)), (1, .inr (16, 0)), (2, .inl (Int32.ofNat (tb e n m lg i))), (3, .inl (Int32.ofNat i))] [] Q := by
  have hc40 := hV.1
  intro d
  induction d with
  | zero =>
    intro i σ hd hC hF hA hc K
    have : i = c := by omega
    subst this
    have hle : σ.1 7 0 1 ≤ Int32.ofNat i := by rw [hC.1]; exact Int32.le_refl _
    exact w_Text_writeTo_9 (fun _ => K σ fr_rf hc) (fun h => absurd hle h) (fun h => absurd hle h) (fun h => absurd hle h) (fun h => absurd hle h)
  | succ d ih =>
    intro i σ hd hC hF hA hc K
    have hic : i < c := by omega
    have hle : ¬ σ.1 7 0 1 ≤ Int32.ofNat i := by rw [hC.1, n_le (by omega) (by omega)]; omega
    have hcl : (Int32.ofNat i).toNatClampNeg = i := n_cl (by omega)
    have e1 : Int32.ofNat i + 1 = Int32.ofNat (i + 1) := n_add i 1
    have he := (hV.2.2.1 i hic).1
    have hend : Lad e n m lg i + Lsz e n m lg i ≤ 200 := Nat.le_trans (Lat_mono' (i := i + 1) (j := c) hic) hT
    have hag := Lad_ge (e := e) (n := n) (m := m) (lg := lg) (i := i)
    have keep : ∀ {σ1 : st_S}, fr fp_wC σ σ1 → tx_C c l e rg n m lb na sb σ1 ∧ (∀ j, j < c → σ1.1 9 j 1 = tx_lgv e n lg j) ∧ LA c e n m lg σ1 := fun {σ1} f => ⟨hC.ag (fr_ag f rfl), fun j hj => (f.2 9 j 1 rfl).trans (hF j hj), fun j hj => (f.2 9 j 7 rfl).trans (hA.1 j hj), (f.2 7 0 3 rfl).trans hA.2⟩
    have hk9 : ∀ {σ1 : st_S}, fr fp_wC σ σ1 → (σ1.1 9 i 0).toNatClampNeg = e i := fun {σ1} f => by rw [((keep f).1.2.2.2 i hic).1]; exact n_cl (by omega)
    have next : ∀ {σ1 : st_S}, fr fp_wC σ σ1 → cc_C (Lat e n m lg (i + 1)) (cd c e rg n m lb sb lg (i + 1)) σ1 → ∀ x, x = (if e i = 14 then σ1.1 9 i 7 else Int32.ofNat (tb e n m lg i)) → pw_E 51 9 σ1 (0, 0) [(0, .inr (7, 0)), (1, .inr (16, 0)), (2, .inl x), (3, .inl (Int32.ofNat i + 1))] [] Q := fun {σ1} f hcc x hx => by
      have kp := keep f
      have : x = Int32.ofNat (tb e n m lg (i + 1)) := by
        rw [hx]
        show _ = Int32.ofNat (if e i = 14 then Lad e n m lg i else tb e n m lg i)
        by_cases h14 : e i = 14
        · rw [if_pos h14, if_pos h14, kp.2.2.1 i hic]
        · rw [if_neg h14, if_neg h14]
      rw [this, e1]
      exact ih (i + 1) σ1 (by omega) kp.1 kp.2.1 kp.2.2 hcc (fun σ' f' => K σ' (fr_tr f f'))
    have cases : ∀ {σ1 : st_S}, fr fp_wC σ σ1 → cc_C (Lad e n m lg i) (cd c e rg n m lb sb lg i) σ1 → e i = 15 → pw_E 53 0 σ1 (0, 0) [(0, .inr (7, 0)), (1, .inr (16, 0)), (2, .inr (9, i)), (3, .inl (Int32.ofNat (tb e n m lg i)))] [] (fun σ1 r1 => pw_E 51 61 σ1 (0, 0) [(0, .inr (7, 0)), (1, .inr (16, 0)), (2, .inl (Int32.ofNat (tb e n m lg i))), (3, .inl (Int32.ofNat i)), (4, .inr (9, i))] (r1.toList ++ []) Q) := fun {σ1} f hcc h15 => by
      have kp := keep f
      refine s_wcases hV hic h15 kp.1 kp.2.2 hend hcc (fun σ2 f2 c2 => ?_)
      have F := fr_tr f f2
      refine w_Text_writeTo_61 (fun z => ?_) (fun z => ?_)
      · rw [hk9 F] at z; omega
      · exact next F (cd_step (w := cd c e rg n m lb sb lg i) c2) _ (by rw [if_neg (by omega)])
    have bits : ∀ {σ1 : st_S}, fr fp_wC σ σ1 → cc_C (Lad e n m lg i) (cd c e rg n m lb sb lg i) σ1 → e i ≠ 15 → pw_E 54 0 σ1 (0, 0) [(0, .inr (7, 0)), (1, .inr (16, 0)), (2, .inr (9, i))] [] (fun σ1 r1 => pw_E 51 71 σ1 (0, 0) [(0, .inr (7, 0)), (1, .inr (16, 0)), (2, .inl (Int32.ofNat (tb e n m lg i))), (3, .inl (Int32.ofNat i)), (4, .inr (9, i))] (r1.toList ++ []) Q) := fun {σ1} f hcc h15 => by
      have kp := keep f
      refine s_wbits hV hic h15 kp.1 (kp.2.1 i hic) kp.2.2 hend hcc (fun σ2 f2 c2 => ?_)
      have F := fr_tr f f2
      refine w_Text_writeTo_71 (fun z => ?_) (fun z => ?_)
      · rw [hk9 F] at z
        exact next F (cd_step (w := cd c e rg n m lb sb lg i) c2) _ (by rw [if_pos z])
      · rw [hk9 F] at z
        exact next F (cd_step (w := cd c e rg n m lb sb lg i) c2) _ (by rw [if_neg z])
    refine w_Text_writeTo_9 (fun h => absurd h hle) (fun _ => n_inb (by omega) (by omega)) (fun _ g h => ?_) (fun _ g h => ?_) (fun _ g => ?_)
    · rw [hcl, hk9 fr_rf] at h
      rw [hcl, hA.1 i hic, hc.1, n_le (by omega) (by omega)] at g
      rw [hcl]
      refine cases fr_rf ?_ h
      rw [show Lad e n m lg i = Lat e n m lg i by omega]; exact hc
    · rw [hcl, hk9 fr_rf] at h
      rw [hcl, hA.1 i hic, hc.1, n_le (by omega) (by omega)] at g
      rw [hcl]
      refine bits fr_rf ?_ h
      rw [show Lad e n m lg i = Lat e n m lg i by omega]; exact hc
    · rw [hcl, hA.1 i hic, hc.1, n_le (by omega) (by omega)] at g
      rw [hcl]
      have hpos := Lsz_pos hV (lg := lg) hic
      refine s_append (v := 0) (by omega) hc (fun σ1 f1 c1 => ?_)
      have c1' : cc_C (Lad e n m lg i) (cd c e rg n m lb sb lg i) σ1 := by
        rw [show Lad e n m lg i = Lat e n m lg i + 1 by omega]
        refine c1.cg (fun j hj => ?_)
        show cd c e rg n m lb sb lg i j = if j = Lat e n m lg i then 0 else cd c e rg n m lb sb lg i j
        by_cases h1 : j = Lat e n m lg i
        · rw [if_pos h1, cd_end i j (by omega)]
        · rw [if_neg h1]
      refine w_Text_writeTo_42 (fun h => ?_) (fun h => ?_)
      · rw [hk9 f1] at h
        exact cases f1 c1' h
      · rw [hk9 f1] at h
        exact bits f1 c1' h
end
