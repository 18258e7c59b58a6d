/-! NO RUN TOUCHES THE SCRIPT -/
def kp (σ σ' : st_S) : Prop := σ'.2.2.2.2 = σ.2.2.2.2 ∧ ∀ i j, σ'.1 57 i j = σ.1 57 i j
theorem kp_rf {σ : st_S} : kp σ σ := ⟨rfl, fun _ _ => rfl⟩
theorem kp_tr {σ σ1 σ2 : st_S} (h1 : kp σ σ1) (h2 : kp σ1 σ2) : kp σ σ2 := ⟨h2.1.trans h1.1, fun i j => (h2.2 i j).trans (h1.2 i j)⟩
def KO (σ : st_S) (o : eg_O st_S) : Prop := ∀ g pc' σ' u' ls' st', o = some (g, .inl (pc', σ', u', ls', st')) → kp σ σ'
theorem KO_n {σ : st_S} : KO σ none := fun _ _ _ _ _ _ h => nomatch h
theorem KO_k {σ : st_S} {g : Bool} {pc : Nat} {u : Nat × Nat} {ls : eg_L} {st : List eg_V} : KO σ (some (g, .inl (pc, σ, u, ls, st))) := fun _ _ _ _ _ _ h => by cases h; exact kp_rf
theorem KO_s {σ σ1 : st_S} {g : Bool} {pc : Nat} {u : Nat × Nat} {ls : eg_L} {st : List eg_V} (k : kp σ σ1) : KO σ (some (g, .inl (pc, σ1, u, ls, st))) := fun _ _ _ _ _ _ h => by cases h; exact k
theorem KO_r {σ : st_S} {g : Bool} {x : (Nat × List eg_V × Nat × List eg_V) ⊕ Option eg_V} : KO σ (some (g, .inr x)) := fun _ _ _ _ _ _ h => by cases h
theorem KO_c {σ : st_S} {b : Bool} {x y : eg_O st_S} (h1 : KO σ x) (h2 : KO σ y) : KO σ (bif b then x else y) := by cases b <;> assumption
theorem kp_up {σ : st_S} {k i j : Nat} {x : Int32} (h : k ≠ 57) : kp σ (st_up σ k i j x) := ⟨rfl, fun _ _ => up_k (fun z => h z.symm)⟩
theorem kp_wr {σ σ' : st_S} {k i j : Nat} {v : eg_V} (h : st_wr σ k i j v = some σ') : kp σ σ' := by
  have w57 : ∀ j, st_wt 57 j = 0 := fun j => rfl
  unfold st_wr at h
  cases v with
  | inl x =>
    dsimp only at h
    cases hb : Nat.beq (st_wt k j) 1 with
    | false => rw [hb] at h; cases h
    | true =>
      rw [hb] at h
      cases h
      refine kp_up (fun z => ?_)
      rw [z, w57] at hb; cases hb
  | inr q =>
    dsimp only at h
    cases hb : (Nat.beq (st_wt k j) 2 && Nat.beq q.1 50) with
    | true =>
      rw [hb] at h
      cases h
      refine kp_up (fun z => ?_)
      rw [z, w57] at hb; cases hb
    | false =>
      rw [hb] at h
      cases hc : (Nat.beq (st_wt k j) 3 && Nat.beq q.1 25) with
      | true =>
        rw [hc] at h
        cases h
        exact ⟨rfl, fun _ _ => rfl⟩
      | false => rw [hc] at h; cases h
theorem kp_nw {σ σ' : st_S} {k n i : Nat} (h : st_nw σ k n = some (σ', i)) : kp σ σ' := by
  unfold st_nw at h
  cases hb : Nat.beq k 25 with
  | false => rw [hb] at h; cases h
  | true =>
    rw [hb] at h
    cases h
    exact ⟨rfl, fun _ _ => rfl⟩
theorem kp_cp {σ σ' : st_S} {q d : Nat × Nat} {sp dp n : Nat} (h : st_cp σ q sp d dp n = some σ') : kp σ σ' := by
  unfold st_cp at h
  cases hb : Nat.beq d.1 25 with
  | false => rw [hb] at h; cases h
  | true =>
    rw [hb] at h
    cases h
    exact ⟨rfl, fun _ _ => rfl⟩
theorem kp_wr' {σ σ' : st_S} {k i j : Nat} {v : eg_V} (h : st_X.2.2.1 σ k i j v = some σ') : kp σ σ' := kp_wr h
section
variable {σ : st_S} {pc mi a b : Nat} {u : Nat × Nat} {ls : eg_L} {st : List eg_V}
theorem KO_psh {o : Option eg_V} : KO σ (eg_psh o pc σ u ls st) := by
  unfold eg_psh; split
  · exact KO_k
  · exact KO_n
theorem KO_stk {o : Option (List eg_V)} : KO σ (eg_stk o pc σ u ls) := by
  unfold eg_stk; split
  · exact KO_k
  · exact KO_n
theorem KO_sti {i : Nat} : KO σ (eg_sti i pc σ u ls st) := by
  unfold eg_sti; split
  · exact KO_k
  · exact KO_n
theorem KO_str {i : Nat} : KO σ (eg_str i pc σ u ls st) := by
  unfold eg_str; split
  · exact KO_k
  · exact KO_n
theorem KO_inc {i : Nat} {n : Int} : KO σ (eg_inc i n pc σ u ls st) := by
  unfold eg_inc; split
  · exact KO_k
  · exact KO_n
theorem KO_b1 {f : Int32 → Bool} {t : Nat} : KO σ (eg_b1 f t pc σ u ls st) := by
  unfold eg_b1; split
  · exact KO_k
  · exact KO_n
theorem KO_b2 {f : Int32 → Int32 → Bool} {t : Nat} : KO σ (eg_b2 f t pc σ u ls st) := by
  unfold eg_b2; split
  · exact KO_k
  · exact KO_n
theorem KO_bn {f : Nat × Nat → Bool} {t : Nat} : KO σ (eg_bn f t pc σ u ls st) := by
  unfold eg_bn; split
  · exact KO_c KO_n KO_k
  · exact KO_n
theorem KO_ba {f : Nat × Nat → Nat × Nat → Bool} {t : Nat} : KO σ (eg_ba f t pc σ u ls st) := by
  unfold eg_ba; split
  · exact KO_c KO_k KO_n
  · exact KO_n
theorem KO_dv {f : Int32 → Int32 → Int32} : KO σ (eg_dv f pc σ u ls st) := by
  unfold eg_dv; split
  · exact KO_k
  · exact KO_n
theorem KO_mm {f : Int32 → Int32 → Int32} : KO σ (eg_mm f pc σ u ls st) := by
  unfold eg_mm; split
  · exact KO_c KO_k KO_n
  · exact KO_n
theorem KO_sw {f : Int32 → Nat} : KO σ (eg_sw f σ u ls st) := by
  unfold eg_sw; split
  · exact KO_k
  · exact KO_n
theorem KO_gf : KO σ (eg_gf st_X pg_T a b pc σ u ls st) := by
  unfold eg_gf; split
  · exact KO_c KO_k KO_n
  · exact KO_n
theorem KO_pf : KO σ (eg_pf st_X pg_T a b pc σ u ls st) := by
  unfold eg_pf; split
  · refine KO_c ?_ KO_n
    split
    · rename_i h; exact KO_s (kp_wr' h)
    · exact KO_n
  · exact KO_n
theorem KO_al {t : Nat} : KO σ (eg_al st_X pg_T t pc σ u ls st) := by
  unfold eg_al; split
  · exact KO_c KO_k KO_n
  · exact KO_n
theorem KO_ar : KO σ (eg_ar st_X pg_T pc σ u ls st) := by
  unfold eg_ar; split
  · exact KO_c KO_k KO_n
  · exact KO_n
theorem KO_as {t : Nat} {f : Int32 → Int32} : KO σ (eg_as st_X pg_T t f pc σ u ls st) := by
  unfold eg_as; split
  · refine KO_c ?_ KO_n
    split
    · rename_i h; exact KO_s (kp_wr' h)
    · exact KO_n
  · exact KO_n
theorem KO_len : KO σ (eg_len st_X pg_T pc σ u ls st) := by
  unfold eg_len; split
  · exact KO_c KO_n KO_k
  · exact KO_n
theorem KO_new : KO σ (eg_new st_X pg_T a mi pc σ u ls st) := by
  unfold eg_new; split
  · rename_i h; exact KO_s (kp_nw h)
  · exact KO_n
theorem KO_newa : KO σ (eg_newa st_X pg_T a mi pc σ u ls st) := by
  unfold eg_newa; split
  · split
    · rename_i h; exact KO_s (kp_nw h)
    · exact KO_n
  · exact KO_n
theorem KO_ast : KO σ (eg_ast st_X pg_T a b pc σ u ls st) := by
  unfold eg_ast; split
  · refine KO_c ?_ KO_n
    split
    · rename_i h; exact KO_s (kp_wr' h)
    · exact KO_n
  · exact KO_n
theorem KO_oi : KO σ (eg_oi pg_T pc σ u ls st) := by
  unfold eg_oi; split
  · exact KO_c KO_k KO_n
  · exact KO_n
theorem KO_ri : KO σ (eg_ri a st) := by
  unfold eg_ri; split
  · exact KO_r
  · exact KO_n
theorem KO_ra : KO σ (eg_ra st) := by
  unfold eg_ra; split
  · exact KO_r
  · exact KO_n
theorem KO_rv : KO σ (eg_rv st) := by
  unfold eg_rv; split
  · exact KO_r
  · exact KO_n
theorem KO_cpy : KO σ (eg_cpy st_X pg_T pc σ u ls st) := by
  unfold eg_cpy; split
  · refine KO_c ?_ KO_n
    split
    · rename_i h; exact KO_s (kp_cp h)
    · exact KO_n
  · exact KO_n
theorem KO_call {j : Nat} : KO σ (eg_call pg_T j b mi pc u st) := by
  unfold eg_call
  exact KO_c KO_r KO_n
theorem KO_do {I : Jvm.ClassFile.Instr} : KO σ (eg_do st_X pg_T I a b mi pc σ u ls st) := by
  unfold eg_do
  split
  all_goals first | exact KO_k | exact KO_psh | exact KO_sti | exact KO_str | exact KO_inc | exact KO_stk | exact KO_dv | exact KO_b1 | exact KO_b2 | exact KO_bn | exact KO_ba | exact KO_sw | exact KO_gf | exact KO_pf | exact KO_al | exact KO_ar | exact KO_as | exact KO_c KO_as KO_as | exact KO_ast | exact KO_new | exact KO_newa | exact KO_len | exact KO_call | exact KO_c KO_cpy (KO_c KO_mm (KO_c KO_mm KO_call)) | exact KO_c KO_oi KO_call | exact KO_ri | exact KO_ra | exact KO_rv | exact KO_n
theorem KO_step : KO σ (eg_step st_X pg_T mi pc σ u ls st) := by
  unfold eg_step
  split
  · exact KO_do
  · exact KO_n
end
theorem kp_ip : ∀ (n mi pc : Nat) (σ : st_S) (u : Nat × Nat) (ls : eg_L) (st : List eg_V) (x : st_S × Option eg_V), eg_ip st_X pg_T n mi pc σ u ls st = some x → kp σ x.1 := by
  intro n
  induction n with
  | zero => intro mi pc σ u ls st x h; simp [eg_ip] at h
  | succ n ih =>
    intro mi pc σ u ls st x h
    rw [eg_ip] at h
    split at h
    · rename_i h1
      exact kp_tr (KO_step _ _ _ _ _ _ h1) (ih _ _ _ _ _ _ _ h)
    · split at h
      · rename_i h2
        exact kp_tr (ih _ _ _ _ _ _ _ h2) (ih _ _ _ _ _ _ _ h)
      · cases h
    · cases h
      exact kp_rf
    · cases h
theorem pw_kp {mi pc : Nat} {σ : st_S} {u : Nat × Nat} {ls : eg_L} {st : List eg_V} {Q : st_S → Option eg_V → Prop} (h : pw_E mi pc σ u ls st Q) : pw_E mi pc σ u ls st (fun σ' r => kp σ σ' ∧ Q σ' r) := by
  obtain ⟨σ', r, ⟨n, hn⟩, q⟩ := h
  exact ⟨σ', r, ⟨n, hn⟩, kp_ip n _ _ _ _ _ _ _ hn, q⟩
/-! THE LAW'S LOOP -/
theorem lw_c {L m : Nat} (hL : L < 100000) (hm : m < 100000) : (Int32.ofNat L - 3 < Int32.ofNat m) = (L < m + 3) := by
  have e : (3 : Int32).toInt = 3 := rfl
  rw [z_lt, z_sub (by rw [n_toInt (by omega), e]; omega) (by rw [n_toInt (by omega), e]; omega), n_toInt (by omega), n_toInt (by omega), e]
  apply propext
  omega
theorem lw_n {v u b c i : Nat} (h : v ≤ u + c) (h1 : u ≤ b + c * i) : v ≤ b + c * (i + 1) := by
  rw [Nat.mul_succ]; omega
theorem lw_loop {xs : Nat → Int32} {L : Nat} (hL : L ≤ 1536) : ∀ d i (σ : st_S) (u1 u2 : Nat), i + d = 513 → RR xs L σ → u1 ≤ 422 + 41 * i → u2 ≤ 5051 + 8200 * i →
    pw_E 134 18 σ (u1, u2) [(0, .inr (57, 0)), (1, .inr (2, 0)), (2, .inr (26, 0)), (3, .inl (Int32.ofNat (3 * i)))] [] (fun _ r => r = some (.inl 1)) := by
  intro d
  induction d with
  | zero =>
    intro i σ u1 u2 hd rr h1 h2
    have hi : i = 513 := by omega
    have hlt : Int32.ofNat σ.2.2.2.2 - 3 < Int32.ofNat (3 * i) := by
      rw [rr.2.2.2.2.2.2.1, lw_c (by omega) (by omega)]; omega
    refine w_L_law_18 (fun _ => rfl) ?_ ?_ ?_ ?_ ?_ ?_ ?_ ?_ ?_ ?_ ?_ ?_ ?_ ?_ ?_ ?_ ?_ ?_ ?_ ?_ ?_ ?_ ?_ ?_ ?_ ?_ ?_ ?_ ?_ ?_ ?_ ?_ ?_ ?_ ?_ ?_ ?_ ?_
    all_goals exact fun z => absurd hlt z
  | succ d ih =>
    intro i σ u1 u2 hd rr h1 h2
    have hX := rr.2.2.2.2.2.2
    have eL := hX.1
    have hcl : (Int32.ofNat (3 * i)).toNatClampNeg = 3 * i := n_cl (by omega)
    have e1 : Int32.ofNat (3 * i) + 1 = Int32.ofNat (3 * i + 1) := n_add _ 1
    have e2 : Int32.ofNat (3 * i) + 2 = Int32.ofNat (3 * i + 2) := n_add _ 2
    have e3 : Int32.ofNat (3 * i) + 3 = Int32.ofNat (3 * (i + 1)) := by rw [show (3 : Int32) = Int32.ofNat 3 from rfl, n_add]; congr 1
    have room : ¬ Int32.ofNat σ.2.2.2.2 - 3 < Int32.ofNat (3 * i) → 3 * i + 3 ≤ L := fun z => by
      rw [eL, lw_c (by omega) (by omega)] at z; omega
    have in0 : ¬ Int32.ofNat σ.2.2.2.2 - 3 < Int32.ofNat (3 * i) → eg_inb (Int32.ofNat (3 * i)) σ.2.2.2.2 = true := fun z => by
      have := room z
      rw [eL]; exact n_inb (by omega) (by omega)
    have in1 : ∀ {σ1 : st_S}, σ1.2.2.2.2 = L → 3 * i + 3 ≤ L → eg_inb (Int32.ofNat (3 * i) + 1) σ1.2.2.2.2 = true := fun {σ1} h z => by
      rw [h, e1]; exact n_inb (by omega) (by omega)
    have in2 : ∀ {σ1 : st_S}, σ1.2.2.2.2 = L → 3 * i + 3 ≤ L → eg_inb (Int32.ofNat (3 * i) + 2) σ1.2.2.2.2 = true := fun {σ1} h z => by
      rw [h, e2]; exact n_inb (by omega) (by omega)
    have bu : (Nat.ble (u1 + 0) 600000 && Nat.ble (u2 + 0) 7302250) = true := u_b (by omega) (by omega)
    have bu' : (Nat.ble (u1 + 41 + 0) 600000 && Nat.ble (u2 + 8200 + 0) 7302250) = true := u_b (by omega) (by omega)
    have bt : (Nat.ble (u1 + 41) 600000 && Nat.ble (u2 + 8200) 7302250) = true := u_b (by omega) (by omega)
    have next : ∀ {σ2 : st_S} {v1 v2 : Nat}, RR xs L σ2 → v1 ≤ u1 + 41 → v2 ≤ u2 + 8200 → pw_E 134 18 σ2 (v1, v2) [(0, .inr (57, 0)), (1, .inr (2, 0)), (2, .inr (26, 0)), (3, .inl (Int32.ofNat (3 * i) + 3))] [] (fun _ r => r = some (.inl 1)) := fun {σ2 v1 v2} r2 z1 z2 => by
      rw [e3]
      exact ih (i + 1) σ2 v1 v2 (by omega) r2 (lw_n z1 h1) (lw_n z2 h2)
    have A1 : σ.1 57 0 (Int32.ofNat (3 * i) + 1).toNatClampNeg = xs (3 * i + 1) := by rw [e1, n_cl (by omega)]; exact hX.2 _
    have A2 : σ.1 57 0 (Int32.ofNat (3 * i) + 2).toNatClampNeg = xs (3 * i + 2) := by rw [e2, n_cl (by omega)]; exact hX.2 _
    have A1' : ∀ {σ1 : st_S}, kp σ σ1 → σ1.1 57 0 (Int32.ofNat (3 * i) + 1).toNatClampNeg = xs (3 * i + 1) := fun {σ1} k => by rw [k.2]; exact A1
    have A2' : ∀ {σ1 : st_S}, kp σ σ1 → σ1.1 57 0 (Int32.ofNat (3 * i) + 2).toNatClampNeg = xs (3 * i + 2) := fun {σ1} k => by rw [k.2]; exact A2
    have kL : ∀ {σ1 : st_S}, kp σ σ1 → σ1.2.2.2.2 = L := fun {σ1} k => k.1.trans eL
    refine w_L_law_18 (fun _ => rfl) in0 (fun z _ => in1 eL (room z)) (fun _ _ => bu) (fun z _ => ?_) (fun _ _ => bu) (fun z _ => ?_) (fun _ _ => bu) (fun z _ => ?_) (fun _ _ => bu) (fun z _ => ?_) (fun z _ => in1 eL (room z)) (fun z _ => in2 eL (room z)) (fun _ _ => bu) (fun z _ => ?_) (fun z _ => in1 eL (room z)) (fun _ _ => bu) (fun z _ => ?_) (fun z _ => in1 eL (room z)) (fun z _ => in2 eL (room z)) (fun _ _ => bu) (fun z _ => ?_) (fun z _ => in1 eL (room z)) (fun z _ => in2 eL (room z)) (fun _ _ => bu) (fun z _ => ?_) (fun _ _ => bu) (fun z _ => ?_) (fun z _ => in1 eL (room z)) (fun z _ => in2 eL (room z)) (fun _ _ => bt) (fun z _ => ?_) (fun z _ => in1 eL (room z)) (fun _ _ => bu) (fun z _ => ?_) (fun z _ => in1 eL (room z)) (fun _ _ => bu) (fun z _ => ?_) (fun _ _ _ _ _ _ _ _ _ _ _ _ _ => next rr (by omega) (by omega))
    · rw [A1]
      refine pw_mono (pw_kp (cs_put xs L _ σ rr)) (fun σ1 r1 h => ?_)
      obtain ⟨k1, v, rfl, h2⟩ := h
      refine w_L_law_105 (in1 (kL k1) (room z)) bu ?_
      rw [A1' k1]
      refine pw_mono h2 (fun σ2 r2 h => ?_)
      obtain ⟨rfl, r'⟩ := h
      exact w_L_law_114 (fun _ => next r' (by omega) (by omega)) (fun y => absurd rfl y)
    · refine pw_mono (pw_kp (cs_line xs L σ rr)) (fun σ1 r1 h => ?_)
      obtain ⟨k1, v, rfl, h2⟩ := h
      refine w_L_law_123 bu (pw_mono h2 (fun σ2 r2 h => ?_))
      obtain ⟨rfl, r'⟩ := h
      exact w_L_law_127 (fun _ => next r' (by omega) (by omega)) (fun y => absurd rfl y)
    · refine pw_mono (pw_kp (cs_clear xs L σ rr)) (fun σ1 r1 h => ?_)
      obtain ⟨k1, v, rfl, h2⟩ := h
      refine w_L_law_136 bu (pw_mono h2 (fun σ2 r2 h => ?_))
      obtain ⟨rfl, r'⟩ := h
      exact w_L_law_140 (fun _ => next r' (by omega) (by omega)) (fun y => absurd rfl y)
    · refine pw_mono (pw_kp (cs_assemble xs L σ rr)) (fun σ1 r1 h => ?_)
      obtain ⟨k1, v, rfl, h2⟩ := h
      refine w_L_law_149 bu (pw_mono h2 (fun σ2 r2 h => ?_))
      obtain ⟨rfl, r'⟩ := h
      exact w_L_law_153 (fun _ => next r' (by omega) (by omega)) (fun y => absurd rfl y)
    · rw [A1, A2]
      refine pw_mono (pw_kp (cs_item xs L _ _ σ rr)) (fun σ1 r1 h => ?_)
      obtain ⟨k1, v, rfl, h2⟩ := h
      refine w_L_law_172 (in1 (kL k1) (room z)) (in2 (kL k1) (room z)) bu ?_
      rw [A1' k1, A2' k1]
      refine pw_mono h2 (fun σ2 r2 h => ?_)
      obtain ⟨rfl, r'⟩ := h
      exact w_L_law_186 (fun _ => next r' (by omega) (by omega)) (fun y => absurd rfl y)
    · rw [A1]
      refine pw_mono (pw_kp (cs_unit xs L _ σ rr)) (fun σ1 r1 h => ?_)
      obtain ⟨k1, v, rfl, h2⟩ := h
      refine w_L_law_200 (in1 (kL k1) (room z)) bu ?_
      rw [A1' k1]
      refine pw_mono h2 (fun σ2 r2 h => ?_)
      obtain ⟨rfl, r'⟩ := h
      exact w_L_law_209 (fun _ => next r' (by omega) (by omega)) (fun y => absurd rfl y)
    · rw [A1, A2]
      refine pw_mono (pw_kp (cs_set xs L _ _ σ rr)) (fun σ1 r1 h => ?_)
      obtain ⟨k1, v, rfl, h2⟩ := h
      refine w_L_law_228 (in1 (kL k1) (room z)) (in2 (kL k1) (room z)) bu ?_
      rw [A1' k1, A2' k1]
      refine pw_mono h2 (fun σ2 r2 h => ?_)
      obtain ⟨rfl, r'⟩ := h
      exact w_L_law_242 (fun _ => next r' (by omega) (by omega)) (fun y => absurd rfl y)
    · rw [A1, A2]
      refine pw_mono (pw_kp (cs_read xs L _ _ σ rr)) (fun σ1 r1 h => ?_)
      obtain ⟨k1, v, rfl, h2⟩ := h
      refine w_L_law_261 (in1 (kL k1) (room z)) (in2 (kL k1) (room z)) bu ?_
      rw [A1' k1, A2' k1]
      refine pw_mono h2 (fun σ2 r2 h => ?_)
      obtain ⟨rfl, r'⟩ := h
      exact w_L_law_275 (fun _ => next r' (by omega) (by omega)) (fun y => absurd rfl y)
    · refine pw_mono (pw_kp (cs_check xs L σ rr)) (fun σ1 r1 h => ?_)
      obtain ⟨k1, v, rfl, h2⟩ := h
      refine w_L_law_284 bu (pw_mono h2 (fun σ2 r2 h => ?_))
      obtain ⟨rfl, r'⟩ := h
      exact w_L_law_288 (fun _ => next r' (by omega) (by omega)) (fun y => absurd rfl y)
    · rw [A1, A2]
      refine pw_mono (pw_kp (cs_told xs L _ _ σ rr)) (fun σ1 r1 h => ?_)
      obtain ⟨k1, v, rfl, h2⟩ := h
      refine w_L_law_307 (in1 (kL k1) (room z)) (in2 (kL k1) (room z)) bu' ?_
      rw [A1' k1, A2' k1]
      refine pw_mono h2 (fun σ2 r2 h => ?_)
      obtain ⟨rfl, r'⟩ := h
      exact w_L_law_321 (fun _ => next r' (by omega) (by omega)) (fun y => absurd rfl y)
    · rw [A1]
      refine pw_mono (pw_kp (cs_run xs L _ σ rr)) (fun σ1 r1 h => ?_)
      obtain ⟨k1, v, rfl, h2⟩ := h
      refine w_L_law_335 (in1 (kL k1) (room z)) bu ?_
      rw [A1' k1]
      refine pw_mono h2 (fun σ2 r2 h => ?_)
      obtain ⟨rfl, r'⟩ := h
      exact w_L_law_344 (fun _ => next r' (by omega) (by omega)) (fun y => absurd rfl y)
    · rw [A1]
      refine pw_mono (pw_kp (cs_state xs L _ σ rr)) (fun σ1 r1 h => ?_)
      obtain ⟨k1, v, rfl, h2⟩ := h
      refine w_L_law_358 (in1 (kL k1) (room z)) bu ?_
      rw [A1' k1]
      refine pw_mono h2 (fun σ2 r2 h => ?_)
      obtain ⟨rfl, r'⟩ := h
      exact w_L_law_367 (fun _ => next r' (by omega) (by omega)) (fun y => absurd rfl y)
