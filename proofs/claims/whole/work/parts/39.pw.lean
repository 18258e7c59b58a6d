/-! RUNS OF THE SYSTEM, from behind: the method at mi, pc comes to an end at which Q holds -/
def pw_E (mi pc : Nat) (σ : st_S) (u : Nat × Nat) (ls : eg_L) (st : List eg_V) (Q : st_S → Option eg_V → Prop) : Prop := ∃ σ' r, eg_ev st_X pg_T mi pc σ u ls st σ' r ∧ Q σ' r
def pw_all : eg_L → eg_L → Prop
  | [], _ => True
  | q :: l, r => eg_get r q.1 = some q.2 ∧ pw_all l r
theorem pw_all_use : ∀ {l r : eg_L}, pw_all l r → ∀ q ∈ l, eg_get r q.1 = some q.2
  | [], _, _, q, h => nomatch h
  | a :: l, r, ha, q, h => by
    rcases List.mem_cons.mp h with rfl | h
    · exact ha.1
    · exact pw_all_use ha.2 q h
theorem pw_sub (ls : eg_L) {mi pc : Nat} {σ : st_S} {u : Nat × Nat} {ls' : eg_L} {st : List eg_V} {Q : st_S → Option eg_V → Prop} (h : pw_all ls ls') (k : pw_E mi pc σ u ls st Q) : pw_E mi pc σ u ls' st Q := by
  obtain ⟨σ', r, ⟨n, hn⟩, q⟩ := k
  exact ⟨σ', r, ⟨n, eg_ip_sub n _ _ _ _ _ _ _ _ (fun i v hi => pw_all_use h (i, v) (eg_get_mem hi)) hn⟩, q⟩
theorem pw_mono {mi pc : Nat} {σ : st_S} {u : Nat × Nat} {ls : eg_L} {st : List eg_V} {P Q : st_S → Option eg_V → Prop} (k : pw_E mi pc σ u ls st P) (h : ∀ σ' r, P σ' r → Q σ' r) : pw_E mi pc σ u ls st Q := by
  obtain ⟨σ', r, e, q⟩ := k
  exact ⟨σ', r, e, h _ _ q⟩
theorem pw_run (n : Nat) {mi pc : Nat} {σ : st_S} {u : Nat × Nat} {ls : eg_L} {st : List eg_V} {Q : st_S → Option eg_V → Prop} {g : Bool} (pc' : Nat) (σ1 : st_S) (u' : Nat × Nat) (ls' : eg_L) (st' : List eg_V) (h : eg_run st_X pg_T n mi pc σ u ls st = some (g, (pc', σ1, u', ls', st'))) (hg : g = true) (k : pw_E mi pc' σ1 u' ls' st' Q) : pw_E mi pc σ u ls st Q := by
  obtain ⟨σ', r, e, q⟩ := k
  exact ⟨σ', r, eg_ev_run n h hg e, q⟩
theorem pw_call {mi pc j : Nat} {σ : st_S} {u : Nat × Nat} {ls : eg_L} {st : List eg_V} {Q : st_S → Option eg_V → Prop} {g : Bool} (pc' : Nat) (av st' : List eg_V) (h : eg_step st_X pg_T mi pc σ u ls st = some (g, .inr (.inl (j, av, pc', st')))) (hg : g = true) (k : pw_E j 0 σ (0, 0) (eg_ent 0 av) [] (fun σ1 r1 => pw_E mi pc' σ1 (u.1 + (pg_mt j).2.1, u.2 + (pg_mt j).2.2) ls (r1.toList ++ st') Q)) : pw_E mi pc σ u ls st Q := by
  subst hg
  obtain ⟨σ1, r1, e1, σ', r, e, q⟩ := k
  exact ⟨σ', r, eg_ev_call h e1 e, q⟩
theorem pw_ret {mi pc : Nat} {σ : st_S} {u : Nat × Nat} {ls : eg_L} {st : List eg_V} {Q : st_S → Option eg_V → Prop} {g : Bool} (r : Option eg_V) (h : eg_step st_X pg_T mi pc σ u ls st = some (g, .inr (.inr r))) (hg : g = true) (k : Q σ r) : pw_E mi pc σ u ls st Q := by
  subst hg
  exact ⟨σ, r, eg_ev_ret h, k⟩
theorem pw_T {mi t f : Nat} {b : Bool} {σ : st_S} {u : Nat × Nat} {ls : eg_L} {st : List eg_V} {Q : st_S → Option eg_V → Prop} (hb : b = true) (k : pw_E mi t σ u ls st Q) : pw_E mi (bif b then t else f) σ u ls st Q := by
  subst hb
  exact k
theorem pw_F {mi t f : Nat} {b : Bool} {σ : st_S} {u : Nat × Nat} {ls : eg_L} {st : List eg_V} {Q : st_S → Option eg_V → Prop} (hb : b = false) (k : pw_E mi f σ u ls st Q) : pw_E mi (bif b then t else f) σ u ls st Q := by
  subst hb
  exact k
theorem pw_pc {mi pc pc' : Nat} {σ : st_S} {u : Nat × Nat} {ls : eg_L} {st : List eg_V} {Q : st_S → Option eg_V → Prop} (h : pc = pc') (k : pw_E mi pc' σ u ls st Q) : pw_E mi pc σ u ls st Q := by
  rw [h]
  exact k
theorem pw_and {a b : Bool} (h1 : a = true) (h2 : b = true) : (a && b) = true := by rw [h1, h2]; rfl
theorem pw_dT {p : Prop} [Decidable p] (h : p) : decide p = true := decide_eq_true h
theorem pw_dF {p : Prop} [Decidable p] (h : ¬ p) : decide p = false := decide_eq_false h
theorem pw_nT {p : Prop} [Decidable p] (h : ¬ p) : (!(decide p)) = true := by rw [decide_eq_false h]; rfl
theorem pw_nF {p : Prop} [Decidable p] (h : p) : (!(decide p)) = false := by rw [decide_eq_true h]; rfl
theorem pw_bT {a b : Nat} (h : a = b) : Nat.beq a b = true := by rw [h]; exact Nat.beq_refl b
theorem pw_bF {a b : Nat} (h : ¬ a = b) : Nat.beq a b = false := beq_ff h
theorem pw_bnT {a b : Nat} (h : ¬ a = b) : (!(Nat.beq a b)) = true := by rw [beq_ff h]; rfl
theorem pw_bnF {a b : Nat} (h : a = b) : (!(Nat.beq a b)) = false := by rw [h]; show (!(Nat.beq b b)) = false; rw [Nat.beq_refl]; rfl
theorem pw_em (p : Prop) [Decidable p] {q : Prop} (h1 : p → q) (h2 : ¬ p → q) : q := if h : p then h1 h else h2 h
theorem pw_tsw {pc : Nat} {d lo hi : Int} {offs : Array Int} {x : Int32} (h : ∀ c : Int, lo ≤ c → c ≤ hi → x.toInt ≠ c) : eg_tsw pc d lo hi offs x = ((pc : Int) + d).toNat := by
  unfold eg_tsw
  rw [if_pos]
  rcases Int.lt_or_le x.toInt lo with z | z
  · exact Or.inl z
  · rcases Int.lt_or_le hi x.toInt with y | y
    · exact Or.inr y
    · exact absurd rfl (h _ z y)
theorem pw_lsw {pc : Nat} {d : Int} {ps : Array (Int × Int)} {x : Int32} (h : ps.toList.all (fun p => decide (x.toInt ≠ p.1)) = true) : eg_lsw pc d ps x = ((pc : Int) + d).toNat := by
  unfold eg_lsw
  have : Op.lookupswitch.offset ps.toList d x.toInt = d := by
    have h2 : ∀ p ∈ ps.toList, x.toInt ≠ p.1 := fun p hp => of_decide_eq_true (List.all_eq_true.mp h p hp)
    generalize ps.toList = l at h2
    induction l with
    | nil => rfl
    | cons p l ih =>
      obtain ⟨a, o⟩ := p
      show (if a = x.toInt then o else Op.lookupswitch.offset l d x.toInt) = d
      rw [if_neg (fun z => h2 (a, o) List.mem_cons_self z.symm)]
      exact ih (fun p hp => h2 p (List.mem_cons_of_mem _ hp))
  rw [this]
/-! what the store's makers answer, by name -/
def st_sv (σ : st_S) (i : Nat) : st_S := (σ.1, σ.2.1, σ.2.2.1, i, σ.2.2.2.2)
def st_mk (σ : st_S) (n : Nat) : st_S := (fun k2 i2 j2 => bif Nat.beq k2 25 && Nat.beq i2 σ.2.1 then 0 else σ.1 k2 i2 j2, σ.2.1 + 1, fun i => bif Nat.beq i σ.2.1 then n else σ.2.2.1 i, σ.2.2.2.1, σ.2.2.2.2)
def st_cy (σ : st_S) (q : Nat × Nat) (sp d dp n : Nat) : st_S := (fun k2 i2 j2 => bif Nat.beq k2 25 && (Nat.beq i2 d && (Nat.ble dp j2 && Nat.blt j2 (dp + n))) then eg_int (st_rd σ q.1 q.2 (sp + (j2 - dp))) else σ.1 k2 i2 j2, σ.2)
