/-! MORE LOCALS do no harm -/
section EGW
variable {S : Type} {X : eg_X S} {T : eg_T}
def eg_le (l l' : eg_L) : Prop := ∀ i v, eg_get l i = some v → eg_get l' i = some v
theorem eg_get_filter (l : eg_L) (i j : Nat) (h : Nat.beq i j = false) : eg_get (l.filter (fun q => !(Nat.beq q.1 i))) j = eg_get l j := by
  induction l with
  | nil => rfl
  | cons q l ih =>
    simp only [List.filter]
    cases hq : Nat.beq q.1 i with
    | true =>
      simp only [Bool.not_true]
      rw [ih]
      show eg_get l j = (bif Nat.beq q.1 j then some q.2 else eg_get l j)
      rw [Nat.eq_of_beq_eq_true hq, h]
      rfl
    | false =>
      simp only [Bool.not_false]
      show (bif Nat.beq q.1 j then some q.2 else _) = (bif Nat.beq q.1 j then some q.2 else _)
      rw [ih]
theorem eg_get_put (l : eg_L) (i j : Nat) (v : eg_V) : eg_get (eg_put l i v) j = bif Nat.beq i j then some v else eg_get l j := by
  show (bif Nat.beq i j then some v else eg_get (l.filter (fun q => !(Nat.beq q.1 i))) j) = _
  cases h : Nat.beq i j with
  | true => rfl
  | false => rw [eg_get_filter l i j h]
theorem eg_le.put {l l' : eg_L} (h : eg_le l l') (i : Nat) (v : eg_V) : eg_le (eg_put l i v) (eg_put l' i v) := by
  intro j w hw
  rw [eg_get_put] at hw ⊢
  cases hb : Nat.beq i j with
  | true => rw [hb] at hw; exact hw
  | false => rw [hb] at hw; exact h j w hw
def eg_Rl (a b : eg_R S) : Prop := match a, b with
  | .inl (pc, σ, u, ls, st), .inl (pc', σ', u', ls', st') => pc = pc' ∧ σ = σ' ∧ u = u' ∧ st = st' ∧ eg_le ls ls'
  | .inr a, .inr b => a = b
  | _, _ => False
/-- the outcome with other locals -/
def eg_Wl (f : eg_L → eg_O S) : Prop := ∀ ls ls' g c, eg_le ls ls' → f ls = some (g, c) → ∃ c', f ls' = some (g, c') ∧ eg_Rl c c'
theorem eg_Wl.out {f : eg_L → eg_O S} (o : Option (Bool × Nat × S × (Nat × Nat) × List eg_V)) (h : ∀ ls, f ls = match o with
  | some (g, pc, σ, u, st) => some (g, .inl (pc, σ, u, ls, st))
  | none => none) : eg_Wl f := by
  intro ls ls' g c hl hf
  rw [h] at hf ⊢
  cases o with
  | none => cases hf
  | some q =>
    obtain ⟨g1, pc, σ, u, st⟩ := q
    cases hf
    exact ⟨_, rfl, rfl, rfl, rfl, rfl, hl⟩
theorem eg_Wl.const {f : eg_L → eg_O S} (o : Option (Bool × ((Nat × List eg_V × Nat × List eg_V) ⊕ Option eg_V))) (h : ∀ ls, f ls = match o with
  | some (g, c) => some (g, .inr c)
  | none => none) : eg_Wl f := by
  intro ls ls' g c hl hf
  rw [h] at hf ⊢
  cases o with
  | none => cases hf
  | some q =>
    obtain ⟨g1, c1⟩ := q
    cases hf
    exact ⟨_, rfl, rfl⟩
theorem eg_Wl.stk {o : Option (List eg_V)} {pc : Nat} {σ : S} {u : Nat × Nat} : eg_Wl (fun ls => eg_stk o pc σ u ls) := by
  refine eg_Wl.out (o.map (fun st => (true, pc, σ, u, st))) (fun ls => ?_)
  cases o <;> rfl
theorem eg_Wl.some1 {g : Bool} {pc : Nat} {σ : S} {u : Nat × Nat} {st : List eg_V} : eg_Wl (fun ls => some (g, .inl (pc, σ, u, ls, st))) := eg_Wl.out (some (g, pc, σ, u, st)) (fun _ => rfl)
theorem eg_Wl.none1 : eg_Wl (fun _ => (none : eg_O S)) := eg_Wl.out none (fun _ => rfl)
theorem eg_Wl.psi {k pc : Nat} {σ : S} {u : Nat × Nat} {st : List eg_V} : eg_Wl (fun ls => eg_psh (eg_geti ls k) pc σ u ls st) := by
  intro ls ls' g c hl hf
  simp only [eg_geti] at hf ⊢
  cases hg : eg_get ls k with
  | none => rw [hg] at hf; cases hf
  | some v =>
    rw [hg] at hf
    rw [hl k v hg]
    cases v with
    | inl x => cases hf; exact ⟨_, rfl, rfl, rfl, rfl, rfl, hl⟩
    | inr x => cases hf
theorem eg_Wl.psr {k pc : Nat} {σ : S} {u : Nat × Nat} {st : List eg_V} : eg_Wl (fun ls => eg_psh (eg_getr ls k) pc σ u ls st) := by
  intro ls ls' g c hl hf
  simp only [eg_getr] at hf ⊢
  cases hg : eg_get ls k with
  | none => rw [hg] at hf; cases hf
  | some v =>
    rw [hg] at hf
    rw [hl k v hg]
    cases v with
    | inr x => cases hf; exact ⟨_, rfl, rfl, rfl, rfl, rfl, hl⟩
    | inl x => cases hf
theorem eg_Wl.sti {i pc : Nat} {σ : S} {u : Nat × Nat} {st : List eg_V} : eg_Wl (fun ls => eg_sti i pc σ u ls st) := by
  intro ls ls' g c hl hf
  cases st with
  | nil => cases hf
  | cons v r => cases v with
    | inl x => cases hf; exact ⟨_, rfl, rfl, rfl, rfl, rfl, hl.put i _⟩
    | inr x => cases hf
theorem eg_Wl.str {i pc : Nat} {σ : S} {u : Nat × Nat} {st : List eg_V} : eg_Wl (fun ls => eg_str i pc σ u ls st) := by
  intro ls ls' g c hl hf
  cases st with
  | nil => cases hf
  | cons v r => cases v with
    | inr x => cases hf; exact ⟨_, rfl, rfl, rfl, rfl, rfl, hl.put i _⟩
    | inl x => cases hf
theorem eg_Wl.inc {i : Nat} {n : Int} {pc : Nat} {σ : S} {u : Nat × Nat} {st : List eg_V} : eg_Wl (fun ls => eg_inc i n pc σ u ls st) := by
  intro ls ls' g c hl hf
  simp only [eg_inc] at hf ⊢
  cases hg : eg_get ls i with
  | none => rw [hg] at hf; cases hf
  | some v =>
    rw [hg] at hf
    rw [hl i v hg]
    cases v with
    | inl x => cases hf; exact ⟨_, rfl, rfl, rfl, rfl, rfl, hl.put i _⟩
    | inr x => cases hf
theorem eg_Wl.b1 {f : Int32 → Bool} {t pc : Nat} {σ : S} {u : Nat × Nat} {st : List eg_V} : eg_Wl (fun ls => eg_b1 f t pc σ u ls st) := by
  rcases st with _ | ⟨x | q, r⟩
  · exact eg_Wl.none1
  · exact eg_Wl.some1
  · exact eg_Wl.none1
theorem eg_Wl.b2 {f : Int32 → Int32 → Bool} {t pc : Nat} {σ : S} {u : Nat × Nat} {st : List eg_V} : eg_Wl (fun ls => eg_b2 f t pc σ u ls st) := by
  rcases st with _ | ⟨x | q, _ | ⟨y | q2, r⟩⟩
  · exact eg_Wl.none1
  · exact eg_Wl.none1
  · exact eg_Wl.some1
  · exact eg_Wl.none1
  · exact eg_Wl.none1
  · exact eg_Wl.none1
  · exact eg_Wl.none1
theorem eg_Wl.cond {b : Bool} {f1 f2 : eg_L → eg_O S} (h1 : eg_Wl f1) (h2 : eg_Wl f2) : eg_Wl (fun ls => bif b then f1 ls else f2 ls) := by
  cases b
  · exact h2
  · exact h1
theorem eg_Wl.bn {f : Nat × Nat → Bool} {t pc : Nat} {σ : S} {u : Nat × Nat} {st : List eg_V} : eg_Wl (fun ls => eg_bn f t pc σ u ls st) := by
  rcases st with _ | ⟨x | q, r⟩
  · exact eg_Wl.none1
  · exact eg_Wl.none1
  · exact eg_Wl.cond eg_Wl.none1 (eg_Wl.some1)
theorem eg_Wl.ba {f : Nat × Nat → Nat × Nat → Bool} {t pc : Nat} {σ : S} {u : Nat × Nat} {st : List eg_V} : eg_Wl (fun ls => eg_ba f t pc σ u ls st) := by
  rcases st with _ | ⟨x | q, _ | ⟨y | q2, r⟩⟩
  · exact eg_Wl.none1
  · exact eg_Wl.none1
  · exact eg_Wl.none1
  · exact eg_Wl.none1
  · exact eg_Wl.none1
  · exact eg_Wl.none1
  · exact eg_Wl.cond (eg_Wl.some1) eg_Wl.none1
theorem eg_Wl.dv {f : Int32 → Int32 → Int32} {pc : Nat} {σ : S} {u : Nat × Nat} {st : List eg_V} : eg_Wl (fun ls => eg_dv f pc σ u ls st) := by
  rcases st with _ | ⟨x | q, _ | ⟨y | q2, r⟩⟩
  · exact eg_Wl.none1
  · exact eg_Wl.none1
  · exact eg_Wl.some1
  · exact eg_Wl.none1
  · exact eg_Wl.none1
  · exact eg_Wl.none1
  · exact eg_Wl.none1
theorem eg_Wl.mm {f : Int32 → Int32 → Int32} {pc : Nat} {σ : S} {u : Nat × Nat} {st : List eg_V} : eg_Wl (fun ls => eg_mm f pc σ u ls st) := by
  rcases st with _ | ⟨x | q, _ | ⟨y | q2, r⟩⟩
  · exact eg_Wl.none1
  · exact eg_Wl.none1
  · exact eg_Wl.cond (eg_Wl.some1) eg_Wl.none1
  · exact eg_Wl.none1
  · exact eg_Wl.none1
  · exact eg_Wl.none1
  · exact eg_Wl.none1
theorem eg_Wl.sw {f : Int32 → Nat} {σ : S} {u : Nat × Nat} {st : List eg_V} : eg_Wl (fun ls => eg_sw f σ u ls st) := by
  rcases st with _ | ⟨x | q, r⟩
  · exact eg_Wl.none1
  · exact eg_Wl.some1
  · exact eg_Wl.none1
theorem eg_Wl.gf {a b pc : Nat} {σ : S} {u : Nat × Nat} {st : List eg_V} : eg_Wl (fun ls => eg_gf X T a b pc σ u ls st) := by
  rcases st with _ | ⟨x | q, r⟩
  · exact eg_Wl.none1
  · exact eg_Wl.none1
  · exact eg_Wl.cond (eg_Wl.some1) eg_Wl.none1
theorem eg_Wl.pf {a b pc : Nat} {σ : S} {u : Nat × Nat} {st : List eg_V} : eg_Wl (fun ls => eg_pf X T a b pc σ u ls st) := by
  rcases st with _ | ⟨v, _ | ⟨y | q, r⟩⟩
  · exact eg_Wl.none1
  · exact eg_Wl.none1
  · exact eg_Wl.none1
  · refine eg_Wl.cond ?_ eg_Wl.none1
    cases X.2.2.1 σ q.1 q.2 a v
    · exact eg_Wl.none1
    · exact eg_Wl.some1
theorem eg_Wl.al {t pc : Nat} {σ : S} {u : Nat × Nat} {st : List eg_V} : eg_Wl (fun ls => eg_al X T t pc σ u ls st) := by
  rcases st with _ | ⟨x | q, _ | ⟨y | q2, r⟩⟩
  · exact eg_Wl.none1
  · exact eg_Wl.none1
  · exact eg_Wl.none1
  · exact eg_Wl.cond (eg_Wl.some1) eg_Wl.none1
  · exact eg_Wl.none1
  · exact eg_Wl.none1
  · exact eg_Wl.none1
theorem eg_Wl.ar {pc : Nat} {σ : S} {u : Nat × Nat} {st : List eg_V} : eg_Wl (fun ls => eg_ar X T pc σ u ls st) := by
  rcases st with _ | ⟨x | q, _ | ⟨y | q2, r⟩⟩
  · exact eg_Wl.none1
  · exact eg_Wl.none1
  · exact eg_Wl.none1
  · exact eg_Wl.cond (eg_Wl.some1) eg_Wl.none1
  · exact eg_Wl.none1
  · exact eg_Wl.none1
  · exact eg_Wl.none1
theorem eg_Wl.as {t : Nat} {f : Int32 → Int32} {pc : Nat} {σ : S} {u : Nat × Nat} {st : List eg_V} : eg_Wl (fun ls => eg_as X T t f pc σ u ls st) := by
  rcases st with _ | ⟨v | q0, _ | ⟨x | q1, _ | ⟨y | q, r⟩⟩⟩
  case cons.inl.cons.inl.cons.inr =>
    refine eg_Wl.cond ?_ eg_Wl.none1
    cases X.2.2.1 σ q.1 q.2 x.toNatClampNeg (.inl (f v))
    · exact eg_Wl.none1
    · exact eg_Wl.some1
  all_goals exact eg_Wl.none1
theorem eg_Wl.ast {a b pc : Nat} {σ : S} {u : Nat × Nat} {st : List eg_V} : eg_Wl (fun ls => eg_ast X T a b pc σ u ls st) := by
  rcases st with _ | ⟨v | q0, _ | ⟨x | q1, _ | ⟨y | q, r⟩⟩⟩
  case cons.inr.cons.inl.cons.inr =>
    refine eg_Wl.cond ?_ eg_Wl.none1
    cases X.2.2.1 σ q.1 q.2 x.toNatClampNeg (.inr q0)
    · exact eg_Wl.none1
    · exact eg_Wl.some1
  all_goals exact eg_Wl.none1
theorem eg_Wl.len {pc : Nat} {σ : S} {u : Nat × Nat} {st : List eg_V} : eg_Wl (fun ls => eg_len X T pc σ u ls st) := by
  rcases st with _ | ⟨x | q, r⟩
  · exact eg_Wl.none1
  · exact eg_Wl.none1
  · exact eg_Wl.cond eg_Wl.none1 (eg_Wl.some1)
theorem eg_Wl.new {a mi pc : Nat} {σ : S} {u : Nat × Nat} {st : List eg_V} : eg_Wl (fun ls => eg_new X T a mi pc σ u ls st) := by
  unfold eg_new
  cases X.2.2.2.1 σ a 0
  · exact eg_Wl.none1
  · exact eg_Wl.some1
theorem eg_Wl.newa {a mi pc : Nat} {σ : S} {u : Nat × Nat} {st : List eg_V} : eg_Wl (fun ls => eg_newa X T a mi pc σ u ls st) := by
  rcases st with _ | ⟨x | q, r⟩
  · exact eg_Wl.none1
  · unfold eg_newa
    dsimp only
    cases X.2.2.2.1 σ a x.toNatClampNeg
    · exact eg_Wl.none1
    · exact eg_Wl.some1
  · exact eg_Wl.none1
theorem eg_Wl.oi {pc : Nat} {σ : S} {u : Nat × Nat} {st : List eg_V} : eg_Wl (fun ls => eg_oi T pc σ u ls st) := by
  rcases st with _ | ⟨x | q, r⟩
  · exact eg_Wl.none1
  · exact eg_Wl.none1
  · exact eg_Wl.cond (eg_Wl.some1) eg_Wl.none1
theorem eg_Wl.cpy {pc : Nat} {σ : S} {u : Nat × Nat} {st : List eg_V} : eg_Wl (fun ls => eg_cpy X T pc σ u ls st) := by
  rcases st with _ | ⟨n | q0, _ | ⟨dp | q1, _ | ⟨y | d, _ | ⟨sp | q3, _ | ⟨z | q, r⟩⟩⟩⟩⟩
  case cons.inl.cons.inl.cons.inr.cons.inl.cons.inr =>
    refine eg_Wl.cond ?_ eg_Wl.none1
    cases X.2.2.2.2 σ q sp.toNatClampNeg d dp.toNatClampNeg n.toNatClampNeg
    · exact eg_Wl.none1
    · exact eg_Wl.some1
  all_goals exact eg_Wl.none1
theorem eg_Wl.call {j b mi pc : Nat} {u : Nat × Nat} {st : List eg_V} : eg_Wl (fun _ => (eg_call T j b mi pc u st : eg_O S)) := by
  unfold eg_call
  cases Nat.ble (T.2.2.2.2.1 j).1 st.length && (Nat.beq b 0 || eg_rcv T b (st.drop ((T.2.2.2.2.1 j).1 - 1))) with
  | true => exact eg_Wl.const (some (_, .inl _)) (fun _ => rfl)
  | false => exact eg_Wl.none1
theorem eg_Wl.ri {a : Nat} {st : List eg_V} : eg_Wl (fun _ => (eg_ri a st : eg_O S)) := by
  rcases st with _ | ⟨x | q, _ | ⟨y, r⟩⟩
  case cons.inl.nil => exact eg_Wl.const (some (_, .inr _)) (fun _ => rfl)
  all_goals exact eg_Wl.none1
theorem eg_Wl.ra {st : List eg_V} : eg_Wl (fun _ => (eg_ra st : eg_O S)) := by
  rcases st with _ | ⟨x | q, _ | ⟨y, r⟩⟩
  case cons.inr.nil => exact eg_Wl.const (some (_, .inr _)) (fun _ => rfl)
  all_goals exact eg_Wl.none1
theorem eg_Wl.rv {st : List eg_V} : eg_Wl (fun _ => (eg_rv st : eg_O S)) := by
  rcases st with _ | ⟨x, r⟩
  · exact eg_Wl.const (some (_, .inr _)) (fun _ => rfl)
  · exact eg_Wl.none1
theorem eg_Wl.do {I : Jvm.ClassFile.Instr} {a b mi pc : Nat} {σ : S} {u : Nat × Nat} {st : List eg_V} : eg_Wl (fun ls => eg_do X T I a b mi pc σ u ls st) := by
  cases I
  case ifCond cc _ => cases cc <;> exact eg_Wl.b1
  case if_icmp cc _ => cases cc <;> exact eg_Wl.b2
  case if_acmp cc _ => cases cc <;> first | exact eg_Wl.ba | exact eg_Wl.none1
  case bastore => exact eg_Wl.cond (eg_Wl.as) (eg_Wl.as)
  case invokestatic => exact eg_Wl.cond (eg_Wl.cpy) (eg_Wl.cond (eg_Wl.mm) (eg_Wl.cond (eg_Wl.mm) (eg_Wl.call)))
  case invokespecial => exact eg_Wl.cond (eg_Wl.oi) (eg_Wl.call)
  all_goals first
    | exact eg_Wl.none1
    | exact eg_Wl.some1
    | exact eg_Wl.stk
    | exact eg_Wl.psi
    | exact eg_Wl.psr
    | exact eg_Wl.sti
    | exact eg_Wl.str
    | exact eg_Wl.inc
    | exact eg_Wl.bn
    | exact eg_Wl.dv
    | exact eg_Wl.sw
    | exact eg_Wl.gf
    | exact eg_Wl.pf
    | exact eg_Wl.al
    | exact eg_Wl.ar
    | exact eg_Wl.as
    | exact eg_Wl.ast
    | exact eg_Wl.len
    | exact eg_Wl.new
    | exact eg_Wl.newa
    | exact eg_Wl.call
    | exact eg_Wl.ri
    | exact eg_Wl.ra
    | exact eg_Wl.rv
theorem eg_ip_sub : ∀ (n mi pc : Nat) (σ : S) (u : Nat × Nat) (ls ls' : eg_L) (st : List eg_V) (x : S × Option eg_V), eg_le ls ls' → eg_ip X T n mi pc σ u ls st = some x → eg_ip X T n mi pc σ u ls' st = some x := by
  intro n
  induction n with
  | zero => intro mi pc σ u ls ls' st x _ h; cases h
  | succ n ih =>
    intro mi pc σ u ls ls' st x hl h
    rw [eg_ip] at h ⊢
    have key : eg_Wl (fun ls => eg_step X T mi pc σ u ls st) := by
      unfold eg_step
      cases T.1 mi pc with
      | none => exact eg_Wl.none1
      | some q => exact eg_Wl.do
    cases hs : eg_step X T mi pc σ u ls st with
    | none => rw [hs] at h; cases h
    | some gc =>
      obtain ⟨g, c⟩ := gc
      obtain ⟨c', h1, h2⟩ := key ls ls' g c hl hs
      rw [hs] at h
      replace h1 : eg_step X T mi pc σ u ls' st = some (g, c') := h1
      rw [h1]
      cases g with
      | false => rcases c with c | c | c <;> cases h
      | true =>
        rcases c with ⟨pc1, σ1, u1, ls1, st1⟩ | c
        · rcases c' with ⟨pc2, σ2, u2, ls2, st2⟩ | c'
          · obtain ⟨rfl, rfl, rfl, rfl, h6⟩ := h2
            exact ih _ _ _ _ _ _ _ _ h6 h
          · exact h2.elim
        · rcases c' with c' | c'
          · exact h2.elim
          · obtain rfl : c = c' := h2
            rcases c with ⟨j, av, pc1, st1⟩ | r
            · replace h : (match eg_ip X T n j 0 σ (0, 0) (eg_ent 0 av) [] with
                | some (σ', r) => eg_ip X T n mi pc1 σ' (u.1 + (T.2.2.2.2.1 j).2.1, u.2 + (T.2.2.2.2.1 j).2.2) ls (r.toList ++ st1)
                | none => none) = some x := h
              show (match eg_ip X T n j 0 σ (0, 0) (eg_ent 0 av) [] with
                | some (σ', r) => eg_ip X T n mi pc1 σ' (u.1 + (T.2.2.2.2.1 j).2.1, u.2 + (T.2.2.2.2.1 j).2.2) ls' (r.toList ++ st1)
                | none => none) = some x
              split at h
              · exact ih _ _ _ _ _ _ _ _ hl h
              · cases h
            · exact h
end EGW
