/-! THE LAW FROM ITS ENTRY to its loop, and from its end back -/
def R_law : String := "UnitDeskLaw"
def lw_P (b : Addr) (xs : List Int32) (args : Array Value) (s : State) : Prop := args = #[.ref b] ∧ s.IntsAt b xs ∧ xs.length ≤ 1536 ∧ (Jvm.Cond.and given_1 narrow_1).before args s = true
def lw_Q (_ : Array Value) (s : State) (o : Outcome) (t : State) : Prop := o = .returned (some (.int 1)) ∧ Framed s o t [] 600000 7302250
def lw_Z (below : List Frame) (a : Array Value) (s : State) : State → Prop := fun t => ∃ o, t.status = .running ∧ Ended t below o ∧ lw_Q a s o t
/-- the law's own end, with 1 on the stack, nothing written that was there before, its room as the claim has it -/
theorem lw_ret {p : Program} {l : Launch} {e : Env} {s : State} {m : MethodId} {below : List Frame} {meth : Method} {c : Code} {b : Nat} (hx : p.tables.exec = Jvm.exec) (hb : c.code = code) (hr : meth.sig.returnType = ret) (hlocks : meth.locks = false) {pc : Nat} {H : Heap} {ls : Array Slot} (hdg : decode code pc = .ok (.ireturn, 1)) : W p l e room_1 s m #[Value.ref b] below meth c H [] 600000 7302250 (lw_Z below #[Value.ref b] s) (F0 m pc ls [.int 1]) := by
  intro T hT X
  obtain ⟨fs, hret, hrun, hended, hW, hframe⟩ := X.leave (v := some (.int 1)) (hlocks := hlocks) (fun h => by rw [hr] at h; cases h)
  have hmeth' : T.vm.method? m = some meth := X.method'
  refine ⟨T.setFrames fs, ?_, .returned (some (.int 1)), hrun, hended, rfl, ⟨_, rfl⟩, hW, hframe⟩
  jvm_step X.here [X.here.top, hx, hb, hdg, hmeth', hr, ret, narrow_b1]
  (try refine ⟨rfl, ?_⟩); (try refine ⟨rfl, ?_⟩)
  first | (intro acts; rw [hret _ acts rfl rfl rfl]) | rw [hret _ _ rfl rfl rfl]
  exact Steps.refl _
/-- what holds at the law's entry: the machine, the code, the tables' words, the script of L ints xs at the cell b, what the Statement gives of the start, the method's name -/
def lw_At (p : Program) (s : State) (m : MethodId) (meth : Method) (c : Code) (b L : Nat) (xs : Nat → Int32) : Prop :=
  p.tables.exec = Jvm.exec ∧ c.code = code ∧ meth.sig.returnType = ret ∧ c.maxLocals = 4 ∧ s.vm.findClass R_law = some m.cls ∧ (∀ w ∈ lw_tbl, w.before #[Value.ref b] s = true) ∧ va_X b L xs s s.heap ∧ b < s.heap.size ∧ meth.locks = false ∧ (Jvm.Cond.and given_1 narrow_1).before #[Value.ref b] s = true ∧ meth.name = (pm_y 134).name
abbrev lw_ls : eg_L := [(3, .inl 0), (2, .inr (26, 0)), (1, .inr (2, 0)), (0, .inr (57, 0))]
theorem lw_begin {p : Program} {e : Env} {s : State} {m : MethodId} {below : List Frame} {meth : Method} {c : Code} (l : Launch) {b L : Nat} {xs : Nat → Int32} (C0 : lw_At p s m meth c b L xs) (hp : ∃ σ' : st_S, eg_ev st_X pg_T 134 18 (s2_S xs L) (422, 5051) lw_ls [] σ' (some (.inl 1))) : W p l e room_1 s m #[Value.ref b] below meth c s.heap [] 0 0 (lw_Z below #[Value.ref b] s) (entryFrame m ([Value.ref b] : List Value).toArray 4) := by
  obtain ⟨c1, c2, c3, c4, c5, hts, hX, hbl, c6, hgv, c7⟩ := C0
  obtain ⟨D, ad, hSt, hIn, hb⟩ := en_start hts hgv hbl
  have hCx : eg_Cx 134 p s m meth c := ⟨c1, c2, c3, c4, c5, c6, c7⟩
  have hR : room_1 = pm_R 134 := rfl
  have hz : eg_zk ad := hSt.2.2.2.2.1
  have hl := lv_entry ([Value.ref b] : List Value) (n := 4) (show (1 : Nat) ≤ 4 by decide)
  rw [lg_entry_eq, hR]
  generalize (lg_sl ([Value.ref b] : List Value) ++ List.replicate (4 - (lg_sl ([Value.ref b] : List Value)).length) Slot.unset).toArray = LS at hl ⊢
  have hl1 : lv_has LS (pm_l 134) (eg_hl ad [(0, .inr (1, 1))]) := by
    have e1 : eg_hl ad [(0, .inr (1, 1))] = lv_args 0 ([Value.ref b] : List Value) := by
      show [(0, ad.2 1)] = lv_args 0 ([Value.ref b] : List Value)
      rw [hb]
      rfl
    rw [e1]
    exact hl
  have hrun := s1_run_ok
  cases h1 : s1_run with
  | none => rw [h1] at hrun; cases hrun
  | some cc =>
    obtain ⟨pc, σ1, u, ls, st⟩ := cc
    rw [h1] at hrun
    simp only [Bool.and_eq_true, decide_eq_true_eq, List.isEmpty_iff] at hrun
    obtain ⟨hpc, hu, hls, hst, hchk⟩ := hrun
    replace hpc := Nat.eq_of_beq_eq_true hpc
    subst hpc hu hls hst
    refine eg_tops_sound (A := fun q => s.heap.size ≤ q) (D := D) (n := 3000) eg_tbl_ok s1_Lwr s1_Lnw s1_Lcp s1_Lst s1_Lmn (s1_sound 3000) hCx 10 0 s1_0 (0, 0) [(0, .inr (1, 1))] [] 18 σ1 (422, 5051) _ [] h1 (Nat.zero_le _) (Nat.zero_le _) ad s.heap [] LS hSt hIn hl1 ⟨fun q hq => ?_, fun v hv => by cases hv⟩ (fun ad2 H2 locs2 LS2 x1 x2 x3 x4 x5 x6 => ?_)
    · rw [List.mem_singleton.mp hq]
      exact Or.inr (Or.inl rfl)
    · obtain ⟨σ', n, hn⟩ := hp
      have hI2 := tr_inv hchk hbl hX x4
      have hS2 : eg_Sta D (fun q => s.heap.size ≤ q) s (fun k i => if k = 57 then b else ad2.1 k i, ad2.2) := x3.ext s1_Lst σ1 (fun k i hk => if_neg (tr_ne hk)) rfl
      refine st_sound (D := D) (A := fun q => s.heap.size ≤ q) n 134 18 (s2_S xs L) (422, 5051) lw_ls [] σ' _ hn (by decide) (by decide) p e s m _ below meth c _ hCx (fun k i => if k = 57 then b else ad2.1 k i, ad2.2) H2 locs2 LS2 hS2 hI2 ?_ ⟨fun q hq => ?_, fun v hv => by cases hv⟩ (fun ad3 H3 locs3 LS3 u3 pcr y1 y2 y3 y4 y5 y6 y7 hrt => ?_)
      · have e1 : eg_hl (fun k i => if k = 57 then b else ad2.1 k i, ad2.2) lw_ls = eg_hl ad2 [(3, .inl 0), (2, .inr (26, 0)), (1, .inr (2, 0)), (0, .inr (1, 1))] := by
          show [(3, Value.int 0), (2, Value.ref (ad2.1 26 0)), (1, Value.ref (ad2.1 2 0)), (0, Value.ref b)] = [(3, Value.int 0), (2, Value.ref (ad2.1 26 0)), (1, Value.ref (ad2.1 2 0)), (0, ad2.2 1)]
          rw [x2, hb]
        rw [e1]
        exact x5
      · have hq' : q.2 = .inl 0 ∨ q.2 = .inr (26, 0) ∨ q.2 = .inr (2, 0) ∨ q.2 = .inr (57, 0) := by
          simp only [lw_ls, List.mem_cons, List.not_mem_nil, or_false] at hq
          rcases hq with rfl | rfl | rfl | rfl <;> simp
        rcases hq' with h | h | h | h
        · rw [h]; trivial
        · rw [h]; exact Or.inr (Or.inr (by decide : 0 < st_pop 26))
        · rw [h]; exact Or.inr (Or.inr (by decide : 0 < st_pop 2))
        · rw [h]; exact Or.inr (Or.inr (by decide : 0 < st_pop 57))
      · refine va_forget (fun q hq => y4.2.2.2.1.2.2 q hq) ?_
        refine W.widen (show u3.1 ≤ 600000 from y6) (show u3.2 ≤ 7302250 from y7) ?_
        rcases hrt with ⟨z, -⟩ | ⟨x, ty, z1, z2, z3, z4⟩ | ⟨q, rt, z1, -⟩
        · cases z
        · exact lw_ret c1 c2 c3 c6 z4
        · cases z1
