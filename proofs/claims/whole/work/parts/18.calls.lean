/-! CALLS: the callee's contract out of its own run, and back -/
section EGC
variable {S : Type} (X : eg_X S) (lv : S → Nat → Nat → Prop) (D : va_G) (A : Nat → Prop)
def eg_Pc (ad : eg_A) (σ : S) (av : List eg_V) : Array Value → State → Prop := va_Pc (av.map (eg_cv ad)) (fun U => eg_Sta D A U ad ∧ eg_Inv X lv D A U ad σ U.heap [] ∧ ∀ v ∈ av, eg_lvV lv σ v)
def eg_Qc (ad : eg_A) (σ σ2 : S) (r : Option eg_V) : Array Value → State → Outcome → State → Prop := fun _ st oc t => ∃ ad2 : eg_A, oc = .returned (r.map (eg_cv ad2)) ∧ (∀ k i, lv σ k i → ad2.1 k i = ad.1 k i) ∧ ad2.2 = ad.2 ∧ eg_Inv X lv D A t ad2 σ2 t.heap [] ∧ (∀ v, r = some v → eg_lvV lv σ2 v) ∧ va_F A st t
/-- where a method ends -/
def eg_rt (mi pcr : Nat) (r : Option eg_V) : Prop := (r = none ∧ pm_r mi = none ∧ decode (pm_b mi) pcr = .ok (.return_, 1)) ∨ (∃ x ty, r = some (.inl x) ∧ pm_r mi = some ty ∧ narrow ty (.int x) = .int x ∧ decode (pm_b mi) pcr = .ok (.ireturn, 1)) ∨ (∃ q rt, r = some (.inr q) ∧ pm_r mi = some rt ∧ ((∃ n, rt = .object n) ∨ ∃ t, rt = .array t) ∧ decode (pm_b mi) pcr = .ok (.areturn, 1))
/-- n steps of the engine: the machine does them -/
def eg_Snd (l : Launch) (n : Nat) : Prop := ∀ (mi pc : Nat) (σ : S) (u : Nat × Nat) (ls : eg_L) (st : List eg_V) (σ2 : S) (r : Option eg_V), eg_ip X pg_T n mi pc σ u ls st = some (σ2, r) → u.1 ≤ (pg_mt mi).2.1 → u.2 ≤ (pg_mt mi).2.2 →
  ∀ (p : Program) (e : Env) (s : State) (m : MethodId) (args : Array Value) (below : List Frame) (meth : Method) (c : Code) (Q : State → Prop), eg_Cx mi p s m meth c →
  ∀ (ad : eg_A) (H : Heap) (locs : List Loc) (LS : Array Slot), eg_Sta D A s ad → eg_Inv X lv D A s ad σ H locs → lv_has LS (pm_l mi) (eg_hl ad ls) → eg_LV lv σ ls st →
  (∀ (ad2 : eg_A) (H2 : Heap) (locs2 : List Loc) (LS2 : Array Slot) (u2 : Nat × Nat) (pcr : Nat), (∀ k i, lv σ k i → ad2.1 k i = ad.1 k i) → ad2.2 = ad.2 → eg_Sta D A s ad2 → eg_Inv X lv D A s ad2 σ2 H2 locs2 → (∀ v, r = some v → eg_lvV lv σ2 v) → u2.1 ≤ (pg_mt mi).2.1 → u2.2 ≤ (pg_mt mi).2.2 → eg_rt mi pcr r → W p l e (pm_R mi) s m args below meth c H2 locs2 u2.1 u2.2 Q (F0 m pcr LS2 (r.toList.map (eg_cv ad2)))) →
  W p l e (pm_R mi) s m args below meth c H locs u.1 u.2 Q (F0 m pc LS (st.map (eg_cv ad)))
variable {X lv D A}
variable {p : Program} {l : Launch} {e : Env} {R : Room} {s U : State} {m : MethodId} {args : Array Value} {below : List Frame} {meth : Method} {c : Code} {Q : State → Prop} {mi pc pc2 : Nat} {σ σ2 : S} {u u2 : Nat × Nat} {ls ls2 : eg_L} {st st2 : List eg_V} {ad ad2 : eg_A} {H H2 : Heap} {locs locs2 : List Loc}
theorem eg_fld.moved {b j a : Nat} {v : Value} (hvm : s.vm.Alike U.vm) (h : eg_fld s b j a v H) : eg_fld U b j a v H := by
  obtain ⟨cf, kf, fi, f, cell, f1, f2⟩ := h
  obtain ⟨k', hi', -⟩ := State.fieldFound?_setVm hvm f1
  exact ⟨cf, k', fi, f, cell, hi', f2⟩
theorem eg_mem.moved {k i : Nat} (hvm : s.vm.Alike U.vm) (h : eg_mem X D s ad σ k i H) : eg_mem X D U ad σ k i H := by
  unfold eg_mem at h ⊢
  split
  · rename_i h0
    rw [if_pos h0] at h
    split
    · rename_i h5
      rw [if_pos h5] at h
      exact h
    · rename_i h5
      rw [if_neg h5] at h
      obtain ⟨⟨cell, c1, c2, c3⟩, h2⟩ := h
      exact ⟨⟨cell, c1, c2, by rw [hvm.findClass]; exact c3⟩, fun j hj => (h2 j hj).moved hvm⟩
  · rename_i h0
    rw [if_neg h0] at h
    obtain ⟨⟨cell, c1, c2, c3⟩, h2⟩ := h
    refine ⟨⟨cell, c1, State.isArrayOf_alike hvm c2, c3⟩, fun h8 => ?_⟩
    obtain ⟨cell2, d1, d2⟩ := h2 h8
    exact ⟨cell2, d1, d2.moved hvm⟩
theorem eg_Inv.enter (hvm : s.vm.Alike U.vm) (hU : U.heap = H) (h : eg_Inv X lv D A s ad σ H locs) : eg_Inv X lv D A U ad σ U.heap [] :=
  ⟨fun k i hl => ⟨(h.1 k i hl).1, by rw [hU]; exact (h.1 k i hl).2.moved hvm⟩, h.2.1, h.2.2.1, va_S.rf, h.2.2.2.2⟩
theorem eg_Inv.back (hvm : s.vm.Alike U.vm) (hU : U.heap = H) (hS : va_S A s.heap H locs) (h : eg_Inv X lv D A U ad σ U.heap []) : eg_Inv X lv D A s ad σ H locs :=
  ⟨fun k i hl => ⟨(h.1 k i hl).1, by rw [← hU]; exact (h.1 k i hl).2.moved hvm.symm⟩, h.2.1, h.2.2.1, hS, h.2.2.2.2⟩
theorem eg_Sta.enter (hW : s.WarmedH U.vm) (hU : U.heap = H) (hS0 : va_S A s.heap H locs) (h : eg_Sta D A s ad) : eg_Sta D A U ad := by
  obtain ⟨a1, a2, a3, a4, a5, a6, a7⟩ := h
  exact ⟨va_K.moved hW.alike a1, a2.moved hW, fun a ha => by rw [hU]; exact va_Z.moved hW.alike ((a3 a ha).kept hS0.2.1), fun q hq => a4 q (Nat.le_trans hS0.1 (by rw [← hU]; exact hq)), a5, a6.warm hW, va_AO.moved hW.alike a7⟩
theorem eg_Pc.blind {av : List eg_V} : FrameBlind (eg_Pc X lv D A ad σ av) := by
  intro a U g mk h
  obtain ⟨h1, h2, h3, h4⟩ := h
  exact ⟨h1, h2.enter (U := U.calling g mk a) (H := U.heap) (locs := []) (State.WarmedH.refl U) rfl va_S.rf, h3.enter (U := U.calling g mk a) (Vm.Alike.refl U.vm) rfl, h4⟩
theorem eg_Pc.of {av : List eg_V} (hS : eg_Sta D A s ad) (hI : eg_Inv X lv D A s ad σ H locs) (hv : ∀ v ∈ av, eg_lvV lv σ v) (hU : U.heap = H) (hW : s.WarmedH U.vm) : eg_Pc X lv D A ad σ av (av.map (eg_cv ad)).toArray U :=
  ⟨rfl, hS.enter hW hU hI.2.2.2.1, hI.enter hW.alike hU, hv⟩
theorem eg_sl_len (hz : eg_zk ad) : ∀ av : List eg_V, (lg_sl (av.map (eg_cv ad))).length = av.length
  | [] => rfl
  | v :: l => by
    have ih := eg_sl_len hz l
    unfold lg_sl at ih ⊢
    rw [List.map_cons, List.flatMap_cons, List.length_append, ih, if_neg (by rw [eg_cat hz]; decide)]
    simp; omega
/-- the callee's contract -/
theorem eg_met {n j : Nat} {av : List eg_V} {r : Option eg_V} (IH : eg_Snd X lv D A l n) (h : eg_ip X pg_T n j 0 σ (0, 0) (eg_ent 0 av) [] = some (σ2, r)) (hpl : plainName (pm_y j).cls = true) (hlen : av.length ≤ pm_l j) (hz : eg_zk ad) :
    Met l (pm_y j) [Jvm.Cond.code (pm_y j) (pm_b j) (pm_l j) (pm_r j)] (pm_R j) (eg_Pc X lv D A ad σ av) (eg_Qc X lv D A ad σ σ2 r) (pg_mt j).2.1 (pg_mt j).2.2 A := by
  refine Met.ofW (cc := pm_b j) (maxL := pm_l j) (ret := pm_r j) hpl rfl ?_
  intro p e s m args below meth c s₁ B hml hv
  obtain ⟨rfl, hSt, hIn, hav⟩ := hv
  have hlocks := B.notSynchronized
  have hCx : eg_Cx j p s m meth c := ⟨B.exec, B.bytes, B.returns, hml, findClass_of_methodNamed B.named, B.notSynchronized, (name_of_methodNamed B.named B.method).1⟩
  have hl := lv_entry (av.map (eg_cv ad)) (n := pm_l j) (by rw [eg_sl_len hz]; exact hlen)
  rw [lg_entry_eq]
  generalize (lg_sl (av.map (eg_cv ad)) ++ List.replicate (pm_l j - (lg_sl (av.map (eg_cv ad))).length) Slot.unset).toArray = LS at hl ⊢
  rw [eg_ent_l ad hz av 0] at hl
  have hLV : eg_LV lv σ (eg_ent 0 av) [] := by
    refine ⟨?_, fun v hv => by cases hv⟩
    have key : ∀ (l : List eg_V) (n : Nat), (∀ v ∈ l, eg_lvV lv σ v) → ∀ q ∈ eg_ent n l, eg_lvV lv σ q.2 := by
      intro l
      induction l with
      | nil => intro n _ q hq; cases hq
      | cons v l ih =>
        intro n hl q hq
        rcases List.mem_cons.mp hq with rfl | hq
        · exact hl v List.mem_cons_self
        · exact ih (n + 1) (fun w hw => hl w (List.mem_cons_of_mem _ hw)) q hq
    exact key av 0 hav
  refine IH j 0 σ (0, 0) (eg_ent 0 av) [] σ2 r h (Nat.zero_le _) (Nat.zero_le _) p e s m _ below meth c _ hCx ad s.heap [] LS hSt hIn hl hLV (fun ad2 H2 locs2 LS2 u2 pcr x1 x2 x3 x4 x5 b1 b2 hrt => ?_)
  refine W.widen b1 b2 ?_
  have post : ∀ (o : Option Value) (t : State), o = r.map (eg_cv ad2) → t.heap = H2 → s.WarmedH t.vm → eg_Qc X lv D A ad σ σ2 r (av.map (eg_cv ad)).toArray s (.returned o) t := fun o t ho ht hW => ⟨ad2, by rw [ho], x1, x2, x4.enter hW.alike ht, x5, x4.2.2.2.1.F ht⟩
  rcases hrt with ⟨rfl, h2, h3⟩ | ⟨x, ty, rfl, h2, h3, h4⟩ | ⟨q, rt, rfl, h2, h3, h4⟩
  · exact W.vret B.exec B.bytes (B.returns.trans h2) (fun t ht hW => post none t rfl ht hW) x4.2.2.2.1.2.2 h3
  · exact W.zret B.exec B.bytes (B.returns.trans h2) h3 (fun t ht hW => post _ t rfl ht hW) x4.2.2.2.1.2.2 h4
  · exact W.aret B.exec B.bytes (B.returns.trans h2) h3 (eg_cv_r (by unfold eg_zk; rw [x2]; exact hz) q) (fun t ht hW => post _ t rfl ht hW) x4.2.2.2.1.2.2 h4
/-- behind the call -/
theorem eg_call_back {mc ms cells slots : Nat} {r : Option eg_V} {a : Array Value} {rest st0 : List Value} {LS : Array Slot} (hr : va_Run p l e R s m args below meth c H locs cells slots mc ms (F0 m pc LS st0) rest (eg_Qc X lv D A ad σ σ2 r a) A) (hI : eg_Inv X lv D A s ad σ H locs)
    (K : ∀ (ad2 : eg_A) (H2 : Heap) (locs2 : List Loc), (∀ k i, lv σ k i → ad2.1 k i = ad.1 k i) → ad2.2 = ad.2 → eg_Inv X lv D A s ad2 σ2 H2 locs2 → (∀ v, r = some v → eg_lvV lv σ2 v) → W p l e R s m args below meth c H2 locs2 (cells + mc) (slots + ms) Q (F0 m (pc + 3) LS ((r.map (eg_cv ad2)).toList ++ rest))) :
    W p l e R s m args below meth c H locs cells slots Q (F0 m pc LS st0) := by
  intro T hT Y
  obtain ⟨v, st₀, t, T', L, h0, Y', hL, e1, e2, ⟨ad2, hv, x1, x2, x3, x4, hz, hk⟩, stp⟩ := hr T hT Y
  cases hv
  rw [h0] at hz hk
  have hvm : s.vm.Alike t.vm := by rw [← e2]; exact Y'.warmed.alike
  have hS := hI.2.2.2.1
  have hS2 : va_S A s.heap T'.heap (locs ++ L) := by
    refine ⟨Nat.le_trans hS.1 (by rw [e1]; exact hz), fun q h1 h2 => by rw [e1, hk q (Nat.lt_of_lt_of_le h1 hS.1) h2]; exact hS.2.1 q h1 h2, fun q hq => ?_⟩
    rcases List.mem_append.mp hq with h | h
    · exact hS.2.2 q h
    · exact hL q h
  obtain ⟨t2, a1, b1⟩ := K ad2 T'.heap (locs ++ L) x1 x2 (x3.back hvm e1.symm hS2) x4 T' rfl Y'
  exact ⟨t2, stp t2 a1, b1⟩
theorem eg_recv (hS : eg_Sta D A s ad) (hI : eg_Inv X lv D A s ad σ H locs) {k i : Nat} (hl : lv σ k i) (hk : pg_kc k ≠ 0) : ∃ cell : Cell, H[ad.1 k i]? = some cell ∧ cell.vm.isStatics = false ∧ s.vm.findClass (pm_c (pg_kc k)).1 = some cell.cls := by
  have hm := (hI.1 k i hl).2
  unfold eg_mem at hm
  rw [if_pos (pg_kc_ak k hk)] at hm
  by_cases h50 : k < 50
  · rw [if_pos h50] at hm
    obtain ⟨r, h1, cell, q1, q2, q3, q4⟩ := hm
    have hb : pg_kc k - 1 < 10 := (List.getElem?_eq_some_iff.mp h1).1
    have he : pg_kc k - 1 + 1 = pg_kc k := by omega
    have hr : r = pm_c (pg_kc k) := by
      have := (pm_cl_at _ hb).symm.trans h1
      rw [he] at this
      exact (Option.some.inj this).symm
    subst hr
    exact ⟨cell, q1, by rw [q3]; rfl, by rw [q2]; exact (hS.1.1 _ _ h1).2.1⟩
  · rw [if_neg h50] at hm
    exact hm.1
theorem eg_split {n : Nat} {x : eg_V} {tl : List eg_V} (h : st.drop n = x :: tl) : st = st.take n ++ x :: tl ∧ st.take (n + 1) = st.take n ++ [x] ∧ st.drop (n + 1) = tl ∧ n < st.length := by
  have hn : n < st.length := by
    rcases Nat.lt_or_ge n st.length with z | z
    · exact z
    · rw [List.drop_eq_nil_of_le z] at h; cases h
  have e1 : st = st.take n ++ x :: tl := by
    have := List.take_append_drop n st
    rw [h] at this
    exact this.symm
  have hx : st[n]? = some x := by
    have := congrArg (fun z => z[0]?) h
    simpa using this
  refine ⟨e1, ?_, ?_, hn⟩
  · rw [List.take_add_one, hx]; rfl
  · have := congrArg List.tail h
    simpa [List.tail_drop] using this
end EGC
