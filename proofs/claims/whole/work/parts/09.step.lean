/-! ONE STEP -/
abbrev eg_own (mi : Nat) : String := (pm_y mi).cls
def eg_fs (mi idx b a : Nat) : Prop := a < pg_nf b ∧ (Jvm.Cond.fieldLink (eg_own mi) idx ((pm_c b).2.1 a).1 ((pm_c b).2.1 a).2.1 ((pm_c b).2.1 a).2.2.1 ∈ eg_tbl ∨ ∃ host, Jvm.Cond.fieldLinkNest (eg_own mi) idx ((pm_c b).2.1 a).1 ((pm_c b).2.1 a).2.1 ((pm_c b).2.1 a).2.2.1 host ∈ eg_tbl)
def eg_ss (mi idx a : Nat) : Prop := a < pm_ns ∧ (Jvm.Cond.fieldLink (eg_own mi) idx (pm_s a).1 (pm_s a).2.1 (pm_s a).2.2 ∈ eg_tbl ∨ ∃ host, Jvm.Cond.fieldLinkNest (eg_own mi) idx (pm_s a).1 (pm_s a).2.1 (pm_s a).2.2 host ∈ eg_tbl)
/-- what every call of method j by method mi asks -/
def eg_cj (mi j n : Nat) : Prop := Jvm.Cond.code (pm_y j) (pm_b j) (pm_l j) (pm_r j) ∈ eg_tbl ∧ Jvm.Cond.initialized (pm_y j).cls ∈ eg_tbl ∧ ((pm_y j).cls ≠ "java/lang/invoke/MethodHandle" ∧ (pm_y j).cls ≠ "java/lang/invoke/VarHandle") ∧ (parseMethodDescriptor (pm_y j).desc).map (fun d => d.parameters.length) = some n ∧ (pm_f j).1 + 1 ≤ (pm_f mi).1 ∧ 8 + (pm_l j + 11) + (pm_f j).2 ≤ (pm_f mi).2 ∧ plainName (pm_y j).cls = true ∧ (pg_mt j).1 ≤ pm_l j
def eg_cV (mi idx j b : Nat) : Prop := Jvm.Cond.instanceMethod (pm_y j) ∈ eg_tbl ∧ b ≠ 0 ∧ (pg_mt j).1 = (pg_mt j).1 - 1 + 1 ∧ eg_cj mi j ((pg_mt j).1 - 1) ∧ ((Jvm.Cond.methodLink (eg_own mi) idx (pm_y j) ∈ eg_tbl ∧ Jvm.Cond.selects (pm_c b).1 (pm_y j) (pm_y j) ∈ eg_tbl) ∨ ∃ x, x.name = (pm_y j).name ∧ x.desc = (pm_y j).desc ∧ Jvm.Cond.methodLink (eg_own mi) idx x ∈ eg_tbl ∧ Jvm.Cond.sameMethod x.cls (pm_y j).cls x.name x.desc ∈ eg_tbl ∧ Jvm.Cond.selects (pm_c b).1 x (pm_y j) ∈ eg_tbl)
def eg_cS (mi idx j : Nat) : Prop := Jvm.Cond.methodLink (eg_own mi) idx (pm_y j) ∈ eg_tbl ∧ Jvm.Cond.static (pm_y j) ∈ eg_tbl ∧ eg_cj mi j (pg_mt j).1
def eg_cI (mi idx j b : Nat) : Prop := Jvm.Cond.instanceMethod (pm_y j) ∈ eg_tbl ∧ b ≠ 0 ∧ (pg_mt j).1 = (pg_mt j).1 - 1 + 1 ∧ eg_cj mi j ((pg_mt j).1 - 1) ∧ (((pm_y j).name = "<init>" ∧ pm_r j = none ∧ (Jvm.Cond.methodLink (eg_own mi) idx (pm_y j) ∈ eg_tbl ∨ ∃ host, Jvm.Cond.methodLinkNest (eg_own mi) idx (pm_y j) host ∈ eg_tbl)) ∨ ((pm_y j).name ≠ "<init>" ∧ b ≤ 10 ∧ Jvm.Cond.methodLink (eg_own mi) idx (pm_y j) ∈ eg_tbl ∧ Jvm.Cond.sameMethod (pm_y j).cls (pm_y j).cls (pm_y j).name (pm_y j).desc ∈ eg_tbl ∧ Jvm.Cond.superclass (eg_own mi) (pm_y j).cls ∈ eg_tbl))
def eg_site (mi pc : Nat) (I : Jvm.ClassFile.Instr) (a b : Nat) : Prop := match I with
  | .ifCond _ off => (pc : Int) + off = (a : Int)
  | .if_icmp _ off => (pc : Int) + off = (a : Int)
  | .if_acmp _ off => (pc : Int) + off = (a : Int)
  | .goto off => (pc : Int) + off = (a : Int)
  | .ifnull off => (pc : Int) + off = (a : Int)
  | .ifnonnull off => (pc : Int) + off = (a : Int)
  | .istore_n k => (k : Nat) < pm_l mi
  | .astore_n k => (k : Nat) < pm_l mi
  | .istore k => k < pm_l mi
  | .astore k => k < pm_l mi
  | .iinc k _ => k < pm_l mi
  | .tableswitch d lo hi offs => 0 ≤ (pc : Int) + d ∧ (hi - lo).toNat < offs.size ∧ (offs.toList.all (fun o => decide (0 ≤ (pc : Int) + o))) = true
  | .lookupswitch d ps => (ps.toList.zip (ps.toList.drop 1)).all (fun (a, next) => a.1 < next.1) = true ∧ 0 ≤ (pc : Int) + d ∧ (ps.toList.all (fun q => decide (0 ≤ (pc : Int) + q.2))) = true
  | .ldc idx => (b = 0 ∧ Jvm.Cond.constant (eg_own mi) idx (Int32.ofNat a) ∈ eg_tbl) ∨ (b = 53 ∧ a = 0 ∧ eg_own mi = "UnitDesk$Reading" ∧ idx = 125)
  | .getfield idx => eg_fs mi idx b a
  | .putfield idx => eg_fs mi idx b a ∧ 1 ≤ b ∧ b ≤ 10 ∧ (((pm_c b).2.1 a).2.2.2 = true → (pm_y mi).name = "<init>" ∧ ((pm_c b).2.1 a).1 = eg_own mi ∧ Jvm.Cond.fieldLink (eg_own mi) idx ((pm_c b).2.1 a).1 ((pm_c b).2.1 a).2.1 ((pm_c b).2.1 a).2.2.1 ∈ eg_tbl)
  | .getstatic idx => eg_ss mi idx a
  | .baload => a = 2 ∨ a = 4
  | .bastore => a = 2 ∨ a = 4
  | .aastore => a = 4 ∧ b = 8
  | .new idx => 1 ≤ pg_kc a ∧ pg_kc a ≤ 10 ∧ Jvm.Cond.classLink (eg_own mi) idx (pm_c (pg_kc a)).1 ∈ eg_tbl ∧ Jvm.Cond.instantiable (pm_c (pg_kc a)).1 (pm_c (pg_kc a)).2.2 ∈ eg_tbl ∧ Jvm.Cond.initialized (pm_c (pg_kc a)).1 ∈ eg_tbl
  | .newarray at_ => ((pg_ak a = 1 ∧ at_ = .int) ∨ (pg_ak a = 2 ∧ at_ = .byte) ∨ (pg_ak a = 4 ∧ at_ = .boolean)) ∧ a ≠ 8 ∧ Jvm.Cond.arrayClass (newarray.typeOf at_) ∈ eg_tbl
  | .anewarray idx => a = 8 ∧ Jvm.Cond.classLink (eg_own mi) idx "UnitDesk$Item" ∈ eg_tbl
  | .invokestatic idx => (b = 99 ∧ Jvm.Cond.methodLink (eg_own mi) idx arraycopyName ∈ eg_tbl ∧ Jvm.Cond.native arraycopyName ∈ eg_tbl ∧ Jvm.Cond.static arraycopyName ∈ eg_tbl ∧ Jvm.Cond.initialized "java/lang/System" ∈ eg_tbl ∧ 1 ≤ (pm_f mi).1 ∧ 8 + (nativeFrameWords "java/lang/System" "arraycopy" 5 + 11) ≤ (pm_f mi).2) ∨ (b = 98 ∧ Jvm.Cond.methodLink (eg_own mi) idx Lib.Math.max.name ∈ eg_tbl ∧ Jvm.Cond.static Lib.Math.max.name ∈ eg_tbl ∧ Jvm.Cond.initialized "java/lang/Math" ∈ eg_tbl ∧ Jvm.Cond.code Lib.Math.max.name Lib.Math.max.code 2 (some .int) ∈ eg_tbl ∧ 1 ≤ (pm_f mi).1 ∧ 21 ≤ (pm_f mi).2) ∨ (b = 97 ∧ Jvm.Cond.methodLink (eg_own mi) idx Lib.Math.min.name ∈ eg_tbl ∧ Jvm.Cond.static Lib.Math.min.name ∈ eg_tbl ∧ Jvm.Cond.initialized "java/lang/Math" ∈ eg_tbl ∧ Jvm.Cond.code Lib.Math.min.name Lib.Math.min.code 2 (some .int) ∈ eg_tbl ∧ 1 ≤ (pm_f mi).1 ∧ 21 ≤ (pm_f mi).2) ∨ ((b ≠ 99 ∧ b ≠ 98 ∧ b ≠ 97) ∧ eg_cS mi idx a)
  | .invokespecial idx => (b = 99 ∧ Jvm.Cond.methodLink (eg_own mi) idx Lib.objectInit ∈ eg_tbl ∧ Jvm.Cond.instanceMethod Lib.objectInit ∈ eg_tbl ∧ Jvm.Cond.code Lib.objectInit ⟨#[0xb1]⟩ 1 none ∈ eg_tbl ∧ 1 ≤ (pm_f mi).1 ∧ 20 ≤ (pm_f mi).2) ∨ (b ≠ 99 ∧ eg_cI mi idx a b)
  | .invokevirtual idx => eg_cV mi idx a b
  | .ireturn => (a = 1 ∧ pm_r mi = some .int) ∨ (a = 2 ∧ pm_r mi = some .boolean) ∨ (a = 3 ∧ pm_r mi = some .char) ∨ (a = 4 ∧ pm_r mi = some .byte)
  | .areturn => ∃ rt, pm_r mi = some rt ∧ ((∃ n, rt = .object n) ∨ ∃ t, rt = .array t)
  | .return_ => pm_r mi = none
  | _ => True
section EGN
variable {S : Type} (X : eg_X S) (lv : S → Nat → Nat → Prop) (D : va_G) (A : Nat → Prop)
def eg_Nx (p : Program) (l : Launch) (e : Env) (R : Room) (s : State) (m : MethodId) (args : Array Value) (below : List Frame) (meth : Method) (c : Code) (Q : State → Prop) (mi pc : Nat) (σ : S) (u : Nat × Nat) (ls : eg_L) (st : List eg_V) (pc2 : Nat) (σ2 : S) (u2 : Nat × Nat) (ls2 : eg_L) (st2 : List eg_V) : Prop :=
  ∀ (ad : eg_A) (H : Heap) (locs : List Loc) (LS : Array Slot), eg_Sta D A s ad → eg_Inv X lv D A s ad σ H locs → lv_has LS (pm_l mi) (eg_hl ad ls) → eg_LV lv σ ls st →
    (∀ (ad2 : eg_A) (H2 : Heap) (locs2 : List Loc) (LS2 : Array Slot), (∀ k i, lv σ k i → ad2.1 k i = ad.1 k i) → ad2.2 = ad.2 → eg_Sta D A s ad2 → eg_Inv X lv D A s ad2 σ2 H2 locs2 → lv_has LS2 (pm_l mi) (eg_hl ad2 ls2) → eg_LV lv σ2 ls2 st2 → W p l e R s m args below meth c H2 locs2 u2.1 u2.2 Q (F0 m pc2 LS2 (st2.map (eg_cv ad2)))) →
    W p l e R s m args below meth c H locs u.1 u.2 Q (F0 m pc LS (st.map (eg_cv ad)))
variable {X lv D A}
variable {p : Program} {l : Launch} {e : Env} {R : Room} {s : State} {m : MethodId} {args : Array Value} {below : List Frame} {meth : Method} {c : Code} {Q : State → Prop} {mi pc pc2 : Nat} {σ σ2 : S} {u u2 : Nat × Nat} {ls ls2 : eg_L} {st st2 : List eg_V}
theorem eg_LV.drop {v : eg_V} (h : eg_LV lv σ ls (v :: st)) : eg_LV lv σ ls st := ⟨h.1, fun w hw => h.2 w (List.mem_cons_of_mem _ hw)⟩
theorem eg_LV.top {v : eg_V} (h : eg_LV lv σ ls (v :: st)) : eg_lvV lv σ v := h.2 v List.mem_cons_self
theorem eg_LV.push {v : eg_V} (h : eg_LV lv σ ls st) (hv : eg_lvV lv σ v) : eg_LV lv σ ls (v :: st) := ⟨h.1, fun w hw => (List.mem_cons.mp hw).elim (fun e => by rw [e]; exact hv) (h.2 w)⟩
theorem eg_LV.put {v : eg_V} {i : Nat} (h : eg_LV lv σ ls st) (hv : eg_lvV lv σ v) : eg_LV lv σ (eg_put ls i v) st := ⟨eg_put_live h.1 hv, h.2⟩
theorem eg_LV.get {v : eg_V} {i : Nat} (h : eg_LV lv σ ls st) (hg : eg_get ls i = some v) : eg_lvV lv σ v := h.1 (i, v) (eg_get_mem hg)
/-- store, memory and frame's numbers stay -/
theorem eg_Nx.same (h : ∀ (ad : eg_A) (H : Heap) (locs : List Loc) (LS : Array Slot), eg_Sta D A s ad → eg_Inv X lv D A s ad σ H locs → lv_has LS (pm_l mi) (eg_hl ad ls) → eg_LV lv σ ls st →
    (∀ (LS2 : Array Slot), lv_has LS2 (pm_l mi) (eg_hl ad ls2) → eg_LV lv σ ls2 st2 → W p l e R s m args below meth c H locs u.1 u.2 Q (F0 m pc2 LS2 (st2.map (eg_cv ad)))) →
    W p l e R s m args below meth c H locs u.1 u.2 Q (F0 m pc LS (st.map (eg_cv ad)))) : eg_Nx X lv D A p l e R s m args below meth c Q mi pc σ u ls st pc2 σ u ls2 st2 :=
  fun ad H locs LS hS hI hl hv K => h ad H locs LS hS hI hl hv (fun LS2 hl2 hv2 => K ad H locs LS2 (fun _ _ _ => rfl) rfl hS hI hl2 hv2)
theorem eg_nx_bin {f : Int32 → Int32 → Int32} {g : Bool} (h : eg_stk (eg_bin f st) (pc + 1) σ u ls = some (g, .inl (pc2, σ2, u2, ls2, st2)))
    (row : ∀ (H : Heap) (locs : List Loc) (LS : Array Slot) (x y : Int32) (rest : List Value), W p l e R s m args below meth c H locs u.1 u.2 Q (F0 m (pc + 1) LS (.int (f x y) :: rest)) → W p l e R s m args below meth c H locs u.1 u.2 Q (F0 m pc LS (.int y :: .int x :: rest))) : eg_Nx X lv D A p l e R s m args below meth c Q mi pc σ u ls st pc2 σ2 u2 ls2 st2 := by
  obtain ⟨h1, rfl, rfl, rfl, rfl, -⟩ := eg_stk_spec h
  obtain ⟨x, y, r, rfl, rfl⟩ := eg_bin_spec h1
  exact eg_Nx.same (fun ad H locs LS hS hI hl hv K => row H locs LS x y _ (K LS hl (hv.drop.drop.push trivial)))
theorem eg_nx_un {f : Int32 → Int32} {g : Bool} (h : eg_stk (eg_un f st) (pc + 1) σ u ls = some (g, .inl (pc2, σ2, u2, ls2, st2)))
    (row : ∀ (H : Heap) (locs : List Loc) (LS : Array Slot) (x : Int32) (rest : List Value), W p l e R s m args below meth c H locs u.1 u.2 Q (F0 m (pc + 1) LS (.int (f x) :: rest)) → W p l e R s m args below meth c H locs u.1 u.2 Q (F0 m pc LS (.int x :: rest))) : eg_Nx X lv D A p l e R s m args below meth c Q mi pc σ u ls st pc2 σ2 u2 ls2 st2 := by
  obtain ⟨h1, rfl, rfl, rfl, rfl, -⟩ := eg_stk_spec h
  obtain ⟨x, r, rfl, rfl⟩ := eg_un_spec h1
  exact eg_Nx.same (fun ad H locs LS hS hI hl hv K => row H locs LS x _ (K LS hl (hv.drop.push trivial)))
theorem eg_nx_dv {f : Int32 → Int32 → Int32} (h : eg_dv f (pc + 1) σ u ls st = some (true, .inl (pc2, σ2, u2, ls2, st2)))
    (row : ∀ (H : Heap) (locs : List Loc) (LS : Array Slot) (x y : Int32) (rest : List Value), ¬ y = 0 → W p l e R s m args below meth c H locs u.1 u.2 Q (F0 m (pc + 1) LS (.int (f x y) :: rest)) → W p l e R s m args below meth c H locs u.1 u.2 Q (F0 m pc LS (.int y :: .int x :: rest))) : eg_Nx X lv D A p l e R s m args below meth c Q mi pc σ u ls st pc2 σ2 u2 ls2 st2 := by
  unfold eg_dv at h
  split at h
  · rename_i y x r
    simp only [Option.some.injEq, Prod.mk.injEq, Sum.inl.injEq] at h
    obtain ⟨h0, rfl, rfl, rfl, rfl, rfl⟩ := h
    exact eg_Nx.same (fun ad H locs LS hS hI hl hv K => row H locs LS x y _ (by simpa using h0) (K LS hl (hv.drop.drop.push trivial)))
  · cases h
theorem eg_nx_b1 {f : Int32 → Bool} {t : Nat} {g : Bool} (h : eg_b1 f t (pc + 3) σ u ls st = some (g, .inl (pc2, σ2, u2, ls2, st2)))
    (row : ∀ (H : Heap) (locs : List Loc) (LS : Array Slot) (x : Int32) (rest : List Value), (f x = true → W p l e R s m args below meth c H locs u.1 u.2 Q (F0 m t LS rest)) → (f x = false → W p l e R s m args below meth c H locs u.1 u.2 Q (F0 m (pc + 3) LS rest)) → W p l e R s m args below meth c H locs u.1 u.2 Q (F0 m pc LS (.int x :: rest))) : eg_Nx X lv D A p l e R s m args below meth c Q mi pc σ u ls st pc2 σ2 u2 ls2 st2 := by
  unfold eg_b1 at h
  split at h
  · rename_i x r
    simp only [Option.some.injEq, Prod.mk.injEq, Sum.inl.injEq] at h
    obtain ⟨-, rfl, rfl, rfl, rfl, rfl⟩ := h
    refine eg_Nx.same (fun ad H locs LS hS hI hl hv K => row H locs LS x _ (fun hf => ?_) (fun hf => ?_))
    · have := K LS hl hv.drop
      rw [hf] at this
      exact this
    · have := K LS hl hv.drop
      rw [hf] at this
      exact this
  · cases h
theorem eg_nx_b2 {f : Int32 → Int32 → Bool} {t : Nat} {g : Bool} (h : eg_b2 f t (pc + 3) σ u ls st = some (g, .inl (pc2, σ2, u2, ls2, st2)))
    (row : ∀ (H : Heap) (locs : List Loc) (LS : Array Slot) (x y : Int32) (rest : List Value), (f x y = true → W p l e R s m args below meth c H locs u.1 u.2 Q (F0 m t LS rest)) → (f x y = false → W p l e R s m args below meth c H locs u.1 u.2 Q (F0 m (pc + 3) LS rest)) → W p l e R s m args below meth c H locs u.1 u.2 Q (F0 m pc LS (.int y :: .int x :: rest))) : eg_Nx X lv D A p l e R s m args below meth c Q mi pc σ u ls st pc2 σ2 u2 ls2 st2 := by
  unfold eg_b2 at h
  split at h
  · rename_i y x r
    simp only [Option.some.injEq, Prod.mk.injEq, Sum.inl.injEq] at h
    obtain ⟨-, rfl, rfl, rfl, rfl, rfl⟩ := h
    refine eg_Nx.same (fun ad H locs LS hS hI hl hv K => row H locs LS x y _ (fun hf => ?_) (fun hf => ?_))
    · have := K LS hl hv.drop.drop
      rw [hf] at this
      exact this
    · have := K LS hl hv.drop.drop
      rw [hf] at this
      exact this
  · cases h
theorem eg_nx_sti {i n : Nat} {g : Bool} (h : eg_sti i n σ u ls st = some (g, .inl (pc2, σ2, u2, ls2, st2)))
    (row : ∀ (ad : eg_A) (H : Heap) (locs : List Loc) (LS : Array Slot) (x : Int32) (rest : List Value), lv_has LS (pm_l mi) (eg_hl ad ls) → eg_zk ad → (∀ LS2 : Array Slot, lv_has LS2 (pm_l mi) (eg_hl ad (eg_put ls i (.inl x))) → W p l e R s m args below meth c H locs u.1 u.2 Q (F0 m n LS2 rest)) → W p l e R s m args below meth c H locs u.1 u.2 Q (F0 m pc LS (.int x :: rest))) : eg_Nx X lv D A p l e R s m args below meth c Q mi pc σ u ls st pc2 σ2 u2 ls2 st2 := by
  unfold eg_sti at h
  split at h
  · rename_i x r
    simp only [Option.some.injEq, Prod.mk.injEq, Sum.inl.injEq] at h
    obtain ⟨-, rfl, rfl, rfl, rfl, rfl⟩ := h
    exact eg_Nx.same (fun ad H locs LS hS hI hl hv K => row ad H locs LS x _ hl hS.2.2.2.2.1 (fun LS2 hl2 => K LS2 hl2 (hv.drop.put trivial)))
  · cases h
theorem eg_nx_str {i n : Nat} {g : Bool} (h : eg_str i n σ u ls st = some (g, .inl (pc2, σ2, u2, ls2, st2)))
    (row : ∀ (ad : eg_A) (H : Heap) (locs : List Loc) (LS : Array Slot) (q : Nat × Nat) (rest : List Value), lv_has LS (pm_l mi) (eg_hl ad ls) → eg_zk ad → (∀ LS2 : Array Slot, lv_has LS2 (pm_l mi) (eg_hl ad (eg_put ls i (.inr q))) → W p l e R s m args below meth c H locs u.1 u.2 Q (F0 m n LS2 rest)) → W p l e R s m args below meth c H locs u.1 u.2 Q (F0 m pc LS (eg_cv ad (.inr q) :: rest))) : eg_Nx X lv D A p l e R s m args below meth c Q mi pc σ u ls st pc2 σ2 u2 ls2 st2 := by
  unfold eg_str at h
  split at h
  · rename_i q r
    simp only [Option.some.injEq, Prod.mk.injEq, Sum.inl.injEq] at h
    obtain ⟨-, rfl, rfl, rfl, rfl, rfl⟩ := h
    exact eg_Nx.same (fun ad H locs LS hS hI hl hv K => row ad H locs LS q _ hl hS.2.2.2.2.1 (fun LS2 hl2 => K LS2 hl2 (hv.drop.put hv.top)))
  · cases h
end EGN
