/-! WHAT THE ENGINE'S VALUES MEAN on the machine -/
abbrev eg_A : Type := (Nat → Nat → Nat) × (Nat → Value)
def eg_cv (ad : eg_A) : eg_V → Value
  | .inl x => .int x
  | .inr q => bif Nat.beq q.1 0 then .null else bif Nat.beq q.1 1 then ad.2 q.2 else .ref (ad.1 q.1 q.2)
def eg_zk (ad : eg_A) : Prop := ∀ i, ad.2 i = .null ∨ ∃ t, ad.2 i = .ref t
theorem eg_cv_r {ad : eg_A} (hz : eg_zk ad) (q : Nat × Nat) : eg_cv ad (.inr q) = .null ∨ ∃ t, eg_cv ad (.inr q) = .ref t := by
  show (bif Nat.beq q.1 0 then Value.null else bif Nat.beq q.1 1 then ad.2 q.2 else Value.ref (ad.1 q.1 q.2)) = .null ∨ ∃ t, (bif Nat.beq q.1 0 then Value.null else bif Nat.beq q.1 1 then ad.2 q.2 else Value.ref (ad.1 q.1 q.2)) = .ref t
  cases Nat.beq q.1 0 with
  | true => exact Or.inl rfl
  | false =>
    cases Nat.beq q.1 1 with
    | true => exact hz q.2
    | false => exact Or.inr ⟨_, rfl⟩
theorem eg_cat {ad : eg_A} (hz : eg_zk ad) (v : eg_V) : (eg_cv ad v).category = 1 := by
  cases v with
  | inl x => rfl
  | inr q => rcases eg_cv_r hz q with h | ⟨t, h⟩ <;> rw [h] <;> rfl
theorem eg_cats {ad : eg_A} (hz : eg_zk ad) : ∀ st : List eg_V, ((st.map (eg_cv ad)).map fun v => v.category).sum = st.length
  | [] => rfl
  | v :: l => by
    simp only [List.map_cons, List.sum_cons, List.length_cons, eg_cat hz, eg_cats hz l]
    omega
def eg_hl (ad : eg_A) (ls : eg_L) : List (Nat × Value) := ls.map (fun q => (q.1, eg_cv ad q.2))
theorem eg_get_mem : ∀ {l : eg_L} {i : Nat} {v : eg_V}, eg_get l i = some v → (i, v) ∈ l
  | [], _, _, h => by simp [eg_get] at h
  | (j, w) :: l, i, v, h => by
    unfold eg_get at h
    cases hb : Nat.beq j i with
    | true =>
      simp only [hb, cond_true, Option.some.injEq] at h
      have := Nat.eq_of_beq_eq_true hb
      subst this; subst h
      exact List.mem_cons_self
    | false =>
      simp only [hb, cond_false] at h
      exact List.mem_cons_of_mem _ (eg_get_mem h)
theorem eg_at_l {ad : eg_A} {LS : Array Slot} {nL i : Nat} {ls : eg_L} {v : eg_V} (h : lv_has LS nL (eg_hl ad ls)) (hg : eg_get ls i = some v) : LS[i]? = some (.val (eg_cv ad v)) :=
  h.2.2 (i, eg_cv ad v) (List.mem_map.mpr ⟨(i, v), eg_get_mem hg, rfl⟩)
theorem eg_put_l {ad : eg_A} (hz : eg_zk ad) {LS : Array Slot} {nL i : Nat} {ls : eg_L} {v : eg_V} (h : lv_has LS nL ((i, eg_cv ad v) :: (eg_hl ad ls).filter (fun q => !(q.1 == i) && !(q.1 + 1 == i && q.2.category == 2)))) : lv_has LS nL (eg_hl ad (eg_put ls i v)) := by
  refine ⟨h.1, h.2.1, fun q hq => h.2.2 q ?_⟩
  obtain ⟨r, hr, rfl⟩ := List.mem_map.mp hq
  rcases List.mem_cons.mp hr with rfl | hr
  · exact List.mem_cons_self
  · obtain ⟨h1, h2⟩ := List.mem_filter.mp hr
    refine List.mem_cons_of_mem _ (List.mem_filter.mpr ⟨List.mem_map.mpr ⟨r, h1, rfl⟩, ?_⟩)
    have hne : ¬ r.1 = i := by
      intro e
      rw [e, Nat.beq_refl] at h2
      cases h2
    simp [eg_cat hz, hne]
theorem eg_ent_l (ad : eg_A) (hz : eg_zk ad) : ∀ (vs : List eg_V) (n : Nat), lv_args n (vs.map (eg_cv ad)) = eg_hl ad (eg_ent n vs)
  | [], n => rfl
  | v :: vs, n => by
    show lv_args n (eg_cv ad v :: vs.map (eg_cv ad)) = (n, eg_cv ad v) :: eg_hl ad (eg_ent (n + 1) vs)
    rw [← eg_ent_l ad hz vs (n + 1)]
    simp [lv_args, eg_cat hz]
/-! words that stand in every state of a run -/
def eg_gw : Jvm.Cond → Bool
  | .fieldLinkNest .. => true
  | .methodLinkNest .. => true
  | w => goodWord w
theorem eg_gw_at {w : Jvm.Cond} (hw : eg_gw w = true) {s U : State} (hW : s.WarmedH U.vm) (h : va_Nw w s) : va_Nw w U := by
  cases w
  case fieldLinkNest a i b n d h2 => exact va_Nw.warmF hW h
  case methodLinkNest a i x h2 => exact va_Nw.warmM hW h
  all_goals exact word_at hW (good_of_word hw) h
def eg_Wd (s : State) : Prop := ∀ w ∈ eg_tbl, eg_gw w = true → va_Nw w s
theorem eg_Wd.moved {s U : State} (hW : s.WarmedH U.vm) (h : eg_Wd s) : eg_Wd U := fun w hw hg => eg_gw_at hg hW (h w hw hg)
theorem eg_Wd.use {s : State} (h : eg_Wd s) {w : Jvm.Cond} (hm : w ∈ eg_tbl) (hg : eg_gw w = true) {args : Array Value} : w.before args s = true := by
  cases w
  case fieldLinkNest a i b n d h2 => exact va_Nw.use rfl (h _ hm hg)
  case methodLinkNest a i x h2 => exact va_Nw.use rfl (h _ hm hg)
  all_goals exact word_at (State.WarmedH.refl s) (good_of_word hg) (h _ hm hg)
/-! memory -/
def eg_arr (U : State) (ty : FieldType) (a n : Nat) (f : Nat → Value) (H : Heap) : Prop := ∃ cell : Cell, H[a]? = some cell ∧ U.isArrayOf cell ty ∧ cell.vm ≠ .unknown ∧ n ≤ cell.slots.size ∧ cell.slots.size.toInt32 = Int32.ofNat n ∧ ∀ j, j < n → cell.slots[j]? = some (f j)
def eg_fld (U : State) (b j a : Nat) (v : Value) (H : Heap) : Prop := ∃ (cf : ClassId) (kf : Class) (fi : Nat) (f : Field) (cell : Cell), U.fieldFound? ((pm_c b).2.1 j).1 ((pm_c b).2.1 j).2.1 ((pm_c b).2.1 j).2.2.1 = some (cf, kf, fi, f) ∧ f.isStatic = false ∧ H[a]? = some cell ∧ cell.vm ≠ .unknown ∧ cell.slots[f.slot]? = some v
def eg_nv (t : Nat) (v : eg_V) : eg_V := bif Nat.beq t 5 then .inr (eg_ref v) else .inl (eg_int v)
section EGM
variable {S : Type} (X : eg_X S) (lv : S → Nat → Nat → Prop) (D : va_G) (A : Nat → Prop)
def eg_mem (U : State) (ad : eg_A) (σ : S) (k i : Nat) (H : Heap) : Prop :=
  if pg_ak k = 0 then
    (if k < 50 then va_at D pm_cl (ad.1 k i, .inr (pg_kc k - 1, (List.range (pg_nf (pg_kc k))).map (fun j => eg_cv ad (X.1 σ k i j)))) H
    else (∃ cell : Cell, H[ad.1 k i]? = some cell ∧ cell.vm.isStatics = false ∧ U.vm.findClass (pm_c (pg_kc k)).1 = some cell.cls) ∧ ∀ j, j < pg_nf (pg_kc k) → eg_fld U (pg_kc k) j (ad.1 k i) (eg_cv ad (X.1 σ k i j)) H)
  else eg_arr U (pm_at k) (ad.1 k i) (X.2.1 σ k i) (fun j => eg_cv ad (eg_nv (pg_ak k) (X.1 σ k i j))) H ∧ (k = 8 → ∃ cell : Cell, H[ad.1 k i]? = some cell ∧ va_RA U cell.cls (.object "UnitDesk$Item"))
def eg_lvV (σ : S) : eg_V → Prop
  | .inl _ => True
  | .inr q => q.1 = 0 ∨ q.1 = 1 ∨ lv σ q.1 q.2
/-- how many places a cell has -/
def eg_wid (σ : S) (k i : Nat) : Nat := if pg_ak k = 0 then pg_nf (pg_kc k) else X.2.1 σ k i
def eg_Inv (s : State) (ad : eg_A) (σ : S) (H : Heap) (locs : List Loc) : Prop :=
  (∀ k i, lv σ k i → 2 ≤ k ∧ eg_mem X D s ad σ k i H) ∧ (∀ k i, lv σ k i → (A (ad.1 k i) ↔ k < 50)) ∧
  (∀ k i k2 i2, lv σ k i → lv σ k2 i2 → (k < 50 ∨ (k = 50 ∧ k2 = 50)) → ad.1 k i = ad.1 k2 i2 → k = k2 ∧ i = i2) ∧ va_S A s.heap H locs ∧
  (∀ k i j, lv σ k i → j < eg_wid X σ k i → eg_lvV lv σ (X.1 σ k i j))
def eg_Sta (s : State) (ad : eg_A) : Prop := va_K D pm_cl [] s ∧ eg_Wd s ∧ (∀ a, a < pm_ns → va_Z (pm_s a).1 (pm_s a).2.1 (pm_s a).2.2 (eg_cv ad (pg_sg a)) A s s.heap) ∧ (∀ q, s.heap.size ≤ q → A q) ∧ eg_zk ad ∧ vk_R "UnitDesk$Reading" 125 " v" (ad.1 53 0) s ∧ va_AO "UnitDesk$Item" s
def eg_LV (σ : S) (ls : eg_L) (st : List eg_V) : Prop := (∀ q ∈ ls, eg_lvV lv σ q.2) ∧ ∀ v ∈ st, eg_lvV lv σ v
end EGM
def eg_Cx (mi : Nat) (p : Program) (s : State) (m : MethodId) (meth : Method) (c : Code) : Prop := p.tables.exec = Jvm.exec ∧ c.code = pm_b mi ∧ meth.sig.returnType = pm_r mi ∧ c.maxLocals = pm_l mi ∧ s.vm.findClass (pm_y mi).cls = some m.cls ∧ meth.locks = false ∧ meth.name = (pm_y mi).name
