/-! STEPS that leave the store alone, and look at nothing in it -/
section EGP
variable {p : Program} {l : Launch} {e : Env} {R : Room} {s : State} {m : MethodId} {args : Array Value} {below : List Frame} {meth : Method} {c : Code} {H : Heap} {locs : List Loc} {cells slots : Nat} {Q : State → Prop} {cc : ByteArray} {pc : Nat} {LS : Array Slot} {ad : eg_A}
theorem eg_stk_spec {S : Type} {o : Option (List eg_V)} {pc pc2 : Nat} {σ σ2 : S} {u u2 : Nat × Nat} {ls ls2 : eg_L} {st2 : List eg_V} {g : Bool} (h : eg_stk o pc σ u ls = some (g, .inl (pc2, σ2, u2, ls2, st2))) : o = some st2 ∧ pc2 = pc ∧ σ2 = σ ∧ u2 = u ∧ ls2 = ls ∧ g = true := by
  cases o with
  | none => cases h
  | some w => cases h; exact ⟨rfl, rfl, rfl, rfl, rfl, rfl⟩
theorem eg_psh_spec {S : Type} {o : Option eg_V} {pc pc2 : Nat} {σ σ2 : S} {u u2 : Nat × Nat} {ls ls2 : eg_L} {st st2 : List eg_V} {g : Bool} (h : eg_psh o pc σ u ls st = some (g, .inl (pc2, σ2, u2, ls2, st2))) : ∃ v, o = some v ∧ st2 = v :: st ∧ pc2 = pc ∧ σ2 = σ ∧ u2 = u ∧ ls2 = ls ∧ g = true := by
  cases o with
  | none => cases h
  | some w => cases h; exact ⟨w, rfl, rfl, rfl, rfl, rfl, rfl, rfl⟩
theorem eg_bin_spec {f : Int32 → Int32 → Int32} {st st2 : List eg_V} (h : eg_bin f st = some st2) : ∃ x y r, st = .inl y :: .inl x :: r ∧ st2 = .inl (f x y) :: r := by
  unfold eg_bin at h
  split at h
  · cases h; exact ⟨_, _, _, rfl, rfl⟩
  · cases h
theorem eg_un_spec {f : Int32 → Int32} {st st2 : List eg_V} (h : eg_un f st = some st2) : ∃ x r, st = .inl x :: r ∧ st2 = .inl (f x) :: r := by
  unfold eg_un at h
  split at h
  · cases h; exact ⟨_, _, rfl, rfl⟩
  · cases h
theorem eg_geti_spec {l : eg_L} {i : Nat} {v : eg_V} (h : eg_geti l i = some v) : ∃ x, v = .inl x ∧ eg_get l i = some (.inl x) := by
  unfold eg_geti at h
  split at h
  · cases h; exact ⟨_, rfl, by assumption⟩
  · cases h
theorem eg_getr_spec {l : eg_L} {i : Nat} {v : eg_V} (h : eg_getr l i = some v) : ∃ q, v = .inr q ∧ eg_get l i = some (.inr q) := by
  unfold eg_getr at h
  split at h
  · cases h; exact ⟨_, rfl, by assumption⟩
  · cases h
theorem eg_put_live {P : eg_V → Prop} {ls : eg_L} {i : Nat} {v : eg_V} (h : ∀ q ∈ ls, P q.2) (hv : P v) : ∀ q ∈ eg_put ls i v, P q.2 := by
  intro q hq
  rcases List.mem_cons.mp hq with rfl | hq
  · exact hv
  · exact h q (List.mem_filter.mp hq).1
/-- storing any value -/
theorem eg_store_n (hx : p.tables.exec = Jvm.exec) (hb : c.code = cc) (hz : eg_zk ad) {k : Fin 4} {nL : Nat} {ls : eg_L} {v : Nat × Nat} {rest : List Value} (hdg : decode cc pc = .ok (.astore_n k, 1)) (hl : lv_has LS nL (eg_hl ad ls)) (hn : (k : Nat) < nL)
    (kk : ∀ LS2 : Array Slot, lv_has LS2 nL (eg_hl ad (eg_put ls k (.inr v))) → W p l e R s m args below meth c H locs cells slots Q (F0 m (pc + 1) LS2 rest)) : W p l e R s m args below meth c H locs cells slots Q (F0 m pc LS (eg_cv ad (.inr v) :: rest)) := by
  rcases eg_cv_r hz v with h | ⟨t, h⟩
  · rw [h]
    exact lv_astore_nN hx hb hdg rfl hl hn rfl (fun LS2 h2 => kk LS2 (eg_put_l hz (by rw [h]; exact h2)))
  · rw [h]
    exact lv_astore_n hx hb hdg rfl hl hn rfl (fun LS2 h2 => kk LS2 (eg_put_l hz (by rw [h]; exact h2)))
theorem eg_store (hx : p.tables.exec = Jvm.exec) (hb : c.code = cc) (hz : eg_zk ad) {k nL : Nat} {ls : eg_L} {v : Nat × Nat} {rest : List Value} (hdg : decode cc pc = .ok (.astore k, 2)) (hl : lv_has LS nL (eg_hl ad ls)) (hn : k < nL)
    (kk : ∀ LS2 : Array Slot, lv_has LS2 nL (eg_hl ad (eg_put ls k (.inr v))) → W p l e R s m args below meth c H locs cells slots Q (F0 m (pc + 2) LS2 rest)) : W p l e R s m args below meth c H locs cells slots Q (F0 m pc LS (eg_cv ad (.inr v) :: rest)) := by
  rcases eg_cv_r hz v with h | ⟨t, h⟩
  · rw [h]
    exact lv_astoreN hx hb hdg hl hn rfl (fun LS2 h2 => kk LS2 (eg_put_l hz (by rw [h]; exact h2)))
  · rw [h]
    exact lv_astore hx hb hdg hl hn rfl (fun LS2 h2 => kk LS2 (eg_put_l hz (by rw [h]; exact h2)))
theorem eg_load_n (hx : p.tables.exec = Jvm.exec) (hb : c.code = cc) (hz : eg_zk ad) {k : Fin 4} {v : Nat × Nat} {rest : List Value} (hdg : decode cc pc = .ok (.aload_n k, 1)) (hl : LS[(k : Nat)]? = some (.val (eg_cv ad (.inr v))))
    (kk : W p l e R s m args below meth c H locs cells slots Q (F0 m (pc + 1) LS (eg_cv ad (.inr v) :: rest))) : W p l e R s m args below meth c H locs cells slots Q (F0 m pc LS rest) := by
  rcases eg_cv_r hz v with h | ⟨t, h⟩
  · rw [h] at hl kk
    exact lv_aload_nN hx hb hdg rfl hl kk
  · rw [h] at hl kk
    exact lv_aload_n hx hb hdg rfl hl kk
theorem eg_load (hx : p.tables.exec = Jvm.exec) (hb : c.code = cc) (hz : eg_zk ad) {k : Nat} {v : Nat × Nat} {rest : List Value} (hdg : decode cc pc = .ok (.aload k, 2)) (hl : LS[k]? = some (.val (eg_cv ad (.inr v))))
    (kk : W p l e R s m args below meth c H locs cells slots Q (F0 m (pc + 2) LS (eg_cv ad (.inr v) :: rest))) : W p l e R s m args below meth c H locs cells slots Q (F0 m pc LS rest) := by
  rcases eg_cv_r hz v with h | ⟨t, h⟩
  · rw [h] at hl kk
    exact lv_aloadN hx hb hdg hl kk
  · rw [h] at hl kk
    exact lv_aload hx hb hdg hl kk
end EGP
