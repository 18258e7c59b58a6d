/-! THE ENGINE IS RIGHT -/
section EGT
variable {S : Type} {X : eg_X S} {lv : S → Nat → Nat → Prop} {D : va_G} {A : Nat → Prop}
variable {p : Program} {l : Launch} {e : Env} {s : State} {m : MethodId} {args : Array Value} {below : List Frame} {meth : Method} {c : Code} {Q : State → Prop} {mi pc n j b idx : Nat} {σ σ1 : S} {u : Nat × Nat} {ls : eg_L} {st av : List eg_V} {ad : eg_A} {H : Heap} {locs : List Loc} {LS : Array Slot} {r1 : Option eg_V}
theorem eg_rest_ok {tl : List eg_V} {ad2 : eg_A} (hv : ∀ v ∈ tl, eg_lvV lv σ v) (h1 : ∀ k i, lv σ k i → ad2.1 k i = ad.1 k i) (h2 : ad2.2 = ad.2) : (r1.map (eg_cv ad2)).toList ++ tl.map (eg_cv ad) = (r1.toList ++ tl).map (eg_cv ad2) := by
  rw [List.map_append, eg_st_ext hv h1 h2]
  cases r1 <;> rfl
theorem eg_words {j : Nat} {nn : Nat} (hW : eg_Wd s) (hj : eg_cj mi j nn) : (∀ w ∈ [Jvm.Cond.code (pm_y j) (pm_b j) (pm_l j) (pm_r j)], ∀ (a' : Array Value) (U : State), s.WarmedH U.vm → w.before a' U = true) ∧ (∀ sig, parseMethodDescriptor (pm_y j).desc = some sig → nn = sig.parameters.length) := by
  refine ⟨fun w hw a' U hU => ?_, fun sig h => ?_⟩
  · rcases List.mem_singleton.mp hw with rfl
    exact (hW.moved hU).use hj.1 rfl
  · have h2 := hj.2.2.2.1
    rw [h] at h2
    exact (Option.some.inj h2).symm
theorem eg_call_V (IH : eg_Snd X lv D A l n) (hC : eg_Cx mi p s m meth c) (hd : decode (pm_b mi) pc = .ok (.invokevirtual idx, 3)) (hs : eg_cV mi idx j b) (hn : (pg_mt j).1 ≤ st.length) (hrc : b = 0 ∨ eg_rcv pg_T b (st.drop ((pg_mt j).1 - 1)) = true) (hg : (Nat.ble (st.length - (pg_mt j).1) 8 && (Nat.ble (u.1 + (pg_mt j).2.1) (pg_mt mi).2.1 && Nat.ble (u.2 + (pg_mt j).2.2) (pg_mt mi).2.2)) = true)
    (hip : eg_ip X pg_T n j 0 σ (0, 0) (eg_ent 0 (st.take (pg_mt j).1).reverse) [] = some (σ1, r1)) (hS : eg_Sta D A s ad) (hI : eg_Inv X lv D A s ad σ H locs) (hl : lv_has LS (pm_l mi) (eg_hl ad ls)) (hv : eg_LV lv σ ls st)
    (K : ∀ (ad2 : eg_A) (H2 : Heap) (locs2 : List Loc), (∀ k i, lv σ k i → ad2.1 k i = ad.1 k i) → ad2.2 = ad.2 → eg_Inv X lv D A s ad2 σ1 H2 locs2 → (∀ v, r1 = some v → eg_lvV lv σ1 v) → W p l e (pm_R mi) s m args below meth c H2 locs2 (u.1 + (pg_mt j).2.1) (u.2 + (pg_mt j).2.2) Q (F0 m (pc + 3) LS ((r1.toList ++ st.drop (pg_mt j).1).map (eg_cv ad2)))) :
    W p l e (pm_R mi) s m args below meth c H locs u.1 u.2 Q (F0 m pc LS (st.map (eg_cv ad))) := by
  obtain ⟨hx, hb, hret, hml, hown, hlk, hnm⟩ := hC
  obtain ⟨w1, hb0, hk1, hj, hlink⟩ := hs
  simp only [Bool.and_eq_true] at hg
  have hg1 := Nat.le_of_ble_eq_true hg.1
  have hg2 := Nat.le_of_ble_eq_true hg.2.1
  have hg3 := Nat.le_of_ble_eq_true hg.2.2
  have hrc := hrc.resolve_left hb0
  unfold eg_rcv at hrc
  split at hrc
  · rename_i q tl hdr
    have hkb : pg_kc q.1 = b := Nat.eq_of_beq_eq_true hrc
    subst hkb
    obtain ⟨e1, e2, e3, e4⟩ := eg_split hdr
    rw [← hk1] at e2 e3
    have hlq : eg_lvV lv σ (.inr q) := hv.2 _ (by rw [e1]; exact List.mem_append_right _ List.mem_cons_self)
    have hlv := eg_live_kc hlq hb0
    have hq2 := (hI.1 _ _ hlv).1
    have hav : (st.take (pg_mt j).1).reverse = .inr q :: (st.take ((pg_mt j).1 - 1)).reverse := by rw [e2]; simp
    have hlt : ∀ v ∈ (st.take (pg_mt j).1).reverse, eg_lvV lv σ v := fun v hv9 => hv.2 v (List.mem_of_mem_take (List.mem_reverse.mp hv9))
    have hz := hS.2.2.2.2.1
    have hM := eg_met (l := l) (ad := ad) IH hip hj.2.2.2.2.2.2.1 (by rw [List.length_reverse, List.length_take]; have := hj.2.2.2.2.2.2.2; omega) hz
    have hargs : ((st.take (pg_mt j).1).reverse).map (eg_cv ad) = .ref (ad.1 q.1 q.2) :: ((st.take ((pg_mt j).1 - 1)).reverse).map (eg_cv ad) := by rw [hav, List.map_cons, eg_cv_ref hq2]
    have hstk : st.map (eg_cv ad) = (((st.take ((pg_mt j).1 - 1)).reverse).map (eg_cv ad)).reverse ++ .ref (ad.1 q.1 q.2) :: (st.drop (pg_mt j).1).map (eg_cv ad) := by
      rw [← List.map_reverse, List.reverse_reverse, e3]
      conv => lhs; rw [e1]
      rw [List.map_append, List.map_cons, eg_cv_ref hq2]
    obtain ⟨hw1, hw2⟩ := eg_words hS.2.1 hj
    have hpre : PreV s H (pm_c (pg_kc q.1)).1 (ad.1 q.1 q.2) (eg_Pc X lv D A ad σ (st.take (pg_mt j).1).reverse) (((st.take ((pg_mt j).1 - 1)).reverse).map (eg_cv ad)) :=
      ⟨eg_Pc.blind, eg_recv hS hI hlv hb0, fun U hU hW => by rw [← hargs]; exact eg_Pc.of hS hI hlt hU hW⟩
    have hlen : (((st.take ((pg_mt j).1 - 1)).reverse).map (eg_cv ad)).length = (pg_mt j).1 - 1 := by
      rw [List.length_map, List.length_reverse, List.length_take]; omega
    have hroom : 2 * (F0 m pc LS (st.map (eg_cv ad))).monitorRoom + (((st.drop (pg_mt j).1).map (eg_cv ad)).map fun v => v.category).sum ≤ 8 := by
      rw [eg_cats hz, List.length_drop]; show 2 * 0 + _ ≤ _; omega
    have fin : ∀ a9, va_Run p l e (pm_R mi) s m args below meth c H locs u.1 u.2 (pg_mt j).2.1 (pg_mt j).2.2 (F0 m pc LS (st.map (eg_cv ad))) ((st.drop (pg_mt j).1).map (eg_cv ad)) (eg_Qc X lv D A ad σ σ1 r1 a9) A → W p l e (pm_R mi) s m args below meth c H locs u.1 u.2 Q (F0 m pc LS (st.map (eg_cv ad))) := fun a9 hr => eg_call_back hr hI (fun ad2 H2 locs2 x1 x2 x3 x4 => by
      have := K ad2 H2 locs2 x1 x2 x3 x4
      rw [← eg_rest_ok (r1 := r1) (tl := st.drop (pg_mt j).1) (fun v hv9 => hv.2 v (List.mem_of_mem_drop hv9)) x1 x2] at this
      exact this)
    rcases hlink with ⟨k1, k2⟩ | ⟨x, xn, xd, k1, k2, k3⟩
    · exact fin _ (va_runV (Ts := []) ⟨hx, hb, hml, hown, fun _ h => by cases h⟩ hM ⟨⟨rfl, rfl, hj.2.2.2.2.1, hj.2.2.2.2.2.1, hw1, List.mem_singleton.mpr rfl, hS.2.1.use hj.1 rfl, hS.2.1.use hj.2.1 rfl, hj.2.2.1, hw2, hS.2.1.use k1 rfl⟩, hS.2.1.use w1 rfl, hS.2.1.use k2 rfl⟩ hpre rfl hlen hl.1 hstk hroom hd ⟨hg2, hg3⟩)
    · have hyx : pm_y j = ⟨(pm_y j).cls, x.name, x.desc⟩ := by rw [xn, xd]
      exact fin _ (va_runU (Ts := []) (owner := (pm_y j).cls) ⟨hx, hb, hml, hown, fun _ h => by cases h⟩ hM ⟨⟨rfl, rfl, hj.2.2.2.2.1, hj.2.2.2.2.2.1, hw1, List.mem_singleton.mpr rfl⟩, hS.2.1.use hj.1 rfl, hS.2.1.use hj.2.1 rfl, hj.2.2.1, by rw [xd]; exact hw2, hS.2.1.use k1 rfl, hS.2.1.use k2 rfl, by rw [← hyx]; exact va_Decl.of (args := args) (hS.2.1.use w1 rfl) (hS.2.1.use hj.1 rfl), hS.2.1.use k3 rfl, hS.2.1.use w1 rfl⟩ hpre rfl hlen hl.1 hstk hroom hd ⟨hg2, hg3⟩)
  · cases hrc
theorem eg_call_I (IH : eg_Snd X lv D A l n) (hC : eg_Cx mi p s m meth c) (hd : decode (pm_b mi) pc = .ok (.invokespecial idx, 3)) (hs : eg_cI mi idx j b) (hn : (pg_mt j).1 ≤ st.length) (hrc : b = 0 ∨ eg_rcv pg_T b (st.drop ((pg_mt j).1 - 1)) = true) (hg : (Nat.ble (st.length - (pg_mt j).1) 8 && (Nat.ble (u.1 + (pg_mt j).2.1) (pg_mt mi).2.1 && Nat.ble (u.2 + (pg_mt j).2.2) (pg_mt mi).2.2)) = true)
    (hip : eg_ip X pg_T n j 0 σ (0, 0) (eg_ent 0 (st.take (pg_mt j).1).reverse) [] = some (σ1, r1)) (hS : eg_Sta D A s ad) (hI : eg_Inv X lv D A s ad σ H locs) (hl : lv_has LS (pm_l mi) (eg_hl ad ls)) (hv : eg_LV lv σ ls st)
    (K : ∀ (ad2 : eg_A) (H2 : Heap) (locs2 : List Loc), (∀ k i, lv σ k i → ad2.1 k i = ad.1 k i) → ad2.2 = ad.2 → eg_Inv X lv D A s ad2 σ1 H2 locs2 → (∀ v, r1 = some v → eg_lvV lv σ1 v) → W p l e (pm_R mi) s m args below meth c H2 locs2 (u.1 + (pg_mt j).2.1) (u.2 + (pg_mt j).2.2) Q (F0 m (pc + 3) LS ((r1.toList ++ st.drop (pg_mt j).1).map (eg_cv ad2)))) :
    W p l e (pm_R mi) s m args below meth c H locs u.1 u.2 Q (F0 m pc LS (st.map (eg_cv ad))) := by
  obtain ⟨hx, hb, hret, hml, hown, hlk, hnm⟩ := hC
  obtain ⟨w1, hb0, hk1, hj, hlink⟩ := hs
  simp only [Bool.and_eq_true] at hg
  have hg1 := Nat.le_of_ble_eq_true hg.1
  have hg2 := Nat.le_of_ble_eq_true hg.2.1
  have hg3 := Nat.le_of_ble_eq_true hg.2.2
  have hrc := hrc.resolve_left hb0
  unfold eg_rcv at hrc
  split at hrc
  · rename_i q tl hdr
    have hkb : pg_kc q.1 = b := Nat.eq_of_beq_eq_true hrc
    subst hkb
    obtain ⟨e1, e2, e3, e4⟩ := eg_split hdr
    rw [← hk1] at e2 e3
    have hlq : eg_lvV lv σ (.inr q) := hv.2 _ (by rw [e1]; exact List.mem_append_right _ List.mem_cons_self)
    have hlv := eg_live_kc hlq hb0
    have hq2 := (hI.1 _ _ hlv).1
    have hav : (st.take (pg_mt j).1).reverse = .inr q :: (st.take ((pg_mt j).1 - 1)).reverse := by rw [e2]; simp
    have hlt : ∀ v ∈ (st.take (pg_mt j).1).reverse, eg_lvV lv σ v := fun v hv9 => hv.2 v (List.mem_of_mem_take (List.mem_reverse.mp hv9))
    have hz := hS.2.2.2.2.1
    have hM := eg_met (l := l) (ad := ad) IH hip hj.2.2.2.2.2.2.1 (by rw [List.length_reverse, List.length_take]; have := hj.2.2.2.2.2.2.2; omega) hz
    have hargs : ((st.take (pg_mt j).1).reverse).map (eg_cv ad) = .ref (ad.1 q.1 q.2) :: ((st.take ((pg_mt j).1 - 1)).reverse).map (eg_cv ad) := by rw [hav, List.map_cons, eg_cv_ref hq2]
    have hstk : st.map (eg_cv ad) = (((st.take ((pg_mt j).1 - 1)).reverse).map (eg_cv ad)).reverse ++ .ref (ad.1 q.1 q.2) :: (st.drop (pg_mt j).1).map (eg_cv ad) := by
      rw [← List.map_reverse, List.reverse_reverse, e3]
      conv => lhs; rw [e1]
      rw [List.map_append, List.map_cons, eg_cv_ref hq2]
    obtain ⟨hw1, hw2⟩ := eg_words hS.2.1 hj
    have hpreS : PreS s H (eg_Pc X lv D A ad σ (st.take (pg_mt j).1).reverse) (.ref (ad.1 q.1 q.2) :: ((st.take ((pg_mt j).1 - 1)).reverse).map (eg_cv ad)) :=
      ⟨eg_Pc.blind, fun U hU hW => by rw [← hargs]; exact eg_Pc.of hS hI hlt hU hW⟩
    have hpre : PreV s H (pm_c (pg_kc q.1)).1 (ad.1 q.1 q.2) (eg_Pc X lv D A ad σ (st.take (pg_mt j).1).reverse) (((st.take ((pg_mt j).1 - 1)).reverse).map (eg_cv ad)) :=
      ⟨eg_Pc.blind, eg_recv hS hI hlv hb0, fun U hU hW => by rw [← hargs]; exact eg_Pc.of hS hI hlt hU hW⟩
    have hlen : (((st.take ((pg_mt j).1 - 1)).reverse).map (eg_cv ad)).length = (pg_mt j).1 - 1 := by
      rw [List.length_map, List.length_reverse, List.length_take]; omega
    have hroom : 2 * (F0 m pc LS (st.map (eg_cv ad))).monitorRoom + (((st.drop (pg_mt j).1).map (eg_cv ad)).map fun v => v.category).sum ≤ 8 := by
      rw [eg_cats hz, List.length_drop]; show 2 * 0 + _ ≤ _; omega
    have fin : ∀ a9, va_Run p l e (pm_R mi) s m args below meth c H locs u.1 u.2 (pg_mt j).2.1 (pg_mt j).2.2 (F0 m pc LS (st.map (eg_cv ad))) ((st.drop (pg_mt j).1).map (eg_cv ad)) (eg_Qc X lv D A ad σ σ1 r1 a9) A → W p l e (pm_R mi) s m args below meth c H locs u.1 u.2 Q (F0 m pc LS (st.map (eg_cv ad))) := fun a9 hr => eg_call_back hr hI (fun ad2 H2 locs2 x1 x2 x3 x4 => by
      have := K ad2 H2 locs2 x1 x2 x3 x4
      rw [← eg_rest_ok (r1 := r1) (tl := st.drop (pg_mt j).1) (fun v hv9 => hv.2 v (List.mem_of_mem_drop hv9)) x1 x2] at this
      exact this)
    rcases hlink with ⟨hin, hrn, k1 | ⟨host, k1⟩⟩ | ⟨hni, hb10, k1, k2, k3⟩
    · rw [hrn] at hM hw1
      exact fin _ (va_runI (Ts := []) ⟨hx, hb, hml, hown, fun _ h => by cases h⟩ hM ⟨⟨rfl, rfl, hj.2.2.2.2.1, hj.2.2.2.2.2.1, hw1, List.mem_singleton.mpr rfl, by rw [← hrn]; exact hS.2.1.use hj.1 rfl, hS.2.1.use hj.2.1 rfl, hj.2.2.1, hw2, hS.2.1.use k1 rfl⟩, hin, hS.2.1.use w1 rfl⟩ hpreS rfl hlen hl.1 hstk hroom hd ⟨hg2, hg3⟩)
    · rw [hrn] at hM hw1
      exact fin _ (va_runIN (Ts := []) (host := host) ⟨hx, hb, hml, hown, fun _ h => by cases h⟩ hM ⟨⟨⟨rfl, rfl, hj.2.2.2.2.1, hj.2.2.2.2.2.1, hw1, List.mem_singleton.mpr rfl⟩, by rw [← hrn]; exact hS.2.1.use hj.1 rfl, hS.2.1.use hj.2.1 rfl, hj.2.2.1, hw2, hS.2.1.use k1 rfl⟩, hin, hS.2.1.use w1 rfl⟩ hpreS rfl hlen hl.1 hstk hroom hd ⟨hg2, hg3⟩)
    · have hcl : pm_cl[pg_kc q.1 - 1]? = some (pm_c (pg_kc q.1)) := by
        have := pm_cl_at (pg_kc q.1 - 1) (by omega)
        rw [show pg_kc q.1 - 1 + 1 = pg_kc q.1 by omega] at this
        exact this
      exact fin _ (va_runSU (Ts := []) (hS.1.1 _ _ hcl).2 ⟨hx, hb, hml, hown, fun _ h => by cases h⟩ hM ⟨⟨rfl, rfl, hj.2.2.2.2.1, hj.2.2.2.2.2.1, hw1, List.mem_singleton.mpr rfl⟩, hS.2.1.use k1 rfl, hS.2.1.use k2 rfl, hS.2.1.use k3 rfl, hS.2.1.use w1 rfl, hS.2.1.use hj.2.1 rfl, hS.2.1.use hj.1 rfl, hni, hw2⟩ hpre rfl hlen hl.1 hstk hroom hd ⟨hg2, hg3⟩)
  · cases hrc
theorem eg_call_S (IH : eg_Snd X lv D A l n) (hC : eg_Cx mi p s m meth c) (hd : decode (pm_b mi) pc = .ok (.invokestatic idx, 3)) (hs : eg_cS mi idx j) (hn : (pg_mt j).1 ≤ st.length) (hg : (Nat.ble (st.length - (pg_mt j).1) 8 && (Nat.ble (u.1 + (pg_mt j).2.1) (pg_mt mi).2.1 && Nat.ble (u.2 + (pg_mt j).2.2) (pg_mt mi).2.2)) = true)
    (hip : eg_ip X pg_T n j 0 σ (0, 0) (eg_ent 0 (st.take (pg_mt j).1).reverse) [] = some (σ1, r1)) (hS : eg_Sta D A s ad) (hI : eg_Inv X lv D A s ad σ H locs) (hl : lv_has LS (pm_l mi) (eg_hl ad ls)) (hv : eg_LV lv σ ls st)
    (K : ∀ (ad2 : eg_A) (H2 : Heap) (locs2 : List Loc), (∀ k i, lv σ k i → ad2.1 k i = ad.1 k i) → ad2.2 = ad.2 → eg_Inv X lv D A s ad2 σ1 H2 locs2 → (∀ v, r1 = some v → eg_lvV lv σ1 v) → W p l e (pm_R mi) s m args below meth c H2 locs2 (u.1 + (pg_mt j).2.1) (u.2 + (pg_mt j).2.2) Q (F0 m (pc + 3) LS ((r1.toList ++ st.drop (pg_mt j).1).map (eg_cv ad2)))) :
    W p l e (pm_R mi) s m args below meth c H locs u.1 u.2 Q (F0 m pc LS (st.map (eg_cv ad))) := by
  obtain ⟨hx, hb, hret, hml, hown, hlk, hnm⟩ := hC
  obtain ⟨k1, w1, hj⟩ := hs
  simp only [Bool.and_eq_true] at hg
  have hg1 := Nat.le_of_ble_eq_true hg.1
  have hg2 := Nat.le_of_ble_eq_true hg.2.1
  have hg3 := Nat.le_of_ble_eq_true hg.2.2
  have hlt : ∀ v ∈ (st.take (pg_mt j).1).reverse, eg_lvV lv σ v := fun v hv9 => hv.2 v (List.mem_of_mem_take (List.mem_reverse.mp hv9))
  have hz := hS.2.2.2.2.1
  have hM := eg_met (l := l) (ad := ad) IH hip hj.2.2.2.2.2.2.1 (by rw [List.length_reverse, List.length_take]; have := hj.2.2.2.2.2.2.2; omega) hz
  have hstk : st.map (eg_cv ad) = (((st.take (pg_mt j).1).reverse).map (eg_cv ad)).reverse ++ (st.drop (pg_mt j).1).map (eg_cv ad) := by
    rw [← List.map_reverse, List.reverse_reverse, ← List.map_append, List.take_append_drop]
  obtain ⟨hw1, hw2⟩ := eg_words hS.2.1 hj
  have hlen : (((st.take (pg_mt j).1).reverse).map (eg_cv ad)).length = (pg_mt j).1 := by
    rw [List.length_map, List.length_reverse, List.length_take]; omega
  have hroom : 2 * (F0 m pc LS (st.map (eg_cv ad))).monitorRoom + (((st.drop (pg_mt j).1).map (eg_cv ad)).map fun v => v.category).sum ≤ 8 := by
    rw [eg_cats hz, List.length_drop]; show 2 * 0 + _ ≤ _; omega
  have hr := va_runS (R := pm_R mi) (meth := meth) (args := args) (Ts := []) (As := ((st.take (pg_mt j).1).reverse).map (eg_cv ad)) (rest := (st.drop (pg_mt j).1).map (eg_cv ad)) (g := F0 m pc LS (st.map (eg_cv ad))) (H := H) (locs := locs) (cells := u.1) (slots := u.2) (below := below) (e := e) (own := eg_own mi) ⟨hx, hb, hml, hown, fun _ h => by cases h⟩ hM ⟨⟨rfl, rfl, hj.2.2.2.2.1, hj.2.2.2.2.2.1, hw1, List.mem_singleton.mpr rfl, hS.2.1.use hj.1 rfl, hS.2.1.use hj.2.1 rfl, hj.2.2.1, hw2, hS.2.1.use k1 rfl⟩, hS.2.1.use w1 rfl⟩ ⟨eg_Pc.blind, fun U hU hW => eg_Pc.of hS hI hlt hU hW⟩ rfl hlen hl.1 hstk hroom hd ⟨hg2, hg3⟩
  refine eg_call_back hr hI (fun ad2 H2 locs2 x1 x2 x3 x4 => ?_)
  have := K ad2 H2 locs2 x1 x2 x3 x4
  rw [← eg_rest_ok (r1 := r1) (tl := st.drop (pg_mt j).1) (fun v hv9 => hv.2 v (List.mem_of_mem_drop hv9)) x1 x2] at this
  exact this
end EGT
