/-! SOME STEPS of a method, calls done whole -/
section EGO
variable {S : Type} (X : eg_X S) (T : eg_T)
def eg_tops (n : Nat) : Nat → Nat → Nat → S → Nat × Nat → eg_L → List eg_V → Option (eg_C S)
  | 0, _, pc, σ, u, ls, st => some (pc, σ, u, ls, st)
  | k + 1, mi, pc, σ, u, ls, st => match eg_step X T mi pc σ u ls st with
    | some (true, .inl (pc', σ', u', ls', st')) => eg_tops n k mi pc' σ' u' ls' st'
    | some (true, .inr (.inl (j, av, pc', st'))) => (match eg_ip X T n j 0 σ (0, 0) (eg_ent 0 av) [] with
      | some (σ', r) => eg_tops n k mi pc' σ' (u.1 + (T.2.2.2.2.1 j).2.1, u.2 + (T.2.2.2.2.1 j).2.2) ls (r.toList ++ st')
      | none => none)
    | _ => none
variable {X} {lv : S → Nat → Nat → Prop} {D : va_G} {A : Nat → Prop} {l : Launch}
theorem eg_tops_sound {n : Nat} (hTb : eg_Tbl) (hLw : eg_Lwr X lv) (hLn : eg_Lnw X lv) (hLc : eg_Lcp X lv) (hLs : eg_Lst lv) (hM : eg_Lmn X lv) (IH : eg_Snd X lv D A l n) {mi : Nat} {p : Program} {e : Env} {s : State} {m : MethodId} {args : Array Value} {below : List Frame} {meth : Method} {c : Code} {Q : State → Prop} (hC : eg_Cx mi p s m meth c) : ∀ (k pc : Nat) (σ : S) (u : Nat × Nat) (ls : eg_L) (st : List eg_V) (pc2 : Nat) (σ2 : S) (u2 : Nat × Nat) (ls2 : eg_L) (st2 : List eg_V), eg_tops X pg_T n k mi pc σ u ls st = some (pc2, σ2, u2, ls2, st2) → u.1 ≤ (pg_mt mi).2.1 → u.2 ≤ (pg_mt mi).2.2 →
    ∀ (ad : eg_A) (H : Heap) (locs : List Loc) (LS : Array Slot), eg_Sta D A s ad → eg_Inv X lv D A s ad σ H locs → lv_has LS (pm_l mi) (eg_hl ad ls) → eg_LV lv σ ls st →
    (∀ (ad2 : eg_A) (H2 : Heap) (locs2 : List Loc) (LS2 : Array Slot), (∀ k i, lv σ k i → ad2.1 k i = ad.1 k i) → ad2.2 = ad.2 → eg_Sta D A s ad2 → eg_Inv X lv D A s ad2 σ2 H2 locs2 → lv_has LS2 (pm_l mi) (eg_hl ad2 ls2) → eg_LV lv σ2 ls2 st2 → W p l e (pm_R mi) s m args below meth c H2 locs2 u2.1 u2.2 Q (F0 m pc2 LS2 (st2.map (eg_cv ad2)))) →
    W p l e (pm_R mi) s m args below meth c H locs u.1 u.2 Q (F0 m pc LS (st.map (eg_cv ad))) := by
  intro k
  induction k with
  | zero =>
    intro pc σ u ls st pc2 σ2 u2 ls2 st2 h hu1 hu2 ad H locs LS hS hI hl hv K
    cases h
    exact K ad H locs LS (fun _ _ _ => rfl) rfl hS hI hl hv
  | succ k ih =>
    intro pc σ u ls st pc2 σ2 u2 ls2 st2 h hu1 hu2 ad H locs LS hS hI hl hv K
    rw [eg_tops] at h
    cases hst : eg_step X pg_T mi pc σ u ls st with
    | none => rw [hst] at h; cases h
    | some gc =>
      obtain ⟨g, cc⟩ := gc
      rw [hst] at h
      unfold eg_step at hst
      cases hins : pg_T.1 mi pc with
      | none => rw [hins] at hst; cases hst
      | some q =>
        obtain ⟨I, len, a, b⟩ := q
        rw [hins] at hst
        replace hst : eg_do X pg_T I a b mi pc σ u ls st = some (g, cc) := hst
        obtain ⟨hd, hsite, hln⟩ := hTb mi pc I len a b hins
        cases g with
        | false => rcases cc with ⟨_, _, _, _, _⟩ | ⟨_, _, _, _⟩ | _ <;> cases h
        | true =>
          have behind : ∀ (j : Nat) (σ1 : S) (r1 : Option eg_V), eg_ip X pg_T n j 0 σ (0, 0) (eg_ent 0 (st.take (pg_mt j).1).reverse) [] = some (σ1, r1) → (Nat.ble (st.length - (pg_mt j).1) 8 && (Nat.ble (u.1 + (pg_mt j).2.1) (pg_mt mi).2.1 && Nat.ble (u.2 + (pg_mt j).2.2) (pg_mt mi).2.2)) = true → eg_tops X pg_T n k mi (pc + 3) σ1 (u.1 + (pg_mt j).2.1, u.2 + (pg_mt j).2.2) ls (r1.toList ++ st.drop (pg_mt j).1) = some (pc2, σ2, u2, ls2, st2) →
              ∀ (ad2 : eg_A) (H2 : Heap) (locs2 : List Loc), (∀ k i, lv σ k i → ad2.1 k i = ad.1 k i) → ad2.2 = ad.2 → eg_Inv X lv D A s ad2 σ1 H2 locs2 → (∀ v, r1 = some v → eg_lvV lv σ1 v) → W p l e (pm_R mi) s m args below meth c H2 locs2 (u.1 + (pg_mt j).2.1) (u.2 + (pg_mt j).2.2) Q (F0 m (pc + 3) LS ((r1.toList ++ st.drop (pg_mt j).1).map (eg_cv ad2))) := by
            intro j σ1 r1 hj hg h9 ad2 H2 locs2 x1 x2 x3 x4
            simp only [Bool.and_eq_true] at hg
            have hmon := eg_ip_mono hM _ _ _ _ _ _ _ _ _ hj
            have hlvV : ∀ x, eg_lvV lv σ x → eg_lvV lv σ1 x := fun x hx => by
              cases x with
              | inl y => trivial
              | inr q => exact hx.elim Or.inl (fun z => Or.inr (z.elim Or.inl (fun z => Or.inr (hmon _ _ z))))
            refine ih (pc + 3) σ1 _ ls _ pc2 σ2 u2 ls2 st2 h9 (Nat.le_of_ble_eq_true hg.2.1) (Nat.le_of_ble_eq_true hg.2.2) ad2 H2 locs2 LS (hS.ext hLs σ x1 x2) x3 (by rw [eg_hl_ext hv.1 x1 x2]; exact hl) ⟨fun q hq => hlvV _ (hv.1 q hq), fun v hv9 => ?_⟩ (fun ad3 H3 locs3 LS3 y1 y2 y3 y4 y5 y6 => K ad3 H3 locs3 LS3 (fun k i hk => (y1 k i (hmon k i hk)).trans (x1 k i hk)) (y2.trans x2) y3 y4 y5 y6)
            rcases List.mem_append.mp hv9 with h8 | h8
            · cases r1 with
              | none => cases h8
              | some v1 => rw [List.mem_singleton.mp h8]; exact x4 v1 rfl
            · exact hlvV _ (hv.2 v (List.mem_of_mem_drop h8))
          rcases eg_do_shape hst with ⟨pc3, σ3, u3, ls3, st3, rfl, hσ, hu⟩ | ⟨idx, hI2, hcall⟩ | ⟨idx, rfl, hb99, hcall⟩ | ⟨rfl, hr⟩ | ⟨rfl, hr⟩ | ⟨rfl, hr⟩
          · have hmon := eg_ok_mono (mi := mi) hM hσ
            have hub : u3.1 ≤ (pg_mt mi).2.1 ∧ u3.2 ≤ (pg_mt mi).2.2 := by
              rcases hu with rfl | hu
              · exact ⟨hu1, hu2⟩
              · exact hu rfl
            exact eg_next hLw hLn hLc hLs hC rfl ⟨hu1, hu2⟩ hd hsite hln hst ad H locs LS hS hI hl hv (fun ad2 H2 locs2 LS2 x1 x2 x3 x4 x5 x6 => ih pc3 σ3 u3 ls3 st3 pc2 σ2 u2 ls2 st2 h hub.1 hub.2 ad2 H2 locs2 LS2 x3 x4 x5 x6 (fun ad3 H3 locs3 LS3 y1 y2 y3 y4 y5 y6 => K ad3 H3 locs3 LS3 (fun k i hk => (y1 k i (hmon k i hk)).trans (x1 k i hk)) (y2.trans x2) y3 y4 y5 y6))
          · obtain ⟨c1, c2, c3, rfl⟩ := eg_call_spec hcall
            replace h : (match eg_ip X pg_T n a 0 σ (0, 0) (eg_ent 0 (st.take (pg_mt a).1).reverse) [] with
              | some (σ', r) => eg_tops X pg_T n k mi (pc + 3) σ' (u.1 + (pg_mt a).2.1, u.2 + (pg_mt a).2.2) ls (r.toList ++ st.drop (pg_mt a).1)
              | none => none) = some (pc2, σ2, u2, ls2, st2) := h
            split at h
            · rename_i σ1 r1 hj
              rcases hI2 with rfl | ⟨rfl, hb99⟩
              · cases hln _ rfl
                exact eg_call_V IH hC hd hsite c1 c2 c3.symm hj hS hI hl hv (behind a σ1 r1 hj c3.symm h)
              · cases hln _ rfl
                exact eg_call_I IH hC hd ((hsite.resolve_left (fun z => hb99 z.1)).2) c1 c2 c3.symm hj hS hI hl hv (behind a σ1 r1 hj c3.symm h)
            · cases h
          · obtain ⟨c1, c2, c3, rfl⟩ := eg_call_spec hcall
            replace h : (match eg_ip X pg_T n a 0 σ (0, 0) (eg_ent 0 (st.take (pg_mt a).1).reverse) [] with
              | some (σ', r) => eg_tops X pg_T n k mi (pc + 3) σ' (u.1 + (pg_mt a).2.1, u.2 + (pg_mt a).2.2) ls (r.toList ++ st.drop (pg_mt a).1)
              | none => none) = some (pc2, σ2, u2, ls2, st2) := h
            split at h
            · rename_i σ1 r1 hj
              cases hln _ rfl
              exact eg_call_S IH hC hd ((((hsite.resolve_left (fun z => hb99.1 z.1)).resolve_left (fun z => hb99.2.1 z.1)).resolve_left (fun z => hb99.2.2 z.1)).2) c1 c3.symm hj hS hI hl hv (behind a σ1 r1 hj c3.symm h)
            · cases h
          · obtain ⟨x, rfl, hg, rfl⟩ := eg_ri_spec hr
            cases h
          · obtain ⟨q, rfl, rfl⟩ := eg_ra_spec hr
            cases h
          · obtain ⟨rfl, rfl⟩ := eg_rv_spec hr
            cases h
end EGO
/-! THE OBJECTS ARE MADE: one closed run, decided by computation -/
def s1_0 : s1_S := (fun _ _ _ => .inl 0, fun _ => 0, fun _ _ => 0)
/-- the running system's store at its start, without the script -/
def s2_c : st_S := (fun _ _ _ => 0, 1, fun _ => 16, 0, 0)
def s2_pop (k : Nat) : Nat := bif Nat.beq k 25 then 1 else st_pop k
def s1_wid (σ : s1_S) (k i : Nat) : Nat := bif Nat.beq (pg_ak k) 0 then pg_nf (pg_kc k) else s1_sz σ k i
def s1_chk (σ : s1_S) : Bool := (List.range 50).all (fun k => Nat.beq (σ.2.1 k) (s2_pop k) && (List.range (s2_pop k)).all (fun i => Nat.beq (s1_sz σ k i) (bif Nat.beq (pg_ak k) 0 then s1_sz σ k i else st_sz s2_c k i) && (List.range (s1_wid σ k i)).all (fun j => decide (s1_rd σ k i j = st_rd s2_c k i j))))
def s1_run : Option (eg_C s1_S) := eg_tops s1_X pg_T 3000 10 134 0 s1_0 (0, 0) [(0, .inr (1, 1))] []
set_option maxRecDepth 100000 in
theorem s1_run_ok : (match s1_run with
  | some (pc, σ, u, ls, st) => Nat.beq pc 18 && (decide (u = (422, 5051)) && (decide (ls = [(3, .inl 0), (2, .inr (26, 0)), (1, .inr (2, 0)), (0, .inr (1, 1))]) && (st.isEmpty && s1_chk σ)))
  | none => false) = true := by decide +kernel
