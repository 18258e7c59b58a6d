/-! THE STORE of the running system: numbers at (kind, place, slot); how many byte arrays were made, their lengths, which one the builder has; the length of the script. Which references its fields hold is fixed -/
abbrev st_S : Type := (Nat → Nat → Nat → Int32) × Nat × (Nat → Nat) × Nat × Nat
def st_up (σ : st_S) (k i j : Nat) (x : Int32) : st_S := (fun k2 i2 j2 => bif Nat.beq k2 k && (Nat.beq j2 j && Nat.beq i2 i) then x else σ.1 k2 i2 j2, σ.2)
def kd_ordinal (i : Nat) : Int32 := ([0, 1, 2, 3, 4, 5, 6, 7, 8, 9, 10, 11, 12, 13, 14, 15] : List Int32).getD i 0
def kd_op (i : Nat) : Int32 := ([0, 1, 15, 18, 19, 144, 145, 146, 216, 40, 41, 50, 51, 56, 43, 256] : List Int32).getD i 0
def kd_units (i : Nat) : Int32 := ([1, 1, 1, 1, 2, 2, 2, 2, 2, 1, 2, 2, 2, 2, 2, 3] : List Int32).getD i 0
def kd_fieldAt (i : Nat) : Int32 := ([0, 0, 0, 12, 16, 0, 0, 0, 24, 8, 16, 16, 16, 16, 16, 0] : List Int32).getD i 0
def kd_secondRegisterAt (i : Nat) : Int32 := ([12, 12, 12, 12, 16, 16, 16, 16, 16, 12, 12, 12, 12, 12, 12, 12] : List Int32).getD i 0
def kd_goes (i : Nat) : Int32 := ([0, 0, 0, 0, 0, 0, 0, 0, 0, 1, 1, 1, 1, 1, 1, 0] : List Int32).getD i 0
def kd_word (i : Nat) : Nat := ([1, 15, 13, 7, 7, 17, 19, 20, 9, 3, 3, 21, 23, 24, 11, 5] : List Nat).getD i 0
def kd_arguments (i : Nat) : Nat := ([2, 16, 14, 8, 8, 18, 18, 18, 10, 4, 4, 22, 22, 12, 12, 6] : List Nat).getD i 0
def kd_sw (i : Nat) : Int32 := ([0, 1, 0, 2, 3, 4, 5, 6, 7, 8, 9, 10, 11, 12, 0, 0] : List Int32).getD i 0
def kd_ones (i : Nat) : Int32 := ([48, 49, 50, 51, 52, 53, 54, 55, 56, 57, 48, 49, 50, 51, 52, 53, 54, 55, 56, 57, 48, 49, 50, 51, 52, 53, 54, 55, 56, 57, 48, 49, 50, 51, 52, 53, 54, 55, 56, 57, 48, 49, 50, 51, 52, 53, 54, 55, 56, 57, 48, 49, 50, 51, 52, 53, 54, 55, 56, 57, 48, 49, 50, 51, 52, 53, 54, 55, 56, 57, 48, 49, 50, 51, 52, 53, 54, 55, 56, 57, 48, 49, 50, 51, 52, 53, 54, 55, 56, 57, 48, 49, 50, 51, 52, 53, 54, 55, 56, 57] : List Int32).getD i 0
def kd_tens (i : Nat) : Int32 := ([48, 48, 48, 48, 48, 48, 48, 48, 48, 48, 49, 49, 49, 49, 49, 49, 49, 49, 49, 49, 50, 50, 50, 50, 50, 50, 50, 50, 50, 50, 51, 51, 51, 51, 51, 51, 51, 51, 51, 51, 52, 52, 52, 52, 52, 52, 52, 52, 52, 52, 53, 53, 53, 53, 53, 53, 53, 53, 53, 53, 54, 54, 54, 54, 54, 54, 54, 54, 54, 54, 55, 55, 55, 55, 55, 55, 55, 55, 55, 55, 56, 56, 56, 56, 56, 56, 56, 56, 56, 56, 57, 57, 57, 57, 57, 57, 57, 57, 57, 57] : List Int32).getD i 0
def kd_txt (i : Nat) : List Int32 := ([[32, 118], [110, 111, 112], [], [106, 117, 109, 112], [76], [99, 97, 115, 101, 115], [110, 76], [99, 111, 110, 115, 116], [65, 110], [97, 100, 100, 105], [65, 66, 110], [116, 97, 98, 108, 101], [65, 76], [114, 101, 116], [65], [109, 111, 118, 101], [65, 66], [97, 100, 100], [65, 66, 67], [115, 117, 98], [109, 117, 108], [106, 101, 113], [65, 66, 76], [106, 108, 116], [106, 122]] : List (List Int32)).getD i []
def ds_UnitDesk : Nat → Nat → Int32 → eg_V := fun i j x => ([.inr (3, 0), .inr (7, 0), .inr (16, 0), .inr (19, 0), .inr (22, 0), .inr (24, 0)] : List eg_V).getD j (.inl x)
def ds_Draft : Nat → Nat → Int32 → eg_V := fun i j x => ([.inr (4, 0), .inl x, .inr (5, 0), .inr (6, 0), .inl x] : List eg_V).getD j (.inl x)
def ds_Text : Nat → Nat → Int32 → eg_V := fun i j x => ([.inr (8, 0), .inl x, .inr (13, 0), .inl x, .inl x] : List eg_V).getD j (.inl x)
def ds_items : Nat → Nat → Int32 → eg_V := fun _ j _ => .inr (9, j)
def ds_Item : Nat → Nat → Int32 → eg_V := fun i j x => ([.inr (50, x.toNatClampNeg), .inl x, .inr (10, i), .inl x, .inl x, .inr (11, i), .inr (12, i), .inl x] : List eg_V).getD j (.inl x)
def ds_Labels : Nat → Nat → Int32 → eg_V := fun i j x => ([.inr (14, 0), .inr (15, 0), .inl x] : List eg_V).getD j (.inl x)
def ds_Code : Nat → Nat → Int32 → eg_V := fun i j x => ([.inr (17, 0), .inl x, .inr (18, 0)] : List eg_V).getD j (.inl x)
def ds_Reading : Nat → Nat → Int32 → eg_V := fun i j x => ([.inr (50, x.toNatClampNeg), .inl x, .inl x, .inr (20, i), .inl x, .inl x, .inr (21, i)] : List eg_V).getD j (.inl x)
def ds_Machine : Nat → Nat → Int32 → eg_V := fun i j x => ([.inr (23, 0), .inl x, .inl x, .inl x, .inl x, .inr (19, 1)] : List eg_V).getD j (.inl x)
def ds_SB : Nat → Nat → Int32 → eg_V := fun i j x => ([.inr (25, 0), .inl x, .inl x, .inl x] : List eg_V).getD j (.inl x)
def ds_Model : Nat → Nat → Int32 → eg_V := fun i j x => ([.inr (27, 0), .inr (28, 0), .inr (29, 0), .inl x, .inl x, .inr (30, 0), .inr (31, 0), .inr (32, 0), .inr (33, 0), .inr (34, 0), .inr (35, 0), .inr (36, 0), .inl x, .inr (37, 0), .inr (38, 0), .inl x, .inl x, .inl x, .inl x, .inl x, .inl x, .inl x, .inr (39, 0), .inr (40, 0), .inr (41, 0), .inl x, .inr (42, 0), .inl x, .inl x, .inl x, .inl x, .inl x, .inl x, .inl x, .inl x, .inl x, .inr (43, 0), .inr (44, 0), .inr (45, 0), .inl x, .inr (46, 0), .inl x, .inl x, .inl x, .inl x] : List eg_V).getD j (.inl x)
def ds_Kind : Nat → Nat → Int32 → eg_V := fun i j x => ([.inl (kd_ordinal i), .inl (kd_op i), .inl (kd_units i), .inr (53, kd_word i), .inr (53, kd_arguments i), .inl (kd_fieldAt i), .inl (kd_secondRegisterAt i), .inl (kd_goes i)] : List eg_V).getD j (.inl x)
def ds_KINDS : Nat → Nat → Int32 → eg_V := fun _ j _ => .inr (50, j)
def ds_swmap : Nat → Nat → Int32 → eg_V := fun _ j _ => .inl (kd_sw j)
def ds_String : Nat → Nat → Int32 → eg_V := fun i j x => ([.inr (54, i), .inl 0] : List eg_V).getD j (.inl x)
def ds_sbytes : Nat → Nat → Int32 → eg_V := fun i j _ => .inl ((kd_txt i).getD j 0)
def ds_ones : Nat → Nat → Int32 → eg_V := fun _ j _ => .inl (kd_ones j)
def ds_tens : Nat → Nat → Int32 → eg_V := fun _ j _ => .inl (kd_tens j)
def ds_num : Nat → Nat → Int32 → eg_V := fun _ _ x => .inl x
def st_ds (k : Nat) : Nat → Nat → Int32 → eg_V := ([ds_num, ds_num, ds_UnitDesk, ds_Draft, ds_num, ds_num, ds_num, ds_Text, ds_items, ds_Item, ds_num, ds_num, ds_num, ds_Labels, ds_num, ds_num, ds_Code, ds_num, ds_num, ds_Reading, ds_num, ds_num, ds_Machine, ds_num, ds_SB, ds_num, ds_Model, ds_num, ds_num, ds_num, ds_num, ds_num, ds_num, ds_num, ds_num, ds_num, ds_num, ds_num, ds_num, ds_num, ds_num, ds_num, ds_num, ds_num, ds_num, ds_num, ds_num, ds_num, ds_num, ds_num, ds_Kind, ds_KINDS, ds_swmap, ds_String, ds_sbytes, ds_ones, ds_tens, ds_num] : List (Nat → Nat → Int32 → eg_V)).getD k ds_num
def st_rd (σ : st_S) (k i j : Nat) : eg_V := bif Nat.beq k 24 && Nat.beq j 0 then .inr (25, σ.2.2.2.1) else st_ds k i j (σ.1 k i j)
def st_ln (k : Nat) : Nat := ([0, 0, 0, 0, 40, 40, 40, 0, 41, 0, 3, 4, 4, 0, 12, 12, 0, 200, 200, 0, 3, 4, 0, 16, 0, 0, 0, 40, 24, 24, 40, 40, 40, 40, 40, 40, 160, 12, 12, 4, 40, 41, 200, 200, 200, 80, 16, 0, 0, 0, 0, 16, 16, 0, 0, 100, 100, 0] : List Nat).getD k 0
def st_sz (σ : st_S) (k i : Nat) : Nat := bif Nat.beq k 25 then σ.2.2.1 i else bif Nat.beq k 57 then σ.2.2.2.2 else bif Nat.beq k 54 then (kd_txt i).length else st_ln k
def st_wl (k : Nat) : List Nat := ([[], [], [0, 0, 0, 0, 0, 0], [0, 1, 0, 0, 1], [], [], [], [0, 1, 0, 1, 1], [], [2, 1, 0, 1, 1, 0, 0, 1], [], [], [], [0, 0, 1], [], [], [0, 1, 0], [], [], [2, 1, 1, 0, 1, 1, 0], [], [], [0, 1, 1, 1, 1, 0], [], [3, 1, 1, 1], [], [0, 0, 0, 1, 1, 0, 0, 0, 0, 0, 0, 0, 1, 0, 0, 1, 1, 1, 1, 1, 1, 1, 0, 0, 0, 1, 0, 1, 1, 1, 1, 1, 1, 1, 1, 1, 0, 0, 0, 1, 0, 1, 1, 1, 1], [], [], [], [], [], [], [], [], [], [], [], [], [], [], [], [], [], [], [], [], [], [], [], [0, 0, 0, 0, 0, 0, 0, 0], [], [], [0, 0], [], [], [], []] : List (List Nat)).getD k []
def st_wt (k j : Nat) : Nat := bif Nat.beq (pg_ak k) 0 then (st_wl k).getD j 0 else bif Nat.ble 50 k || Nat.beq (pg_ak k) 5 then 0 else 1
def st_wr (σ : st_S) (k i j : Nat) (v : eg_V) : Option st_S := match v with
  | .inl x => bif Nat.beq (st_wt k j) 1 then some (st_up σ k i j x) else none
  | .inr q => bif Nat.beq (st_wt k j) 2 && Nat.beq q.1 50 then some (st_up σ k i j (Int32.ofNat q.2)) else bif Nat.beq (st_wt k j) 3 && Nat.beq q.1 25 then some (σ.1, σ.2.1, σ.2.2.1, q.2, σ.2.2.2.2) else none
def st_nw (σ : st_S) (k n : Nat) : Option (st_S × Nat) := bif Nat.beq k 25 then some ((fun k2 i2 j2 => bif Nat.beq k2 25 && Nat.beq i2 σ.2.1 then 0 else σ.1 k2 i2 j2, σ.2.1 + 1, fun i => bif Nat.beq i σ.2.1 then n else σ.2.2.1 i, σ.2.2.2.1, σ.2.2.2.2), σ.2.1) else none
def st_cp (σ : st_S) (q : Nat × Nat) (sp : Nat) (d : Nat × Nat) (dp n : Nat) : Option st_S := bif Nat.beq d.1 25 then some (fun k2 i2 j2 => bif Nat.beq k2 25 && (Nat.beq i2 d.2 && (Nat.ble dp j2 && Nat.blt j2 (dp + n))) then eg_int (st_rd σ q.1 q.2 (sp + (j2 - dp))) else σ.1 k2 i2 j2, σ.2) else none
abbrev st_X : eg_X st_S := (st_rd, st_sz, st_wr, st_nw, st_cp)
/-- how many of a kind there are -/
def st_pop (k : Nat) : Nat := ([0, 0, 1, 1, 1, 1, 1, 1, 1, 41, 41, 41, 41, 1, 1, 1, 1, 1, 1, 2, 2, 2, 1, 1, 1, 0, 1, 1, 1, 1, 1, 1, 1, 1, 1, 1, 1, 1, 1, 1, 1, 1, 1, 1, 1, 1, 1, 0, 0, 0, 16, 1, 1, 25, 25, 1, 1, 1] : List Nat).getD k 0
def st_lv (σ : st_S) (k i : Nat) : Prop := if k = 25 then i < σ.2.1 else i < st_pop k
