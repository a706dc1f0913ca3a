def F_X4_dropOldest_l9 (k2 : Nat) : Nat → Int32 → MS → Option MS
  | 0, _, _ => none
  | n9 + 1, l2_4, M5 => (if (6 : Int32) ≤ l2_4 then (gdb (inb ((6 : Int32) - (1 : Int32)) 6) (nm (wS M5 (Int32.toNatClampNeg ((6 : Int32) - (1 : Int32))) k2) fun M8 => (nm (wF M8 67 216 ((6 : Int32) - (1 : Int32))) fun M9 => (some M9)))) else (gdb (inb l2_4 6) (nm (rS M5 (Int32.toNatClampNeg l2_4)) fun k11 => gdb (decide (k11 < 8)) (gdb (inb (l2_4 - (1 : Int32)) 6) (nm (wS M5 (Int32.toNatClampNeg (l2_4 - (1 : Int32))) k11) fun M14 => (nm (l2_4 + (1 : Int32)) fun x15 => (F_X4_dropOldest_l9 k2 n9 x15 M14)))))))

def F_X4_dropOldest (M : MS) : Option MS := (gdb (inb (0 : Int32) 6) (nm (rS M (Int32.toNatClampNeg (0 : Int32))) fun k2 => gdb (decide (k2 < 8)) (F_X4_dropOldest_l9 k2 FU (1 : Int32) M)))

set_option maxHeartbeats 4000000 in
set_option maxRecDepth 100000 in
theorem k_X4_dropOldest (l : Launch) (G : GG) (M : MS) {Mf : MS} (hF : F_X4_dropOldest M = some Mf) : KV l yX4_dropOldest (WS yX4_dropOldest cX4_dropOldest 3 none) (Rm 0) G [.ref (gad G 216)] M Mf := by
  intro sz
  refine y_met (by decide +kernel) (Nat.le_of_ble_eq_true rfl) rfl (fun p e s m below meth c ls hsz C0 hM hl => ?_)
  have hl : lv_has ls 3 [(0, .ref (gad G 216))] := hl
  have C0 : CX p s m meth c ([.ref (gad G 216)] : List Value).toArray cX4_dropOldest RX4 3 none := C0
  rw [F_X4_dropOldest] at hF
  refine lv_aload_n C0.1 C0.2.1 dX4_dropOldest_0 rfl (lv_at hl 0 rfl) ?_
  refine gf4_2 C0 hM ok_tt fl_RX4_19 dX4_dropOldest_1 ?_
  refine lv_iconst (v := (0 : Int32)) C0.1 C0.2.1 dX4_dropOldest_4 (by decide) ?_
  obtain ⟨g1, hF⟩ := gdb_some hF
  refine y_aald8 C0 hM ok_saved g1 dX4_dropOldest_5 ?_
  obtain ⟨k2, ek2, hF⟩ := nm_some hF
  refine y_topsk ek2 ?_
  obtain ⟨g3, hF⟩ := gdb_some hF
  refine lv_astore_n (lv' := [(1, .ref (gad G (27 * k2))), (0, .ref (gad G 216))]) C0.1 C0.2.1 dX4_dropOldest_6 rfl hl (by decide) rfl (fun ls hl => ?_)
  refine lv_iconst (v := (1 : Int32)) C0.1 C0.2.1 dX4_dropOldest_7 (by decide) ?_
  refine lv_istore_n (lv' := [(2, .int (1 : Int32)), (1, .ref (gad G (27 * k2))), (0, .ref (gad G 216))]) C0.1 C0.2.1 dX4_dropOldest_8 rfl hl (by decide) rfl (fun ls hl => ?_)
  have L9 : ∀ (n : Nat) (l2_4 : Int32) (M5 : MS) (H : Heap) (locs : List Loc) (ls : Array Slot), MX G M5 s H locs → lv_has ls 3 [(0, .ref (gad G 216)), (1, .ref (gad G (27 * k2))), (2, .int l2_4)] → F_X4_dropOldest_l9 k2 n l2_4 M5 = some Mf → W p l e (Rm 0) s m ([.ref (gad G 216)] : List Value).toArray below meth c H locs 0 0 (QV below ([.ref (gad G 216)] : List Value).toArray s G sz Mf) (F0 m 9 ls []) := by
    intro n
    induction n with
    | zero => intro l2_4 M5 H locs ls hM hl hF; rw [F_X4_dropOldest_l9] at hF; cases hF
    | succ n9 ih9 =>
      intro l2_4 M5 H locs ls hM hl hF
      rw [F_X4_dropOldest_l9] at hF
      refine lv_iload_n C0.1 C0.2.1 dX4_dropOldest_9 rfl (lv_at hl 2 rfl) ?_
      refine lv_aload_n C0.1 C0.2.1 dX4_dropOldest_10 rfl (lv_at hl 0 rfl) ?_
      refine gf4_2 C0 hM ok_tt fl_RX4_19 dX4_dropOldest_11 ?_
      refine y_alen8 C0 hM ok_saved dX4_dropOldest_14 ?_
      refine lv_icmp_ge (tgt := 38) C0.1 C0.2.1 dX4_dropOldest_15 (by decide) (fun c6 => ?_) (fun c6 => ?_)
      · have hF := if_t c6 hF
        refine lv_aload_n C0.1 C0.2.1 dX4_dropOldest_38 rfl (lv_at hl 0 rfl) ?_
        refine gf4_2 C0 hM ok_tt fl_RX4_19 dX4_dropOldest_39 ?_
        refine lv_aload_n C0.1 C0.2.1 dX4_dropOldest_42 rfl (lv_at hl 0 rfl) ?_
        refine gf4_2 C0 hM ok_tt fl_RX4_19 dX4_dropOldest_43 ?_
        refine y_alen8 C0 hM ok_saved dX4_dropOldest_46 ?_
        refine lv_iconst (v := (1 : Int32)) C0.1 C0.2.1 dX4_dropOldest_47 (by decide) ?_
        refine lv_isub C0.1 C0.2.1 dX4_dropOldest_48 ?_
        refine lv_aload_n C0.1 C0.2.1 dX4_dropOldest_49 rfl (lv_at hl 1 rfl) ?_
        obtain ⟨g7, hF⟩ := gdb_some hF
        refine y_aast8 C0 hM ok_saved (of_decide_eq_true g3) g7 dX4_dropOldest_50 (fun H locs hM => ?_)
        obtain ⟨M8, eM8, hF⟩ := nm_some hF
        have hM := y_mn eM8 hM
        refine lv_aload_n C0.1 C0.2.1 dX4_dropOldest_51 rfl (lv_at hl 0 rfl) ?_
        refine lv_aload_n C0.1 C0.2.1 dX4_dropOldest_52 rfl (lv_at hl 0 rfl) ?_
        refine gf4_2 C0 hM ok_tt fl_RX4_19 dX4_dropOldest_53 ?_
        refine y_alen8 C0 hM ok_saved dX4_dropOldest_56 ?_
        refine lv_iconst (v := (1 : Int32)) C0.1 C0.2.1 dX4_dropOldest_57 (by decide) ?_
        refine lv_isub C0.1 C0.2.1 dX4_dropOldest_58 ?_
        refine pf4_3 C0 hM ok_tt fl_RX4_23 dX4_dropOldest_59 (fun H locs hM => ?_)
        obtain ⟨M9, eM9, hF⟩ := nm_some hF
        have hM := y_mn eM9 hM
        have e9 := y_1 hF
        subst e9
        exact y_vret C0 hM hsz dX4_dropOldest_62
      · have hF := if_f c6 hF
        refine lv_aload_n C0.1 C0.2.1 dX4_dropOldest_18 rfl (lv_at hl 0 rfl) ?_
        refine gf4_2 C0 hM ok_tt fl_RX4_19 dX4_dropOldest_19 ?_
        refine lv_iload_n C0.1 C0.2.1 dX4_dropOldest_22 rfl (lv_at hl 2 rfl) ?_
        refine lv_iconst (v := (1 : Int32)) C0.1 C0.2.1 dX4_dropOldest_23 (by decide) ?_
        refine lv_isub C0.1 C0.2.1 dX4_dropOldest_24 ?_
        refine lv_aload_n C0.1 C0.2.1 dX4_dropOldest_25 rfl (lv_at hl 0 rfl) ?_
        refine gf4_2 C0 hM ok_tt fl_RX4_19 dX4_dropOldest_26 ?_
        refine lv_iload_n C0.1 C0.2.1 dX4_dropOldest_29 rfl (lv_at hl 2 rfl) ?_
        obtain ⟨g10, hF⟩ := gdb_some hF
        refine y_aald8 C0 hM ok_saved g10 dX4_dropOldest_30 ?_
        obtain ⟨k11, ek11, hF⟩ := nm_some hF
        refine y_topsk ek11 ?_
        obtain ⟨g12, hF⟩ := gdb_some hF
        obtain ⟨g13, hF⟩ := gdb_some hF
        refine y_aast8 C0 hM ok_saved (of_decide_eq_true g12) g13 dX4_dropOldest_31 (fun H locs hM => ?_)
        obtain ⟨M14, eM14, hF⟩ := nm_some hF
        have hM := y_mn eM14 hM
        obtain ⟨x15, ex15, hF⟩ := nm_some hF
        refine lv_iinc (v := x15) (lv' := [(2, .int x15), (0, .ref (gad G 216)), (1, .ref (gad G (27 * k2)))]) C0.1 C0.2.1 dX4_dropOldest_32 hl (k := 2) rfl (by rw [ex15]; rfl) (by decide) rfl (fun ls hl => ?_)
        refine lv_goto (tgt := 9) C0.1 C0.2.1 dX4_dropOldest_35 (by decide) ?_
        exact ih9 x15 M14 _ _ _ hM (lv_sub hl [1, 2, 0] rfl) hF
  exact L9 FU (1 : Int32) M _ _ _ hM (lv_sub hl [2, 1, 0] rfl) hF

def F_X4_save (M : MS) : Option MS := (nm (fun (M1 : MS) => (if (rF M1 67 216) < 0 then (some M1) else (if (6 : Int32) ≤ (rF M1 67 216) then (some M1) else (gdb (inb (rF M1 67 216) 6) (nm (rS M1 (Int32.toNatClampNeg (rF M1 67 216))) fun k6 => gdb (decide (k6 < 8)) (bd (F_X3_copyFrom M1 (27 * k6) 0) fun M9 => (nm (wF M9 67 216 ((rF M9 67 216) + (1 : Int32))) fun M10 => (some M10)))))))) fun j16_1 => (if (rF M 67 216) < (6 : Int32) then (j16_1 M) else (bd (F_X4_dropOldest M) fun M13 => (j16_1 M13))))

set_option maxHeartbeats 4000000 in
set_option maxRecDepth 100000 in
theorem k_X4_save (l : Launch) (G : GG) (M : MS) {Mf : MS} (hF : F_X4_save M = some Mf) : KV l yX4_save (WS yX4_save cX4_save 1 none) (Rm 3) G [.ref (gad G 216)] M Mf := by
  intro sz
  refine y_met (by decide +kernel) (Nat.le_of_ble_eq_true rfl) rfl (fun p e s m below meth c ls hsz C0 hM hl => ?_)
  have hl : lv_has ls 1 [(0, .ref (gad G 216))] := hl
  have C0 : CX p s m meth c ([.ref (gad G 216)] : List Value).toArray cX4_save RX4 1 none := C0
  rw [F_X4_save] at hF
  refine lv_aload_n C0.1 C0.2.1 dX4_save_0 rfl (lv_at hl 0 rfl) ?_
  refine gf4_3 C0 hM ok_tt fl_RX4_23 dX4_save_1 ?_
  refine lv_aload_n C0.1 C0.2.1 dX4_save_4 rfl (lv_at hl 0 rfl) ?_
  refine gf4_2 C0 hM ok_tt fl_RX4_19 dX4_save_5 ?_
  refine y_alen8 C0 hM ok_saved dX4_save_8 ?_
  obtain ⟨j16_1, ej16_1, hF⟩ := nm_some hF
  have J16 : ∀ (M1 : MS) (H : Heap) (locs : List Loc) (ls : Array Slot), MX G M1 s H locs → lv_has ls 1 [(0, .ref (gad G 216))] → j16_1 M1 = some Mf → W p l e (Rm 3) s m ([.ref (gad G 216)] : List Value).toArray below meth c H locs 0 0 (QV below ([.ref (gad G 216)] : List Value).toArray s G sz Mf) (F0 m 16 ls []) := by
    intro M1 H locs ls hM hl hF
    rw [ej16_1] at hF
    refine lv_aload_n C0.1 C0.2.1 dX4_save_16 rfl (lv_at hl 0 rfl) ?_
    refine gf4_3 C0 hM ok_tt fl_RX4_23 dX4_save_17 ?_
    refine lv_if_lt (tgt := 61) C0.1 C0.2.1 dX4_save_20 (by decide) (fun c3 => ?_) (fun c3 => ?_)
    · have hF := if_t c3 hF
      have e9 := y_1 hF
      subst e9
      exact y_vret C0 hM hsz dX4_save_61
    · have hF := if_f c3 hF
      refine lv_aload_n C0.1 C0.2.1 dX4_save_23 rfl (lv_at hl 0 rfl) ?_
      refine gf4_3 C0 hM ok_tt fl_RX4_23 dX4_save_24 ?_
      refine lv_aload_n C0.1 C0.2.1 dX4_save_27 rfl (lv_at hl 0 rfl) ?_
      refine gf4_2 C0 hM ok_tt fl_RX4_19 dX4_save_28 ?_
      refine y_alen8 C0 hM ok_saved dX4_save_31 ?_
      refine lv_icmp_ge (tgt := 61) C0.1 C0.2.1 dX4_save_32 (by decide) (fun c4 => ?_) (fun c4 => ?_)
      · have hF := if_t c4 hF
        have e9 := y_1 hF
        subst e9
        exact y_vret C0 hM hsz dX4_save_61
      · have hF := if_f c4 hF
        refine lv_aload_n C0.1 C0.2.1 dX4_save_35 rfl (lv_at hl 0 rfl) ?_
        refine gf4_2 C0 hM ok_tt fl_RX4_19 dX4_save_36 ?_
        refine lv_aload_n C0.1 C0.2.1 dX4_save_39 rfl (lv_at hl 0 rfl) ?_
        refine gf4_3 C0 hM ok_tt fl_RX4_23 dX4_save_40 ?_
        obtain ⟨g5, hF⟩ := gdb_some hF
        refine y_aald8 C0 hM ok_saved g5 dX4_save_43 ?_
        obtain ⟨k6, ek6, hF⟩ := nm_some hF
        refine y_topsk ek6 ?_
        obtain ⟨g7, hF⟩ := gdb_some hF
        refine lv_aload_n C0.1 C0.2.1 dX4_save_44 rfl (lv_at hl 0 rfl) ?_
        refine gf4_0 C0 hM ok_tt fl_RX4_10 dX4_save_45 ?_
        obtain ⟨M9, h8, hF⟩ := bd_some hF
        refine y_vv (rest := []) C0 hM hl.1 (ok_sk (of_decide_eq_true g7)) (ent3 (ok_sk (of_decide_eq_true g7))) rfl (k_X3_copyFrom l G M1 (27 * k6) 0 h8 (ok_sk (of_decide_eq_true g7)) ok_now) cw_RX4_112 rfl rfl ⟨Nat.le_of_ble_eq_true rfl, Nat.le_of_ble_eq_true rfl⟩ rfl (Nat.le_of_ble_eq_true rfl) ⟨Nat.le_of_ble_eq_true rfl, Nat.le_of_ble_eq_true rfl⟩ dX4_save_48 (fun H locs hM => ?_)
        refine lv_aload_n C0.1 C0.2.1 dX4_save_51 rfl (lv_at hl 0 rfl) ?_
        refine lv_dup C0.1 C0.2.1 dX4_save_52 rfl ?_
        refine gf4_3 C0 hM ok_tt fl_RX4_23 dX4_save_53 ?_
        refine lv_iconst (v := (1 : Int32)) C0.1 C0.2.1 dX4_save_56 (by decide) ?_
        refine lv_iadd C0.1 C0.2.1 dX4_save_57 ?_
        refine pf4_3 C0 hM ok_tt fl_RX4_23 dX4_save_58 (fun H locs hM => ?_)
        obtain ⟨M10, eM10, hF⟩ := nm_some hF
        have hM := y_mn eM10 hM
        have e9 := y_1 hF
        subst e9
        exact y_vret C0 hM hsz dX4_save_61
  refine lv_icmp_lt (tgt := 16) C0.1 C0.2.1 dX4_save_9 (by decide) (fun c11 => ?_) (fun c11 => ?_)
  · have hF := if_t c11 hF
    exact J16 M _ _ _ hM (lv_sub hl [0] rfl) hF
  · have hF := if_f c11 hF
    refine lv_aload_n C0.1 C0.2.1 dX4_save_12 rfl (lv_at hl 0 rfl) ?_
    obtain ⟨M13, h12, hF⟩ := bd_some hF
    refine y_vv (rest := []) C0 hM hl.1 ok_tt (ent4 ok_tt) rfl (k_X4_dropOldest l G M h12) cw_RX4_212 rfl rfl ⟨Nat.le_of_ble_eq_true rfl, Nat.le_of_ble_eq_true rfl⟩ rfl (Nat.le_of_ble_eq_true rfl) ⟨Nat.le_of_ble_eq_true rfl, Nat.le_of_ble_eq_true rfl⟩ dX4_save_13 (fun H locs hM => ?_)
    exact J16 M13 _ _ _ hM (lv_sub hl [0] rfl) hF

def F_X4_begin (M : MS) : Option (Int32 × MS) := (bd (F_X4_save M) fun M2 => (bd (F_X3_beginAnew M2 0) fun M4 => (some ((rF M4 54 0), M4))))

set_option maxHeartbeats 4000000 in
set_option maxRecDepth 100000 in
theorem k_X4_begin (l : Launch) (G : GG) (M : MS) {r : Int32} {Mf : MS} (hF : F_X4_begin M = some (r, Mf)) : KI l yX4_begin (WS yX4_begin cX4_begin 1 (some .int)) (Rm 5) G [.ref (gad G 216)] M r Mf := by
  intro sz
  refine y_met (by decide +kernel) (Nat.le_of_ble_eq_true rfl) rfl (fun p e s m below meth c ls hsz C0 hM hl => ?_)
  have hl : lv_has ls 1 [(0, .ref (gad G 216))] := hl
  have C0 : CX p s m meth c ([.ref (gad G 216)] : List Value).toArray cX4_begin RX4 1 (some .int) := C0
  rw [F_X4_begin] at hF
  refine lv_aload_n C0.1 C0.2.1 dX4_begin_0 rfl (lv_at hl 0 rfl) ?_
  obtain ⟨M2, h1, hF⟩ := bd_some hF
  refine y_vv (rest := []) C0 hM hl.1 ok_tt (ent4 ok_tt) rfl (k_X4_save l G M h1) cw_RX4_48 rfl rfl ⟨Nat.le_of_ble_eq_true rfl, Nat.le_of_ble_eq_true rfl⟩ rfl (Nat.le_of_ble_eq_true rfl) ⟨Nat.le_of_ble_eq_true rfl, Nat.le_of_ble_eq_true rfl⟩ dX4_begin_1 (fun H locs hM => ?_)
  refine lv_aload_n C0.1 C0.2.1 dX4_begin_4 rfl (lv_at hl 0 rfl) ?_
  refine gf4_0 C0 hM ok_tt fl_RX4_10 dX4_begin_5 ?_
  obtain ⟨M4, h3, hF⟩ := bd_some hF
  refine y_vv (rest := []) C0 hM hl.1 ok_now (ent3 ok_now) rfl (k_X3_beginAnew l G M2 0 h3 ok_now) cw_RX4_55 rfl rfl ⟨Nat.le_of_ble_eq_true rfl, Nat.le_of_ble_eq_true rfl⟩ rfl (Nat.le_of_ble_eq_true rfl) ⟨Nat.le_of_ble_eq_true rfl, Nat.le_of_ble_eq_true rfl⟩ dX4_begin_8 (fun H locs hM => ?_)
  refine lv_aload_n C0.1 C0.2.1 dX4_begin_11 rfl (lv_at hl 0 rfl) ?_
  refine gf4_0 C0 hM ok_tt fl_RX4_10 dX4_begin_12 ?_
  refine gf3_6 C0 hM ok_now fl_RX4_58 dX4_begin_15 ?_
  obtain ⟨e8, e9⟩ := y_2 hF
  subst e8
  subst e9
  exact y_iret C0 hM hsz dX4_begin_18

def F_X4_standing (M : MS) : Option UInt64 := (bd (F_X3_lifeOf M 0 (0 : Int32)) fun r2 => (bd (F_X3_lifeOf M 0 (1 : Int32)) fun r4 => (nm (r2 + r4) fun x5 => (if 0 < x5 then (gdb (nnb (FP.ddiv (FP.i2d r2) (FP.i2d x5))) (some (FP.ddiv (FP.i2d r2) (FP.i2d x5)))) else (some (4602678819172646912 : UInt64))))))

set_option maxHeartbeats 4000000 in
set_option maxRecDepth 100000 in
theorem k_X4_standing (l : Launch) (G : GG) (M : MS) {r : UInt64} (hF : F_X4_standing M = some r) : KDd l yX4_standing (WS yX4_standing cX4_standing 3 (some .double)) (Rm 2) G [.ref (gad G 216)] M r M := by
  intro sz
  refine y_met (by decide +kernel) (Nat.le_of_ble_eq_true rfl) rfl (fun p e s m below meth c ls hsz C0 hM hl => ?_)
  have hl : lv_has ls 3 [(0, .ref (gad G 216))] := hl
  have C0 : CX p s m meth c ([.ref (gad G 216)] : List Value).toArray cX4_standing RX4 3 (some .double) := C0
  rw [F_X4_standing] at hF
  refine lv_aload_n C0.1 C0.2.1 dX4_standing_0 rfl (lv_at hl 0 rfl) ?_
  refine gf4_0 C0 hM ok_tt fl_RX4_10 dX4_standing_1 ?_
  refine lv_iconst (v := (0 : Int32)) C0.1 C0.2.1 dX4_standing_4 (by decide) ?_
  obtain ⟨r2, h1, hF⟩ := bd_some hF
  refine y_vi (rest := []) C0 hM hl.1 ok_now (ent3 ok_now) rfl (k_X3_lifeOf l G M 0 (0 : Int32) h1 ok_now) cw_RX4_158 rfl rfl ⟨Nat.le_of_ble_eq_true rfl, Nat.le_of_ble_eq_true rfl⟩ rfl (Nat.le_of_ble_eq_true rfl) ⟨Nat.le_of_ble_eq_true rfl, Nat.le_of_ble_eq_true rfl⟩ dX4_standing_5 (fun H locs hM => ?_)
  refine lv_istore_n (lv' := [(1, .int r2), (0, .ref (gad G 216))]) C0.1 C0.2.1 dX4_standing_8 rfl hl (by decide) rfl (fun ls hl => ?_)
  refine lv_iload_n C0.1 C0.2.1 dX4_standing_9 rfl (lv_at hl 0 rfl) ?_
  refine lv_aload_n C0.1 C0.2.1 dX4_standing_10 rfl (lv_at hl 1 rfl) ?_
  refine gf4_0 C0 hM ok_tt fl_RX4_10 dX4_standing_11 ?_
  refine lv_iconst (v := (1 : Int32)) C0.1 C0.2.1 dX4_standing_14 (by decide) ?_
  obtain ⟨r4, h3, hF⟩ := bd_some hF
  refine y_vi (rest := [.int r2]) C0 hM hl.1 ok_now (ent3 ok_now) rfl (k_X3_lifeOf l G M 0 (1 : Int32) h3 ok_now) cw_RX4_158 rfl rfl ⟨Nat.le_of_ble_eq_true rfl, Nat.le_of_ble_eq_true rfl⟩ rfl (Nat.le_of_ble_eq_true rfl) ⟨Nat.le_of_ble_eq_true rfl, Nat.le_of_ble_eq_true rfl⟩ dX4_standing_15 (fun H locs hM => ?_)
  refine lv_iadd C0.1 C0.2.1 dX4_standing_18 ?_
  obtain ⟨x5, ex5, hF⟩ := nm_some hF
  refine y_topi ex5 ?_
  refine lv_istore_n (lv' := [(2, .int x5), (1, .int r2), (0, .ref (gad G 216))]) C0.1 C0.2.1 dX4_standing_19 rfl hl (by decide) rfl (fun ls hl => ?_)
  refine lv_iload_n C0.1 C0.2.1 dX4_standing_20 rfl (lv_at hl 0 rfl) ?_
  refine lv_if_gt (tgt := 28) C0.1 C0.2.1 dX4_standing_21 (by decide) (fun c6 => ?_) (fun c6 => ?_)
  · have hF := if_t c6 hF
    refine lv_iload_n C0.1 C0.2.1 dX4_standing_28 rfl (lv_at hl 1 rfl) ?_
    refine lv_i2d C0.1 C0.2.1 dX4_standing_29 ?_
    refine lv_iload_n C0.1 C0.2.1 dX4_standing_30 rfl (lv_at hl 0 rfl) ?_
    refine lv_i2d C0.1 C0.2.1 dX4_standing_31 ?_
    obtain ⟨g7, hF⟩ := gdb_some hF
    refine lv_ddiv C0.1 C0.2.1 dX4_standing_32 (nnb_n g7) ?_
    have e8 := y_1 hF
    subst e8
    exact y_dret C0 hM hsz dX4_standing_33
  · have hF := if_f c6 hF
    refine lv_ldc2d (v := (4602678819172646912 : UInt64)) C0.1 C0.2.1 C0.2.2.2.1 (C0.2.2.2.2.1 _ (tb1 630 (by decide +kernel) (by decide +kernel))) dX4_standing_24 ?_
    have e8 := y_1 hF
    subst e8
    exact y_dret C0 hM hsz dX4_standing_27

def F_X4_isWithin (M : MS) (a0 : Int32) (a1 : Int32) (a2 : Int32) : Option Int32 := (if a0 < a1 then (some (0 : Int32)) else (if a2 < a0 then (some (0 : Int32)) else (some (1 : Int32))))

set_option maxHeartbeats 4000000 in
set_option maxRecDepth 100000 in
theorem k_X4_isWithin (l : Launch) (G : GG) (M : MS) (a0 : Int32) (a1 : Int32) (a2 : Int32) {r : Int32} (hF : F_X4_isWithin M a0 a1 a2 = some r) : KI l yX4_isWithin (WS yX4_isWithin cX4_isWithin 3 (some .boolean)) (Rm 0) G [.int a0, .int a1, .int a2] M r M := by
  intro sz
  refine y_met (by decide +kernel) (Nat.le_of_ble_eq_true rfl) rfl (fun p e s m below meth c ls hsz C0 hM hl => ?_)
  have hl : lv_has ls 3 [(0, .int a0), (1, .int a1), (2, .int a2)] := hl
  have C0 : CX p s m meth c ([.int a0, .int a1, .int a2] : List Value).toArray cX4_isWithin RX4 3 (some .boolean) := C0
  rw [F_X4_isWithin] at hF
  refine lv_iload_n C0.1 C0.2.1 dX4_isWithin_0 rfl (lv_at hl 0 rfl) ?_
  refine lv_iload_n C0.1 C0.2.1 dX4_isWithin_1 rfl (lv_at hl 1 rfl) ?_
  refine lv_icmp_lt (tgt := 14) C0.1 C0.2.1 dX4_isWithin_2 (by decide) (fun c1 => ?_) (fun c1 => ?_)
  · have hF := if_t c1 hF
    refine lv_iconst (v := (0 : Int32)) C0.1 C0.2.1 dX4_isWithin_14 (by decide) ?_
    have e8 := y_1 hF
    subst e8
    exact y_zret C0 hM hsz rfl dX4_isWithin_15
  · have hF := if_f c1 hF
    refine lv_iload_n C0.1 C0.2.1 dX4_isWithin_5 rfl (lv_at hl 0 rfl) ?_
    refine lv_iload_n C0.1 C0.2.1 dX4_isWithin_6 rfl (lv_at hl 2 rfl) ?_
    refine lv_icmp_gt (tgt := 14) C0.1 C0.2.1 dX4_isWithin_7 (by decide) (fun c2 => ?_) (fun c2 => ?_)
    · have hF := if_t c2 hF
      refine lv_iconst (v := (0 : Int32)) C0.1 C0.2.1 dX4_isWithin_14 (by decide) ?_
      have e8 := y_1 hF
      subst e8
      exact y_zret C0 hM hsz rfl dX4_isWithin_15
    · have hF := if_f c2 hF
      refine lv_iconst (v := (1 : Int32)) C0.1 C0.2.1 dX4_isWithin_10 (by decide) ?_
      refine lv_goto (tgt := 15) C0.1 C0.2.1 dX4_isWithin_11 (by decide) ?_
      have e8 := y_1 hF
      subst e8
      exact y_zret C0 hM hsz rfl dX4_isWithin_15

def F_X4_counted (M : MS) (a0 : Int32) : Option Int32 := (if ¬ a0 = (12 : Int32) then (bd (F_X3_counted M 0 a0) fun r3 => (some r3)) else (some (rF M 67 216)))

set_option maxHeartbeats 4000000 in
set_option maxRecDepth 100000 in
theorem k_X4_counted (l : Launch) (G : GG) (M : MS) (a0 : Int32) {r : Int32} (hF : F_X4_counted M a0 = some r) : KI l yX4_counted (WS yX4_counted cX4_counted 2 (some .int)) (Rm 3) G [.ref (gad G 216), .int a0] M r M := by
  intro sz
  refine y_met (by decide +kernel) (Nat.le_of_ble_eq_true rfl) rfl (fun p e s m below meth c ls hsz C0 hM hl => ?_)
  have hl : lv_has ls 2 [(0, .ref (gad G 216)), (1, .int a0)] := hl
  have C0 : CX p s m meth c ([.ref (gad G 216), .int a0] : List Value).toArray cX4_counted RX4 2 (some .int) := C0
  rw [F_X4_counted] at hF
  refine lv_iload_n C0.1 C0.2.1 dX4_counted_0 rfl (lv_at hl 1 rfl) ?_
  refine lv_bipush (v := (12 : Int32)) C0.1 C0.2.1 dX4_counted_1 (by decide) ?_
  refine lv_icmp_ne (tgt := 13) C0.1 C0.2.1 dX4_counted_3 (by decide) (fun c1 => ?_) (fun c1 => ?_)
  · have hF := if_t c1 hF
    refine lv_aload_n C0.1 C0.2.1 dX4_counted_13 rfl (lv_at hl 0 rfl) ?_
    refine gf4_0 C0 hM ok_tt fl_RX4_10 dX4_counted_14 ?_
    refine lv_iload_n C0.1 C0.2.1 dX4_counted_17 rfl (lv_at hl 1 rfl) ?_
    obtain ⟨r3, h2, hF⟩ := bd_some hF
    refine y_vi (rest := []) C0 hM hl.1 ok_now (ent3 ok_now) rfl (k_X3_counted l G M 0 a0 h2 ok_now) cw_RX4_221 rfl rfl ⟨Nat.le_of_ble_eq_true rfl, Nat.le_of_ble_eq_true rfl⟩ rfl (Nat.le_of_ble_eq_true rfl) ⟨Nat.le_of_ble_eq_true rfl, Nat.le_of_ble_eq_true rfl⟩ dX4_counted_18 (fun H locs hM => ?_)
    have e8 := y_1 hF
    subst e8
    exact y_iret C0 hM hsz dX4_counted_21
  · have hF := if_f (fun q => q c1) hF
    refine lv_aload_n C0.1 C0.2.1 dX4_counted_6 rfl (lv_at hl 0 rfl) ?_
    refine gf4_3 C0 hM ok_tt fl_RX4_23 dX4_counted_7 ?_
    refine lv_goto (tgt := 21) C0.1 C0.2.1 dX4_counted_10 (by decide) ?_
    have e8 := y_1 hF
    subst e8
    exact y_iret C0 hM hsz dX4_counted_21
