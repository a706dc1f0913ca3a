def F_X4_dropOldest_l9 (k2 : Nat) : Nat → Int32 → MS → Option MS
  | 0, _, _ => none
  | n9 + 1, l2_4, M5 => (if (6 : Int32) ≤ l2_4 then (gdb (inb ((6 : Int32) - (1 : Int32)) 6) (nm (wS M5 (Int32.toNatClampNeg ((6 : Int32) - (1 : Int32))) k2) fun M8 => (nm (wF M8 67 216 ((6 : Int32) - (1 : Int32))) fun M9 => (some M9)))) else (gdb (inb l2_4 6) (nm (rS M5 (Int32.toNatClampNeg l2_4)) fun k11 => gdb (decide (k11 < 8)) (gdb (inb (l2_4 - (1 : Int32)) 6) (nm (wS M5 (Int32.toNatClampNeg (l2_4 - (1 : Int32))) k11) fun M14 => (nm (l2_4 + (1 : Int32)) fun x15 => (F_X4_dropOldest_l9 k2 n9 x15 M14)))))))

def F_X4_dropOldest (M : MS) : Option MS := (gdb (inb (0 : Int32) 6) (nm (rS M (Int32.toNatClampNeg (0 : Int32))) fun k2 => gdb (decide (k2 < 8)) (F_X4_dropOldest_l9 k2 FU (1 : Int32) M)))

set_option maxHeartbeats 4000000 in
set_option maxRecDepth 100000 in
theorem k_X4_dropOldest (l : Launch) (G : GG) (M : MS) {Mf : MS} (hF : F_X4_dropOldest M = some Mf) : KV l yX4_dropOldest (WS yX4_dropOldest cX4_dropOldest 3 none) (Rm 0) G [.ref (gad G 216)] M Mf := by
  intro sz
  refine y_met (by decide +kernel) (Nat.le_of_ble_eq_true rfl) rfl (fun p e s m below meth c ls hsz C0 hM hl => ?_)
  have hl : lv_has ls 3 [(0, .ref (gad G 216))] := hl
  have C0 : CX p s m meth c ([.ref (gad G 216)] : List Value).toArray cX4_dropOldest RX4 3 none := C0
  rw [F_X4_dropOldest] at hF
  refine lv_aload_n C0.1 C0.2.1 dX4_dropOldest_0 rfl (lv_at hl 0 rfl) ?_
  refine gf4_2 C0 hM ok_tt fl_RX4_19 dX4_dropOldest_1 ?_
  refine lv_iconst (v := (0 : Int32)) C0.1 C0.2.1 dX4_dropOldest_4 (by decide) ?_
  obtain ⟨g1, hF⟩ := gdb_some hF
  refine y_aald8 C0 hM ok_saved g1 dX4_dropOldest_5 ?_
  obtain ⟨k2, ek2, hF⟩ := nm_some hF
  refine y_topsk ek2 ?_
  obtain ⟨g3, hF⟩ := gdb_some hF
  refine lv_astore_n (lv' := [(1, .ref (gad G (27 * k2))), (0, .ref (gad G 216))]) C0.1 C0.2.1 dX4_dropOldest_6 rfl hl (by decide) rfl (fun ls hl => ?_)
  refine lv_iconst (v := (1 : Int32)) C0.1 C0.2.1 dX4_dropOldest_7 (by decide) ?_
  refine lv_istore_n (lv' := [(2, .int (1 : Int32)), (1, .ref (gad G (27 * k2))), (0, .ref (gad G 216))]) C0.1 C0.2.1 dX4_dropOldest_8 rfl hl (by decide) rfl (fun ls hl => ?_)
  have L9 : ∀ (n : Nat) (l2_4 : Int32) (M5 : MS) (H : Heap) (locs : List Loc) (ls : Array Slot), MX G M5 s H locs → lv_has ls 3 [(0, .ref (gad G 216)), (1, .ref (gad G (27 * k2))), (2, .int l2_4)] → F_X4_dropOldest_l9 k2 n l2_4 M5 = some Mf → W p l e (Rm 0) s m ([.ref (gad G 216)] : List Value).toArray below meth c H locs 0 0 (QV below ([.ref (gad G 216)] : List Value).toArray s G sz Mf) (F0 m 9 ls []) := by
    intro n
    induction n with
    | zero => intro l2_4 M5 H locs ls hM hl hF; rw [F_X4_dropOldest_l9] at hF; cases hF
    | succ n9 ih9 =>
      intro l2_4 M5 H locs ls hM hl hF
      rw [F_X4_dropOldest_l9] at hF
      refine lv_iload_n C0.1 C0.2.1 dX4_dropOldest_9 rfl (lv_at hl 2 rfl) ?_
      refine lv_aload_n C0.1 C0.2.1 dX4_dropOldest_10 rfl (lv_at hl 0 rfl) ?_
      refine gf4_2 C0 hM ok_tt fl_RX4_19 dX4_dropOldest_11 ?_
      refine y_alen8 C0 hM ok_saved dX4_dropOldest_14 ?_
      refine lv_icmp_ge (tgt := 38) C0.1 C0.2.1 dX4_dropOldest_15 (by decide) (fun c6 => ?_) (fun c6 => ?_)
      · have hF := if_t c6 hF
        refine lv_aload_n C0.1 C0.2.1 dX4_dropOldest_38 rfl (lv_at hl 0 rfl) ?_
        refine gf4_2 C0 hM ok_tt fl_RX4_19 dX4_dropOldest_39 ?_
        refine lv_aload_n C0.1 C0.2.1 dX4_dropOldest_42 rfl (lv_at hl 0 rfl) ?_
        refine gf4_2 C0 hM ok_tt fl_RX4_19 dX4_dropOldest_43 ?_
        refine y_alen8 C0 hM ok_saved dX4_dropOldest_46 ?_
        refine lv_iconst (v := (1 : Int32)) C0.1 C0.2.1 dX4_dropOldest_47 (by decide) ?_
        refine lv_isub C0.1 C0.2.1 dX4_dropOldest_48 ?_
        refine lv_aload_n C0.1 C0.2.1 dX4_dropOldest_49 rfl (lv_at hl 1 rfl) ?_
        obtain ⟨g7, hF⟩ := gdb_some hF
        refine y_aast8 C0 hM ok_saved (of_decide_eq_true g3) g7 dX4_dropOldest_50 (fun H locs hM => ?_)
        obtain ⟨M8, eM8, hF⟩ := nm_some hF
        have hM := y_mn eM8 hM
        refine lv_aload_n C0.1 C0.2.1 dX4_dropOldest_51 rfl (lv_at hl 0 rfl) ?_
        refine lv_aload_n C0.1 C0.2.1 dX4_dropOldest_52 rfl (lv_at hl 0 rfl) ?_
        refine gf4_2 C0 hM ok_tt fl_RX4_19 dX4_dropOldest_53 ?_
        refine y_alen8 C0 hM ok_saved dX4_dropOldest_56 ?_
        refine lv_iconst (v := (1 : Int32)) C0.1 C0.2.1 dX4_dropOldest_57 (by decide) ?_
        refine lv_isub C0.1 C0.2.1 dX4_dropOldest_58 ?_
        refine pf4_3 C0 hM ok_tt fl_RX4_23 dX4_dropOldest_59 (fun H locs hM => ?_)
        obtain ⟨M9, eM9, hF⟩ := nm_some hF
        have hM := y_mn eM9 hM
        have e9 := y_1 hF
        subst e9
        exact y_vret C0 hM hsz dX4_dropOldest_62
      · have hF := if_f c6 hF
        refine lv_aload_n C0.1 C0.2.1 dX4_dropOldest_18 rfl (lv_at hl 0 rfl) ?_
        refine gf4_2 C0 hM ok_tt fl_RX4_19 dX4_dropOldest_19 ?_
        refine lv_iload_n C0.1 C0.2.1 dX4_dropOldest_22 rfl (lv_at hl 2 rfl) ?_
        refine lv_iconst (v := (1 : Int32)) C0.1 C0.2.1 dX4_dropOldest_23 (by decide) ?_
        refine lv_isub C0.1 C0.2.1 dX4_dropOldest_24 ?_
        refine lv_aload_n C0.1 C0.2.1 dX4_dropOldest_25 rfl (lv_at hl 0 rfl) ?_
        refine gf4_2 C0 hM ok_tt fl_RX4_19 dX4_dropOldest_26 ?_
        refine lv_iload_n C0.1 C0.2.1 dX4_dropOldest_29 rfl (lv_at hl 2 rfl) ?_
        obtain ⟨g10, hF⟩ := gdb_some hF
        refine y_aald8 C0 hM ok_saved g10 dX4_dropOldest_30 ?_
        obtain ⟨k11, ek11, hF⟩ := nm_some hF
        refine y_topsk ek11 ?_
        obtain ⟨g12, hF⟩ := gdb_some hF
        obtain ⟨g13, hF⟩ := gdb_some hF
        refine y_aast8 C0 hM ok_saved (of_decide_eq_true g12) g13 dX4_dropOldest_31 (fun H locs hM => ?_)
        obtain ⟨M14, eM14, hF⟩ := nm_some hF
        have hM := y_mn eM14 hM
        obtain ⟨x15, ex15, hF⟩ := nm_some hF
        refine lv_iinc (v := x15) (lv' := [(2, .int x15), (0, .ref (gad G 216)), (1, .ref (gad G (27 * k2)))]) C0.1 C0.2.1 dX4_dropOldest_32 hl (k := 2) rfl (by rw [ex15]; rfl) (by decide) rfl (fun ls hl => ?_)
        refine lv_goto (tgt := 9) C0.1 C0.2.1 dX4_dropOldest_35 (by decide) ?_
        exact ih9 x15 M14 _ _ _ hM (lv_sub hl [1, 2, 0] rfl) hF
  exact L9 FU (1 : Int32) M _ _ _ hM (lv_sub hl [2, 1, 0] rfl) hF

def F_X4_save (M : MS) : Option MS := (nm (fun (M1 : MS) => (if (rF M1 67 216) < 0 then (some M1) else (if (6 : Int32) ≤ (rF M1 67 216) then (some M1) else (gdb (inb (rF M1 67 216) 6) (nm (rS M1 (Int32.toNatClampNeg (rF M1 67 216))) fun k6 => gdb (decide (k6 < 8)) (bd (F_X3_copyFrom M1 (27 * k6) 0) fun M9 => (nm (wF M9 67 216 ((rF M9 67 216) + (1 : Int32))) fun M10 => (some M10)))))))) fun j16_1 => (if (rF M 67 216) < (6 : Int32) then (j16_1 M) else (bd (F_X4_dropOldest M) fun M13 => (j16_1 M13))))

set_option maxHeartbeats 4000000 in
set_option maxRecDepth 100000 in
theorem k_X4_save (l : Launch) (G : GG) (M : MS) {Mf : MS} (hF : F_X4_save M = some Mf) : KV l yX4_save (WS yX4_save cX4_save 1 none) (Rm 3) G [.ref (gad G 216)] M Mf := by
  intro sz
  refine y_met (by decide +kernel) (Nat.le_of_ble_eq_true rfl) rfl (fun p e s m below meth c ls hsz C0 hM hl => ?_)
  have hl : lv_has ls 1 [(0, .ref (gad G 216))] := hl
  have C0 : CX p s m meth c ([.ref (gad G 216)] : List Value).toArray cX4_save RX4 1 none := C0
  rw [F_X4_save] at hF
  refine lv_aload_n C0.1 C0.2.1 dX4_save_0 rfl (lv_at hl 0 rfl) ?_
  refine gf4_3 C0 hM ok_tt fl_RX4_23 dX4_save_1 ?_
  refine lv_aload_n C0.1 C0.2.1 dX4_save_4 rfl (lv_at hl 0 rfl) ?_
  refine gf4_2 C0 hM ok_tt fl_RX4_19 dX4_save_5 ?_
  refine y_alen8 C0 hM ok_saved dX4_save_8 ?_
  obtain ⟨j16_1, ej16_1, hF⟩ := nm_some hF
  have J16 : ∀ (M1 : MS) (H : Heap) (locs : List Loc) (ls : Array Slot), MX G M1 s H locs → lv_has ls 1 [(0, .ref (gad G 216))] → j16_1 M1 = some Mf → W p l e (Rm 3) s m ([.ref (gad G 216)] : List Value).toArray below meth c H locs 0 0 (QV below ([.ref (gad G 216)] : List Value).toArray s G sz Mf) (F0 m 16 ls []) := by
    intro M1 H locs ls hM hl hF
    rw [ej16_1] at hF
    refine lv_aload_n C0.1 C0.2.1 dX4_save_16 rfl (lv_at hl 0 rfl) ?_
    refine gf4_3 C0 hM ok_tt fl_RX4_23 dX4_save_17 ?_
    refine lv_if_lt (tgt := 61) C0.1 C0.2.1 dX4_save_20 (by decide) (fun c3 => ?_) (fun c3 => ?_)
    · have hF := if_t c3 hF
      have e9 := y_1 hF
      subst e9
      exact y_vret C0 hM hsz dX4_save_61
    · have hF := if_f c3 hF
      refine lv_aload_n C0.1 C0.2.1 dX4_save_23 rfl (lv_at hl 0 rfl) ?_
      refine gf4_3 C0 hM ok_tt fl_RX4_23 dX4_save_24 ?_
      refine lv_aload_n C0.1 C0.2.1 dX4_save_27 rfl (lv_at hl 0 rfl) ?_
      refine gf4_2 C0 hM ok_tt fl_RX4_19 dX4_save_28 ?_
      refine y_alen8 C0 hM ok_saved dX4_save_31 ?_
      refine lv_icmp_ge (tgt := 61) C0.1 C0.2.1 dX4_save_32 (by decide) (fun c4 => ?_) (fun c4 => ?_)
      · have hF := if_t c4 hF
        have e9 := y_1 hF
        subst e9
        exact y_vret C0 hM hsz dX4_save_61
      · have hF := if_f c4 hF
        refine lv_aload_n C0.1 C0.2.1 dX4_save_35 rfl (lv_at hl 0 rfl) ?_
        refine gf4_2 C0 hM ok_tt fl_RX4_19 dX4_save_36 ?_
        refine lv_aload_n C0.1 C0.2.1 dX4_save_39 rfl (lv_at hl 0 rfl) ?_
        refine gf4_3 C0 hM ok_tt fl_RX4_23 dX4_save_40 ?_
        obtain ⟨g5, hF⟩ := gdb_some hF
        refine y_aald8 C0 hM ok_saved g5 dX4_save_43 ?_
        obtain ⟨k6, ek6, hF⟩ := nm_some hF
        refine y_topsk ek6 ?_
        obtain ⟨g7, hF⟩ := gdb_some hF
        refine lv_aload_n C0.1 C0.2.1 dX4_save_44 rfl (lv_at hl 0 rfl) ?_
        refine gf4_0 C0 hM ok_tt fl_RX4_10 dX4_save_45 ?_
        obtain ⟨M9, h8, hF⟩ := bd_some hF
        refine y_vv (rest := []) C0 hM hl.1 (ok_sk (of_decide_eq_true g7)) (ent3 (ok_sk (of_decide_eq_true g7))) rfl (k_X3_copyFrom l G M1 (27 * k6) 0 h8 (ok_sk (of_decide_eq_true g7)) ok_now) cw_RX4_112 rfl rfl ⟨Nat.le_of_ble_eq_true rfl, Nat.le_of_ble_eq_true rfl⟩ rfl (Nat.le_of_ble_eq_true rfl) ⟨Nat.le_of_ble_eq_true rfl, Nat.le_of_ble_eq_true rfl⟩ dX4_save_48 (fun H locs hM => ?_)
        refine lv_aload_n C0.1 C0.2.1 dX4_save_51 rfl (lv_at hl 0 rfl) ?_
        refine lv_dup C0.1 C0.2.1 dX4_save_52 rfl ?_
        refine gf4_3 C0 hM ok_tt fl_RX4_23 dX4_save_53 ?_
        refine lv_iconst (v := (1 : Int32)) C0.1 C0.2.1 dX4_save_56 (by decide) ?_
        refine lv_iadd C0.1 C0.2.1 dX4_save_57 ?_
        refine pf4_3 C0 hM ok_tt fl_RX4_23 dX4_save_58 (fun H locs hM => ?_)
        obtain ⟨M10, eM10, hF⟩ := nm_some hF
        have hM := y_mn eM10 hM
        have e9 := y_1 hF
        subst e9
        exact y_vret C0 hM hsz dX4_save_61
  refine lv_icmp_lt (tgt := 16) C0.1 C0.2.1 dX4_save_9 (by decide) (fun c11 => ?_) (fun c11 => ?_)
  · have hF := if_t c11 hF
    exact J16 M _ _ _ hM (lv_sub hl [0] rfl) hF
  · have hF := if_f c11 hF
    refine lv_aload_n C0.1 C0.2.1 dX4_save_12 rfl (lv_at hl 0 rfl) ?_
    obtain ⟨M13, h12, hF⟩ := bd_some hF
    refine y_vv (rest := []) C0 hM hl.1 ok_tt (ent4 ok_tt) rfl (k_X4_dropOldest l G M h12) cw_RX4_212 rfl rfl ⟨Nat.le_of_ble_eq_true rfl, Nat.le_of_ble_eq_true rfl⟩ rfl (Nat.le_of_ble_eq_true rfl) ⟨Nat.le_of_ble_eq_true rfl, Nat.le_of_ble_eq_true rfl⟩ dX4_save_13 (fun H locs hM => ?_)
    exact J16 M13 _ _ _ hM (lv_sub hl [0] rfl) hF

def F_X4_begin (M : MS) : Option (Int32 × MS) := (bd (F_X4_save M) fun M2 => (bd (F_X3_beginAnew M2 0) fun M4 => (some ((rF M4 54 0), M4))))

set_option maxHeartbeats 4000000 in
set_option maxRecDepth 100000 in
theorem k_X4_begin (l : Launch) (G : GG) (M : MS) {r : Int32} {Mf : MS} (hF : F_X4_begin M = some (r, Mf)) : KI l yX4_begin (WS yX4_begin cX4_begin 1 (some .int)) (Rm 5) G [.ref (gad G 216)] M r Mf := by
  intro sz
  refine y_met (by decide +kernel) (Nat.le_of_ble_eq_true rfl) rfl (fun p e s m below meth c ls hsz C0 hM hl => ?_)
  have hl : lv_has ls 1 [(0, .ref (gad G 216))] := hl
  have C0 : CX p s m meth c ([.ref (gad G 216)] : List Value).toArray cX4_begin RX4 1 (some .int) := C0
  rw [F_X4_begin] at hF
  refine lv_aload_n C0.1 C0.2.1 dX4_begin_0 rfl (lv_at hl 0 rfl) ?_
  obtain ⟨M2, h1, hF⟩ := bd_some hF
  refine y_vv (rest := []) C0 hM hl.1 ok_tt (ent4 ok_tt) rfl (k_X4_save l G M h1) cw_RX4_48 rfl rfl ⟨Nat.le_of_ble_eq_true rfl, Nat.le_of_ble_eq_true rfl⟩ rfl (Nat.le_of_ble_eq_true rfl) ⟨Nat.le_of_ble_eq_true rfl, Nat.le_of_ble_eq_true rfl⟩ dX4_begin_1 (fun H locs hM => ?_)
  refine lv_aload_n C0.1 C0.2.1 dX4_begin_4 rfl (lv_at hl 0 rfl) ?_
  refine gf4_0 C0 hM ok_tt fl_RX4_10 dX4_begin_5 ?_
  obtain ⟨M4, h3, hF⟩ := bd_some hF
  refine y_vv (rest := []) C0 hM hl.1 ok_now (ent3 ok_now) rfl (k_X3_beginAnew l G M2 0 h3 ok_now) cw_RX4_55 rfl rfl ⟨Nat.le_of_ble_eq_true rfl, Nat.le_of_ble_eq_true rfl⟩ rfl (Nat.le_of_ble_eq_true rfl) ⟨Nat.le_of_ble_eq_true rfl, Nat.le_of_ble_eq_true rfl⟩ dX4_begin_8 (fun H locs hM => ?_)
  refine lv_aload_n C0.1 C0.2.1 dX4_begin_11 rfl (lv_at hl 0 rfl) ?_
  refine gf4_0 C0 hM ok_tt fl_RX4_10 dX4_begin_12 ?_
  refine gf3_6 C0 hM ok_now fl_RX4_58 dX4_begin_15 ?_
  obtain ⟨e8, e9⟩ := y_2 hF
  subst e8
  subst e9
  exact y_iret C0 hM hsz dX4_begin_18

def F_X4_clearBuffer (M : MS) : Option (Int32 × MS) := (nm (rF M 17 218) fun x1 => (nm (wF M 17 218 (0 : Int32)) fun M2 => (some (x1, M2))))

set_option maxHeartbeats 4000000 in
set_option maxRecDepth 100000 in
theorem k_X4_clearBuffer (l : Launch) (G : GG) (M : MS) {r : Int32} {Mf : MS} (hF : F_X4_clearBuffer M = some (r, Mf)) : KI l yX4_clearBuffer (WS yX4_clearBuffer cX4_clearBuffer 2 (some .int)) (Rm 0) G [.ref (gad G 216)] M r Mf := by
  intro sz
  refine y_met (by decide +kernel) (Nat.le_of_ble_eq_true rfl) rfl (fun p e s m below meth c ls hsz C0 hM hl => ?_)
  have hl : lv_has ls 2 [(0, .ref (gad G 216))] := hl
  have C0 : CX p s m meth c ([.ref (gad G 216)] : List Value).toArray cX4_clearBuffer RX4 2 (some .int) := C0
  rw [F_X4_clearBuffer] at hF
  refine lv_aload_n C0.1 C0.2.1 dX4_clearBuffer_0 rfl (lv_at hl 0 rfl) ?_
  refine gf4_4 C0 hM ok_tt fl_RX4_30 dX4_clearBuffer_1 ?_
  refine gf1_1 C0 hM ok_text fl_RX4_89 dX4_clearBuffer_4 ?_
  obtain ⟨x1, ex1, hF⟩ := nm_some hF
  refine y_topi ex1 ?_
  refine lv_istore_n (lv' := [(1, .int x1), (0, .ref (gad G 216))]) C0.1 C0.2.1 dX4_clearBuffer_7 rfl hl (by decide) rfl (fun ls hl => ?_)
  refine lv_aload_n C0.1 C0.2.1 dX4_clearBuffer_8 rfl (lv_at hl 1 rfl) ?_
  refine gf4_4 C0 hM ok_tt fl_RX4_30 dX4_clearBuffer_9 ?_
  refine lv_iconst (v := (0 : Int32)) C0.1 C0.2.1 dX4_clearBuffer_12 (by decide) ?_
  refine pf1_1 C0 hM ok_text fl_RX4_89 dX4_clearBuffer_13 (fun H locs hM => ?_)
  obtain ⟨M2, eM2, hF⟩ := nm_some hF
  have hM := y_mn eM2 hM
  refine lv_iload_n C0.1 C0.2.1 dX4_clearBuffer_16 rfl (lv_at hl 0 rfl) ?_
  obtain ⟨e8, e9⟩ := y_2 hF
  subst e8
  subst e9
  exact y_iret C0 hM hsz dX4_clearBuffer_17

def F_X4_firstError (M : MS) : Option Int32 := (bd (F_X1_firstWrong M) fun r2 => (some r2))

set_option maxHeartbeats 4000000 in
set_option maxRecDepth 100000 in
theorem k_X4_firstError (l : Launch) (G : GG) (M : MS) {r : Int32} (hF : F_X4_firstError M = some r) : KI l yX4_firstError (WS yX4_firstError cX4_firstError 1 (some .int)) (Rm 3) G [.ref (gad G 216)] M r M := by
  intro sz
  refine y_met (by decide +kernel) (Nat.le_of_ble_eq_true rfl) rfl (fun p e s m below meth c ls hsz C0 hM hl => ?_)
  have hl : lv_has ls 1 [(0, .ref (gad G 216))] := hl
  have C0 : CX p s m meth c ([.ref (gad G 216)] : List Value).toArray cX4_firstError RX4 1 (some .int) := C0
  rw [F_X4_firstError] at hF
  refine lv_aload_n C0.1 C0.2.1 dX4_firstError_0 rfl (lv_at hl 0 rfl) ?_
  refine gf4_4 C0 hM ok_tt fl_RX4_30 dX4_firstError_1 ?_
  obtain ⟨r2, h1, hF⟩ := bd_some hF
  refine y_vi (rest := []) C0 hM hl.1 ok_text (ent1 ok_text) rfl (k_X1_firstWrong l G M h1) cw_RX4_95 rfl rfl ⟨Nat.le_of_ble_eq_true rfl, Nat.le_of_ble_eq_true rfl⟩ rfl (Nat.le_of_ble_eq_true rfl) ⟨Nat.le_of_ble_eq_true rfl, Nat.le_of_ble_eq_true rfl⟩ dX4_firstError_4 (fun H locs hM => ?_)
  have e8 := y_1 hF
  subst e8
  exact y_iret C0 hM hsz dX4_firstError_7

def F_X4_bestStrike_l38 (M5 : MS) : Nat → Int32 → Int32 → Int32 → Option (Int32 × MS)
  | 0, _, _, _ => none
  | n38 + 1, l1_6, l2_7, l3_8 => (if (rF M5 52 0) ≤ l3_8 then (some (l1_6, M5)) else (bd (F_X3_areFoes M5 0 (rF M5 54 0) l3_8) fun r11 => (if r11 = 0 then (nm (l3_8 + (1 : Int32)) fun x13 => (F_X4_bestStrike_l38 M5 n38 l1_6 l2_7 x13)) else (bd (F_X3_isPossible M5 0 (rF M5 54 0) (0 : Int32) l3_8) fun r15 => (if r15 = 0 then (nm (l3_8 + (1 : Int32)) fun x17 => (F_X4_bestStrike_l38 M5 n38 l1_6 l2_7 x17)) else (bd (F_X3_isPossible M5 27 (rF M5 54 0) (0 : Int32) l3_8) fun r19 => (if r19 = 0 then (nm (l3_8 + (1 : Int32)) fun x21 => (F_X4_bestStrike_l38 M5 n38 l1_6 l2_7 x21)) else (bd (F_X3_at M5 27 (rF M5 54 0)) fun r23 => (bd (F_X3_at M5 27 l3_8) fun r25 => (bd (F_X0_lossAt M5 r23 r25) fun r27 => (if r27 ≤ l2_7 then (nm (l3_8 + (1 : Int32)) fun x29 => (F_X4_bestStrike_l38 M5 n38 l1_6 l2_7 x29)) else (nm (l3_8 + (1 : Int32)) fun x30 => (F_X4_bestStrike_l38 M5 n38 l3_8 r27 x30)))))))))))))

def F_X4_bestStrike (M : MS) : Option (Int32 × MS) := (if ¬ (rF M 54 0) = (-1 : Int32) then (bd (F_X3_copyFrom M 27 0) fun M3 => (bd (F_X3_setOff M3 27 (0 : Int32)) fun M5 => (F_X4_bestStrike_l38 M5 FU (-1 : Int32) (-1 : Int32) (0 : Int32)))) else (some ((-1 : Int32), M)))

set_option maxHeartbeats 4000000 in
set_option maxRecDepth 100000 in
theorem k_X4_bestStrike (l : Launch) (G : GG) (M : MS) {r : Int32} {Mf : MS} (hF : F_X4_bestStrike M = some (r, Mf)) : KI l yX4_bestStrike (WS yX4_bestStrike cX4_bestStrike 5 (some .int)) (Rm 4) G [.ref (gad G 216)] M r Mf := by
  intro sz
  refine y_met (by decide +kernel) (Nat.le_of_ble_eq_true rfl) rfl (fun p e s m below meth c ls hsz C0 hM hl => ?_)
  have hl : lv_has ls 5 [(0, .ref (gad G 216))] := hl
  have C0 : CX p s m meth c ([.ref (gad G 216)] : List Value).toArray cX4_bestStrike RX4 5 (some .int) := C0
  rw [F_X4_bestStrike] at hF
  refine lv_aload_n C0.1 C0.2.1 dX4_bestStrike_0 rfl (lv_at hl 0 rfl) ?_
  refine gf4_0 C0 hM ok_tt fl_RX4_10 dX4_bestStrike_1 ?_
  refine gf3_6 C0 hM ok_now fl_RX4_58 dX4_bestStrike_4 ?_
  refine lv_iconst (v := (-1 : Int32)) C0.1 C0.2.1 dX4_bestStrike_7 (by decide) ?_
  refine lv_icmp_ne (tgt := 13) C0.1 C0.2.1 dX4_bestStrike_8 (by decide) (fun c1 => ?_) (fun c1 => ?_)
  · have hF := if_t c1 hF
    refine lv_aload_n C0.1 C0.2.1 dX4_bestStrike_13 rfl (lv_at hl 0 rfl) ?_
    refine gf4_1 C0 hM ok_tt fl_RX4_16 dX4_bestStrike_14 ?_
    refine lv_aload_n C0.1 C0.2.1 dX4_bestStrike_17 rfl (lv_at hl 0 rfl) ?_
    refine gf4_0 C0 hM ok_tt fl_RX4_10 dX4_bestStrike_18 ?_
    obtain ⟨M3, h2, hF⟩ := bd_some hF
    refine y_vv (rest := []) C0 hM hl.1 ok_scratch (ent3 ok_scratch) rfl (k_X3_copyFrom l G M 27 0 h2 ok_scratch ok_now) cw_RX4_112 rfl rfl ⟨Nat.le_of_ble_eq_true rfl, Nat.le_of_ble_eq_true rfl⟩ rfl (Nat.le_of_ble_eq_true rfl) ⟨Nat.le_of_ble_eq_true rfl, Nat.le_of_ble_eq_true rfl⟩ dX4_bestStrike_21 (fun H locs hM => ?_)
    refine lv_aload_n C0.1 C0.2.1 dX4_bestStrike_24 rfl (lv_at hl 0 rfl) ?_
    refine gf4_1 C0 hM ok_tt fl_RX4_16 dX4_bestStrike_25 ?_
    refine lv_iconst (v := (0 : Int32)) C0.1 C0.2.1 dX4_bestStrike_28 (by decide) ?_
    obtain ⟨M5, h4, hF⟩ := bd_some hF
    refine y_vv (rest := []) C0 hM hl.1 ok_scratch (ent3 ok_scratch) rfl (k_X3_setOff l G M3 27 (0 : Int32) h4 ok_scratch) cw_RX4_147 rfl rfl ⟨Nat.le_of_ble_eq_true rfl, Nat.le_of_ble_eq_true rfl⟩ rfl (Nat.le_of_ble_eq_true rfl) ⟨Nat.le_of_ble_eq_true rfl, Nat.le_of_ble_eq_true rfl⟩ dX4_bestStrike_29 (fun H locs hM => ?_)
    refine lv_iconst (v := (-1 : Int32)) C0.1 C0.2.1 dX4_bestStrike_32 (by decide) ?_
    refine lv_istore_n (lv' := [(1, .int (-1 : Int32)), (0, .ref (gad G 216))]) C0.1 C0.2.1 dX4_bestStrike_33 rfl hl (by decide) rfl (fun ls hl => ?_)
    refine lv_iconst (v := (-1 : Int32)) C0.1 C0.2.1 dX4_bestStrike_34 (by decide) ?_
    refine lv_istore_n (lv' := [(2, .int (-1 : Int32)), (1, .int (-1 : Int32)), (0, .ref (gad G 216))]) C0.1 C0.2.1 dX4_bestStrike_35 rfl hl (by decide) rfl (fun ls hl => ?_)
    refine lv_iconst (v := (0 : Int32)) C0.1 C0.2.1 dX4_bestStrike_36 (by decide) ?_
    refine lv_istore_n (lv' := [(3, .int (0 : Int32)), (2, .int (-1 : Int32)), (1, .int (-1 : Int32)), (0, .ref (gad G 216))]) C0.1 C0.2.1 dX4_bestStrike_37 rfl hl (by decide) rfl (fun ls hl => ?_)
    have L38 : ∀ (n : Nat) (l1_6 : Int32) (l2_7 : Int32) (l3_8 : Int32) (H : Heap) (locs : List Loc) (ls : Array Slot), MX G M5 s H locs → lv_has ls 5 [(0, .ref (gad G 216)), (1, .int l1_6), (2, .int l2_7), (3, .int l3_8)] → F_X4_bestStrike_l38 M5 n l1_6 l2_7 l3_8 = some (r, Mf) → W p l e (Rm 4) s m ([.ref (gad G 216)] : List Value).toArray below meth c H locs 0 0 (QI below ([.ref (gad G 216)] : List Value).toArray s G sz r Mf) (F0 m 38 ls []) := by
      intro n
      induction n with
      | zero => intro l1_6 l2_7 l3_8 H locs ls hM hl hF; rw [F_X4_bestStrike_l38] at hF; cases hF
      | succ n38 ih38 =>
        intro l1_6 l2_7 l3_8 H locs ls hM hl hF
        rw [F_X4_bestStrike_l38] at hF
        refine lv_iload_n C0.1 C0.2.1 dX4_bestStrike_38 rfl (lv_at hl 3 rfl) ?_
        refine lv_aload_n C0.1 C0.2.1 dX4_bestStrike_39 rfl (lv_at hl 0 rfl) ?_
        refine gf4_0 C0 hM ok_tt fl_RX4_10 dX4_bestStrike_40 ?_
        refine gf3_4 C0 hM ok_now fl_RX4_42 dX4_bestStrike_43 ?_
        refine lv_icmp_ge (tgt := 149) C0.1 C0.2.1 dX4_bestStrike_46 (by decide) (fun c9 => ?_) (fun c9 => ?_)
        · have hF := if_t c9 hF
          refine lv_iload_n C0.1 C0.2.1 dX4_bestStrike_149 rfl (lv_at hl 1 rfl) ?_
          obtain ⟨e8, e9⟩ := y_2 hF
          subst e8
          subst e9
          exact y_iret C0 hM hsz dX4_bestStrike_150
        · have hF := if_f c9 hF
          refine lv_aload_n C0.1 C0.2.1 dX4_bestStrike_49 rfl (lv_at hl 0 rfl) ?_
          refine gf4_0 C0 hM ok_tt fl_RX4_10 dX4_bestStrike_50 ?_
          refine lv_aload_n C0.1 C0.2.1 dX4_bestStrike_53 rfl (lv_at hl 0 rfl) ?_
          refine gf4_0 C0 hM ok_tt fl_RX4_10 dX4_bestStrike_54 ?_
          refine gf3_6 C0 hM ok_now fl_RX4_58 dX4_bestStrike_57 ?_
          refine lv_iload_n C0.1 C0.2.1 dX4_bestStrike_60 rfl (lv_at hl 3 rfl) ?_
          obtain ⟨r11, h10, hF⟩ := bd_some hF
          refine y_vi (rest := []) C0 hM hl.1 ok_now (ent3 ok_now) rfl (k_X3_areFoes l G M5 0 (rF M5 54 0) l3_8 h10 ok_now) cw_RX4_150 rfl rfl ⟨Nat.le_of_ble_eq_true rfl, Nat.le_of_ble_eq_true rfl⟩ rfl (Nat.le_of_ble_eq_true rfl) ⟨Nat.le_of_ble_eq_true rfl, Nat.le_of_ble_eq_true rfl⟩ dX4_bestStrike_61 (fun H locs hM => ?_)
          refine lv_if_eq (tgt := 143) C0.1 C0.2.1 dX4_bestStrike_64 (by decide) (fun c12 => ?_) (fun c12 => ?_)
          · have hF := if_t c12 hF
            obtain ⟨x13, ex13, hF⟩ := nm_some hF
            refine lv_iinc (v := x13) (lv' := [(3, .int x13), (0, .ref (gad G 216)), (1, .int l1_6), (2, .int l2_7)]) C0.1 C0.2.1 dX4_bestStrike_143 hl (k := 3) rfl (by rw [ex13]; rfl) (by decide) rfl (fun ls hl => ?_)
            refine lv_goto (tgt := 38) C0.1 C0.2.1 dX4_bestStrike_146 (by decide) ?_
            exact ih38 l1_6 l2_7 x13 _ _ _ hM (lv_sub hl [1, 2, 3, 0] rfl) hF
          · have hF := if_f c12 hF
            refine lv_aload_n C0.1 C0.2.1 dX4_bestStrike_67 rfl (lv_at hl 0 rfl) ?_
            refine gf4_0 C0 hM ok_tt fl_RX4_10 dX4_bestStrike_68 ?_
            refine lv_aload_n C0.1 C0.2.1 dX4_bestStrike_71 rfl (lv_at hl 0 rfl) ?_
            refine gf4_0 C0 hM ok_tt fl_RX4_10 dX4_bestStrike_72 ?_
            refine gf3_6 C0 hM ok_now fl_RX4_58 dX4_bestStrike_75 ?_
            refine lv_iconst (v := (0 : Int32)) C0.1 C0.2.1 dX4_bestStrike_78 (by decide) ?_
            refine lv_iload_n C0.1 C0.2.1 dX4_bestStrike_79 rfl (lv_at hl 3 rfl) ?_
            obtain ⟨r15, h14, hF⟩ := bd_some hF
            refine y_vi (rest := []) C0 hM hl.1 ok_now (ent3 ok_now) rfl (k_X3_isPossible l G M5 0 (rF M5 54 0) (0 : Int32) l3_8 h14 ok_now) cw_RX4_65 rfl rfl ⟨Nat.le_of_ble_eq_true rfl, Nat.le_of_ble_eq_true rfl⟩ rfl (Nat.le_of_ble_eq_true rfl) ⟨Nat.le_of_ble_eq_true rfl, Nat.le_of_ble_eq_true rfl⟩ dX4_bestStrike_80 (fun H locs hM => ?_)
            refine lv_if_eq (tgt := 143) C0.1 C0.2.1 dX4_bestStrike_83 (by decide) (fun c16 => ?_) (fun c16 => ?_)
            · have hF := if_t c16 hF
              obtain ⟨x17, ex17, hF⟩ := nm_some hF
              refine lv_iinc (v := x17) (lv' := [(3, .int x17), (0, .ref (gad G 216)), (1, .int l1_6), (2, .int l2_7)]) C0.1 C0.2.1 dX4_bestStrike_143 hl (k := 3) rfl (by rw [ex17]; rfl) (by decide) rfl (fun ls hl => ?_)
              refine lv_goto (tgt := 38) C0.1 C0.2.1 dX4_bestStrike_146 (by decide) ?_
              exact ih38 l1_6 l2_7 x17 _ _ _ hM (lv_sub hl [1, 2, 3, 0] rfl) hF
            · have hF := if_f c16 hF
              refine lv_aload_n C0.1 C0.2.1 dX4_bestStrike_86 rfl (lv_at hl 0 rfl) ?_
              refine gf4_1 C0 hM ok_tt fl_RX4_16 dX4_bestStrike_87 ?_
              refine lv_aload_n C0.1 C0.2.1 dX4_bestStrike_90 rfl (lv_at hl 0 rfl) ?_
              refine gf4_0 C0 hM ok_tt fl_RX4_10 dX4_bestStrike_91 ?_
              refine gf3_6 C0 hM ok_now fl_RX4_58 dX4_bestStrike_94 ?_
              refine lv_iconst (v := (0 : Int32)) C0.1 C0.2.1 dX4_bestStrike_97 (by decide) ?_
              refine lv_iload_n C0.1 C0.2.1 dX4_bestStrike_98 rfl (lv_at hl 3 rfl) ?_
              obtain ⟨r19, h18, hF⟩ := bd_some hF
              refine y_vi (rest := []) C0 hM hl.1 ok_scratch (ent3 ok_scratch) rfl (k_X3_isPossible l G M5 27 (rF M5 54 0) (0 : Int32) l3_8 h18 ok_scratch) cw_RX4_65 rfl rfl ⟨Nat.le_of_ble_eq_true rfl, Nat.le_of_ble_eq_true rfl⟩ rfl (Nat.le_of_ble_eq_true rfl) ⟨Nat.le_of_ble_eq_true rfl, Nat.le_of_ble_eq_true rfl⟩ dX4_bestStrike_99 (fun H locs hM => ?_)
              refine lv_if_eq (tgt := 143) C0.1 C0.2.1 dX4_bestStrike_102 (by decide) (fun c20 => ?_) (fun c20 => ?_)
              · have hF := if_t c20 hF
                obtain ⟨x21, ex21, hF⟩ := nm_some hF
                refine lv_iinc (v := x21) (lv' := [(3, .int x21), (0, .ref (gad G 216)), (1, .int l1_6), (2, .int l2_7)]) C0.1 C0.2.1 dX4_bestStrike_143 hl (k := 3) rfl (by rw [ex21]; rfl) (by decide) rfl (fun ls hl => ?_)
                refine lv_goto (tgt := 38) C0.1 C0.2.1 dX4_bestStrike_146 (by decide) ?_
                exact ih38 l1_6 l2_7 x21 _ _ _ hM (lv_sub hl [1, 2, 3, 0] rfl) hF
              · have hF := if_f c20 hF
                refine lv_aload_n C0.1 C0.2.1 dX4_bestStrike_105 rfl (lv_at hl 0 rfl) ?_
                refine gf4_1 C0 hM ok_tt fl_RX4_16 dX4_bestStrike_106 ?_
                refine lv_aload_n C0.1 C0.2.1 dX4_bestStrike_109 rfl (lv_at hl 0 rfl) ?_
                refine gf4_0 C0 hM ok_tt fl_RX4_10 dX4_bestStrike_110 ?_
                refine gf3_6 C0 hM ok_now fl_RX4_58 dX4_bestStrike_113 ?_
                obtain ⟨r23, h22, hF⟩ := bd_some hF
                refine y_vr (rest := []) C0 hM hl.1 ok_scratch (ent3 ok_scratch) rfl (k_X3_at l G M5 27 (rF M5 54 0) h22 ok_scratch) cw_RX4_120 rfl rfl ⟨Nat.le_of_ble_eq_true rfl, Nat.le_of_ble_eq_true rfl⟩ rfl (Nat.le_of_ble_eq_true rfl) ⟨Nat.le_of_ble_eq_true rfl, Nat.le_of_ble_eq_true rfl⟩ dX4_bestStrike_116 (fun H locs hM => ?_)
                refine lv_aload_n C0.1 C0.2.1 dX4_bestStrike_119 rfl (lv_at hl 0 rfl) ?_
                refine gf4_1 C0 hM ok_tt fl_RX4_16 dX4_bestStrike_120 ?_
                refine lv_iload_n C0.1 C0.2.1 dX4_bestStrike_123 rfl (lv_at hl 3 rfl) ?_
                obtain ⟨r25, h24, hF⟩ := bd_some hF
                refine y_vr (rest := [.ref (gad G r23)]) C0 hM hl.1 ok_scratch (ent3 ok_scratch) rfl (k_X3_at l G M5 27 l3_8 h24 ok_scratch) cw_RX4_120 rfl rfl ⟨Nat.le_of_ble_eq_true rfl, Nat.le_of_ble_eq_true rfl⟩ rfl (Nat.le_of_ble_eq_true rfl) ⟨Nat.le_of_ble_eq_true rfl, Nat.le_of_ble_eq_true rfl⟩ dX4_bestStrike_124 (fun H locs hM => ?_)
                obtain ⟨r27, h26, hF⟩ := bd_some hF
                refine y_vi (rest := []) C0 hM hl.1 (at_ok h22 ok_scratch) (ent0 (at_ok h22 ok_scratch)) rfl (k_X0_lossAt l G M5 r23 r25 h26 (at_ok h22 ok_scratch) (at_ok h24 ok_scratch)) cw_RX4_154 rfl rfl ⟨Nat.le_of_ble_eq_true rfl, Nat.le_of_ble_eq_true rfl⟩ rfl (Nat.le_of_ble_eq_true rfl) ⟨Nat.le_of_ble_eq_true rfl, Nat.le_of_ble_eq_true rfl⟩ dX4_bestStrike_127 (fun H locs hM => ?_)
                refine lv_istore (lv' := [(4, .int r27), (0, .ref (gad G 216)), (1, .int l1_6), (2, .int l2_7), (3, .int l3_8)]) C0.1 C0.2.1 dX4_bestStrike_130 hl (by decide) rfl (fun ls hl => ?_)
                refine lv_iload C0.1 C0.2.1 dX4_bestStrike_132 (lv_at hl 0 rfl) ?_
                refine lv_iload_n C0.1 C0.2.1 dX4_bestStrike_134 rfl (lv_at hl 3 rfl) ?_
                refine lv_icmp_le (tgt := 143) C0.1 C0.2.1 dX4_bestStrike_135 (by decide) (fun c28 => ?_) (fun c28 => ?_)
                · have hF := if_t c28 hF
                  obtain ⟨x29, ex29, hF⟩ := nm_some hF
                  refine lv_iinc (v := x29) (lv' := [(3, .int x29), (4, .int r27), (0, .ref (gad G 216)), (1, .int l1_6), (2, .int l2_7)]) C0.1 C0.2.1 dX4_bestStrike_143 hl (k := 4) rfl (by rw [ex29]; rfl) (by decide) rfl (fun ls hl => ?_)
                  refine lv_goto (tgt := 38) C0.1 C0.2.1 dX4_bestStrike_146 (by decide) ?_
                  exact ih38 l1_6 l2_7 x29 _ _ _ hM (lv_sub hl [2, 3, 4, 0] rfl) hF
                · have hF := if_f c28 hF
                  refine lv_iload_n C0.1 C0.2.1 dX4_bestStrike_138 rfl (lv_at hl 4 rfl) ?_
                  refine lv_istore_n (lv' := [(1, .int l3_8), (4, .int r27), (0, .ref (gad G 216)), (2, .int l2_7), (3, .int l3_8)]) C0.1 C0.2.1 dX4_bestStrike_139 rfl hl (by decide) rfl (fun ls hl => ?_)
                  refine lv_iload C0.1 C0.2.1 dX4_bestStrike_140 (lv_at hl 1 rfl) ?_
                  refine lv_istore_n (lv' := [(2, .int r27), (1, .int l3_8), (4, .int r27), (0, .ref (gad G 216)), (3, .int l3_8)]) C0.1 C0.2.1 dX4_bestStrike_142 rfl hl (by decide) rfl (fun ls hl => ?_)
                  obtain ⟨x30, ex30, hF⟩ := nm_some hF
                  refine lv_iinc (v := x30) (lv' := [(3, .int x30), (2, .int r27), (1, .int l3_8), (4, .int r27), (0, .ref (gad G 216))]) C0.1 C0.2.1 dX4_bestStrike_143 hl (k := 4) rfl (by rw [ex30]; rfl) (by decide) rfl (fun ls hl => ?_)
                  refine lv_goto (tgt := 38) C0.1 C0.2.1 dX4_bestStrike_146 (by decide) ?_
                  exact ih38 l3_8 r27 x30 _ _ _ hM (lv_sub hl [4, 2, 1, 0] rfl) hF
    exact L38 FU (-1 : Int32) (-1 : Int32) (0 : Int32) _ _ _ hM (lv_sub hl [3, 2, 1, 0] rfl) hF
  · have hF := if_f (fun q => q c1) hF
    refine lv_iconst (v := (-1 : Int32)) C0.1 C0.2.1 dX4_bestStrike_11 (by decide) ?_
    obtain ⟨e8, e9⟩ := y_2 hF
    subst e8
    subst e9
    exact y_iret C0 hM hsz dX4_bestStrike_12

def F_X4_standing (M : MS) : Option UInt64 := (bd (F_X3_lifeOf M 0 (0 : Int32)) fun r2 => (bd (F_X3_lifeOf M 0 (1 : Int32)) fun r4 => (nm (r2 + r4) fun x5 => (if 0 < x5 then (gdb (nnb (FP.ddiv (FP.i2d r2) (FP.i2d x5))) (some (FP.ddiv (FP.i2d r2) (FP.i2d x5)))) else (some (4602678819172646912 : UInt64))))))

set_option maxHeartbeats 4000000 in
set_option maxRecDepth 100000 in
theorem k_X4_standing (l : Launch) (G : GG) (M : MS) {r : UInt64} (hF : F_X4_standing M = some r) : KDd l yX4_standing (WS yX4_standing cX4_standing 3 (some .double)) (Rm 2) G [.ref (gad G 216)] M r M := by
  intro sz
  refine y_met (by decide +kernel) (Nat.le_of_ble_eq_true rfl) rfl (fun p e s m below meth c ls hsz C0 hM hl => ?_)
  have hl : lv_has ls 3 [(0, .ref (gad G 216))] := hl
  have C0 : CX p s m meth c ([.ref (gad G 216)] : List Value).toArray cX4_standing RX4 3 (some .double) := C0
  rw [F_X4_standing] at hF
  refine lv_aload_n C0.1 C0.2.1 dX4_standing_0 rfl (lv_at hl 0 rfl) ?_
  refine gf4_0 C0 hM ok_tt fl_RX4_10 dX4_standing_1 ?_
  refine lv_iconst (v := (0 : Int32)) C0.1 C0.2.1 dX4_standing_4 (by decide) ?_
  obtain ⟨r2, h1, hF⟩ := bd_some hF
  refine y_vi (rest := []) C0 hM hl.1 ok_now (ent3 ok_now) rfl (k_X3_lifeOf l G M 0 (0 : Int32) h1 ok_now) cw_RX4_158 rfl rfl ⟨Nat.le_of_ble_eq_true rfl, Nat.le_of_ble_eq_true rfl⟩ rfl (Nat.le_of_ble_eq_true rfl) ⟨Nat.le_of_ble_eq_true rfl, Nat.le_of_ble_eq_true rfl⟩ dX4_standing_5 (fun H locs hM => ?_)
  refine lv_istore_n (lv' := [(1, .int r2), (0, .ref (gad G 216))]) C0.1 C0.2.1 dX4_standing_8 rfl hl (by decide) rfl (fun ls hl => ?_)
  refine lv_iload_n C0.1 C0.2.1 dX4_standing_9 rfl (lv_at hl 0 rfl) ?_
  refine lv_aload_n C0.1 C0.2.1 dX4_standing_10 rfl (lv_at hl 1 rfl) ?_
  refine gf4_0 C0 hM ok_tt fl_RX4_10 dX4_standing_11 ?_
  refine lv_iconst (v := (1 : Int32)) C0.1 C0.2.1 dX4_standing_14 (by decide) ?_
  obtain ⟨r4, h3, hF⟩ := bd_some hF
  refine y_vi (rest := [.int r2]) C0 hM hl.1 ok_now (ent3 ok_now) rfl (k_X3_lifeOf l G M 0 (1 : Int32) h3 ok_now) cw_RX4_158 rfl rfl ⟨Nat.le_of_ble_eq_true rfl, Nat.le_of_ble_eq_true rfl⟩ rfl (Nat.le_of_ble_eq_true rfl) ⟨Nat.le_of_ble_eq_true rfl, Nat.le_of_ble_eq_true rfl⟩ dX4_standing_15 (fun H locs hM => ?_)
  refine lv_iadd C0.1 C0.2.1 dX4_standing_18 ?_
  obtain ⟨x5, ex5, hF⟩ := nm_some hF
  refine y_topi ex5 ?_
  refine lv_istore_n (lv' := [(2, .int x5), (1, .int r2), (0, .ref (gad G 216))]) C0.1 C0.2.1 dX4_standing_19 rfl hl (by decide) rfl (fun ls hl => ?_)
  refine lv_iload_n C0.1 C0.2.1 dX4_standing_20 rfl (lv_at hl 0 rfl) ?_
  refine lv_if_gt (tgt := 28) C0.1 C0.2.1 dX4_standing_21 (by decide) (fun c6 => ?_) (fun c6 => ?_)
  · have hF := if_t c6 hF
    refine lv_iload_n C0.1 C0.2.1 dX4_standing_28 rfl (lv_at hl 1 rfl) ?_
    refine lv_i2d C0.1 C0.2.1 dX4_standing_29 ?_
    refine lv_iload_n C0.1 C0.2.1 dX4_standing_30 rfl (lv_at hl 0 rfl) ?_
    refine lv_i2d C0.1 C0.2.1 dX4_standing_31 ?_
    obtain ⟨g7, hF⟩ := gdb_some hF
    refine lv_ddiv C0.1 C0.2.1 dX4_standing_32 (nnb_n g7) ?_
    have e8 := y_1 hF
    subst e8
    exact y_dret C0 hM hsz dX4_standing_33
  · have hF := if_f c6 hF
    refine lv_ldc2d (v := (4602678819172646912 : UInt64)) C0.1 C0.2.1 C0.2.2.2.1 (C0.2.2.2.2.1 _ (tb1 437 (by decide +kernel) (by decide +kernel))) dX4_standing_24 ?_
    have e8 := y_1 hF
    subst e8
    exact y_dret C0 hM hsz dX4_standing_27

def F_X4_counted (M : MS) (a0 : Int32) : Option Int32 := (if ¬ a0 = (12 : Int32) then (bd (F_X3_counted M 0 a0) fun r3 => (some r3)) else (some (rF M 67 216)))

set_option maxHeartbeats 4000000 in
set_option maxRecDepth 100000 in
theorem k_X4_counted (l : Launch) (G : GG) (M : MS) (a0 : Int32) {r : Int32} (hF : F_X4_counted M a0 = some r) : KI l yX4_counted (WS yX4_counted cX4_counted 2 (some .int)) (Rm 3) G [.ref (gad G 216), .int a0] M r M := by
  intro sz
  refine y_met (by decide +kernel) (Nat.le_of_ble_eq_true rfl) rfl (fun p e s m below meth c ls hsz C0 hM hl => ?_)
  have hl : lv_has ls 2 [(0, .ref (gad G 216)), (1, .int a0)] := hl
  have C0 : CX p s m meth c ([.ref (gad G 216), .int a0] : List Value).toArray cX4_counted RX4 2 (some .int) := C0
  rw [F_X4_counted] at hF
  refine lv_iload_n C0.1 C0.2.1 dX4_counted_0 rfl (lv_at hl 1 rfl) ?_
  refine lv_bipush (v := (12 : Int32)) C0.1 C0.2.1 dX4_counted_1 (by decide) ?_
  refine lv_icmp_ne (tgt := 13) C0.1 C0.2.1 dX4_counted_3 (by decide) (fun c1 => ?_) (fun c1 => ?_)
  · have hF := if_t c1 hF
    refine lv_aload_n C0.1 C0.2.1 dX4_counted_13 rfl (lv_at hl 0 rfl) ?_
    refine gf4_0 C0 hM ok_tt fl_RX4_10 dX4_counted_14 ?_
    refine lv_iload_n C0.1 C0.2.1 dX4_counted_17 rfl (lv_at hl 1 rfl) ?_
    obtain ⟨r3, h2, hF⟩ := bd_some hF
    refine y_vi (rest := []) C0 hM hl.1 ok_now (ent3 ok_now) rfl (k_X3_counted l G M 0 a0 h2 ok_now) cw_RX4_221 rfl rfl ⟨Nat.le_of_ble_eq_true rfl, Nat.le_of_ble_eq_true rfl⟩ rfl (Nat.le_of_ble_eq_true rfl) ⟨Nat.le_of_ble_eq_true rfl, Nat.le_of_ble_eq_true rfl⟩ dX4_counted_18 (fun H locs hM => ?_)
    have e8 := y_1 hF
    subst e8
    exact y_iret C0 hM hsz dX4_counted_21
  · have hF := if_f (fun q => q c1) hF
    refine lv_aload_n C0.1 C0.2.1 dX4_counted_6 rfl (lv_at hl 0 rfl) ?_
    refine gf4_3 C0 hM ok_tt fl_RX4_23 dX4_counted_7 ?_
    refine lv_goto (tgt := 21) C0.1 C0.2.1 dX4_counted_10 (by decide) ?_
    have e8 := y_1 hF
    subst e8
    exact y_iret C0 hM hsz dX4_counted_21

def F_X4_with (M : MS) (a0 : Int64) (a1 : Int64) : Option Int64 := (some (((31 : Int64) * a0) + a1))

set_option maxHeartbeats 4000000 in
set_option maxRecDepth 100000 in
theorem k_X4_with (l : Launch) (G : GG) (M : MS) (a0 : Int64) (a1 : Int64) {r : Int64} (hF : F_X4_with M a0 a1 = some r) : KL l yX4_with (WS yX4_with cX4_with 4 (some .long)) (Rm 0) G [.long a0, .long a1] M r M := by
  intro sz
  refine y_met (by decide +kernel) (Nat.le_of_ble_eq_true rfl) rfl (fun p e s m below meth c ls hsz C0 hM hl => ?_)
  have hl : lv_has ls 4 [(0, .long a0), (2, .long a1)] := hl
  have C0 : CX p s m meth c ([.long a0, .long a1] : List Value).toArray cX4_with RX4 4 (some .long) := C0
  rw [F_X4_with] at hF
  refine lv_ldc2 (v := (31 : Int64)) C0.1 C0.2.1 C0.2.2.2.1 (C0.2.2.2.2.1 _ (tb1 463 (by decide +kernel) (by decide +kernel))) dX4_with_0 ?_
  refine lv_lload_n C0.1 C0.2.1 dX4_with_3 rfl (lv_at hl 0 rfl) ?_
  refine lv_lmul C0.1 C0.2.1 dX4_with_4 ?_
  refine lv_lload_n C0.1 C0.2.1 dX4_with_5 rfl (lv_at hl 1 rfl) ?_
  refine lv_ladd C0.1 C0.2.1 dX4_with_6 ?_
  have e8 := y_1 hF
  subst e8
  exact y_lret C0 hM hsz dX4_with_7

def F_X4_withFighter_l40 (a1 : Int32) (M : MS) : Nat → Int64 → Int32 → Option Int64
  | 0, _, _ => none
  | n40 + 1, l4_4, l6_5 => (if (3 : Int32) < l6_5 then (some l4_4) else (bd (F_X3_at M 0 a1) fun r8 => (bd (F_X0_ofReadied M r8 l6_5) fun r10 => (bd (F_X4_with M l4_4 (Int32.toInt64 r10)) fun r12 => (nm (l6_5 + (1 : Int32)) fun x13 => (F_X4_withFighter_l40 a1 M n40 r12 x13))))))

def F_X4_withFighter_l6 (a1 : Int32) (M : MS) : Nat → Int64 → Int32 → Option Int64
  | 0, _, _ => none
  | n6 + 1, l4_1, l6_2 => (if (13 : Int32) < l6_2 then (F_X4_withFighter_l40 a1 M FU l4_1 (0 : Int32)) else (bd (F_X3_property M 0 a1 l6_2) fun r15 => (bd (F_X4_with M l4_1 (Int32.toInt64 r15)) fun r17 => (nm (l6_2 + (1 : Int32)) fun x18 => (F_X4_withFighter_l6 a1 M n6 r17 x18)))))

def F_X4_withFighter (M : MS) (a0 : Int64) (a1 : Int32) : Option Int64 := (F_X4_withFighter_l6 a1 M FU a0 (0 : Int32))

set_option maxHeartbeats 4000000 in
set_option maxRecDepth 100000 in
theorem k_X4_withFighter (l : Launch) (G : GG) (M : MS) (a0 : Int64) (a1 : Int32) {r : Int64} (hF : F_X4_withFighter M a0 a1 = some r) : KL l yX4_withFighter (WS yX4_withFighter cX4_withFighter 7 (some .long)) (Rm 3) G [.ref (gad G 216), .long a0, .int a1] M r M := by
  intro sz
  refine y_met (by decide +kernel) (Nat.le_of_ble_eq_true rfl) rfl (fun p e s m below meth c ls hsz C0 hM hl => ?_)
  have hl : lv_has ls 7 [(0, .ref (gad G 216)), (1, .long a0), (3, .int a1)] := hl
  have C0 : CX p s m meth c ([.ref (gad G 216), .long a0, .int a1] : List Value).toArray cX4_withFighter RX4 7 (some .long) := C0
  rw [F_X4_withFighter] at hF
  refine lv_lload_n C0.1 C0.2.1 dX4_withFighter_0 rfl (lv_at hl 1 rfl) ?_
  refine lv_lstore (lv' := [(4, .long a0), (0, .ref (gad G 216)), (1, .long a0), (3, .int a1)]) C0.1 C0.2.1 dX4_withFighter_1 hl (by decide) rfl (fun ls hl => ?_)
  refine lv_iconst (v := (0 : Int32)) C0.1 C0.2.1 dX4_withFighter_3 (by decide) ?_
  refine lv_istore (lv' := [(6, .int (0 : Int32)), (4, .long a0), (0, .ref (gad G 216)), (1, .long a0), (3, .int a1)]) C0.1 C0.2.1 dX4_withFighter_4 hl (by decide) rfl (fun ls hl => ?_)
  have L6 : ∀ (n : Nat) (l4_1 : Int64) (l6_2 : Int32) (H : Heap) (locs : List Loc) (ls : Array Slot), MX G M s H locs → lv_has ls 7 [(0, .ref (gad G 216)), (1, .long a0), (3, .int a1), (4, .long l4_1), (6, .int l6_2)] → F_X4_withFighter_l6 a1 M n l4_1 l6_2 = some r → W p l e (Rm 3) s m ([.ref (gad G 216), .long a0, .int a1] : List Value).toArray below meth c H locs 0 0 (QL below ([.ref (gad G 216), .long a0, .int a1] : List Value).toArray s G sz r M) (F0 m 6 ls []) := by
    intro n
    induction n with
    | zero => intro l4_1 l6_2 H locs ls hM hl hF; rw [F_X4_withFighter_l6] at hF; cases hF
    | succ n6 ih6 =>
      intro l4_1 l6_2 H locs ls hM hl hF
      rw [F_X4_withFighter_l6] at hF
      refine lv_iload C0.1 C0.2.1 dX4_withFighter_6 (lv_at hl 4 rfl) ?_
      refine lv_bipush (v := (13 : Int32)) C0.1 C0.2.1 dX4_withFighter_8 (by decide) ?_
      refine lv_icmp_gt (tgt := 37) C0.1 C0.2.1 dX4_withFighter_10 (by decide) (fun c3 => ?_) (fun c3 => ?_)
      · have hF := if_t c3 hF
        refine lv_iconst (v := (0 : Int32)) C0.1 C0.2.1 dX4_withFighter_37 (by decide) ?_
        refine lv_istore (lv' := [(6, .int (0 : Int32)), (0, .ref (gad G 216)), (1, .long a0), (3, .int a1), (4, .long l4_1)]) C0.1 C0.2.1 dX4_withFighter_38 hl (by decide) rfl (fun ls hl => ?_)
        have L40 : ∀ (n : Nat) (l4_4 : Int64) (l6_5 : Int32) (H : Heap) (locs : List Loc) (ls : Array Slot), MX G M s H locs → lv_has ls 7 [(0, .ref (gad G 216)), (1, .long a0), (3, .int a1), (4, .long l4_4), (6, .int l6_5)] → F_X4_withFighter_l40 a1 M n l4_4 l6_5 = some r → W p l e (Rm 3) s m ([.ref (gad G 216), .long a0, .int a1] : List Value).toArray below meth c H locs 0 0 (QL below ([.ref (gad G 216), .long a0, .int a1] : List Value).toArray s G sz r M) (F0 m 40 ls []) := by
          intro n
          induction n with
          | zero => intro l4_4 l6_5 H locs ls hM hl hF; rw [F_X4_withFighter_l40] at hF; cases hF
          | succ n40 ih40 =>
            intro l4_4 l6_5 H locs ls hM hl hF
            rw [F_X4_withFighter_l40] at hF
            refine lv_iload C0.1 C0.2.1 dX4_withFighter_40 (lv_at hl 4 rfl) ?_
            refine lv_iconst (v := (3 : Int32)) C0.1 C0.2.1 dX4_withFighter_42 (by decide) ?_
            refine lv_icmp_gt (tgt := 73) C0.1 C0.2.1 dX4_withFighter_43 (by decide) (fun c6 => ?_) (fun c6 => ?_)
            · have hF := if_t c6 hF
              refine lv_lload C0.1 C0.2.1 dX4_withFighter_73 (lv_at hl 3 rfl) ?_
              have e8 := y_1 hF
              subst e8
              exact y_lret C0 hM hsz dX4_withFighter_75
            · have hF := if_f c6 hF
              refine lv_lload C0.1 C0.2.1 dX4_withFighter_46 (lv_at hl 3 rfl) ?_
              refine lv_aload_n C0.1 C0.2.1 dX4_withFighter_48 rfl (lv_at hl 0 rfl) ?_
              refine gf4_0 C0 hM ok_tt fl_RX4_10 dX4_withFighter_49 ?_
              refine lv_iload_n C0.1 C0.2.1 dX4_withFighter_52 rfl (lv_at hl 2 rfl) ?_
              obtain ⟨r8, h7, hF⟩ := bd_some hF
              refine y_vr (rest := [.long l4_4]) C0 hM hl.1 ok_now (ent3 ok_now) rfl (k_X3_at l G M 0 a1 h7 ok_now) cw_RX4_120 rfl rfl ⟨Nat.le_of_ble_eq_true rfl, Nat.le_of_ble_eq_true rfl⟩ rfl (Nat.le_of_ble_eq_true rfl) ⟨Nat.le_of_ble_eq_true rfl, Nat.le_of_ble_eq_true rfl⟩ dX4_withFighter_53 (fun H locs hM => ?_)
              refine lv_iload C0.1 C0.2.1 dX4_withFighter_56 (lv_at hl 4 rfl) ?_
              obtain ⟨r10, h9, hF⟩ := bd_some hF
              refine y_vi (rest := [.long l4_4]) C0 hM hl.1 (at_ok h7 ok_now) (ent0 (at_ok h7 ok_now)) rfl (k_X0_ofReadied l G M r8 l6_5 h9 (at_ok h7 ok_now)) cw_RX4_124 rfl rfl ⟨Nat.le_of_ble_eq_true rfl, Nat.le_of_ble_eq_true rfl⟩ rfl (Nat.le_of_ble_eq_true rfl) ⟨Nat.le_of_ble_eq_true rfl, Nat.le_of_ble_eq_true rfl⟩ dX4_withFighter_58 (fun H locs hM => ?_)
              refine lv_i2l (v := Int32.toInt64 r10) C0.1 C0.2.1 dX4_withFighter_61 rfl ?_
              obtain ⟨r12, h11, hF⟩ := bd_some hF
              refine y_sl (rest := []) C0 hM hl.1 (k_X4_with l G M l4_4 (Int32.toInt64 r10) h11) cw_RX4_165 rfl rfl ⟨Nat.le_of_ble_eq_true rfl, Nat.le_of_ble_eq_true rfl⟩ rfl (Nat.le_of_ble_eq_true rfl) ⟨Nat.le_of_ble_eq_true rfl, Nat.le_of_ble_eq_true rfl⟩ dX4_withFighter_62 (fun H locs hM => ?_)
              refine lv_lstore (lv' := [(4, .long r12), (0, .ref (gad G 216)), (1, .long a0), (3, .int a1), (6, .int l6_5)]) C0.1 C0.2.1 dX4_withFighter_65 hl (by decide) rfl (fun ls hl => ?_)
              obtain ⟨x13, ex13, hF⟩ := nm_some hF
              refine lv_iinc (v := x13) (lv' := [(6, .int x13), (4, .long r12), (0, .ref (gad G 216)), (1, .long a0), (3, .int a1)]) C0.1 C0.2.1 dX4_withFighter_67 hl (k := 4) rfl (by rw [ex13]; rfl) (by decide) rfl (fun ls hl => ?_)
              refine lv_goto (tgt := 40) C0.1 C0.2.1 dX4_withFighter_70 (by decide) ?_
              exact ih40 r12 x13 _ _ _ hM (lv_sub hl [2, 3, 4, 1, 0] rfl) hF
        exact L40 FU l4_1 (0 : Int32) _ _ _ hM (lv_sub hl [1, 2, 3, 4, 0] rfl) hF
      · have hF := if_f c3 hF
        refine lv_lload C0.1 C0.2.1 dX4_withFighter_13 (lv_at hl 3 rfl) ?_
        refine lv_aload_n C0.1 C0.2.1 dX4_withFighter_15 rfl (lv_at hl 0 rfl) ?_
        refine gf4_0 C0 hM ok_tt fl_RX4_10 dX4_withFighter_16 ?_
        refine lv_iload_n C0.1 C0.2.1 dX4_withFighter_19 rfl (lv_at hl 2 rfl) ?_
        refine lv_iload C0.1 C0.2.1 dX4_withFighter_20 (lv_at hl 4 rfl) ?_
        obtain ⟨r15, h14, hF⟩ := bd_some hF
        refine y_vi (rest := [.long l4_1]) C0 hM hl.1 ok_now (ent3 ok_now) rfl (k_X3_property l G M 0 a1 l6_2 h14 ok_now) cw_RX4_116 rfl rfl ⟨Nat.le_of_ble_eq_true rfl, Nat.le_of_ble_eq_true rfl⟩ rfl (Nat.le_of_ble_eq_true rfl) ⟨Nat.le_of_ble_eq_true rfl, Nat.le_of_ble_eq_true rfl⟩ dX4_withFighter_22 (fun H locs hM => ?_)
        refine lv_i2l (v := Int32.toInt64 r15) C0.1 C0.2.1 dX4_withFighter_25 rfl ?_
        obtain ⟨r17, h16, hF⟩ := bd_some hF
        refine y_sl (rest := []) C0 hM hl.1 (k_X4_with l G M l4_1 (Int32.toInt64 r15) h16) cw_RX4_165 rfl rfl ⟨Nat.le_of_ble_eq_true rfl, Nat.le_of_ble_eq_true rfl⟩ rfl (Nat.le_of_ble_eq_true rfl) ⟨Nat.le_of_ble_eq_true rfl, Nat.le_of_ble_eq_true rfl⟩ dX4_withFighter_26 (fun H locs hM => ?_)
        refine lv_lstore (lv' := [(4, .long r17), (0, .ref (gad G 216)), (1, .long a0), (3, .int a1), (6, .int l6_2)]) C0.1 C0.2.1 dX4_withFighter_29 hl (by decide) rfl (fun ls hl => ?_)
        obtain ⟨x18, ex18, hF⟩ := nm_some hF
        refine lv_iinc (v := x18) (lv' := [(6, .int x18), (4, .long r17), (0, .ref (gad G 216)), (1, .long a0), (3, .int a1)]) C0.1 C0.2.1 dX4_withFighter_31 hl (k := 4) rfl (by rw [ex18]; rfl) (by decide) rfl (fun ls hl => ?_)
        refine lv_goto (tgt := 6) C0.1 C0.2.1 dX4_withFighter_34 (by decide) ?_
        exact ih6 r17 x18 _ _ _ hM (lv_sub hl [2, 3, 4, 1, 0] rfl) hF
  exact L6 FU a0 (0 : Int32) _ _ _ hM (lv_sub hl [2, 3, 4, 1, 0] rfl) hF

def F_X4_withIfDone (M : MS) (a0 : Int64) (a1 : Int32) (a2 : Int32) : Option (Int64 × MS) := (bd (F_X3_isPossible M 0 (rF M 54 0) a1 a2) fun r2 => (if ¬ r2 = 0 then (bd (F_X4_with M a0 (1 : Int64)) fun r5 => (bd (F_X3_numberSetOff M 0 a1) fun r7 => (bd (F_X4_with M r5 (Int32.toInt64 r7)) fun r9 => (bd (F_X3_copyFrom M 27 0) fun M11 => (bd2 (F_X3_act M11 27 a1 a2 (0 : Int32) (1 : Int32)) fun r14 M13 => (nm (fun (s15 : Int32) => (nm (fun (s17 : Int64) => (bd (F_X4_with M13 r9 s17) fun r20 => (bd (F_X4_with M13 r20 (Int32.toInt64 (rF M13 54 27))) fun r22 => (some (r22, M13))))) fun j109_17 => (if s15 = 0 then (j109_17 (1 : Int64)) else (j109_17 (0 : Int64))))) fun j95_15 => (if ¬ r14 = (-1 : Int32) then (j95_15 (0 : Int32)) else (j95_15 (1 : Int32))))))))) else (bd (F_X4_with M a0 (0 : Int64)) fun r26 => (bd (F_X4_with M r26 (-1 : Int64)) fun r28 => (bd (F_X4_with M r28 (-1 : Int64)) fun r30 => (bd (F_X4_with M r30 (-1 : Int64)) fun r32 => (some (r32, M))))))))

set_option maxHeartbeats 4000000 in
set_option maxRecDepth 100000 in
theorem k_X4_withIfDone (l : Launch) (G : GG) (M : MS) (a0 : Int64) (a1 : Int32) (a2 : Int32) {r : Int64} {Mf : MS} (hF : F_X4_withIfDone M a0 a1 a2 = some (r, Mf)) : KL l yX4_withIfDone (WS yX4_withIfDone cX4_withIfDone 8 (some .long)) (Rm 5) G [.ref (gad G 216), .long a0, .int a1, .int a2] M r Mf := by
  intro sz
  refine y_met (by decide +kernel) (Nat.le_of_ble_eq_true rfl) rfl (fun p e s m below meth c ls hsz C0 hM hl => ?_)
  have hl : lv_has ls 8 [(0, .ref (gad G 216)), (1, .long a0), (3, .int a1), (4, .int a2)] := hl
  have C0 : CX p s m meth c ([.ref (gad G 216), .long a0, .int a1, .int a2] : List Value).toArray cX4_withIfDone RX4 8 (some .long) := C0
  rw [F_X4_withIfDone] at hF
  refine lv_aload_n C0.1 C0.2.1 dX4_withIfDone_0 rfl (lv_at hl 0 rfl) ?_
  refine gf4_0 C0 hM ok_tt fl_RX4_10 dX4_withIfDone_1 ?_
  refine lv_aload_n C0.1 C0.2.1 dX4_withIfDone_4 rfl (lv_at hl 0 rfl) ?_
  refine gf4_0 C0 hM ok_tt fl_RX4_10 dX4_withIfDone_5 ?_
  refine gf3_6 C0 hM ok_now fl_RX4_58 dX4_withIfDone_8 ?_
  refine lv_iload_n C0.1 C0.2.1 dX4_withIfDone_11 rfl (lv_at hl 2 rfl) ?_
  refine lv_iload C0.1 C0.2.1 dX4_withIfDone_12 (lv_at hl 3 rfl) ?_
  obtain ⟨r2, h1, hF⟩ := bd_some hF
  refine y_vi (rest := []) C0 hM hl.1 ok_now (ent3 ok_now) rfl (k_X3_isPossible l G M 0 (rF M 54 0) a1 a2 h1 ok_now) cw_RX4_65 rfl rfl ⟨Nat.le_of_ble_eq_true rfl, Nat.le_of_ble_eq_true rfl⟩ rfl (Nat.le_of_ble_eq_true rfl) ⟨Nat.le_of_ble_eq_true rfl, Nat.le_of_ble_eq_true rfl⟩ dX4_withIfDone_14 (fun H locs hM => ?_)
  refine lv_if_ne (tgt := 44) C0.1 C0.2.1 dX4_withIfDone_17 (by decide) (fun c3 => ?_) (fun c3 => ?_)
  · have hF := if_t c3 hF
    refine lv_lload_n C0.1 C0.2.1 dX4_withIfDone_44 rfl (lv_at hl 1 rfl) ?_
    refine lv_lconst (v := (1 : Int64)) C0.1 C0.2.1 dX4_withIfDone_45 (by decide) ?_
    obtain ⟨r5, h4, hF⟩ := bd_some hF
    refine y_sl (rest := []) C0 hM hl.1 (k_X4_with l G M a0 (1 : Int64) h4) cw_RX4_165 rfl rfl ⟨Nat.le_of_ble_eq_true rfl, Nat.le_of_ble_eq_true rfl⟩ rfl (Nat.le_of_ble_eq_true rfl) ⟨Nat.le_of_ble_eq_true rfl, Nat.le_of_ble_eq_true rfl⟩ dX4_withIfDone_46 (fun H locs hM => ?_)
    refine lv_aload_n C0.1 C0.2.1 dX4_withIfDone_49 rfl (lv_at hl 0 rfl) ?_
    refine gf4_0 C0 hM ok_tt fl_RX4_10 dX4_withIfDone_50 ?_
    refine lv_iload_n C0.1 C0.2.1 dX4_withIfDone_53 rfl (lv_at hl 2 rfl) ?_
    obtain ⟨r7, h6, hF⟩ := bd_some hF
    refine y_vi (rest := [.long r5]) C0 hM hl.1 ok_now (ent3 ok_now) rfl (k_X3_numberSetOff l G M 0 a1 h6 ok_now) cw_RX4_144 rfl rfl ⟨Nat.le_of_ble_eq_true rfl, Nat.le_of_ble_eq_true rfl⟩ rfl (Nat.le_of_ble_eq_true rfl) ⟨Nat.le_of_ble_eq_true rfl, Nat.le_of_ble_eq_true rfl⟩ dX4_withIfDone_54 (fun H locs hM => ?_)
    refine lv_i2l (v := Int32.toInt64 r7) C0.1 C0.2.1 dX4_withIfDone_57 rfl ?_
    obtain ⟨r9, h8, hF⟩ := bd_some hF
    refine y_sl (rest := []) C0 hM hl.1 (k_X4_with l G M r5 (Int32.toInt64 r7) h8) cw_RX4_165 rfl rfl ⟨Nat.le_of_ble_eq_true rfl, Nat.le_of_ble_eq_true rfl⟩ rfl (Nat.le_of_ble_eq_true rfl) ⟨Nat.le_of_ble_eq_true rfl, Nat.le_of_ble_eq_true rfl⟩ dX4_withIfDone_58 (fun H locs hM => ?_)
    refine lv_lstore (lv' := [(5, .long r9), (0, .ref (gad G 216)), (1, .long a0), (3, .int a1), (4, .int a2)]) C0.1 C0.2.1 dX4_withIfDone_61 hl (by decide) rfl (fun ls hl => ?_)
    refine lv_aload_n C0.1 C0.2.1 dX4_withIfDone_63 rfl (lv_at hl 1 rfl) ?_
    refine gf4_1 C0 hM ok_tt fl_RX4_16 dX4_withIfDone_64 ?_
    refine lv_aload_n C0.1 C0.2.1 dX4_withIfDone_67 rfl (lv_at hl 1 rfl) ?_
    refine gf4_0 C0 hM ok_tt fl_RX4_10 dX4_withIfDone_68 ?_
    obtain ⟨M11, h10, hF⟩ := bd_some hF
    refine y_vv (rest := []) C0 hM hl.1 ok_scratch (ent3 ok_scratch) rfl (k_X3_copyFrom l G M 27 0 h10 ok_scratch ok_now) cw_RX4_112 rfl rfl ⟨Nat.le_of_ble_eq_true rfl, Nat.le_of_ble_eq_true rfl⟩ rfl (Nat.le_of_ble_eq_true rfl) ⟨Nat.le_of_ble_eq_true rfl, Nat.le_of_ble_eq_true rfl⟩ dX4_withIfDone_71 (fun H locs hM => ?_)
    refine lv_aload_n C0.1 C0.2.1 dX4_withIfDone_74 rfl (lv_at hl 1 rfl) ?_
    refine gf4_1 C0 hM ok_tt fl_RX4_16 dX4_withIfDone_75 ?_
    refine lv_iload_n C0.1 C0.2.1 dX4_withIfDone_78 rfl (lv_at hl 3 rfl) ?_
    refine lv_iload C0.1 C0.2.1 dX4_withIfDone_79 (lv_at hl 4 rfl) ?_
    refine lv_iconst (v := (0 : Int32)) C0.1 C0.2.1 dX4_withIfDone_81 (by decide) ?_
    refine lv_iconst (v := (1 : Int32)) C0.1 C0.2.1 dX4_withIfDone_82 (by decide) ?_
    obtain ⟨r14, M13, h12, hF⟩ := bd2_some hF
    refine y_vi (rest := []) C0 hM hl.1 ok_scratch (ent3 ok_scratch) rfl (k_X3_act l G M11 27 a1 a2 (0 : Int32) (1 : Int32) h12 ok_scratch) cw_RX4_68 rfl rfl ⟨Nat.le_of_ble_eq_true rfl, Nat.le_of_ble_eq_true rfl⟩ rfl (Nat.le_of_ble_eq_true rfl) ⟨Nat.le_of_ble_eq_true rfl, Nat.le_of_ble_eq_true rfl⟩ dX4_withIfDone_83 (fun H locs hM => ?_)
    refine lv_iconst (v := (-1 : Int32)) C0.1 C0.2.1 dX4_withIfDone_86 (by decide) ?_
    obtain ⟨j95_15, ej95_15, hF⟩ := nm_some hF
    have J95 : ∀ (s15 : Int32) (H : Heap) (locs : List Loc) (ls : Array Slot), MX G M13 s H locs → lv_has ls 8 [(0, .ref (gad G 216)), (1, .long a0), (3, .int a1), (4, .int a2), (5, .long r9)] → j95_15 s15 = some (r, Mf) → W p l e (Rm 5) s m ([.ref (gad G 216), .long a0, .int a1, .int a2] : List Value).toArray below meth c H locs 0 0 (QL below ([.ref (gad G 216), .long a0, .int a1, .int a2] : List Value).toArray s G sz r Mf) (F0 m 95 ls [.int s15]) := by
      intro s15 H locs ls hM hl hF
      rw [ej95_15] at hF
      refine lv_istore (lv' := [(7, .int s15), (0, .ref (gad G 216)), (1, .long a0), (3, .int a1), (4, .int a2), (5, .long r9)]) C0.1 C0.2.1 dX4_withIfDone_95 hl (by decide) rfl (fun ls hl => ?_)
      refine lv_lload C0.1 C0.2.1 dX4_withIfDone_97 (lv_at hl 5 rfl) ?_
      refine lv_iload C0.1 C0.2.1 dX4_withIfDone_99 (lv_at hl 0 rfl) ?_
      obtain ⟨j109_17, ej109_17, hF⟩ := nm_some hF
      have J109 : ∀ (s17 : Int64) (H : Heap) (locs : List Loc) (ls : Array Slot), MX G M13 s H locs → lv_has ls 8 [(0, .ref (gad G 216)), (1, .long a0), (3, .int a1), (4, .int a2), (5, .long r9), (7, .int s15)] → j109_17 s17 = some (r, Mf) → W p l e (Rm 5) s m ([.ref (gad G 216), .long a0, .int a1, .int a2] : List Value).toArray below meth c H locs 0 0 (QL below ([.ref (gad G 216), .long a0, .int a1, .int a2] : List Value).toArray s G sz r Mf) (F0 m 109 ls [.long s17, .long r9]) := by
        intro s17 H locs ls hM hl hF
        rw [ej109_17] at hF
        obtain ⟨r20, h19, hF⟩ := bd_some hF
        refine y_sl (rest := []) C0 hM hl.1 (k_X4_with l G M13 r9 s17 h19) cw_RX4_165 rfl rfl ⟨Nat.le_of_ble_eq_true rfl, Nat.le_of_ble_eq_true rfl⟩ rfl (Nat.le_of_ble_eq_true rfl) ⟨Nat.le_of_ble_eq_true rfl, Nat.le_of_ble_eq_true rfl⟩ dX4_withIfDone_109 (fun H locs hM => ?_)
        refine lv_aload_n C0.1 C0.2.1 dX4_withIfDone_112 rfl (lv_at hl 0 rfl) ?_
        refine gf4_1 C0 hM ok_tt fl_RX4_16 dX4_withIfDone_113 ?_
        refine gf3_6 C0 hM ok_scratch fl_RX4_58 dX4_withIfDone_116 ?_
        refine lv_i2l (v := Int32.toInt64 (rF M13 54 27)) C0.1 C0.2.1 dX4_withIfDone_119 rfl ?_
        obtain ⟨r22, h21, hF⟩ := bd_some hF
        refine y_sl (rest := []) C0 hM hl.1 (k_X4_with l G M13 r20 (Int32.toInt64 (rF M13 54 27)) h21) cw_RX4_165 rfl rfl ⟨Nat.le_of_ble_eq_true rfl, Nat.le_of_ble_eq_true rfl⟩ rfl (Nat.le_of_ble_eq_true rfl) ⟨Nat.le_of_ble_eq_true rfl, Nat.le_of_ble_eq_true rfl⟩ dX4_withIfDone_120 (fun H locs hM => ?_)
        obtain ⟨e8, e9⟩ := y_2 hF
        subst e8
        subst e9
        exact y_lret C0 hM hsz dX4_withIfDone_123
      refine lv_if_eq (tgt := 108) C0.1 C0.2.1 dX4_withIfDone_101 (by decide) (fun c23 => ?_) (fun c23 => ?_)
      · have hF := if_t c23 hF
        refine lv_lconst (v := (1 : Int64)) C0.1 C0.2.1 dX4_withIfDone_108 (by decide) ?_
        exact J109 (1 : Int64) _ _ _ hM (lv_sub hl [1, 2, 3, 4, 5, 0] rfl) hF
      · have hF := if_f c23 hF
        refine lv_lconst (v := (0 : Int64)) C0.1 C0.2.1 dX4_withIfDone_104 (by decide) ?_
        refine lv_goto (tgt := 109) C0.1 C0.2.1 dX4_withIfDone_105 (by decide) ?_
        exact J109 (0 : Int64) _ _ _ hM (lv_sub hl [1, 2, 3, 4, 5, 0] rfl) hF
    refine lv_icmp_ne (tgt := 94) C0.1 C0.2.1 dX4_withIfDone_87 (by decide) (fun c24 => ?_) (fun c24 => ?_)
    · have hF := if_t c24 hF
      refine lv_iconst (v := (0 : Int32)) C0.1 C0.2.1 dX4_withIfDone_94 (by decide) ?_
      exact J95 (0 : Int32) _ _ _ hM (lv_sub hl [1, 2, 3, 4, 0] rfl) hF
    · have hF := if_f (fun q => q c24) hF
      refine lv_iconst (v := (1 : Int32)) C0.1 C0.2.1 dX4_withIfDone_90 (by decide) ?_
      refine lv_goto (tgt := 95) C0.1 C0.2.1 dX4_withIfDone_91 (by decide) ?_
      exact J95 (1 : Int32) _ _ _ hM (lv_sub hl [1, 2, 3, 4, 0] rfl) hF
  · have hF := if_f (fun q => q c3) hF
    refine lv_lload_n C0.1 C0.2.1 dX4_withIfDone_20 rfl (lv_at hl 1 rfl) ?_
    refine lv_lconst (v := (0 : Int64)) C0.1 C0.2.1 dX4_withIfDone_21 (by decide) ?_
    obtain ⟨r26, h25, hF⟩ := bd_some hF
    refine y_sl (rest := []) C0 hM hl.1 (k_X4_with l G M a0 (0 : Int64) h25) cw_RX4_165 rfl rfl ⟨Nat.le_of_ble_eq_true rfl, Nat.le_of_ble_eq_true rfl⟩ rfl (Nat.le_of_ble_eq_true rfl) ⟨Nat.le_of_ble_eq_true rfl, Nat.le_of_ble_eq_true rfl⟩ dX4_withIfDone_22 (fun H locs hM => ?_)
    refine lv_ldc2 (v := (-1 : Int64)) C0.1 C0.2.1 C0.2.2.2.1 (C0.2.2.2.2.1 _ (tb1 486 (by decide +kernel) (by decide +kernel))) dX4_withIfDone_25 ?_
    obtain ⟨r28, h27, hF⟩ := bd_some hF
    refine y_sl (rest := []) C0 hM hl.1 (k_X4_with l G M r26 (-1 : Int64) h27) cw_RX4_165 rfl rfl ⟨Nat.le_of_ble_eq_true rfl, Nat.le_of_ble_eq_true rfl⟩ rfl (Nat.le_of_ble_eq_true rfl) ⟨Nat.le_of_ble_eq_true rfl, Nat.le_of_ble_eq_true rfl⟩ dX4_withIfDone_28 (fun H locs hM => ?_)
    refine lv_ldc2 (v := (-1 : Int64)) C0.1 C0.2.1 C0.2.2.2.1 (C0.2.2.2.2.1 _ (tb1 486 (by decide +kernel) (by decide +kernel))) dX4_withIfDone_31 ?_
    obtain ⟨r30, h29, hF⟩ := bd_some hF
    refine y_sl (rest := []) C0 hM hl.1 (k_X4_with l G M r28 (-1 : Int64) h29) cw_RX4_165 rfl rfl ⟨Nat.le_of_ble_eq_true rfl, Nat.le_of_ble_eq_true rfl⟩ rfl (Nat.le_of_ble_eq_true rfl) ⟨Nat.le_of_ble_eq_true rfl, Nat.le_of_ble_eq_true rfl⟩ dX4_withIfDone_34 (fun H locs hM => ?_)
    refine lv_ldc2 (v := (-1 : Int64)) C0.1 C0.2.1 C0.2.2.2.1 (C0.2.2.2.2.1 _ (tb1 486 (by decide +kernel) (by decide +kernel))) dX4_withIfDone_37 ?_
    obtain ⟨r32, h31, hF⟩ := bd_some hF
    refine y_sl (rest := []) C0 hM hl.1 (k_X4_with l G M r30 (-1 : Int64) h31) cw_RX4_165 rfl rfl ⟨Nat.le_of_ble_eq_true rfl, Nat.le_of_ble_eq_true rfl⟩ rfl (Nat.le_of_ble_eq_true rfl) ⟨Nat.le_of_ble_eq_true rfl, Nat.le_of_ble_eq_true rfl⟩ dX4_withIfDone_40 (fun H locs hM => ?_)
    obtain ⟨e8, e9⟩ := y_2 hF
    subst e8
    subst e9
    exact y_lret C0 hM hsz dX4_withIfDone_43

def F_X4_withIfEnded_l27 : Nat → Int64 → Int32 → MS → Option (Int64 × MS)
  | 0, _, _, _ => none
  | n27 + 1, l3_5, l5_6, M7 => (if (12 : Int32) < l5_6 then (some (l3_5, M7)) else (bd (F_X3_endTurn M7 27) fun M10 => (bd (F_X4_with M10 l3_5 (Int32.toInt64 (rF M10 54 27))) fun r12 => (nm (l5_6 + (1 : Int32)) fun x13 => (F_X4_withIfEnded_l27 n27 r12 x13 M10)))))

def F_X4_withIfEnded (M : MS) (a0 : Int64) : Option (Int64 × MS) := (bd (F_X3_copyFrom M 27 0) fun M2 => (bd (F_X4_with M2 a0 (Int32.toInt64 (rF M2 54 27))) fun r4 => (F_X4_withIfEnded_l27 FU r4 (1 : Int32) M2)))

set_option maxHeartbeats 4000000 in
set_option maxRecDepth 100000 in
theorem k_X4_withIfEnded (l : Launch) (G : GG) (M : MS) (a0 : Int64) {r : Int64} {Mf : MS} (hF : F_X4_withIfEnded M a0 = some (r, Mf)) : KL l yX4_withIfEnded (WS yX4_withIfEnded cX4_withIfEnded 6 (some .long)) (Rm 4) G [.ref (gad G 216), .long a0] M r Mf := by
  intro sz
  refine y_met (by decide +kernel) (Nat.le_of_ble_eq_true rfl) rfl (fun p e s m below meth c ls hsz C0 hM hl => ?_)
  have hl : lv_has ls 6 [(0, .ref (gad G 216)), (1, .long a0)] := hl
  have C0 : CX p s m meth c ([.ref (gad G 216), .long a0] : List Value).toArray cX4_withIfEnded RX4 6 (some .long) := C0
  rw [F_X4_withIfEnded] at hF
  refine lv_aload_n C0.1 C0.2.1 dX4_withIfEnded_0 rfl (lv_at hl 0 rfl) ?_
  refine gf4_1 C0 hM ok_tt fl_RX4_16 dX4_withIfEnded_1 ?_
  refine lv_aload_n C0.1 C0.2.1 dX4_withIfEnded_4 rfl (lv_at hl 0 rfl) ?_
  refine gf4_0 C0 hM ok_tt fl_RX4_10 dX4_withIfEnded_5 ?_
  obtain ⟨M2, h1, hF⟩ := bd_some hF
  refine y_vv (rest := []) C0 hM hl.1 ok_scratch (ent3 ok_scratch) rfl (k_X3_copyFrom l G M 27 0 h1 ok_scratch ok_now) cw_RX4_112 rfl rfl ⟨Nat.le_of_ble_eq_true rfl, Nat.le_of_ble_eq_true rfl⟩ rfl (Nat.le_of_ble_eq_true rfl) ⟨Nat.le_of_ble_eq_true rfl, Nat.le_of_ble_eq_true rfl⟩ dX4_withIfEnded_8 (fun H locs hM => ?_)
  refine lv_lload_n C0.1 C0.2.1 dX4_withIfEnded_11 rfl (lv_at hl 1 rfl) ?_
  refine lv_aload_n C0.1 C0.2.1 dX4_withIfEnded_12 rfl (lv_at hl 0 rfl) ?_
  refine gf4_1 C0 hM ok_tt fl_RX4_16 dX4_withIfEnded_13 ?_
  refine gf3_6 C0 hM ok_scratch fl_RX4_58 dX4_withIfEnded_16 ?_
  refine lv_i2l (v := Int32.toInt64 (rF M2 54 27)) C0.1 C0.2.1 dX4_withIfEnded_19 rfl ?_
  obtain ⟨r4, h3, hF⟩ := bd_some hF
  refine y_sl (rest := []) C0 hM hl.1 (k_X4_with l G M2 a0 (Int32.toInt64 (rF M2 54 27)) h3) cw_RX4_165 rfl rfl ⟨Nat.le_of_ble_eq_true rfl, Nat.le_of_ble_eq_true rfl⟩ rfl (Nat.le_of_ble_eq_true rfl) ⟨Nat.le_of_ble_eq_true rfl, Nat.le_of_ble_eq_true rfl⟩ dX4_withIfEnded_20 (fun H locs hM => ?_)
  refine lv_lstore_n (lv' := [(3, .long r4), (0, .ref (gad G 216)), (1, .long a0)]) C0.1 C0.2.1 dX4_withIfEnded_23 rfl hl (by decide) rfl (fun ls hl => ?_)
  refine lv_iconst (v := (1 : Int32)) C0.1 C0.2.1 dX4_withIfEnded_24 (by decide) ?_
  refine lv_istore (lv' := [(5, .int (1 : Int32)), (3, .long r4), (0, .ref (gad G 216)), (1, .long a0)]) C0.1 C0.2.1 dX4_withIfEnded_25 hl (by decide) rfl (fun ls hl => ?_)
  have L27 : ∀ (n : Nat) (l3_5 : Int64) (l5_6 : Int32) (M7 : MS) (H : Heap) (locs : List Loc) (ls : Array Slot), MX G M7 s H locs → lv_has ls 6 [(0, .ref (gad G 216)), (1, .long a0), (3, .long l3_5), (5, .int l5_6)] → F_X4_withIfEnded_l27 n l3_5 l5_6 M7 = some (r, Mf) → W p l e (Rm 4) s m ([.ref (gad G 216), .long a0] : List Value).toArray below meth c H locs 0 0 (QL below ([.ref (gad G 216), .long a0] : List Value).toArray s G sz r Mf) (F0 m 27 ls []) := by
    intro n
    induction n with
    | zero => intro l3_5 l5_6 M7 H locs ls hM hl hF; rw [F_X4_withIfEnded_l27] at hF; cases hF
    | succ n27 ih27 =>
      intro l3_5 l5_6 M7 H locs ls hM hl hF
      rw [F_X4_withIfEnded_l27] at hF
      refine lv_iload C0.1 C0.2.1 dX4_withIfEnded_27 (lv_at hl 3 rfl) ?_
      refine lv_bipush (v := (12 : Int32)) C0.1 C0.2.1 dX4_withIfEnded_29 (by decide) ?_
      refine lv_icmp_gt (tgt := 60) C0.1 C0.2.1 dX4_withIfEnded_31 (by decide) (fun c8 => ?_) (fun c8 => ?_)
      · have hF := if_t c8 hF
        refine lv_lload_n C0.1 C0.2.1 dX4_withIfEnded_60 rfl (lv_at hl 2 rfl) ?_
        obtain ⟨e8, e9⟩ := y_2 hF
        subst e8
        subst e9
        exact y_lret C0 hM hsz dX4_withIfEnded_61
      · have hF := if_f c8 hF
        refine lv_aload_n C0.1 C0.2.1 dX4_withIfEnded_34 rfl (lv_at hl 0 rfl) ?_
        refine gf4_1 C0 hM ok_tt fl_RX4_16 dX4_withIfEnded_35 ?_
        obtain ⟨M10, h9, hF⟩ := bd_some hF
        refine y_vv (rest := []) C0 hM hl.1 ok_scratch (ent3 ok_scratch) rfl (k_X3_endTurn l G M7 27 h9 ok_scratch) cw_RX4_78 rfl rfl ⟨Nat.le_of_ble_eq_true rfl, Nat.le_of_ble_eq_true rfl⟩ rfl (Nat.le_of_ble_eq_true rfl) ⟨Nat.le_of_ble_eq_true rfl, Nat.le_of_ble_eq_true rfl⟩ dX4_withIfEnded_38 (fun H locs hM => ?_)
        refine lv_lload_n C0.1 C0.2.1 dX4_withIfEnded_41 rfl (lv_at hl 2 rfl) ?_
        refine lv_aload_n C0.1 C0.2.1 dX4_withIfEnded_42 rfl (lv_at hl 0 rfl) ?_
        refine gf4_1 C0 hM ok_tt fl_RX4_16 dX4_withIfEnded_43 ?_
        refine gf3_6 C0 hM ok_scratch fl_RX4_58 dX4_withIfEnded_46 ?_
        refine lv_i2l (v := Int32.toInt64 (rF M10 54 27)) C0.1 C0.2.1 dX4_withIfEnded_49 rfl ?_
        obtain ⟨r12, h11, hF⟩ := bd_some hF
        refine y_sl (rest := []) C0 hM hl.1 (k_X4_with l G M10 l3_5 (Int32.toInt64 (rF M10 54 27)) h11) cw_RX4_165 rfl rfl ⟨Nat.le_of_ble_eq_true rfl, Nat.le_of_ble_eq_true rfl⟩ rfl (Nat.le_of_ble_eq_true rfl) ⟨Nat.le_of_ble_eq_true rfl, Nat.le_of_ble_eq_true rfl⟩ dX4_withIfEnded_50 (fun H locs hM => ?_)
        refine lv_lstore_n (lv' := [(3, .long r12), (0, .ref (gad G 216)), (1, .long a0), (5, .int l5_6)]) C0.1 C0.2.1 dX4_withIfEnded_53 rfl hl (by decide) rfl (fun ls hl => ?_)
        obtain ⟨x13, ex13, hF⟩ := nm_some hF
        refine lv_iinc (v := x13) (lv' := [(5, .int x13), (3, .long r12), (0, .ref (gad G 216)), (1, .long a0)]) C0.1 C0.2.1 dX4_withIfEnded_54 hl (k := 3) rfl (by rw [ex13]; rfl) (by decide) rfl (fun ls hl => ?_)
        refine lv_goto (tgt := 27) C0.1 C0.2.1 dX4_withIfEnded_57 (by decide) ?_
        exact ih27 r12 x13 M10 _ _ _ hM (lv_sub hl [2, 3, 1, 0] rfl) hF
  exact L27 FU r4 (1 : Int32) M2 _ _ _ hM (lv_sub hl [2, 3, 1, 0] rfl) hF

def F_X4_bitsOf_l18 : Nat → Int64 → UInt64 → Int32 → Option Int64
  | 0, _, _, _ => none
  | n18 + 1, l2_2, l4_3, l6_4 => (nm (gdb (nnb (FP.dsub l4_3 FP.dconst1)) (gdb (nnb (FP.dmul (FP.dsub l4_3 FP.dconst1) (4841369599423283200 : UInt64))) (some ((l2_2 <<< (Int32.toInt64 (52 : Int32) &&& 63)) + (FP.d2l (FP.dmul (FP.dsub l4_3 FP.dconst1) (4841369599423283200 : UInt64))))))) fun j50_4 => (if (100 : Int32) ≤ l6_4 then j50_4 else (if 0 ≤ (Op.cmpValue (FP.dcmp l4_3 FP.dconst1) .g) then j50_4 else (gdb (nnb (FP.dmul l4_3 (4611686018427387904 : UInt64))) (nm (FP.dmul l4_3 (4611686018427387904 : UInt64)) fun z11 => (nm (l2_2 - (1 : Int64)) fun y12 => (nm (l6_4 + (1 : Int32)) fun x13 => (F_X4_bitsOf_l18 n18 y12 z11 x13))))))))

def F_X4_bitsOf (M : MS) (a0 : UInt64) : Option Int64 := (if 0 < (Op.cmpValue (FP.dcmp a0 FP.dconst0) .g) then (F_X4_bitsOf_l18 FU (1023 : Int64) a0 (0 : Int32)) else (some (0 : Int64)))

set_option maxHeartbeats 4000000 in
set_option maxRecDepth 100000 in
theorem k_X4_bitsOf (l : Launch) (G : GG) (M : MS) (a0 : UInt64) {r : Int64} (hF : F_X4_bitsOf M a0 = some r) : KL l yX4_bitsOf (WS yX4_bitsOf cX4_bitsOf 7 (some .long)) (Rm 0) G [.double a0] M r M := by
  intro sz
  refine y_met (by decide +kernel) (Nat.le_of_ble_eq_true rfl) rfl (fun p e s m below meth c ls hsz C0 hM hl => ?_)
  have hl : lv_has ls 7 [(0, .double a0)] := hl
  have C0 : CX p s m meth c ([.double a0] : List Value).toArray cX4_bitsOf RX4 7 (some .long) := C0
  rw [F_X4_bitsOf] at hF
  refine lv_dload_n C0.1 C0.2.1 dX4_bitsOf_0 rfl (lv_at hl 0 rfl) ?_
  refine lv_dconst0 C0.1 C0.2.1 dX4_bitsOf_1 ?_
  refine lv_dcmp C0.1 C0.2.1 dX4_bitsOf_2 ?_
  refine lv_if_gt (tgt := 8) C0.1 C0.2.1 dX4_bitsOf_3 (by decide) (fun c1 => ?_) (fun c1 => ?_)
  · have hF := if_t c1 hF
    refine lv_ldc2 (v := (1023 : Int64)) C0.1 C0.2.1 C0.2.2.2.1 (C0.2.2.2.2.1 _ (tb1 507 (by decide +kernel) (by decide +kernel))) dX4_bitsOf_8 ?_
    refine lv_lstore_n (lv' := [(2, .long (1023 : Int64)), (0, .double a0)]) C0.1 C0.2.1 dX4_bitsOf_11 rfl hl (by decide) rfl (fun ls hl => ?_)
    refine lv_dload_n C0.1 C0.2.1 dX4_bitsOf_12 rfl (lv_at hl 1 rfl) ?_
    refine lv_dstore (lv' := [(4, .double a0), (2, .long (1023 : Int64)), (0, .double a0)]) C0.1 C0.2.1 dX4_bitsOf_13 hl (by decide) rfl (fun ls hl => ?_)
    refine lv_iconst (v := (0 : Int32)) C0.1 C0.2.1 dX4_bitsOf_15 (by decide) ?_
    refine lv_istore (lv' := [(6, .int (0 : Int32)), (4, .double a0), (2, .long (1023 : Int64)), (0, .double a0)]) C0.1 C0.2.1 dX4_bitsOf_16 hl (by decide) rfl (fun ls hl => ?_)
    have L18 : ∀ (n : Nat) (l2_2 : Int64) (l4_3 : UInt64) (l6_4 : Int32) (H : Heap) (locs : List Loc) (ls : Array Slot), MX G M s H locs → lv_has ls 7 [(0, .double a0), (2, .long l2_2), (4, .double l4_3), (6, .int l6_4)] → F_X4_bitsOf_l18 n l2_2 l4_3 l6_4 = some r → W p l e (Rm 0) s m ([.double a0] : List Value).toArray below meth c H locs 0 0 (QL below ([.double a0] : List Value).toArray s G sz r M) (F0 m 18 ls []) := by
      intro n
      induction n with
      | zero => intro l2_2 l4_3 l6_4 H locs ls hM hl hF; rw [F_X4_bitsOf_l18] at hF; cases hF
      | succ n18 ih18 =>
        intro l2_2 l4_3 l6_4 H locs ls hM hl hF
        rw [F_X4_bitsOf_l18] at hF
        refine lv_iload C0.1 C0.2.1 dX4_bitsOf_18 (lv_at hl 3 rfl) ?_
        refine lv_bipush (v := (100 : Int32)) C0.1 C0.2.1 dX4_bitsOf_20 (by decide) ?_
        obtain ⟨j50_4, ej50_4, hF⟩ := nm_some hF
        have J50 : ∀ (H : Heap) (locs : List Loc) (ls : Array Slot), MX G M s H locs → lv_has ls 7 [(0, .double a0), (2, .long l2_2), (4, .double l4_3), (6, .int l6_4)] → j50_4 = some r → W p l e (Rm 0) s m ([.double a0] : List Value).toArray below meth c H locs 0 0 (QL below ([.double a0] : List Value).toArray s G sz r M) (F0 m 50 ls []) := by
          intro H locs ls hM hl hF
          rw [ej50_4] at hF
          refine lv_lload_n C0.1 C0.2.1 dX4_bitsOf_50 rfl (lv_at hl 1 rfl) ?_
          refine lv_bipush (v := (52 : Int32)) C0.1 C0.2.1 dX4_bitsOf_51 (by decide) ?_
          refine lv_lshl (v := (l2_2 <<< (Int32.toInt64 (52 : Int32) &&& 63))) C0.1 C0.2.1 dX4_bitsOf_53 rfl ?_
          refine lv_dload C0.1 C0.2.1 dX4_bitsOf_54 (lv_at hl 2 rfl) ?_
          refine lv_dconst1 C0.1 C0.2.1 dX4_bitsOf_56 ?_
          obtain ⟨g6, hF⟩ := gdb_some hF
          refine lv_dsub C0.1 C0.2.1 dX4_bitsOf_57 (nnb_n g6) ?_
          refine lv_ldc2d (v := (4841369599423283200 : UInt64)) C0.1 C0.2.1 C0.2.2.2.1 (C0.2.2.2.2.1 _ (tb1 509 (by decide +kernel) (by decide +kernel))) dX4_bitsOf_58 ?_
          obtain ⟨g7, hF⟩ := gdb_some hF
          refine lv_dmul C0.1 C0.2.1 dX4_bitsOf_61 (nnb_n g7) ?_
          refine lv_d2l C0.1 C0.2.1 dX4_bitsOf_62 ?_
          refine lv_ladd C0.1 C0.2.1 dX4_bitsOf_63 ?_
          have e8 := y_1 hF
          subst e8
          exact y_lret C0 hM hsz dX4_bitsOf_64
        refine lv_icmp_ge (tgt := 50) C0.1 C0.2.1 dX4_bitsOf_22 (by decide) (fun c8 => ?_) (fun c8 => ?_)
        · have hF := if_t c8 hF
          exact J50  _ _ _ hM (lv_sub hl [0, 1, 2, 3] rfl) hF
        · have hF := if_f c8 hF
          refine lv_dload C0.1 C0.2.1 dX4_bitsOf_25 (lv_at hl 2 rfl) ?_
          refine lv_dconst1 C0.1 C0.2.1 dX4_bitsOf_27 ?_
          refine lv_dcmp C0.1 C0.2.1 dX4_bitsOf_28 ?_
          refine lv_if_ge (tgt := 50) C0.1 C0.2.1 dX4_bitsOf_29 (by decide) (fun c9 => ?_) (fun c9 => ?_)
          · have hF := if_t c9 hF
            exact J50  _ _ _ hM (lv_sub hl [0, 1, 2, 3] rfl) hF
          · have hF := if_f c9 hF
            refine lv_dload C0.1 C0.2.1 dX4_bitsOf_32 (lv_at hl 2 rfl) ?_
            refine lv_ldc2d (v := (4611686018427387904 : UInt64)) C0.1 C0.2.1 C0.2.2.2.1 (C0.2.2.2.2.1 _ (tb1 508 (by decide +kernel) (by decide +kernel))) dX4_bitsOf_34 ?_
            obtain ⟨g10, hF⟩ := gdb_some hF
            refine lv_dmul C0.1 C0.2.1 dX4_bitsOf_37 (nnb_n g10) ?_
            obtain ⟨z11, ez11, hF⟩ := nm_some hF
            refine y_topd ez11 ?_
            refine lv_dstore (lv' := [(4, .double z11), (0, .double a0), (2, .long l2_2), (6, .int l6_4)]) C0.1 C0.2.1 dX4_bitsOf_38 hl (by decide) rfl (fun ls hl => ?_)
            refine lv_lload_n C0.1 C0.2.1 dX4_bitsOf_40 rfl (lv_at hl 2 rfl) ?_
            refine lv_lconst (v := (1 : Int64)) C0.1 C0.2.1 dX4_bitsOf_41 (by decide) ?_
            refine lv_lsub C0.1 C0.2.1 dX4_bitsOf_42 ?_
            obtain ⟨y12, ey12, hF⟩ := nm_some hF
            refine y_topl ey12 ?_
            refine lv_lstore_n (lv' := [(2, .long y12), (4, .double z11), (0, .double a0), (6, .int l6_4)]) C0.1 C0.2.1 dX4_bitsOf_43 rfl hl (by decide) rfl (fun ls hl => ?_)
            obtain ⟨x13, ex13, hF⟩ := nm_some hF
            refine lv_iinc (v := x13) (lv' := [(6, .int x13), (2, .long y12), (4, .double z11), (0, .double a0)]) C0.1 C0.2.1 dX4_bitsOf_44 hl (k := 3) rfl (by rw [ex13]; rfl) (by decide) rfl (fun ls hl => ?_)
            refine lv_goto (tgt := 18) C0.1 C0.2.1 dX4_bitsOf_47 (by decide) ?_
            exact ih18 y12 z11 x13 _ _ _ hM (lv_sub hl [3, 1, 2, 0] rfl) hF
    exact L18 FU (1023 : Int64) a0 (0 : Int32) _ _ _ hM (lv_sub hl [3, 2, 1, 0] rfl) hF
  · have hF := if_f c1 hF
    refine lv_lconst (v := (0 : Int64)) C0.1 C0.2.1 dX4_bitsOf_6 (by decide) ?_
    have e8 := y_1 hF
    subst e8
    exact y_lret C0 hM hsz dX4_bitsOf_7

def F_X4_digest_l161 (M18 : MS) : Nat → Int64 → Int32 → Option (Int64 × MS)
  | 0, _, _ => none
  | n161 + 1, l1_30, l3_31 => (if (rF M18 17 218) ≤ l3_31 then (some (l1_30, M18)) else (bd (F_X1_codeAt M18 l3_31) fun r34 => (bd (F_X4_with M18 l1_30 (Int32.toInt64 r34)) fun r36 => (nm (l3_31 + (1 : Int32)) fun x37 => (F_X4_digest_l161 M18 n161 r36 x37)))))

def F_X4_digest_l81 (M6 : MS) : Nat → Int64 → Int32 → Option (Int64 × MS)
  | 0, _, _ => none
  | n81 + 1, l1_8, l3_9 => (if (10 : Int32) ≤ l3_9 then (bd2 (F_X4_withIfDone M6 l1_8 (1 : Int32) (5 : Int32)) fun r13 M12 => (bd2 (F_X4_withIfEnded M12 r13) fun r16 M15 => (bd2 (F_X4_bestStrike M15) fun r19 M18 => (bd (F_X4_with M18 r16 (Int32.toInt64 r19)) fun r21 => (bd (F_X4_standing M18) fun r23 => (bd (F_X4_bitsOf M18 r23) fun r25 => (bd (F_X4_with M18 r21 r25) fun r27 => (bd (F_X4_with M18 r27 (Int32.toInt64 (rF M18 17 218))) fun r29 => (F_X4_digest_l161 M18 FU r29 (0 : Int32)))))))))) else (bd (F_X2_numberAt M6 (0 + 2) l3_9) fun r39 => (bd (F_X4_with M6 l1_8 (Int32.toInt64 r39)) fun r41 => (nm (l3_9 + (1 : Int32)) fun x42 => (F_X4_digest_l81 M6 n81 r41 x42)))))

def F_X4_digest_l31 : Nat → Int64 → Int32 → MS → Option (Int64 × MS)
  | 0, _, _, _ => none
  | n31 + 1, l1_4, l3_5, M6 => (if (rF M6 52 0) ≤ l3_5 then (F_X4_digest_l81 M6 FU l1_4 (0 : Int32)) else (bd (F_X4_withFighter M6 l1_4 l3_5) fun r44 => (bd2 (F_X4_withIfDone M6 r44 (0 : Int32) l3_5) fun r47 M46 => (bd2 (F_X4_withIfDone M46 r47 (2 : Int32) l3_5) fun r50 M49 => (bd2 (F_X4_withIfDone M49 r50 (3 : Int32) l3_5) fun r53 M52 => (nm (l3_5 + (1 : Int32)) fun x54 => (F_X4_digest_l31 n31 r53 x54 M52)))))))

def F_X4_digest_l6 (M : MS) : Nat → Int64 → Int32 → Option (Int64 × MS)
  | 0, _, _ => none
  | n6 + 1, l1_1, l3_2 => (if (12 : Int32) < l3_2 then (F_X4_digest_l31 FU l1_1 (0 : Int32) M) else (bd (F_X4_counted M l3_2) fun r56 => (bd (F_X4_with M l1_1 (Int32.toInt64 r56)) fun r58 => (nm (l3_2 + (1 : Int32)) fun x59 => (F_X4_digest_l6 M n6 r58 x59)))))

def F_X4_digest (M : MS) : Option (Int64 × MS) := (F_X4_digest_l6 M FU (2767 : Int64) (0 : Int32))

set_option maxHeartbeats 4000000 in
set_option maxRecDepth 100000 in
theorem k_X4_digest (l : Launch) (G : GG) (M : MS) {r : Int64} {Mf : MS} (hF : F_X4_digest M = some (r, Mf)) : KL l yX4_digest (WS yX4_digest cX4_digest 4 (some .long)) (Rm 6) G [.ref (gad G 216)] M r Mf := by
  intro sz
  refine y_met (by decide +kernel) (Nat.le_of_ble_eq_true rfl) rfl (fun p e s m below meth c ls hsz C0 hM hl => ?_)
  have hl : lv_has ls 4 [(0, .ref (gad G 216))] := hl
  have C0 : CX p s m meth c ([.ref (gad G 216)] : List Value).toArray cX4_digest RX4 4 (some .long) := C0
  rw [F_X4_digest] at hF
  refine lv_ldc2 (v := (2767 : Int64)) C0.1 C0.2.1 C0.2.2.2.1 (C0.2.2.2.2.1 _ (tb1 442 (by decide +kernel) (by decide +kernel))) dX4_digest_0 ?_
  refine lv_lstore_n (lv' := [(1, .long (2767 : Int64)), (0, .ref (gad G 216))]) C0.1 C0.2.1 dX4_digest_3 rfl hl (by decide) rfl (fun ls hl => ?_)
  refine lv_iconst (v := (0 : Int32)) C0.1 C0.2.1 dX4_digest_4 (by decide) ?_
  refine lv_istore_n (lv' := [(3, .int (0 : Int32)), (1, .long (2767 : Int64)), (0, .ref (gad G 216))]) C0.1 C0.2.1 dX4_digest_5 rfl hl (by decide) rfl (fun ls hl => ?_)
  have L6 : ∀ (n : Nat) (l1_1 : Int64) (l3_2 : Int32) (H : Heap) (locs : List Loc) (ls : Array Slot), MX G M s H locs → lv_has ls 4 [(0, .ref (gad G 216)), (1, .long l1_1), (3, .int l3_2)] → F_X4_digest_l6 M n l1_1 l3_2 = some (r, Mf) → W p l e (Rm 6) s m ([.ref (gad G 216)] : List Value).toArray below meth c H locs 0 0 (QL below ([.ref (gad G 216)] : List Value).toArray s G sz r Mf) (F0 m 6 ls []) := by
    intro n
    induction n with
    | zero => intro l1_1 l3_2 H locs ls hM hl hF; rw [F_X4_digest_l6] at hF; cases hF
    | succ n6 ih6 =>
      intro l1_1 l3_2 H locs ls hM hl hF
      rw [F_X4_digest_l6] at hF
      refine lv_iload_n C0.1 C0.2.1 dX4_digest_6 rfl (lv_at hl 2 rfl) ?_
      refine lv_bipush (v := (12 : Int32)) C0.1 C0.2.1 dX4_digest_7 (by decide) ?_
      refine lv_icmp_gt (tgt := 29) C0.1 C0.2.1 dX4_digest_9 (by decide) (fun c3 => ?_) (fun c3 => ?_)
      · have hF := if_t c3 hF
        refine lv_iconst (v := (0 : Int32)) C0.1 C0.2.1 dX4_digest_29 (by decide) ?_
        refine lv_istore_n (lv' := [(3, .int (0 : Int32)), (0, .ref (gad G 216)), (1, .long l1_1)]) C0.1 C0.2.1 dX4_digest_30 rfl hl (by decide) rfl (fun ls hl => ?_)
        have L31 : ∀ (n : Nat) (l1_4 : Int64) (l3_5 : Int32) (M6 : MS) (H : Heap) (locs : List Loc) (ls : Array Slot), MX G M6 s H locs → lv_has ls 4 [(0, .ref (gad G 216)), (1, .long l1_4), (3, .int l3_5)] → F_X4_digest_l31 n l1_4 l3_5 M6 = some (r, Mf) → W p l e (Rm 6) s m ([.ref (gad G 216)] : List Value).toArray below meth c H locs 0 0 (QL below ([.ref (gad G 216)] : List Value).toArray s G sz r Mf) (F0 m 31 ls []) := by
          intro n
          induction n with
          | zero => intro l1_4 l3_5 M6 H locs ls hM hl hF; rw [F_X4_digest_l31] at hF; cases hF
          | succ n31 ih31 =>
            intro l1_4 l3_5 M6 H locs ls hM hl hF
            rw [F_X4_digest_l31] at hF
            refine lv_iload_n C0.1 C0.2.1 dX4_digest_31 rfl (lv_at hl 2 rfl) ?_
            refine lv_aload_n C0.1 C0.2.1 dX4_digest_32 rfl (lv_at hl 0 rfl) ?_
            refine gf4_0 C0 hM ok_tt fl_RX4_10 dX4_digest_33 ?_
            refine gf3_4 C0 hM ok_now fl_RX4_42 dX4_digest_36 ?_
            refine lv_icmp_ge (tgt := 79) C0.1 C0.2.1 dX4_digest_39 (by decide) (fun c7 => ?_) (fun c7 => ?_)
            · have hF := if_t c7 hF
              refine lv_iconst (v := (0 : Int32)) C0.1 C0.2.1 dX4_digest_79 (by decide) ?_
              refine lv_istore_n (lv' := [(3, .int (0 : Int32)), (0, .ref (gad G 216)), (1, .long l1_4)]) C0.1 C0.2.1 dX4_digest_80 rfl hl (by decide) rfl (fun ls hl => ?_)
              have L81 : ∀ (n : Nat) (l1_8 : Int64) (l3_9 : Int32) (H : Heap) (locs : List Loc) (ls : Array Slot), MX G M6 s H locs → lv_has ls 4 [(0, .ref (gad G 216)), (1, .long l1_8), (3, .int l3_9)] → F_X4_digest_l81 M6 n l1_8 l3_9 = some (r, Mf) → W p l e (Rm 6) s m ([.ref (gad G 216)] : List Value).toArray below meth c H locs 0 0 (QL below ([.ref (gad G 216)] : List Value).toArray s G sz r Mf) (F0 m 81 ls []) := by
                intro n
                induction n with
                | zero => intro l1_8 l3_9 H locs ls hM hl hF; rw [F_X4_digest_l81] at hF; cases hF
                | succ n81 ih81 =>
                  intro l1_8 l3_9 H locs ls hM hl hF
                  rw [F_X4_digest_l81] at hF
                  refine lv_iload_n C0.1 C0.2.1 dX4_digest_81 rfl (lv_at hl 2 rfl) ?_
                  refine lv_bipush (v := (10 : Int32)) C0.1 C0.2.1 dX4_digest_82 (by decide) ?_
                  refine lv_icmp_ge (tgt := 110) C0.1 C0.2.1 dX4_digest_84 (by decide) (fun c10 => ?_) (fun c10 => ?_)
                  · have hF := if_t c10 hF
                    refine lv_aload_n C0.1 C0.2.1 dX4_digest_110 rfl (lv_at hl 0 rfl) ?_
                    refine lv_lload_n C0.1 C0.2.1 dX4_digest_111 rfl (lv_at hl 1 rfl) ?_
                    refine lv_iconst (v := (1 : Int32)) C0.1 C0.2.1 dX4_digest_112 (by decide) ?_
                    refine lv_iconst (v := (5 : Int32)) C0.1 C0.2.1 dX4_digest_113 (by decide) ?_
                    obtain ⟨r13, M12, h11, hF⟩ := bd2_some hF
                    refine y_vl (rest := []) C0 hM hl.1 ok_tt (ent4 ok_tt) rfl (k_X4_withIfDone l G M6 l1_8 (1 : Int32) (5 : Int32) h11) cw_RX4_173 rfl rfl ⟨Nat.le_of_ble_eq_true rfl, Nat.le_of_ble_eq_true rfl⟩ rfl (Nat.le_of_ble_eq_true rfl) ⟨Nat.le_of_ble_eq_true rfl, Nat.le_of_ble_eq_true rfl⟩ dX4_digest_114 (fun H locs hM => ?_)
                    refine lv_lstore_n (lv' := [(1, .long r13), (0, .ref (gad G 216)), (3, .int l3_9)]) C0.1 C0.2.1 dX4_digest_117 rfl hl (by decide) rfl (fun ls hl => ?_)
                    refine lv_aload_n C0.1 C0.2.1 dX4_digest_118 rfl (lv_at hl 1 rfl) ?_
                    refine lv_lload_n C0.1 C0.2.1 dX4_digest_119 rfl (lv_at hl 0 rfl) ?_
                    obtain ⟨r16, M15, h14, hF⟩ := bd2_some hF
                    refine y_vl (rest := []) C0 hM hl.1 ok_tt (ent4 ok_tt) rfl (k_X4_withIfEnded l G M12 r13 h14) cw_RX4_177 rfl rfl ⟨Nat.le_of_ble_eq_true rfl, Nat.le_of_ble_eq_true rfl⟩ rfl (Nat.le_of_ble_eq_true rfl) ⟨Nat.le_of_ble_eq_true rfl, Nat.le_of_ble_eq_true rfl⟩ dX4_digest_120 (fun H locs hM => ?_)
                    refine lv_lstore_n (lv' := [(1, .long r16), (0, .ref (gad G 216)), (3, .int l3_9)]) C0.1 C0.2.1 dX4_digest_123 rfl hl (by decide) rfl (fun ls hl => ?_)
                    refine lv_lload_n C0.1 C0.2.1 dX4_digest_124 rfl (lv_at hl 0 rfl) ?_
                    refine lv_aload_n C0.1 C0.2.1 dX4_digest_125 rfl (lv_at hl 1 rfl) ?_
                    obtain ⟨r19, M18, h17, hF⟩ := bd2_some hF
                    refine y_vi (rest := [.long r16]) C0 hM hl.1 ok_tt (ent4 ok_tt) rfl (k_X4_bestStrike l G M15 h17) cw_RX4_181 rfl rfl ⟨Nat.le_of_ble_eq_true rfl, Nat.le_of_ble_eq_true rfl⟩ rfl (Nat.le_of_ble_eq_true rfl) ⟨Nat.le_of_ble_eq_true rfl, Nat.le_of_ble_eq_true rfl⟩ dX4_digest_126 (fun H locs hM => ?_)
                    refine lv_i2l (v := Int32.toInt64 r19) C0.1 C0.2.1 dX4_digest_129 rfl ?_
                    obtain ⟨r21, h20, hF⟩ := bd_some hF
                    refine y_sl (rest := []) C0 hM hl.1 (k_X4_with l G M18 r16 (Int32.toInt64 r19) h20) cw_RX4_165 rfl rfl ⟨Nat.le_of_ble_eq_true rfl, Nat.le_of_ble_eq_true rfl⟩ rfl (Nat.le_of_ble_eq_true rfl) ⟨Nat.le_of_ble_eq_true rfl, Nat.le_of_ble_eq_true rfl⟩ dX4_digest_130 (fun H locs hM => ?_)
                    refine lv_lstore_n (lv' := [(1, .long r21), (0, .ref (gad G 216)), (3, .int l3_9)]) C0.1 C0.2.1 dX4_digest_133 rfl hl (by decide) rfl (fun ls hl => ?_)
                    refine lv_lload_n C0.1 C0.2.1 dX4_digest_134 rfl (lv_at hl 0 rfl) ?_
                    refine lv_aload_n C0.1 C0.2.1 dX4_digest_135 rfl (lv_at hl 1 rfl) ?_
                    obtain ⟨r23, h22, hF⟩ := bd_some hF
                    refine y_vd (rest := [.long r21]) C0 hM hl.1 ok_tt (ent4 ok_tt) rfl (k_X4_standing l G M18 h22) cw_RX4_184 rfl rfl ⟨Nat.le_of_ble_eq_true rfl, Nat.le_of_ble_eq_true rfl⟩ rfl (Nat.le_of_ble_eq_true rfl) ⟨Nat.le_of_ble_eq_true rfl, Nat.le_of_ble_eq_true rfl⟩ dX4_digest_136 (fun H locs hM => ?_)
                    obtain ⟨r25, h24, hF⟩ := bd_some hF
                    refine y_sl (rest := [.long r21]) C0 hM hl.1 (k_X4_bitsOf l G M18 r23 h24) cw_RX4_188 rfl rfl ⟨Nat.le_of_ble_eq_true rfl, Nat.le_of_ble_eq_true rfl⟩ rfl (Nat.le_of_ble_eq_true rfl) ⟨Nat.le_of_ble_eq_true rfl, Nat.le_of_ble_eq_true rfl⟩ dX4_digest_139 (fun H locs hM => ?_)
                    obtain ⟨r27, h26, hF⟩ := bd_some hF
                    refine y_sl (rest := []) C0 hM hl.1 (k_X4_with l G M18 r21 r25 h26) cw_RX4_165 rfl rfl ⟨Nat.le_of_ble_eq_true rfl, Nat.le_of_ble_eq_true rfl⟩ rfl (Nat.le_of_ble_eq_true rfl) ⟨Nat.le_of_ble_eq_true rfl, Nat.le_of_ble_eq_true rfl⟩ dX4_digest_142 (fun H locs hM => ?_)
                    refine lv_lstore_n (lv' := [(1, .long r27), (0, .ref (gad G 216)), (3, .int l3_9)]) C0.1 C0.2.1 dX4_digest_145 rfl hl (by decide) rfl (fun ls hl => ?_)
                    refine lv_lload_n C0.1 C0.2.1 dX4_digest_146 rfl (lv_at hl 0 rfl) ?_
                    refine lv_aload_n C0.1 C0.2.1 dX4_digest_147 rfl (lv_at hl 1 rfl) ?_
                    refine gf4_4 C0 hM ok_tt fl_RX4_30 dX4_digest_148 ?_
                    refine gf1_1 C0 hM ok_text fl_RX4_89 dX4_digest_151 ?_
                    refine lv_i2l (v := Int32.toInt64 (rF M18 17 218)) C0.1 C0.2.1 dX4_digest_154 rfl ?_
                    obtain ⟨r29, h28, hF⟩ := bd_some hF
                    refine y_sl (rest := []) C0 hM hl.1 (k_X4_with l G M18 r27 (Int32.toInt64 (rF M18 17 218)) h28) cw_RX4_165 rfl rfl ⟨Nat.le_of_ble_eq_true rfl, Nat.le_of_ble_eq_true rfl⟩ rfl (Nat.le_of_ble_eq_true rfl) ⟨Nat.le_of_ble_eq_true rfl, Nat.le_of_ble_eq_true rfl⟩ dX4_digest_155 (fun H locs hM => ?_)
                    refine lv_lstore_n (lv' := [(1, .long r29), (0, .ref (gad G 216)), (3, .int l3_9)]) C0.1 C0.2.1 dX4_digest_158 rfl hl (by decide) rfl (fun ls hl => ?_)
                    refine lv_iconst (v := (0 : Int32)) C0.1 C0.2.1 dX4_digest_159 (by decide) ?_
                    refine lv_istore_n (lv' := [(3, .int (0 : Int32)), (1, .long r29), (0, .ref (gad G 216))]) C0.1 C0.2.1 dX4_digest_160 rfl hl (by decide) rfl (fun ls hl => ?_)
                    have L161 : ∀ (n : Nat) (l1_30 : Int64) (l3_31 : Int32) (H : Heap) (locs : List Loc) (ls : Array Slot), MX G M18 s H locs → lv_has ls 4 [(0, .ref (gad G 216)), (1, .long l1_30), (3, .int l3_31)] → F_X4_digest_l161 M18 n l1_30 l3_31 = some (r, Mf) → W p l e (Rm 6) s m ([.ref (gad G 216)] : List Value).toArray below meth c H locs 0 0 (QL below ([.ref (gad G 216)] : List Value).toArray s G sz r Mf) (F0 m 161 ls []) := by
                      intro n
                      induction n with
                      | zero => intro l1_30 l3_31 H locs ls hM hl hF; rw [F_X4_digest_l161] at hF; cases hF
                      | succ n161 ih161 =>
                        intro l1_30 l3_31 H locs ls hM hl hF
                        rw [F_X4_digest_l161] at hF
                        refine lv_iload_n C0.1 C0.2.1 dX4_digest_161 rfl (lv_at hl 2 rfl) ?_
                        refine lv_aload_n C0.1 C0.2.1 dX4_digest_162 rfl (lv_at hl 0 rfl) ?_
                        refine gf4_4 C0 hM ok_tt fl_RX4_30 dX4_digest_163 ?_
                        refine gf1_1 C0 hM ok_text fl_RX4_89 dX4_digest_166 ?_
                        refine lv_icmp_ge (tgt := 192) C0.1 C0.2.1 dX4_digest_169 (by decide) (fun c32 => ?_) (fun c32 => ?_)
                        · have hF := if_t c32 hF
                          refine lv_lload_n C0.1 C0.2.1 dX4_digest_192 rfl (lv_at hl 1 rfl) ?_
                          obtain ⟨e8, e9⟩ := y_2 hF
                          subst e8
                          subst e9
                          exact y_lret C0 hM hsz dX4_digest_193
                        · have hF := if_f c32 hF
                          refine lv_lload_n C0.1 C0.2.1 dX4_digest_172 rfl (lv_at hl 1 rfl) ?_
                          refine lv_aload_n C0.1 C0.2.1 dX4_digest_173 rfl (lv_at hl 0 rfl) ?_
                          refine gf4_4 C0 hM ok_tt fl_RX4_30 dX4_digest_174 ?_
                          refine lv_iload_n C0.1 C0.2.1 dX4_digest_177 rfl (lv_at hl 2 rfl) ?_
                          obtain ⟨r34, h33, hF⟩ := bd_some hF
                          refine y_vi (rest := [.long l1_30]) C0 hM hl.1 ok_text (ent1 ok_text) rfl (k_X1_codeAt l G M18 l3_31 h33) cw_RX4_192 rfl rfl ⟨Nat.le_of_ble_eq_true rfl, Nat.le_of_ble_eq_true rfl⟩ rfl (Nat.le_of_ble_eq_true rfl) ⟨Nat.le_of_ble_eq_true rfl, Nat.le_of_ble_eq_true rfl⟩ dX4_digest_178 (fun H locs hM => ?_)
                          refine lv_i2l (v := Int32.toInt64 r34) C0.1 C0.2.1 dX4_digest_181 rfl ?_
                          obtain ⟨r36, h35, hF⟩ := bd_some hF
                          refine y_sl (rest := []) C0 hM hl.1 (k_X4_with l G M18 l1_30 (Int32.toInt64 r34) h35) cw_RX4_165 rfl rfl ⟨Nat.le_of_ble_eq_true rfl, Nat.le_of_ble_eq_true rfl⟩ rfl (Nat.le_of_ble_eq_true rfl) ⟨Nat.le_of_ble_eq_true rfl, Nat.le_of_ble_eq_true rfl⟩ dX4_digest_182 (fun H locs hM => ?_)
                          refine lv_lstore_n (lv' := [(1, .long r36), (0, .ref (gad G 216)), (3, .int l3_31)]) C0.1 C0.2.1 dX4_digest_185 rfl hl (by decide) rfl (fun ls hl => ?_)
                          obtain ⟨x37, ex37, hF⟩ := nm_some hF
                          refine lv_iinc (v := x37) (lv' := [(3, .int x37), (1, .long r36), (0, .ref (gad G 216))]) C0.1 C0.2.1 dX4_digest_186 hl (k := 2) rfl (by rw [ex37]; rfl) (by decide) rfl (fun ls hl => ?_)
                          refine lv_goto (tgt := 161) C0.1 C0.2.1 dX4_digest_189 (by decide) ?_
                          exact ih161 r36 x37 _ _ _ hM (lv_sub hl [2, 1, 0] rfl) hF
                    exact L161 FU r29 (0 : Int32) _ _ _ hM (lv_sub hl [2, 1, 0] rfl) hF
                  · have hF := if_f c10 hF
                    refine lv_lload_n C0.1 C0.2.1 dX4_digest_87 rfl (lv_at hl 1 rfl) ?_
                    refine lv_aload_n C0.1 C0.2.1 dX4_digest_88 rfl (lv_at hl 0 rfl) ?_
                    refine gf4_0 C0 hM ok_tt fl_RX4_10 dX4_digest_89 ?_
                    refine gf3_2 C0 hM ok_now fl_RX4_129 dX4_digest_92 ?_
                    refine lv_iload_n C0.1 C0.2.1 dX4_digest_95 rfl (lv_at hl 2 rfl) ?_
                    obtain ⟨r39, h38, hF⟩ := bd_some hF
                    refine y_vi (rest := [.long l1_8]) C0 hM hl.1 (ok_row ok_now) (ent2 (ok_row ok_now)) rfl (k_X2_numberAt l G M6 (0 + 2) l3_9 h38 (ok_row ok_now)) cw_RX4_133 rfl rfl ⟨Nat.le_of_ble_eq_true rfl, Nat.le_of_ble_eq_true rfl⟩ rfl (Nat.le_of_ble_eq_true rfl) ⟨Nat.le_of_ble_eq_true rfl, Nat.le_of_ble_eq_true rfl⟩ dX4_digest_96 (fun H locs hM => ?_)
                    refine lv_i2l (v := Int32.toInt64 r39) C0.1 C0.2.1 dX4_digest_99 rfl ?_
                    obtain ⟨r41, h40, hF⟩ := bd_some hF
                    refine y_sl (rest := []) C0 hM hl.1 (k_X4_with l G M6 l1_8 (Int32.toInt64 r39) h40) cw_RX4_165 rfl rfl ⟨Nat.le_of_ble_eq_true rfl, Nat.le_of_ble_eq_true rfl⟩ rfl (Nat.le_of_ble_eq_true rfl) ⟨Nat.le_of_ble_eq_true rfl, Nat.le_of_ble_eq_true rfl⟩ dX4_digest_100 (fun H locs hM => ?_)
                    refine lv_lstore_n (lv' := [(1, .long r41), (0, .ref (gad G 216)), (3, .int l3_9)]) C0.1 C0.2.1 dX4_digest_103 rfl hl (by decide) rfl (fun ls hl => ?_)
                    obtain ⟨x42, ex42, hF⟩ := nm_some hF
                    refine lv_iinc (v := x42) (lv' := [(3, .int x42), (1, .long r41), (0, .ref (gad G 216))]) C0.1 C0.2.1 dX4_digest_104 hl (k := 2) rfl (by rw [ex42]; rfl) (by decide) rfl (fun ls hl => ?_)
                    refine lv_goto (tgt := 81) C0.1 C0.2.1 dX4_digest_107 (by decide) ?_
                    exact ih81 r41 x42 _ _ _ hM (lv_sub hl [2, 1, 0] rfl) hF
              exact L81 FU l1_4 (0 : Int32) _ _ _ hM (lv_sub hl [1, 2, 0] rfl) hF
            · have hF := if_f c7 hF
              refine lv_aload_n C0.1 C0.2.1 dX4_digest_42 rfl (lv_at hl 0 rfl) ?_
              refine lv_lload_n C0.1 C0.2.1 dX4_digest_43 rfl (lv_at hl 1 rfl) ?_
              refine lv_iload_n C0.1 C0.2.1 dX4_digest_44 rfl (lv_at hl 2 rfl) ?_
              obtain ⟨r44, h43, hF⟩ := bd_some hF
              refine y_vl (rest := []) C0 hM hl.1 ok_tt (ent4 ok_tt) rfl (k_X4_withFighter l G M6 l1_4 l3_5 h43) cw_RX4_169 rfl rfl ⟨Nat.le_of_ble_eq_true rfl, Nat.le_of_ble_eq_true rfl⟩ rfl (Nat.le_of_ble_eq_true rfl) ⟨Nat.le_of_ble_eq_true rfl, Nat.le_of_ble_eq_true rfl⟩ dX4_digest_45 (fun H locs hM => ?_)
              refine lv_lstore_n (lv' := [(1, .long r44), (0, .ref (gad G 216)), (3, .int l3_5)]) C0.1 C0.2.1 dX4_digest_48 rfl hl (by decide) rfl (fun ls hl => ?_)
              refine lv_aload_n C0.1 C0.2.1 dX4_digest_49 rfl (lv_at hl 1 rfl) ?_
              refine lv_lload_n C0.1 C0.2.1 dX4_digest_50 rfl (lv_at hl 0 rfl) ?_
              refine lv_iconst (v := (0 : Int32)) C0.1 C0.2.1 dX4_digest_51 (by decide) ?_
              refine lv_iload_n C0.1 C0.2.1 dX4_digest_52 rfl (lv_at hl 2 rfl) ?_
              obtain ⟨r47, M46, h45, hF⟩ := bd2_some hF
              refine y_vl (rest := []) C0 hM hl.1 ok_tt (ent4 ok_tt) rfl (k_X4_withIfDone l G M6 r44 (0 : Int32) l3_5 h45) cw_RX4_173 rfl rfl ⟨Nat.le_of_ble_eq_true rfl, Nat.le_of_ble_eq_true rfl⟩ rfl (Nat.le_of_ble_eq_true rfl) ⟨Nat.le_of_ble_eq_true rfl, Nat.le_of_ble_eq_true rfl⟩ dX4_digest_53 (fun H locs hM => ?_)
              refine lv_lstore_n (lv' := [(1, .long r47), (0, .ref (gad G 216)), (3, .int l3_5)]) C0.1 C0.2.1 dX4_digest_56 rfl hl (by decide) rfl (fun ls hl => ?_)
              refine lv_aload_n C0.1 C0.2.1 dX4_digest_57 rfl (lv_at hl 1 rfl) ?_
              refine lv_lload_n C0.1 C0.2.1 dX4_digest_58 rfl (lv_at hl 0 rfl) ?_
              refine lv_iconst (v := (2 : Int32)) C0.1 C0.2.1 dX4_digest_59 (by decide) ?_
              refine lv_iload_n C0.1 C0.2.1 dX4_digest_60 rfl (lv_at hl 2 rfl) ?_
              obtain ⟨r50, M49, h48, hF⟩ := bd2_some hF
              refine y_vl (rest := []) C0 hM hl.1 ok_tt (ent4 ok_tt) rfl (k_X4_withIfDone l G M46 r47 (2 : Int32) l3_5 h48) cw_RX4_173 rfl rfl ⟨Nat.le_of_ble_eq_true rfl, Nat.le_of_ble_eq_true rfl⟩ rfl (Nat.le_of_ble_eq_true rfl) ⟨Nat.le_of_ble_eq_true rfl, Nat.le_of_ble_eq_true rfl⟩ dX4_digest_61 (fun H locs hM => ?_)
              refine lv_lstore_n (lv' := [(1, .long r50), (0, .ref (gad G 216)), (3, .int l3_5)]) C0.1 C0.2.1 dX4_digest_64 rfl hl (by decide) rfl (fun ls hl => ?_)
              refine lv_aload_n C0.1 C0.2.1 dX4_digest_65 rfl (lv_at hl 1 rfl) ?_
              refine lv_lload_n C0.1 C0.2.1 dX4_digest_66 rfl (lv_at hl 0 rfl) ?_
              refine lv_iconst (v := (3 : Int32)) C0.1 C0.2.1 dX4_digest_67 (by decide) ?_
              refine lv_iload_n C0.1 C0.2.1 dX4_digest_68 rfl (lv_at hl 2 rfl) ?_
              obtain ⟨r53, M52, h51, hF⟩ := bd2_some hF
              refine y_vl (rest := []) C0 hM hl.1 ok_tt (ent4 ok_tt) rfl (k_X4_withIfDone l G M49 r50 (3 : Int32) l3_5 h51) cw_RX4_173 rfl rfl ⟨Nat.le_of_ble_eq_true rfl, Nat.le_of_ble_eq_true rfl⟩ rfl (Nat.le_of_ble_eq_true rfl) ⟨Nat.le_of_ble_eq_true rfl, Nat.le_of_ble_eq_true rfl⟩ dX4_digest_69 (fun H locs hM => ?_)
              refine lv_lstore_n (lv' := [(1, .long r53), (0, .ref (gad G 216)), (3, .int l3_5)]) C0.1 C0.2.1 dX4_digest_72 rfl hl (by decide) rfl (fun ls hl => ?_)
              obtain ⟨x54, ex54, hF⟩ := nm_some hF
              refine lv_iinc (v := x54) (lv' := [(3, .int x54), (1, .long r53), (0, .ref (gad G 216))]) C0.1 C0.2.1 dX4_digest_73 hl (k := 2) rfl (by rw [ex54]; rfl) (by decide) rfl (fun ls hl => ?_)
              refine lv_goto (tgt := 31) C0.1 C0.2.1 dX4_digest_76 (by decide) ?_
              exact ih31 r53 x54 M52 _ _ _ hM (lv_sub hl [2, 1, 0] rfl) hF
        exact L31 FU l1_1 (0 : Int32) M _ _ _ hM (lv_sub hl [1, 2, 0] rfl) hF
      · have hF := if_f c3 hF
        refine lv_lload_n C0.1 C0.2.1 dX4_digest_12 rfl (lv_at hl 1 rfl) ?_
        refine lv_aload_n C0.1 C0.2.1 dX4_digest_13 rfl (lv_at hl 0 rfl) ?_
        refine lv_iload_n C0.1 C0.2.1 dX4_digest_14 rfl (lv_at hl 2 rfl) ?_
        obtain ⟨r56, h55, hF⟩ := bd_some hF
        refine y_vi (rest := [.long l1_1]) C0 hM hl.1 ok_tt (ent4 ok_tt) rfl (k_X4_counted l G M l3_2 h55) cw_RX4_138 rfl rfl ⟨Nat.le_of_ble_eq_true rfl, Nat.le_of_ble_eq_true rfl⟩ rfl (Nat.le_of_ble_eq_true rfl) ⟨Nat.le_of_ble_eq_true rfl, Nat.le_of_ble_eq_true rfl⟩ dX4_digest_15 (fun H locs hM => ?_)
        refine lv_i2l (v := Int32.toInt64 r56) C0.1 C0.2.1 dX4_digest_18 rfl ?_
        obtain ⟨r58, h57, hF⟩ := bd_some hF
        refine y_sl (rest := []) C0 hM hl.1 (k_X4_with l G M l1_1 (Int32.toInt64 r56) h57) cw_RX4_165 rfl rfl ⟨Nat.le_of_ble_eq_true rfl, Nat.le_of_ble_eq_true rfl⟩ rfl (Nat.le_of_ble_eq_true rfl) ⟨Nat.le_of_ble_eq_true rfl, Nat.le_of_ble_eq_true rfl⟩ dX4_digest_19 (fun H locs hM => ?_)
        refine lv_lstore_n (lv' := [(1, .long r58), (0, .ref (gad G 216)), (3, .int l3_2)]) C0.1 C0.2.1 dX4_digest_22 rfl hl (by decide) rfl (fun ls hl => ?_)
        obtain ⟨x59, ex59, hF⟩ := nm_some hF
        refine lv_iinc (v := x59) (lv' := [(3, .int x59), (1, .long r58), (0, .ref (gad G 216))]) C0.1 C0.2.1 dX4_digest_23 hl (k := 2) rfl (by rw [ex59]; rfl) (by decide) rfl (fun ls hl => ?_)
        refine lv_goto (tgt := 6) C0.1 C0.2.1 dX4_digest_26 (by decide) ?_
        exact ih6 r58 x59 _ _ _ hM (lv_sub hl [2, 1, 0] rfl) hF
  exact L6 FU (2767 : Int64) (0 : Int32) _ _ _ hM (lv_sub hl [2, 1, 0] rfl) hF

def F_X4_isWithin (M : MS) (a0 : Int32) (a1 : Int32) (a2 : Int32) : Option Int32 := (if a0 < a1 then (some (0 : Int32)) else (if a2 < a0 then (some (0 : Int32)) else (some (1 : Int32))))

set_option maxHeartbeats 4000000 in
set_option maxRecDepth 100000 in
theorem k_X4_isWithin (l : Launch) (G : GG) (M : MS) (a0 : Int32) (a1 : Int32) (a2 : Int32) {r : Int32} (hF : F_X4_isWithin M a0 a1 a2 = some r) : KI l yX4_isWithin (WS yX4_isWithin cX4_isWithin 3 (some .boolean)) (Rm 0) G [.int a0, .int a1, .int a2] M r M := by
  intro sz
  refine y_met (by decide +kernel) (Nat.le_of_ble_eq_true rfl) rfl (fun p e s m below meth c ls hsz C0 hM hl => ?_)
  have hl : lv_has ls 3 [(0, .int a0), (1, .int a1), (2, .int a2)] := hl
  have C0 : CX p s m meth c ([.int a0, .int a1, .int a2] : List Value).toArray cX4_isWithin RX4 3 (some .boolean) := C0
  rw [F_X4_isWithin] at hF
  refine lv_iload_n C0.1 C0.2.1 dX4_isWithin_0 rfl (lv_at hl 0 rfl) ?_
  refine lv_iload_n C0.1 C0.2.1 dX4_isWithin_1 rfl (lv_at hl 1 rfl) ?_
  refine lv_icmp_lt (tgt := 14) C0.1 C0.2.1 dX4_isWithin_2 (by decide) (fun c1 => ?_) (fun c1 => ?_)
  · have hF := if_t c1 hF
    refine lv_iconst (v := (0 : Int32)) C0.1 C0.2.1 dX4_isWithin_14 (by decide) ?_
    have e8 := y_1 hF
    subst e8
    exact y_zret C0 hM hsz rfl dX4_isWithin_15
  · have hF := if_f c1 hF
    refine lv_iload_n C0.1 C0.2.1 dX4_isWithin_5 rfl (lv_at hl 0 rfl) ?_
    refine lv_iload_n C0.1 C0.2.1 dX4_isWithin_6 rfl (lv_at hl 2 rfl) ?_
    refine lv_icmp_gt (tgt := 14) C0.1 C0.2.1 dX4_isWithin_7 (by decide) (fun c2 => ?_) (fun c2 => ?_)
    · have hF := if_t c2 hF
      refine lv_iconst (v := (0 : Int32)) C0.1 C0.2.1 dX4_isWithin_14 (by decide) ?_
      have e8 := y_1 hF
      subst e8
      exact y_zret C0 hM hsz rfl dX4_isWithin_15
    · have hF := if_f c2 hF
      refine lv_iconst (v := (1 : Int32)) C0.1 C0.2.1 dX4_isWithin_10 (by decide) ?_
      refine lv_goto (tgt := 15) C0.1 C0.2.1 dX4_isWithin_11 (by decide) ?_
      have e8 := y_1 hF
      subst e8
      exact y_zret C0 hM hsz rfl dX4_isWithin_15

def F_X4_isOrderPossible (M : MS) (a0 : Int32) : Option Int32 := (bd (F_X1_codeAt M a0) fun r2 => (bd (F_X1_digitAt M (a0 + (1 : Int32))) fun r4 => (if ¬ r2 = (105 : Int32) then (bd (F_X1_kindOf M r2) fun r7 => (if ¬ r7 = (-1 : Int32) then (bd (F_X3_isPossible M 0 (rF M 54 0) r7 r4) fun r10 => (gdb (r10 == 0 || r10 == 1) (some r10))) else (if (rF M 54 0) = (-1 : Int32) then (some (0 : Int32)) else (some (1 : Int32))))) else (bd (F_X3_canBeLetIn M 0 r4) fun r14 => (gdb (r14 == 0 || r14 == 1) (some r14))))))

set_option maxHeartbeats 4000000 in
set_option maxRecDepth 100000 in
theorem k_X4_isOrderPossible (l : Launch) (G : GG) (M : MS) (a0 : Int32) {r : Int32} (hF : F_X4_isOrderPossible M a0 = some r) : KI l yX4_isOrderPossible (WS yX4_isOrderPossible cX4_isOrderPossible 5 (some .boolean)) (Rm 2) G [.ref (gad G 216), .int a0] M r M := by
  intro sz
  refine y_met (by decide +kernel) (Nat.le_of_ble_eq_true rfl) rfl (fun p e s m below meth c ls hsz C0 hM hl => ?_)
  have hl : lv_has ls 5 [(0, .ref (gad G 216)), (1, .int a0)] := hl
  have C0 : CX p s m meth c ([.ref (gad G 216), .int a0] : List Value).toArray cX4_isOrderPossible RX4 5 (some .boolean) := C0
  rw [F_X4_isOrderPossible] at hF
  refine lv_aload_n C0.1 C0.2.1 dX4_isOrderPossible_0 rfl (lv_at hl 0 rfl) ?_
  refine gf4_4 C0 hM ok_tt fl_RX4_30 dX4_isOrderPossible_1 ?_
  refine lv_iload_n C0.1 C0.2.1 dX4_isOrderPossible_4 rfl (lv_at hl 1 rfl) ?_
  obtain ⟨r2, h1, hF⟩ := bd_some hF
  refine y_vi (rest := []) C0 hM hl.1 ok_text (ent1 ok_text) rfl (k_X1_codeAt l G M a0 h1) cw_RX4_192 rfl rfl ⟨Nat.le_of_ble_eq_true rfl, Nat.le_of_ble_eq_true rfl⟩ rfl (Nat.le_of_ble_eq_true rfl) ⟨Nat.le_of_ble_eq_true rfl, Nat.le_of_ble_eq_true rfl⟩ dX4_isOrderPossible_5 (fun H locs hM => ?_)
  refine lv_istore_n (lv' := [(2, .int r2), (0, .ref (gad G 216)), (1, .int a0)]) C0.1 C0.2.1 dX4_isOrderPossible_8 rfl hl (by decide) rfl (fun ls hl => ?_)
  refine lv_aload_n C0.1 C0.2.1 dX4_isOrderPossible_9 rfl (lv_at hl 1 rfl) ?_
  refine gf4_4 C0 hM ok_tt fl_RX4_30 dX4_isOrderPossible_10 ?_
  refine lv_iload_n C0.1 C0.2.1 dX4_isOrderPossible_13 rfl (lv_at hl 2 rfl) ?_
  refine lv_iconst (v := (1 : Int32)) C0.1 C0.2.1 dX4_isOrderPossible_14 (by decide) ?_
  refine lv_iadd C0.1 C0.2.1 dX4_isOrderPossible_15 ?_
  obtain ⟨r4, h3, hF⟩ := bd_some hF
  refine y_vi (rest := []) C0 hM hl.1 ok_text (ent1 ok_text) rfl (k_X1_digitAt l G M (a0 + (1 : Int32)) h3) cw_RX4_215 rfl rfl ⟨Nat.le_of_ble_eq_true rfl, Nat.le_of_ble_eq_true rfl⟩ rfl (Nat.le_of_ble_eq_true rfl) ⟨Nat.le_of_ble_eq_true rfl, Nat.le_of_ble_eq_true rfl⟩ dX4_isOrderPossible_16 (fun H locs hM => ?_)
  refine lv_istore_n (lv' := [(3, .int r4), (2, .int r2), (0, .ref (gad G 216)), (1, .int a0)]) C0.1 C0.2.1 dX4_isOrderPossible_19 rfl hl (by decide) rfl (fun ls hl => ?_)
  refine lv_iload_n C0.1 C0.2.1 dX4_isOrderPossible_20 rfl (lv_at hl 1 rfl) ?_
  refine lv_bipush (v := (105 : Int32)) C0.1 C0.2.1 dX4_isOrderPossible_21 (by decide) ?_
  refine lv_icmp_ne (tgt := 35) C0.1 C0.2.1 dX4_isOrderPossible_23 (by decide) (fun c5 => ?_) (fun c5 => ?_)
  · have hF := if_t c5 hF
    refine lv_iload_n C0.1 C0.2.1 dX4_isOrderPossible_35 rfl (lv_at hl 1 rfl) ?_
    obtain ⟨r7, h6, hF⟩ := bd_some hF
    refine y_si (rest := []) C0 hM hl.1 (k_X1_kindOf l G M r2 h6) cw_RX4_218 rfl rfl ⟨Nat.le_of_ble_eq_true rfl, Nat.le_of_ble_eq_true rfl⟩ rfl (Nat.le_of_ble_eq_true rfl) ⟨Nat.le_of_ble_eq_true rfl, Nat.le_of_ble_eq_true rfl⟩ dX4_isOrderPossible_36 (fun H locs hM => ?_)
    refine lv_istore (lv' := [(4, .int r7), (3, .int r4), (2, .int r2), (0, .ref (gad G 216)), (1, .int a0)]) C0.1 C0.2.1 dX4_isOrderPossible_39 hl (by decide) rfl (fun ls hl => ?_)
    refine lv_iload C0.1 C0.2.1 dX4_isOrderPossible_41 (lv_at hl 0 rfl) ?_
    refine lv_iconst (v := (-1 : Int32)) C0.1 C0.2.1 dX4_isOrderPossible_43 (by decide) ?_
    refine lv_icmp_ne (tgt := 66) C0.1 C0.2.1 dX4_isOrderPossible_44 (by decide) (fun c8 => ?_) (fun c8 => ?_)
    · have hF := if_t c8 hF
      refine lv_aload_n C0.1 C0.2.1 dX4_isOrderPossible_66 rfl (lv_at hl 3 rfl) ?_
      refine gf4_0 C0 hM ok_tt fl_RX4_10 dX4_isOrderPossible_67 ?_
      refine lv_aload_n C0.1 C0.2.1 dX4_isOrderPossible_70 rfl (lv_at hl 3 rfl) ?_
      refine gf4_0 C0 hM ok_tt fl_RX4_10 dX4_isOrderPossible_71 ?_
      refine gf3_6 C0 hM ok_now fl_RX4_58 dX4_isOrderPossible_74 ?_
      refine lv_iload C0.1 C0.2.1 dX4_isOrderPossible_77 (lv_at hl 0 rfl) ?_
      refine lv_iload_n C0.1 C0.2.1 dX4_isOrderPossible_79 rfl (lv_at hl 1 rfl) ?_
      obtain ⟨r10, h9, hF⟩ := bd_some hF
      refine y_vi (rest := []) C0 hM hl.1 ok_now (ent3 ok_now) rfl (k_X3_isPossible l G M 0 (rF M 54 0) r7 r4 h9 ok_now) cw_RX4_65 rfl rfl ⟨Nat.le_of_ble_eq_true rfl, Nat.le_of_ble_eq_true rfl⟩ rfl (Nat.le_of_ble_eq_true rfl) ⟨Nat.le_of_ble_eq_true rfl, Nat.le_of_ble_eq_true rfl⟩ dX4_isOrderPossible_80 (fun H locs hM => ?_)
      obtain ⟨g11, hF⟩ := gdb_some hF
      have e8 := y_1 hF
      subst e8
      exact y_zret C0 hM hsz (zob_n g11) dX4_isOrderPossible_83
    · have hF := if_f (fun q => q c8) hF
      refine lv_aload_n C0.1 C0.2.1 dX4_isOrderPossible_47 rfl (lv_at hl 3 rfl) ?_
      refine gf4_0 C0 hM ok_tt fl_RX4_10 dX4_isOrderPossible_48 ?_
      refine gf3_6 C0 hM ok_now fl_RX4_58 dX4_isOrderPossible_51 ?_
      refine lv_iconst (v := (-1 : Int32)) C0.1 C0.2.1 dX4_isOrderPossible_54 (by decide) ?_
      refine lv_icmp_eq (tgt := 62) C0.1 C0.2.1 dX4_isOrderPossible_55 (by decide) (fun c12 => ?_) (fun c12 => ?_)
      · have hF := if_t c12 hF
        refine lv_iconst (v := (0 : Int32)) C0.1 C0.2.1 dX4_isOrderPossible_62 (by decide) ?_
        refine lv_goto (tgt := 83) C0.1 C0.2.1 dX4_isOrderPossible_63 (by decide) ?_
        have e8 := y_1 hF
        subst e8
        exact y_zret C0 hM hsz rfl dX4_isOrderPossible_83
      · have hF := if_f c12 hF
        refine lv_iconst (v := (1 : Int32)) C0.1 C0.2.1 dX4_isOrderPossible_58 (by decide) ?_
        refine lv_goto (tgt := 83) C0.1 C0.2.1 dX4_isOrderPossible_59 (by decide) ?_
        have e8 := y_1 hF
        subst e8
        exact y_zret C0 hM hsz rfl dX4_isOrderPossible_83
  · have hF := if_f (fun q => q c5) hF
    refine lv_aload_n C0.1 C0.2.1 dX4_isOrderPossible_26 rfl (lv_at hl 2 rfl) ?_
    refine gf4_0 C0 hM ok_tt fl_RX4_10 dX4_isOrderPossible_27 ?_
    refine lv_iload_n C0.1 C0.2.1 dX4_isOrderPossible_30 rfl (lv_at hl 0 rfl) ?_
    obtain ⟨r14, h13, hF⟩ := bd_some hF
    refine y_vi (rest := []) C0 hM hl.1 ok_now (ent3 ok_now) rfl (k_X3_canBeLetIn l G M 0 r4 h13 ok_now) cw_RX4_81 rfl rfl ⟨Nat.le_of_ble_eq_true rfl, Nat.le_of_ble_eq_true rfl⟩ rfl (Nat.le_of_ble_eq_true rfl) ⟨Nat.le_of_ble_eq_true rfl, Nat.le_of_ble_eq_true rfl⟩ dX4_isOrderPossible_31 (fun H locs hM => ?_)
    obtain ⟨g15, hF⟩ := gdb_some hF
    have e8 := y_1 hF
    subst e8
    exact y_zret C0 hM hsz (zob_n g15) dX4_isOrderPossible_34

def F_X4_doOrder (M : MS) (a0 : Int32) : Option MS := (bd (F_X1_codeAt M a0) fun r2 => (bd (F_X1_digitAt M (a0 + (1 : Int32))) fun r4 => (if r2 = (101 : Int32) then (bd (F_X3_endTurn M 0) fun M7 => (some M7)) else (if r2 = (105 : Int32) then (bd2 (F_X3_letIn M 0 r4) fun r11 M10 => (some M10)) else (if r2 = (119 : Int32) then (bd (F_X3_delayTurn M 0) fun M14 => (some M14)) else (bd (F_X1_kindOf M r2) fun r16 => (bd (F_X1_digitAt M (a0 + (2 : Int32))) fun r18 => (bd (F_X1_digitAt M (a0 + (3 : Int32))) fun r20 => (bd2 (F_X3_act M 0 r16 r4 r18 r20) fun r23 M22 => (some M22))))))))))

set_option maxHeartbeats 4000000 in
set_option maxRecDepth 100000 in
theorem k_X4_doOrder (l : Launch) (G : GG) (M : MS) (a0 : Int32) {Mf : MS} (hF : F_X4_doOrder M a0 = some Mf) : KV l yX4_doOrder (WS yX4_doOrder cX4_doOrder 4 none) (Rm 5) G [.ref (gad G 216), .int a0] M Mf := by
  intro sz
  refine y_met (by decide +kernel) (Nat.le_of_ble_eq_true rfl) rfl (fun p e s m below meth c ls hsz C0 hM hl => ?_)
  have hl : lv_has ls 4 [(0, .ref (gad G 216)), (1, .int a0)] := hl
  have C0 : CX p s m meth c ([.ref (gad G 216), .int a0] : List Value).toArray cX4_doOrder RX4 4 none := C0
  rw [F_X4_doOrder] at hF
  refine lv_aload_n C0.1 C0.2.1 dX4_doOrder_0 rfl (lv_at hl 0 rfl) ?_
  refine gf4_4 C0 hM ok_tt fl_RX4_30 dX4_doOrder_1 ?_
  refine lv_iload_n C0.1 C0.2.1 dX4_doOrder_4 rfl (lv_at hl 1 rfl) ?_
  obtain ⟨r2, h1, hF⟩ := bd_some hF
  refine y_vi (rest := []) C0 hM hl.1 ok_text (ent1 ok_text) rfl (k_X1_codeAt l G M a0 h1) cw_RX4_192 rfl rfl ⟨Nat.le_of_ble_eq_true rfl, Nat.le_of_ble_eq_true rfl⟩ rfl (Nat.le_of_ble_eq_true rfl) ⟨Nat.le_of_ble_eq_true rfl, Nat.le_of_ble_eq_true rfl⟩ dX4_doOrder_5 (fun H locs hM => ?_)
  refine lv_istore_n (lv' := [(2, .int r2), (0, .ref (gad G 216)), (1, .int a0)]) C0.1 C0.2.1 dX4_doOrder_8 rfl hl (by decide) rfl (fun ls hl => ?_)
  refine lv_aload_n C0.1 C0.2.1 dX4_doOrder_9 rfl (lv_at hl 1 rfl) ?_
  refine gf4_4 C0 hM ok_tt fl_RX4_30 dX4_doOrder_10 ?_
  refine lv_iload_n C0.1 C0.2.1 dX4_doOrder_13 rfl (lv_at hl 2 rfl) ?_
  refine lv_iconst (v := (1 : Int32)) C0.1 C0.2.1 dX4_doOrder_14 (by decide) ?_
  refine lv_iadd C0.1 C0.2.1 dX4_doOrder_15 ?_
  obtain ⟨r4, h3, hF⟩ := bd_some hF
  refine y_vi (rest := []) C0 hM hl.1 ok_text (ent1 ok_text) rfl (k_X1_digitAt l G M (a0 + (1 : Int32)) h3) cw_RX4_215 rfl rfl ⟨Nat.le_of_ble_eq_true rfl, Nat.le_of_ble_eq_true rfl⟩ rfl (Nat.le_of_ble_eq_true rfl) ⟨Nat.le_of_ble_eq_true rfl, Nat.le_of_ble_eq_true rfl⟩ dX4_doOrder_16 (fun H locs hM => ?_)
  refine lv_istore_n (lv' := [(3, .int r4), (2, .int r2), (0, .ref (gad G 216)), (1, .int a0)]) C0.1 C0.2.1 dX4_doOrder_19 rfl hl (by decide) rfl (fun ls hl => ?_)
  refine lv_iload_n C0.1 C0.2.1 dX4_doOrder_20 rfl (lv_at hl 1 rfl) ?_
  by_cases c5 : r2 = (101 : Int32)
  · have hF := if_t c5 hF
    refine lv_lookup (tgt := 78) (off := 57) C0.1 C0.2.1 dX4_doOrder_21 (by decide) (by rw [c5]; decide) (by decide) ?_
    refine lv_aload_n C0.1 C0.2.1 dX4_doOrder_78 rfl (lv_at hl 2 rfl) ?_
    refine gf4_0 C0 hM ok_tt fl_RX4_10 dX4_doOrder_79 ?_
    obtain ⟨M7, h6, hF⟩ := bd_some hF
    refine y_vv (rest := []) C0 hM hl.1 ok_now (ent3 ok_now) rfl (k_X3_endTurn l G M 0 h6 ok_now) cw_RX4_78 rfl rfl ⟨Nat.le_of_ble_eq_true rfl, Nat.le_of_ble_eq_true rfl⟩ rfl (Nat.le_of_ble_eq_true rfl) ⟨Nat.le_of_ble_eq_true rfl, Nat.le_of_ble_eq_true rfl⟩ dX4_doOrder_82 (fun H locs hM => ?_)
    refine lv_goto (tgt := 121) C0.1 C0.2.1 dX4_doOrder_85 (by decide) ?_
    have e9 := y_1 hF
    subst e9
    exact y_vret C0 hM hsz dX4_doOrder_121
  · have hF := if_f c5 hF
    by_cases c8 : r2 = (105 : Int32)
    · have hF := if_t c8 hF
      refine lv_lookup (tgt := 56) (off := 35) C0.1 C0.2.1 dX4_doOrder_21 (by decide) (by rw [c8]; decide) (by decide) ?_
      refine lv_aload_n C0.1 C0.2.1 dX4_doOrder_56 rfl (lv_at hl 2 rfl) ?_
      refine gf4_0 C0 hM ok_tt fl_RX4_10 dX4_doOrder_57 ?_
      refine lv_iload_n C0.1 C0.2.1 dX4_doOrder_60 rfl (lv_at hl 0 rfl) ?_
      obtain ⟨r11, M10, h9, hF⟩ := bd2_some hF
      refine y_vi (rest := []) C0 hM hl.1 ok_now (ent3 ok_now) rfl (k_X3_letIn l G M 0 r4 h9 ok_now) cw_RX4_85 rfl rfl ⟨Nat.le_of_ble_eq_true rfl, Nat.le_of_ble_eq_true rfl⟩ rfl (Nat.le_of_ble_eq_true rfl) ⟨Nat.le_of_ble_eq_true rfl, Nat.le_of_ble_eq_true rfl⟩ dX4_doOrder_61 (fun H locs hM => ?_)
      refine lv_pop C0.1 C0.2.1 dX4_doOrder_64 rfl ?_
      refine lv_goto (tgt := 121) C0.1 C0.2.1 dX4_doOrder_65 (by decide) ?_
      have e9 := y_1 hF
      subst e9
      exact y_vret C0 hM hsz dX4_doOrder_121
    · have hF := if_f c8 hF
      by_cases c12 : r2 = (119 : Int32)
      · have hF := if_t c12 hF
        refine lv_lookup (tgt := 68) (off := 47) C0.1 C0.2.1 dX4_doOrder_21 (by decide) (by rw [c12]; decide) (by decide) ?_
        refine lv_aload_n C0.1 C0.2.1 dX4_doOrder_68 rfl (lv_at hl 2 rfl) ?_
        refine gf4_0 C0 hM ok_tt fl_RX4_10 dX4_doOrder_69 ?_
        obtain ⟨M14, h13, hF⟩ := bd_some hF
        refine y_vv (rest := []) C0 hM hl.1 ok_now (ent3 ok_now) rfl (k_X3_delayTurn l G M 0 h13 ok_now) cw_RX4_71 rfl rfl ⟨Nat.le_of_ble_eq_true rfl, Nat.le_of_ble_eq_true rfl⟩ rfl (Nat.le_of_ble_eq_true rfl) ⟨Nat.le_of_ble_eq_true rfl, Nat.le_of_ble_eq_true rfl⟩ dX4_doOrder_72 (fun H locs hM => ?_)
        refine lv_goto (tgt := 121) C0.1 C0.2.1 dX4_doOrder_75 (by decide) ?_
        have e9 := y_1 hF
        subst e9
        exact y_vret C0 hM hsz dX4_doOrder_121
      · have hF := if_f c12 hF
        refine lv_lookup (tgt := 88) (off := 67) C0.1 C0.2.1 dX4_doOrder_21 (by decide) ((lv_osw c5 (by decide)).trans ((lv_osw c8 (by decide)).trans ((lv_osw c12 (by decide)).trans rfl))) (by decide) ?_
        refine lv_aload_n C0.1 C0.2.1 dX4_doOrder_88 rfl (lv_at hl 2 rfl) ?_
        refine gf4_0 C0 hM ok_tt fl_RX4_10 dX4_doOrder_89 ?_
        refine lv_iload_n C0.1 C0.2.1 dX4_doOrder_92 rfl (lv_at hl 1 rfl) ?_
        obtain ⟨r16, h15, hF⟩ := bd_some hF
        refine y_si (rest := [.ref (gad G 0)]) C0 hM hl.1 (k_X1_kindOf l G M r2 h15) cw_RX4_218 rfl rfl ⟨Nat.le_of_ble_eq_true rfl, Nat.le_of_ble_eq_true rfl⟩ rfl (Nat.le_of_ble_eq_true rfl) ⟨Nat.le_of_ble_eq_true rfl, Nat.le_of_ble_eq_true rfl⟩ dX4_doOrder_93 (fun H locs hM => ?_)
        refine lv_iload_n C0.1 C0.2.1 dX4_doOrder_96 rfl (lv_at hl 0 rfl) ?_
        refine lv_aload_n C0.1 C0.2.1 dX4_doOrder_97 rfl (lv_at hl 2 rfl) ?_
        refine gf4_4 C0 hM ok_tt fl_RX4_30 dX4_doOrder_98 ?_
        refine lv_iload_n C0.1 C0.2.1 dX4_doOrder_101 rfl (lv_at hl 3 rfl) ?_
        refine lv_iconst (v := (2 : Int32)) C0.1 C0.2.1 dX4_doOrder_102 (by decide) ?_
        refine lv_iadd C0.1 C0.2.1 dX4_doOrder_103 ?_
        obtain ⟨r18, h17, hF⟩ := bd_some hF
        refine y_vi (rest := [.int r4, .int r16, .ref (gad G 0)]) C0 hM hl.1 ok_text (ent1 ok_text) rfl (k_X1_digitAt l G M (a0 + (2 : Int32)) h17) cw_RX4_215 rfl rfl ⟨Nat.le_of_ble_eq_true rfl, Nat.le_of_ble_eq_true rfl⟩ rfl (Nat.le_of_ble_eq_true rfl) ⟨Nat.le_of_ble_eq_true rfl, Nat.le_of_ble_eq_true rfl⟩ dX4_doOrder_104 (fun H locs hM => ?_)
        refine lv_aload_n C0.1 C0.2.1 dX4_doOrder_107 rfl (lv_at hl 2 rfl) ?_
        refine gf4_4 C0 hM ok_tt fl_RX4_30 dX4_doOrder_108 ?_
        refine lv_iload_n C0.1 C0.2.1 dX4_doOrder_111 rfl (lv_at hl 3 rfl) ?_
        refine lv_iconst (v := (3 : Int32)) C0.1 C0.2.1 dX4_doOrder_112 (by decide) ?_
        refine lv_iadd C0.1 C0.2.1 dX4_doOrder_113 ?_
        obtain ⟨r20, h19, hF⟩ := bd_some hF
        refine y_vi (rest := [.int r18, .int r4, .int r16, .ref (gad G 0)]) C0 hM hl.1 ok_text (ent1 ok_text) rfl (k_X1_digitAt l G M (a0 + (3 : Int32)) h19) cw_RX4_215 rfl rfl ⟨Nat.le_of_ble_eq_true rfl, Nat.le_of_ble_eq_true rfl⟩ rfl (Nat.le_of_ble_eq_true rfl) ⟨Nat.le_of_ble_eq_true rfl, Nat.le_of_ble_eq_true rfl⟩ dX4_doOrder_114 (fun H locs hM => ?_)
        obtain ⟨r23, M22, h21, hF⟩ := bd2_some hF
        refine y_vi (rest := []) C0 hM hl.1 ok_now (ent3 ok_now) rfl (k_X3_act l G M 0 r16 r4 r18 r20 h21 ok_now) cw_RX4_68 rfl rfl ⟨Nat.le_of_ble_eq_true rfl, Nat.le_of_ble_eq_true rfl⟩ rfl (Nat.le_of_ble_eq_true rfl) ⟨Nat.le_of_ble_eq_true rfl, Nat.le_of_ble_eq_true rfl⟩ dX4_doOrder_117 (fun H locs hM => ?_)
        refine lv_pop C0.1 C0.2.1 dX4_doOrder_120 rfl ?_
        have e9 := y_1 hF
        subst e9
        exact y_vret C0 hM hsz dX4_doOrder_121
