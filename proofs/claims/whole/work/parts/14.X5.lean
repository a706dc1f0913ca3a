def F_X5_thrown (M : MS) : Option Int32 := (some (rF M 80 220))

set_option maxHeartbeats 4000000 in
set_option maxRecDepth 100000 in
theorem k_X5_thrown (l : Launch) (G : GG) (M : MS) {r : Int32} (hF : F_X5_thrown M = some r) : KI l yX5_thrown (WS yX5_thrown cX5_thrown 1 (some .int)) (Rm 0) G [.ref (gad G 220)] M r M := by
  intro sz
  refine y_met (by decide +kernel) (Nat.le_of_ble_eq_true rfl) rfl (fun p e s m below meth c ls hsz C0 hM hl => ?_)
  have hl : lv_has ls 1 [(0, .ref (gad G 220))] := hl
  have C0 : CX p s m meth c ([.ref (gad G 220)] : List Value).toArray cX5_thrown RX5 1 (some .int) := C0
  rw [F_X5_thrown] at hF
  refine lv_aload_n C0.1 C0.2.1 dX5_thrown_0 rfl (lv_at hl 0 rfl) ?_
  refine gf5_0 C0 hM ok_md fl_RX5_28 dX5_thrown_1 ?_
  have e8 := y_1 hF
  subst e8
  exact y_iret C0 hM hsz dX5_thrown_4

def F_X5_in (M : MS) (a0 : Int32) (a1 : Int32) (a2 : Int32) : Option Int32 := (if a0 < a1 then (some (0 : Int32)) else (if a2 < a0 then (some (0 : Int32)) else (some (1 : Int32))))

set_option maxHeartbeats 4000000 in
set_option maxRecDepth 100000 in
theorem k_X5_in (l : Launch) (G : GG) (M : MS) (a0 : Int32) (a1 : Int32) (a2 : Int32) {r : Int32} (hF : F_X5_in M a0 a1 a2 = some r) : KI l yX5_in (WS yX5_in cX5_in 3 (some .boolean)) (Rm 0) G [.int a0, .int a1, .int a2] M r M := by
  intro sz
  refine y_met (by decide +kernel) (Nat.le_of_ble_eq_true rfl) rfl (fun p e s m below meth c ls hsz C0 hM hl => ?_)
  have hl : lv_has ls 3 [(0, .int a0), (1, .int a1), (2, .int a2)] := hl
  have C0 : CX p s m meth c ([.int a0, .int a1, .int a2] : List Value).toArray cX5_in RX5 3 (some .boolean) := C0
  rw [F_X5_in] at hF
  refine lv_iload_n C0.1 C0.2.1 dX5_in_0 rfl (lv_at hl 0 rfl) ?_
  refine lv_iload_n C0.1 C0.2.1 dX5_in_1 rfl (lv_at hl 1 rfl) ?_
  refine lv_icmp_lt (tgt := 14) C0.1 C0.2.1 dX5_in_2 (by decide) (fun c1 => ?_) (fun c1 => ?_)
  · have hF := if_t c1 hF
    refine lv_iconst (v := (0 : Int32)) C0.1 C0.2.1 dX5_in_14 (by decide) ?_
    have e8 := y_1 hF
    subst e8
    exact y_zret C0 hM hsz rfl dX5_in_15
  · have hF := if_f c1 hF
    refine lv_iload_n C0.1 C0.2.1 dX5_in_5 rfl (lv_at hl 0 rfl) ?_
    refine lv_iload_n C0.1 C0.2.1 dX5_in_6 rfl (lv_at hl 2 rfl) ?_
    refine lv_icmp_gt (tgt := 14) C0.1 C0.2.1 dX5_in_7 (by decide) (fun c2 => ?_) (fun c2 => ?_)
    · have hF := if_t c2 hF
      refine lv_iconst (v := (0 : Int32)) C0.1 C0.2.1 dX5_in_14 (by decide) ?_
      have e8 := y_1 hF
      subst e8
      exact y_zret C0 hM hsz rfl dX5_in_15
    · have hF := if_f c2 hF
      refine lv_iconst (v := (1 : Int32)) C0.1 C0.2.1 dX5_in_10 (by decide) ?_
      refine lv_goto (tgt := 15) C0.1 C0.2.1 dX5_in_11 (by decide) ?_
      have e8 := y_1 hF
      subst e8
      exact y_zret C0 hM hsz rfl dX5_in_15

def F_X5_isFighter (M : MS) (a0 : Int32) : Option Int32 := (if a0 < 0 then (some (0 : Int32)) else (gdb (inb (0 : Int32) 186) (if (rA M 221 (Int32.toNatClampNeg (0 : Int32))) ≤ a0 then (some (0 : Int32)) else (some (1 : Int32)))))

set_option maxHeartbeats 4000000 in
set_option maxRecDepth 100000 in
theorem k_X5_isFighter (l : Launch) (G : GG) (M : MS) (a0 : Int32) {r : Int32} (hF : F_X5_isFighter M a0 = some r) : KI l yX5_isFighter (WS yX5_isFighter cX5_isFighter 2 (some .boolean)) (Rm 0) G [.ref (gad G 220), .int a0] M r M := by
  intro sz
  refine y_met (by decide +kernel) (Nat.le_of_ble_eq_true rfl) rfl (fun p e s m below meth c ls hsz C0 hM hl => ?_)
  have hl : lv_has ls 2 [(0, .ref (gad G 220)), (1, .int a0)] := hl
  have C0 : CX p s m meth c ([.ref (gad G 220), .int a0] : List Value).toArray cX5_isFighter RX5 2 (some .boolean) := C0
  rw [F_X5_isFighter] at hF
  refine lv_iload_n C0.1 C0.2.1 dX5_isFighter_0 rfl (lv_at hl 1 rfl) ?_
  refine lv_if_lt (tgt := 18) C0.1 C0.2.1 dX5_isFighter_1 (by decide) (fun c1 => ?_) (fun c1 => ?_)
  · have hF := if_t c1 hF
    refine lv_iconst (v := (0 : Int32)) C0.1 C0.2.1 dX5_isFighter_18 (by decide) ?_
    have e8 := y_1 hF
    subst e8
    exact y_zret C0 hM hsz rfl dX5_isFighter_19
  · have hF := if_f c1 hF
    refine lv_iload_n C0.1 C0.2.1 dX5_isFighter_4 rfl (lv_at hl 1 rfl) ?_
    refine lv_aload_n C0.1 C0.2.1 dX5_isFighter_5 rfl (lv_at hl 0 rfl) ?_
    refine gf5_1 C0 hM ok_md fl_RX5_7 dX5_isFighter_6 ?_
    refine lv_iconst (v := (0 : Int32)) C0.1 C0.2.1 dX5_isFighter_9 (by decide) ?_
    obtain ⟨g2, hF⟩ := gdb_some hF
    refine y_iald C0 hM oka_z g2 dX5_isFighter_10 ?_
    refine lv_icmp_ge (tgt := 18) C0.1 C0.2.1 dX5_isFighter_11 (by decide) (fun c3 => ?_) (fun c3 => ?_)
    · have hF := if_t c3 hF
      refine lv_iconst (v := (0 : Int32)) C0.1 C0.2.1 dX5_isFighter_18 (by decide) ?_
      have e8 := y_1 hF
      subst e8
      exact y_zret C0 hM hsz rfl dX5_isFighter_19
    · have hF := if_f c3 hF
      refine lv_iconst (v := (1 : Int32)) C0.1 C0.2.1 dX5_isFighter_14 (by decide) ?_
      refine lv_goto (tgt := 19) C0.1 C0.2.1 dX5_isFighter_15 (by decide) ?_
      have e8 := y_1 hF
      subst e8
      exact y_zret C0 hM hsz rfl dX5_isFighter_19

def F_X5_of (M : MS) (a0 : Int32) (a1 : Int32) : Option Int32 := (gdb (inb (((16 : Int32) + ((17 : Int32) * a0)) + a1) 186) (some (rA M 221 (Int32.toNatClampNeg (((16 : Int32) + ((17 : Int32) * a0)) + a1)))))

set_option maxHeartbeats 4000000 in
set_option maxRecDepth 100000 in
theorem k_X5_of (l : Launch) (G : GG) (M : MS) (a0 : Int32) (a1 : Int32) {r : Int32} (hF : F_X5_of M a0 a1 = some r) : KI l yX5_of (WS yX5_of cX5_of 3 (some .int)) (Rm 0) G [.ref (gad G 220), .int a0, .int a1] M r M := by
  intro sz
  refine y_met (by decide +kernel) (Nat.le_of_ble_eq_true rfl) rfl (fun p e s m below meth c ls hsz C0 hM hl => ?_)
  have hl : lv_has ls 3 [(0, .ref (gad G 220)), (1, .int a0), (2, .int a1)] := hl
  have C0 : CX p s m meth c ([.ref (gad G 220), .int a0, .int a1] : List Value).toArray cX5_of RX5 3 (some .int) := C0
  rw [F_X5_of] at hF
  refine lv_aload_n C0.1 C0.2.1 dX5_of_0 rfl (lv_at hl 0 rfl) ?_
  refine gf5_1 C0 hM ok_md fl_RX5_7 dX5_of_1 ?_
  refine lv_bipush (v := (16 : Int32)) C0.1 C0.2.1 dX5_of_4 (by decide) ?_
  refine lv_bipush (v := (17 : Int32)) C0.1 C0.2.1 dX5_of_6 (by decide) ?_
  refine lv_iload_n C0.1 C0.2.1 dX5_of_8 rfl (lv_at hl 1 rfl) ?_
  refine lv_imul C0.1 C0.2.1 dX5_of_9 ?_
  refine lv_iadd C0.1 C0.2.1 dX5_of_10 ?_
  refine lv_iload_n C0.1 C0.2.1 dX5_of_11 rfl (lv_at hl 2 rfl) ?_
  refine lv_iadd C0.1 C0.2.1 dX5_of_12 ?_
  obtain ⟨g1, hF⟩ := gdb_some hF
  refine y_iald C0 hM oka_z g1 dX5_of_13 ?_
  have e8 := y_1 hF
  subst e8
  exact y_iret C0 hM hsz dX5_of_14

def F_X5_lay (M : MS) (a0 : Int32) (a1 : Int32) (a2 : Int32) : Option MS := (gdb (inb (((16 : Int32) + ((17 : Int32) * a0)) + a1) 186) (nm (wA M 221 (Int32.toNatClampNeg (((16 : Int32) + ((17 : Int32) * a0)) + a1)) a2) fun M2 => (some M2)))

set_option maxHeartbeats 4000000 in
set_option maxRecDepth 100000 in
theorem k_X5_lay (l : Launch) (G : GG) (M : MS) (a0 : Int32) (a1 : Int32) (a2 : Int32) {Mf : MS} (hF : F_X5_lay M a0 a1 a2 = some Mf) : KV l yX5_lay (WS yX5_lay cX5_lay 4 none) (Rm 0) G [.ref (gad G 220), .int a0, .int a1, .int a2] M Mf := by
  intro sz
  refine y_met (by decide +kernel) (Nat.le_of_ble_eq_true rfl) rfl (fun p e s m below meth c ls hsz C0 hM hl => ?_)
  have hl : lv_has ls 4 [(0, .ref (gad G 220)), (1, .int a0), (2, .int a1), (3, .int a2)] := hl
  have C0 : CX p s m meth c ([.ref (gad G 220), .int a0, .int a1, .int a2] : List Value).toArray cX5_lay RX5 4 none := C0
  rw [F_X5_lay] at hF
  refine lv_aload_n C0.1 C0.2.1 dX5_lay_0 rfl (lv_at hl 0 rfl) ?_
  refine gf5_1 C0 hM ok_md fl_RX5_7 dX5_lay_1 ?_
  refine lv_bipush (v := (16 : Int32)) C0.1 C0.2.1 dX5_lay_4 (by decide) ?_
  refine lv_bipush (v := (17 : Int32)) C0.1 C0.2.1 dX5_lay_6 (by decide) ?_
  refine lv_iload_n C0.1 C0.2.1 dX5_lay_8 rfl (lv_at hl 1 rfl) ?_
  refine lv_imul C0.1 C0.2.1 dX5_lay_9 ?_
  refine lv_iadd C0.1 C0.2.1 dX5_lay_10 ?_
  refine lv_iload_n C0.1 C0.2.1 dX5_lay_11 rfl (lv_at hl 2 rfl) ?_
  refine lv_iadd C0.1 C0.2.1 dX5_lay_12 ?_
  refine lv_iload_n C0.1 C0.2.1 dX5_lay_13 rfl (lv_at hl 3 rfl) ?_
  obtain ⟨g1, hF⟩ := gdb_some hF
  refine y_iast C0 hM oka_z g1 dX5_lay_14 (fun H locs hM => ?_)
  obtain ⟨M2, eM2, hF⟩ := nm_some hF
  have hM := y_mn eM2 hM
  have e9 := y_1 hF
  subst e9
  exact y_vret C0 hM hsz dX5_lay_15

def F_X5_hasFallen (M : MS) (a0 : Int32) : Option Int32 := (bd (F_X5_of M a0 (2 : Int32)) fun r2 => (if ¬ r2 = 0 then (some (0 : Int32)) else (some (1 : Int32))))

set_option maxHeartbeats 4000000 in
set_option maxRecDepth 100000 in
theorem k_X5_hasFallen (l : Launch) (G : GG) (M : MS) (a0 : Int32) {r : Int32} (hF : F_X5_hasFallen M a0 = some r) : KI l yX5_hasFallen (WS yX5_hasFallen cX5_hasFallen 2 (some .boolean)) (Rm 1) G [.ref (gad G 220), .int a0] M r M := by
  intro sz
  refine y_met (by decide +kernel) (Nat.le_of_ble_eq_true rfl) rfl (fun p e s m below meth c ls hsz C0 hM hl => ?_)
  have hl : lv_has ls 2 [(0, .ref (gad G 220)), (1, .int a0)] := hl
  have C0 : CX p s m meth c ([.ref (gad G 220), .int a0] : List Value).toArray cX5_hasFallen RX5 2 (some .boolean) := C0
  rw [F_X5_hasFallen] at hF
  refine lv_aload_n C0.1 C0.2.1 dX5_hasFallen_0 rfl (lv_at hl 0 rfl) ?_
  refine lv_iload_n C0.1 C0.2.1 dX5_hasFallen_1 rfl (lv_at hl 1 rfl) ?_
  refine lv_iconst (v := (2 : Int32)) C0.1 C0.2.1 dX5_hasFallen_2 (by decide) ?_
  obtain ⟨r2, h1, hF⟩ := bd_some hF
  refine y_vi (rest := []) C0 hM hl.1 ok_md (ent5 ok_md) rfl (k_X5_of l G M a0 (2 : Int32) h1) cw_RX5_32 rfl rfl ⟨Nat.le_of_ble_eq_true rfl, Nat.le_of_ble_eq_true rfl⟩ rfl (Nat.le_of_ble_eq_true rfl) ⟨Nat.le_of_ble_eq_true rfl, Nat.le_of_ble_eq_true rfl⟩ dX5_hasFallen_3 (fun H locs hM => ?_)
  refine lv_if_ne (tgt := 13) C0.1 C0.2.1 dX5_hasFallen_6 (by decide) (fun c3 => ?_) (fun c3 => ?_)
  · have hF := if_t c3 hF
    refine lv_iconst (v := (0 : Int32)) C0.1 C0.2.1 dX5_hasFallen_13 (by decide) ?_
    have e8 := y_1 hF
    subst e8
    exact y_zret C0 hM hsz rfl dX5_hasFallen_14
  · have hF := if_f (fun q => q c3) hF
    refine lv_iconst (v := (1 : Int32)) C0.1 C0.2.1 dX5_hasFallen_9 (by decide) ?_
    refine lv_goto (tgt := 14) C0.1 C0.2.1 dX5_hasFallen_10 (by decide) ?_
    have e8 := y_1 hF
    subst e8
    exact y_zret C0 hM hsz rfl dX5_hasFallen_14

def F_X5_has (M : MS) (a0 : Int32) (a1 : Int32) : Option Int32 := (bd (F_X5_of M a0 ((11 : Int32) + a1)) fun r2 => (if r2 ≤ 0 then (some (0 : Int32)) else (some (1 : Int32))))

set_option maxHeartbeats 4000000 in
set_option maxRecDepth 100000 in
theorem k_X5_has (l : Launch) (G : GG) (M : MS) (a0 : Int32) (a1 : Int32) {r : Int32} (hF : F_X5_has M a0 a1 = some r) : KI l yX5_has (WS yX5_has cX5_has 3 (some .boolean)) (Rm 1) G [.ref (gad G 220), .int a0, .int a1] M r M := by
  intro sz
  refine y_met (by decide +kernel) (Nat.le_of_ble_eq_true rfl) rfl (fun p e s m below meth c ls hsz C0 hM hl => ?_)
  have hl : lv_has ls 3 [(0, .ref (gad G 220)), (1, .int a0), (2, .int a1)] := hl
  have C0 : CX p s m meth c ([.ref (gad G 220), .int a0, .int a1] : List Value).toArray cX5_has RX5 3 (some .boolean) := C0
  rw [F_X5_has] at hF
  refine lv_aload_n C0.1 C0.2.1 dX5_has_0 rfl (lv_at hl 0 rfl) ?_
  refine lv_iload_n C0.1 C0.2.1 dX5_has_1 rfl (lv_at hl 1 rfl) ?_
  refine lv_bipush (v := (11 : Int32)) C0.1 C0.2.1 dX5_has_2 (by decide) ?_
  refine lv_iload_n C0.1 C0.2.1 dX5_has_4 rfl (lv_at hl 2 rfl) ?_
  refine lv_iadd C0.1 C0.2.1 dX5_has_5 ?_
  obtain ⟨r2, h1, hF⟩ := bd_some hF
  refine y_vi (rest := []) C0 hM hl.1 ok_md (ent5 ok_md) rfl (k_X5_of l G M a0 ((11 : Int32) + a1) h1) cw_RX5_32 rfl rfl ⟨Nat.le_of_ble_eq_true rfl, Nat.le_of_ble_eq_true rfl⟩ rfl (Nat.le_of_ble_eq_true rfl) ⟨Nat.le_of_ble_eq_true rfl, Nat.le_of_ble_eq_true rfl⟩ dX5_has_6 (fun H locs hM => ?_)
  refine lv_if_le (tgt := 16) C0.1 C0.2.1 dX5_has_9 (by decide) (fun c3 => ?_) (fun c3 => ?_)
  · have hF := if_t c3 hF
    refine lv_iconst (v := (0 : Int32)) C0.1 C0.2.1 dX5_has_16 (by decide) ?_
    have e8 := y_1 hF
    subst e8
    exact y_zret C0 hM hsz rfl dX5_has_17
  · have hF := if_f c3 hF
    refine lv_iconst (v := (1 : Int32)) C0.1 C0.2.1 dX5_has_12 (by decide) ?_
    refine lv_goto (tgt := 17) C0.1 C0.2.1 dX5_has_13 (by decide) ?_
    have e8 := y_1 hF
    subst e8
    exact y_zret C0 hM hsz rfl dX5_has_17

def F_X5_apart (M : MS) (a0 : Int32) (a1 : Int32) : Option Int32 := (if a1 ≤ a0 then (some (a0 - a1)) else (some (a1 - a0)))

set_option maxHeartbeats 4000000 in
set_option maxRecDepth 100000 in
theorem k_X5_apart (l : Launch) (G : GG) (M : MS) (a0 : Int32) (a1 : Int32) {r : Int32} (hF : F_X5_apart M a0 a1 = some r) : KI l yX5_apart (WS yX5_apart cX5_apart 2 (some .int)) (Rm 0) G [.int a0, .int a1] M r M := by
  intro sz
  refine y_met (by decide +kernel) (Nat.le_of_ble_eq_true rfl) rfl (fun p e s m below meth c ls hsz C0 hM hl => ?_)
  have hl : lv_has ls 2 [(0, .int a0), (1, .int a1)] := hl
  have C0 : CX p s m meth c ([.int a0, .int a1] : List Value).toArray cX5_apart RX5 2 (some .int) := C0
  rw [F_X5_apart] at hF
  refine lv_iload_n C0.1 C0.2.1 dX5_apart_0 rfl (lv_at hl 0 rfl) ?_
  refine lv_iload_n C0.1 C0.2.1 dX5_apart_1 rfl (lv_at hl 1 rfl) ?_
  refine lv_icmp_ge (tgt := 11) C0.1 C0.2.1 dX5_apart_2 (by decide) (fun c1 => ?_) (fun c1 => ?_)
  · have hF := if_t c1 hF
    refine lv_iload_n C0.1 C0.2.1 dX5_apart_11 rfl (lv_at hl 0 rfl) ?_
    refine lv_iload_n C0.1 C0.2.1 dX5_apart_12 rfl (lv_at hl 1 rfl) ?_
    refine lv_isub C0.1 C0.2.1 dX5_apart_13 ?_
    have e8 := y_1 hF
    subst e8
    exact y_iret C0 hM hsz dX5_apart_14
  · have hF := if_f c1 hF
    refine lv_iload_n C0.1 C0.2.1 dX5_apart_5 rfl (lv_at hl 1 rfl) ?_
    refine lv_iload_n C0.1 C0.2.1 dX5_apart_6 rfl (lv_at hl 0 rfl) ?_
    refine lv_isub C0.1 C0.2.1 dX5_apart_7 ?_
    refine lv_goto (tgt := 14) C0.1 C0.2.1 dX5_apart_8 (by decide) ?_
    have e8 := y_1 hF
    subst e8
    exact y_iret C0 hM hsz dX5_apart_14

def F_X5_save_l52 : Nat → Int32 → MS → Option MS
  | 0, _, _ => none
  | n52 + 1, l1_3, M4 => (if (186 : Int32) ≤ l1_3 then (nm (wF M4 83 220 ((rF M4 83 220) + (1 : Int32))) fun M6 => (some M6)) else (gdb (inb l1_3 186) (gdb (inb (((rF M4 83 220) * (186 : Int32)) + l1_3) 1116) (nm (wA M4 222 (Int32.toNatClampNeg (((rF M4 83 220) * (186 : Int32)) + l1_3)) (rA M4 221 (Int32.toNatClampNeg l1_3))) fun M9 => (nm (l1_3 + (1 : Int32)) fun x10 => (F_X5_save_l52 n52 x10 M9))))))

def F_X5_save_l11 (j50_1 : (MS → Option MS)) : Nat → Int32 → MS → Option MS
  | 0, _, _ => none
  | n11 + 1, l1_12, M13 => (if (930 : Int32) ≤ l1_12 then (nm (wF M13 83 220 ((rF M13 83 220) - (1 : Int32))) fun M15 => (j50_1 M15)) else (gdb (inb (l1_12 + (186 : Int32)) 1116) (gdb (inb l1_12 1116) (nm (wA M13 222 (Int32.toNatClampNeg l1_12) (rA M13 222 (Int32.toNatClampNeg (l1_12 + (186 : Int32))))) fun M18 => (nm (l1_12 + (1 : Int32)) fun x19 => (F_X5_save_l11 j50_1 n11 x19 M18))))))

def F_X5_save (M : MS) : Option MS := (nm (fun (M1 : MS) => (F_X5_save_l52 FU (0 : Int32) M1)) fun j50_1 => (if ¬ (rF M 83 220) = (6 : Int32) then (j50_1 M) else (F_X5_save_l11 j50_1 FU (0 : Int32) M)))

set_option maxHeartbeats 4000000 in
set_option maxRecDepth 100000 in
theorem k_X5_save (l : Launch) (G : GG) (M : MS) {Mf : MS} (hF : F_X5_save M = some Mf) : KV l yX5_save (WS yX5_save cX5_save 2 none) (Rm 0) G [.ref (gad G 220)] M Mf := by
  intro sz
  refine y_met (by decide +kernel) (Nat.le_of_ble_eq_true rfl) rfl (fun p e s m below meth c ls hsz C0 hM hl => ?_)
  have hl : lv_has ls 2 [(0, .ref (gad G 220))] := hl
  have C0 : CX p s m meth c ([.ref (gad G 220)] : List Value).toArray cX5_save RX5 2 none := C0
  rw [F_X5_save] at hF
  refine lv_aload_n C0.1 C0.2.1 dX5_save_0 rfl (lv_at hl 0 rfl) ?_
  refine gf5_3 C0 hM ok_md fl_RX5_36 dX5_save_1 ?_
  refine lv_bipush (v := (6 : Int32)) C0.1 C0.2.1 dX5_save_4 (by decide) ?_
  obtain ⟨j50_1, ej50_1, hF⟩ := nm_some hF
  have J50 : ∀ (M1 : MS) (H : Heap) (locs : List Loc) (ls : Array Slot), MX G M1 s H locs → lv_has ls 2 [(0, .ref (gad G 220))] → j50_1 M1 = some Mf → W p l e (Rm 0) s m ([.ref (gad G 220)] : List Value).toArray below meth c H locs 0 0 (QV below ([.ref (gad G 220)] : List Value).toArray s G sz Mf) (F0 m 50 ls []) := by
    intro M1 H locs ls hM hl hF
    rw [ej50_1] at hF
    refine lv_iconst (v := (0 : Int32)) C0.1 C0.2.1 dX5_save_50 (by decide) ?_
    refine lv_istore_n (lv' := [(1, .int (0 : Int32)), (0, .ref (gad G 220))]) C0.1 C0.2.1 dX5_save_51 rfl hl (by decide) rfl (fun ls hl => ?_)
    have L52 : ∀ (n : Nat) (l1_3 : Int32) (M4 : MS) (H : Heap) (locs : List Loc) (ls : Array Slot), MX G M4 s H locs → lv_has ls 2 [(0, .ref (gad G 220)), (1, .int l1_3)] → F_X5_save_l52 n l1_3 M4 = some Mf → W p l e (Rm 0) s m ([.ref (gad G 220)] : List Value).toArray below meth c H locs 0 0 (QV below ([.ref (gad G 220)] : List Value).toArray s G sz Mf) (F0 m 52 ls []) := by
      intro n
      induction n with
      | zero => intro l1_3 M4 H locs ls hM hl hF; rw [F_X5_save_l52] at hF; cases hF
      | succ n52 ih52 =>
        intro l1_3 M4 H locs ls hM hl hF
        rw [F_X5_save_l52] at hF
        refine lv_iload_n C0.1 C0.2.1 dX5_save_52 rfl (lv_at hl 1 rfl) ?_
        refine lv_sipush (v := (186 : Int32)) C0.1 C0.2.1 dX5_save_53 (by decide) ?_
        refine lv_icmp_ge (tgt := 86) C0.1 C0.2.1 dX5_save_56 (by decide) (fun c5 => ?_) (fun c5 => ?_)
        · have hF := if_t c5 hF
          refine lv_aload_n C0.1 C0.2.1 dX5_save_86 rfl (lv_at hl 0 rfl) ?_
          refine lv_dup C0.1 C0.2.1 dX5_save_87 rfl ?_
          refine gf5_3 C0 hM ok_md fl_RX5_36 dX5_save_88 ?_
          refine lv_iconst (v := (1 : Int32)) C0.1 C0.2.1 dX5_save_91 (by decide) ?_
          refine lv_iadd C0.1 C0.2.1 dX5_save_92 ?_
          refine pf5_3 C0 hM ok_md fl_RX5_36 dX5_save_93 (fun H locs hM => ?_)
          obtain ⟨M6, eM6, hF⟩ := nm_some hF
          have hM := y_mn eM6 hM
          have e9 := y_1 hF
          subst e9
          exact y_vret C0 hM hsz dX5_save_96
        · have hF := if_f c5 hF
          refine lv_aload_n C0.1 C0.2.1 dX5_save_59 rfl (lv_at hl 0 rfl) ?_
          refine gf5_2 C0 hM ok_md fl_RX5_13 dX5_save_60 ?_
          refine lv_aload_n C0.1 C0.2.1 dX5_save_63 rfl (lv_at hl 0 rfl) ?_
          refine gf5_3 C0 hM ok_md fl_RX5_36 dX5_save_64 ?_
          refine lv_sipush (v := (186 : Int32)) C0.1 C0.2.1 dX5_save_67 (by decide) ?_
          refine lv_imul C0.1 C0.2.1 dX5_save_70 ?_
          refine lv_iload_n C0.1 C0.2.1 dX5_save_71 rfl (lv_at hl 1 rfl) ?_
          refine lv_iadd C0.1 C0.2.1 dX5_save_72 ?_
          refine lv_aload_n C0.1 C0.2.1 dX5_save_73 rfl (lv_at hl 0 rfl) ?_
          refine gf5_1 C0 hM ok_md fl_RX5_7 dX5_save_74 ?_
          refine lv_iload_n C0.1 C0.2.1 dX5_save_77 rfl (lv_at hl 1 rfl) ?_
          obtain ⟨g7, hF⟩ := gdb_some hF
          refine y_iald C0 hM oka_z g7 dX5_save_78 ?_
          obtain ⟨g8, hF⟩ := gdb_some hF
          refine y_iast C0 hM oka_msaved g8 dX5_save_79 (fun H locs hM => ?_)
          obtain ⟨M9, eM9, hF⟩ := nm_some hF
          have hM := y_mn eM9 hM
          obtain ⟨x10, ex10, hF⟩ := nm_some hF
          refine lv_iinc (v := x10) (lv' := [(1, .int x10), (0, .ref (gad G 220))]) C0.1 C0.2.1 dX5_save_80 hl (k := 1) rfl (by rw [ex10]; rfl) (by decide) rfl (fun ls hl => ?_)
          refine lv_goto (tgt := 52) C0.1 C0.2.1 dX5_save_83 (by decide) ?_
          exact ih52 x10 M9 _ _ _ hM (lv_sub hl [1, 0] rfl) hF
    exact L52 FU (0 : Int32) M1 _ _ _ hM (lv_sub hl [1, 0] rfl) hF
  refine lv_icmp_ne (tgt := 50) C0.1 C0.2.1 dX5_save_6 (by decide) (fun c11 => ?_) (fun c11 => ?_)
  · have hF := if_t c11 hF
    exact J50 M _ _ _ hM (lv_sub hl [0] rfl) hF
  · have hF := if_f (fun q => q c11) hF
    refine lv_iconst (v := (0 : Int32)) C0.1 C0.2.1 dX5_save_9 (by decide) ?_
    refine lv_istore_n (lv' := [(1, .int (0 : Int32)), (0, .ref (gad G 220))]) C0.1 C0.2.1 dX5_save_10 rfl hl (by decide) rfl (fun ls hl => ?_)
    have L11 : ∀ (n : Nat) (l1_12 : Int32) (M13 : MS) (H : Heap) (locs : List Loc) (ls : Array Slot), MX G M13 s H locs → lv_has ls 2 [(0, .ref (gad G 220)), (1, .int l1_12)] → F_X5_save_l11 j50_1 n l1_12 M13 = some Mf → W p l e (Rm 0) s m ([.ref (gad G 220)] : List Value).toArray below meth c H locs 0 0 (QV below ([.ref (gad G 220)] : List Value).toArray s G sz Mf) (F0 m 11 ls []) := by
      intro n
      induction n with
      | zero => intro l1_12 M13 H locs ls hM hl hF; rw [F_X5_save_l11] at hF; cases hF
      | succ n11 ih11 =>
        intro l1_12 M13 H locs ls hM hl hF
        rw [F_X5_save_l11] at hF
        refine lv_iload_n C0.1 C0.2.1 dX5_save_11 rfl (lv_at hl 1 rfl) ?_
        refine lv_sipush (v := (930 : Int32)) C0.1 C0.2.1 dX5_save_12 (by decide) ?_
        refine lv_icmp_ge (tgt := 40) C0.1 C0.2.1 dX5_save_15 (by decide) (fun c14 => ?_) (fun c14 => ?_)
        · have hF := if_t c14 hF
          refine lv_aload_n C0.1 C0.2.1 dX5_save_40 rfl (lv_at hl 0 rfl) ?_
          refine lv_dup C0.1 C0.2.1 dX5_save_41 rfl ?_
          refine gf5_3 C0 hM ok_md fl_RX5_36 dX5_save_42 ?_
          refine lv_iconst (v := (1 : Int32)) C0.1 C0.2.1 dX5_save_45 (by decide) ?_
          refine lv_isub C0.1 C0.2.1 dX5_save_46 ?_
          refine pf5_3 C0 hM ok_md fl_RX5_36 dX5_save_47 (fun H locs hM => ?_)
          obtain ⟨M15, eM15, hF⟩ := nm_some hF
          have hM := y_mn eM15 hM
          exact J50 M15 _ _ _ hM (lv_sub hl [0] rfl) hF
        · have hF := if_f c14 hF
          refine lv_aload_n C0.1 C0.2.1 dX5_save_18 rfl (lv_at hl 0 rfl) ?_
          refine gf5_2 C0 hM ok_md fl_RX5_13 dX5_save_19 ?_
          refine lv_iload_n C0.1 C0.2.1 dX5_save_22 rfl (lv_at hl 1 rfl) ?_
          refine lv_aload_n C0.1 C0.2.1 dX5_save_23 rfl (lv_at hl 0 rfl) ?_
          refine gf5_2 C0 hM ok_md fl_RX5_13 dX5_save_24 ?_
          refine lv_iload_n C0.1 C0.2.1 dX5_save_27 rfl (lv_at hl 1 rfl) ?_
          refine lv_sipush (v := (186 : Int32)) C0.1 C0.2.1 dX5_save_28 (by decide) ?_
          refine lv_iadd C0.1 C0.2.1 dX5_save_31 ?_
          obtain ⟨g16, hF⟩ := gdb_some hF
          refine y_iald C0 hM oka_msaved g16 dX5_save_32 ?_
          obtain ⟨g17, hF⟩ := gdb_some hF
          refine y_iast C0 hM oka_msaved g17 dX5_save_33 (fun H locs hM => ?_)
          obtain ⟨M18, eM18, hF⟩ := nm_some hF
          have hM := y_mn eM18 hM
          obtain ⟨x19, ex19, hF⟩ := nm_some hF
          refine lv_iinc (v := x19) (lv' := [(1, .int x19), (0, .ref (gad G 220))]) C0.1 C0.2.1 dX5_save_34 hl (k := 1) rfl (by rw [ex19]; rfl) (by decide) rfl (fun ls hl => ?_)
          refine lv_goto (tgt := 11) C0.1 C0.2.1 dX5_save_37 (by decide) ?_
          exact ih11 x19 M18 _ _ _ hM (lv_sub hl [1, 0] rfl) hF
    exact L11 FU (0 : Int32) M _ _ _ hM (lv_sub hl [1, 0] rfl) hF

def F_X5_undo_l37 : Nat → Int32 → MS → Option (Int32 × MS)
  | 0, _, _ => none
  | n37 + 1, l1_6, M7 => (if (186 : Int32) ≤ l1_6 then (some ((rF M7 83 220), M7)) else (gdb (inb (((rF M7 83 220) * (186 : Int32)) + l1_6) 1116) (gdb (inb l1_6 186) (nm (wA M7 221 (Int32.toNatClampNeg l1_6) (rA M7 222 (Int32.toNatClampNeg (((rF M7 83 220) * (186 : Int32)) + l1_6)))) fun M11 => (nm (l1_6 + (1 : Int32)) fun x12 => (F_X5_undo_l37 n37 x12 M11))))))

def F_X5_undo (M : MS) : Option (Int32 × MS) := (nm (fun (s1 : Int32) => (nm (wF M 80 220 s1) fun M3 => (if (rF M3 80 220) ≤ 0 then (nm (wF M3 83 220 ((rF M3 83 220) - (1 : Int32))) fun M5 => (F_X5_undo_l37 FU (0 : Int32) M5)) else (some ((0 : Int32), M3))))) fun j13_1 => (if ¬ (rF M 83 220) = 0 then (j13_1 (0 : Int32)) else (j13_1 (1 : Int32))))

set_option maxHeartbeats 4000000 in
set_option maxRecDepth 100000 in
theorem k_X5_undo (l : Launch) (G : GG) (M : MS) {r : Int32} {Mf : MS} (hF : F_X5_undo M = some (r, Mf)) : KI l yX5_undo (WS yX5_undo cX5_undo 2 (some .int)) (Rm 0) G [.ref (gad G 220)] M r Mf := by
  intro sz
  refine y_met (by decide +kernel) (Nat.le_of_ble_eq_true rfl) rfl (fun p e s m below meth c ls hsz C0 hM hl => ?_)
  have hl : lv_has ls 2 [(0, .ref (gad G 220))] := hl
  have C0 : CX p s m meth c ([.ref (gad G 220)] : List Value).toArray cX5_undo RX5 2 (some .int) := C0
  rw [F_X5_undo] at hF
  refine lv_aload_n C0.1 C0.2.1 dX5_undo_0 rfl (lv_at hl 0 rfl) ?_
  refine lv_aload_n C0.1 C0.2.1 dX5_undo_1 rfl (lv_at hl 0 rfl) ?_
  refine gf5_3 C0 hM ok_md fl_RX5_36 dX5_undo_2 ?_
  obtain ⟨j13_1, ej13_1, hF⟩ := nm_some hF
  have J13 : ∀ (s1 : Int32) (H : Heap) (locs : List Loc) (ls : Array Slot), MX G M s H locs → lv_has ls 2 [(0, .ref (gad G 220))] → j13_1 s1 = some (r, Mf) → W p l e (Rm 0) s m ([.ref (gad G 220)] : List Value).toArray below meth c H locs 0 0 (QI below ([.ref (gad G 220)] : List Value).toArray s G sz r Mf) (F0 m 13 ls [.int s1, .ref (gad G 220)]) := by
    intro s1 H locs ls hM hl hF
    rw [ej13_1] at hF
    refine pf5_0 C0 hM ok_md fl_RX5_28 dX5_undo_13 (fun H locs hM => ?_)
    obtain ⟨M3, eM3, hF⟩ := nm_some hF
    have hM := y_mn eM3 hM
    refine lv_aload_n C0.1 C0.2.1 dX5_undo_16 rfl (lv_at hl 0 rfl) ?_
    refine gf5_0 C0 hM ok_md fl_RX5_28 dX5_undo_17 ?_
    refine lv_if_le (tgt := 25) C0.1 C0.2.1 dX5_undo_20 (by decide) (fun c4 => ?_) (fun c4 => ?_)
    · have hF := if_t c4 hF
      refine lv_aload_n C0.1 C0.2.1 dX5_undo_25 rfl (lv_at hl 0 rfl) ?_
      refine lv_dup C0.1 C0.2.1 dX5_undo_26 rfl ?_
      refine gf5_3 C0 hM ok_md fl_RX5_36 dX5_undo_27 ?_
      refine lv_iconst (v := (1 : Int32)) C0.1 C0.2.1 dX5_undo_30 (by decide) ?_
      refine lv_isub C0.1 C0.2.1 dX5_undo_31 ?_
      refine pf5_3 C0 hM ok_md fl_RX5_36 dX5_undo_32 (fun H locs hM => ?_)
      obtain ⟨M5, eM5, hF⟩ := nm_some hF
      have hM := y_mn eM5 hM
      refine lv_iconst (v := (0 : Int32)) C0.1 C0.2.1 dX5_undo_35 (by decide) ?_
      refine lv_istore_n (lv' := [(1, .int (0 : Int32)), (0, .ref (gad G 220))]) C0.1 C0.2.1 dX5_undo_36 rfl hl (by decide) rfl (fun ls hl => ?_)
      have L37 : ∀ (n : Nat) (l1_6 : Int32) (M7 : MS) (H : Heap) (locs : List Loc) (ls : Array Slot), MX G M7 s H locs → lv_has ls 2 [(0, .ref (gad G 220)), (1, .int l1_6)] → F_X5_undo_l37 n l1_6 M7 = some (r, Mf) → W p l e (Rm 0) s m ([.ref (gad G 220)] : List Value).toArray below meth c H locs 0 0 (QI below ([.ref (gad G 220)] : List Value).toArray s G sz r Mf) (F0 m 37 ls []) := by
        intro n
        induction n with
        | zero => intro l1_6 M7 H locs ls hM hl hF; rw [F_X5_undo_l37] at hF; cases hF
        | succ n37 ih37 =>
          intro l1_6 M7 H locs ls hM hl hF
          rw [F_X5_undo_l37] at hF
          refine lv_iload_n C0.1 C0.2.1 dX5_undo_37 rfl (lv_at hl 1 rfl) ?_
          refine lv_sipush (v := (186 : Int32)) C0.1 C0.2.1 dX5_undo_38 (by decide) ?_
          refine lv_icmp_ge (tgt := 71) C0.1 C0.2.1 dX5_undo_41 (by decide) (fun c8 => ?_) (fun c8 => ?_)
          · have hF := if_t c8 hF
            refine lv_aload_n C0.1 C0.2.1 dX5_undo_71 rfl (lv_at hl 0 rfl) ?_
            refine gf5_3 C0 hM ok_md fl_RX5_36 dX5_undo_72 ?_
            obtain ⟨e8, e9⟩ := y_2 hF
            subst e8
            subst e9
            exact y_iret C0 hM hsz dX5_undo_75
          · have hF := if_f c8 hF
            refine lv_aload_n C0.1 C0.2.1 dX5_undo_44 rfl (lv_at hl 0 rfl) ?_
            refine gf5_1 C0 hM ok_md fl_RX5_7 dX5_undo_45 ?_
            refine lv_iload_n C0.1 C0.2.1 dX5_undo_48 rfl (lv_at hl 1 rfl) ?_
            refine lv_aload_n C0.1 C0.2.1 dX5_undo_49 rfl (lv_at hl 0 rfl) ?_
            refine gf5_2 C0 hM ok_md fl_RX5_13 dX5_undo_50 ?_
            refine lv_aload_n C0.1 C0.2.1 dX5_undo_53 rfl (lv_at hl 0 rfl) ?_
            refine gf5_3 C0 hM ok_md fl_RX5_36 dX5_undo_54 ?_
            refine lv_sipush (v := (186 : Int32)) C0.1 C0.2.1 dX5_undo_57 (by decide) ?_
            refine lv_imul C0.1 C0.2.1 dX5_undo_60 ?_
            refine lv_iload_n C0.1 C0.2.1 dX5_undo_61 rfl (lv_at hl 1 rfl) ?_
            refine lv_iadd C0.1 C0.2.1 dX5_undo_62 ?_
            obtain ⟨g9, hF⟩ := gdb_some hF
            refine y_iald C0 hM oka_msaved g9 dX5_undo_63 ?_
            obtain ⟨g10, hF⟩ := gdb_some hF
            refine y_iast C0 hM oka_z g10 dX5_undo_64 (fun H locs hM => ?_)
            obtain ⟨M11, eM11, hF⟩ := nm_some hF
            have hM := y_mn eM11 hM
            obtain ⟨x12, ex12, hF⟩ := nm_some hF
            refine lv_iinc (v := x12) (lv' := [(1, .int x12), (0, .ref (gad G 220))]) C0.1 C0.2.1 dX5_undo_65 hl (k := 1) rfl (by rw [ex12]; rfl) (by decide) rfl (fun ls hl => ?_)
            refine lv_goto (tgt := 37) C0.1 C0.2.1 dX5_undo_68 (by decide) ?_
            exact ih37 x12 M11 _ _ _ hM (lv_sub hl [1, 0] rfl) hF
      exact L37 FU (0 : Int32) M5 _ _ _ hM (lv_sub hl [1, 0] rfl) hF
    · have hF := if_f c4 hF
      refine lv_iconst (v := (0 : Int32)) C0.1 C0.2.1 dX5_undo_23 (by decide) ?_
      obtain ⟨e8, e9⟩ := y_2 hF
      subst e8
      subst e9
      exact y_iret C0 hM hsz dX5_undo_24
  refine lv_if_ne (tgt := 12) C0.1 C0.2.1 dX5_undo_5 (by decide) (fun c13 => ?_) (fun c13 => ?_)
  · have hF := if_t c13 hF
    refine lv_iconst (v := (0 : Int32)) C0.1 C0.2.1 dX5_undo_12 (by decide) ?_
    exact J13 (0 : Int32) _ _ _ hM (lv_sub hl [0] rfl) hF
  · have hF := if_f (fun q => q c13) hF
    refine lv_iconst (v := (1 : Int32)) C0.1 C0.2.1 dX5_undo_8 (by decide) ?_
    refine lv_goto (tgt := 13) C0.1 C0.2.1 dX5_undo_9 (by decide) ?_
    exact J13 (1 : Int32) _ _ _ hM (lv_sub hl [0] rfl) hF

def F_X5_putAside_l2 : Nat → Int32 → MS → Option MS
  | 0, _, _ => none
  | n2 + 1, l1_1, M2 => (if (186 : Int32) ≤ l1_1 then (some M2) else (gdb (inb l1_1 186) (gdb (inb l1_1 186) (nm (wA M2 223 (Int32.toNatClampNeg l1_1) (rA M2 221 (Int32.toNatClampNeg l1_1))) fun M6 => (nm (l1_1 + (1 : Int32)) fun x7 => (F_X5_putAside_l2 n2 x7 M6))))))

def F_X5_putAside (M : MS) : Option MS := (F_X5_putAside_l2 FU (0 : Int32) M)

set_option maxHeartbeats 4000000 in
set_option maxRecDepth 100000 in
theorem k_X5_putAside (l : Launch) (G : GG) (M : MS) {Mf : MS} (hF : F_X5_putAside M = some Mf) : KV l yX5_putAside (WS yX5_putAside cX5_putAside 2 none) (Rm 0) G [.ref (gad G 220)] M Mf := by
  intro sz
  refine y_met (by decide +kernel) (Nat.le_of_ble_eq_true rfl) rfl (fun p e s m below meth c ls hsz C0 hM hl => ?_)
  have hl : lv_has ls 2 [(0, .ref (gad G 220))] := hl
  have C0 : CX p s m meth c ([.ref (gad G 220)] : List Value).toArray cX5_putAside RX5 2 none := C0
  rw [F_X5_putAside] at hF
  refine lv_iconst (v := (0 : Int32)) C0.1 C0.2.1 dX5_putAside_0 (by decide) ?_
  refine lv_istore_n (lv' := [(1, .int (0 : Int32)), (0, .ref (gad G 220))]) C0.1 C0.2.1 dX5_putAside_1 rfl hl (by decide) rfl (fun ls hl => ?_)
  have L2 : ∀ (n : Nat) (l1_1 : Int32) (M2 : MS) (H : Heap) (locs : List Loc) (ls : Array Slot), MX G M2 s H locs → lv_has ls 2 [(0, .ref (gad G 220)), (1, .int l1_1)] → F_X5_putAside_l2 n l1_1 M2 = some Mf → W p l e (Rm 0) s m ([.ref (gad G 220)] : List Value).toArray below meth c H locs 0 0 (QV below ([.ref (gad G 220)] : List Value).toArray s G sz Mf) (F0 m 2 ls []) := by
    intro n
    induction n with
    | zero => intro l1_1 M2 H locs ls hM hl hF; rw [F_X5_putAside_l2] at hF; cases hF
    | succ n2 ih2 =>
      intro l1_1 M2 H locs ls hM hl hF
      rw [F_X5_putAside_l2] at hF
      refine lv_iload_n C0.1 C0.2.1 dX5_putAside_2 rfl (lv_at hl 1 rfl) ?_
      refine lv_sipush (v := (186 : Int32)) C0.1 C0.2.1 dX5_putAside_3 (by decide) ?_
      refine lv_icmp_ge (tgt := 27) C0.1 C0.2.1 dX5_putAside_6 (by decide) (fun c3 => ?_) (fun c3 => ?_)
      · have hF := if_t c3 hF
        have e9 := y_1 hF
        subst e9
        exact y_vret C0 hM hsz dX5_putAside_27
      · have hF := if_f c3 hF
        refine lv_aload_n C0.1 C0.2.1 dX5_putAside_9 rfl (lv_at hl 0 rfl) ?_
        refine gf5_4 C0 hM ok_md fl_RX5_16 dX5_putAside_10 ?_
        refine lv_iload_n C0.1 C0.2.1 dX5_putAside_13 rfl (lv_at hl 1 rfl) ?_
        refine lv_aload_n C0.1 C0.2.1 dX5_putAside_14 rfl (lv_at hl 0 rfl) ?_
        refine gf5_1 C0 hM ok_md fl_RX5_7 dX5_putAside_15 ?_
        refine lv_iload_n C0.1 C0.2.1 dX5_putAside_18 rfl (lv_at hl 1 rfl) ?_
        obtain ⟨g4, hF⟩ := gdb_some hF
        refine y_iald C0 hM oka_z g4 dX5_putAside_19 ?_
        obtain ⟨g5, hF⟩ := gdb_some hF
        refine y_iast C0 hM oka_spare g5 dX5_putAside_20 (fun H locs hM => ?_)
        obtain ⟨M6, eM6, hF⟩ := nm_some hF
        have hM := y_mn eM6 hM
        obtain ⟨x7, ex7, hF⟩ := nm_some hF
        refine lv_iinc (v := x7) (lv' := [(1, .int x7), (0, .ref (gad G 220))]) C0.1 C0.2.1 dX5_putAside_21 hl (k := 1) rfl (by rw [ex7]; rfl) (by decide) rfl (fun ls hl => ?_)
        refine lv_goto (tgt := 2) C0.1 C0.2.1 dX5_putAside_24 (by decide) ?_
        exact ih2 x7 M6 _ _ _ hM (lv_sub hl [1, 0] rfl) hF
  exact L2 FU (0 : Int32) M _ _ _ hM (lv_sub hl [1, 0] rfl) hF

def F_X5_bringBack_l2 : Nat → Int32 → MS → Option MS
  | 0, _, _ => none
  | n2 + 1, l1_1, M2 => (if (186 : Int32) ≤ l1_1 then (some M2) else (gdb (inb l1_1 186) (gdb (inb l1_1 186) (nm (wA M2 221 (Int32.toNatClampNeg l1_1) (rA M2 223 (Int32.toNatClampNeg l1_1))) fun M6 => (nm (l1_1 + (1 : Int32)) fun x7 => (F_X5_bringBack_l2 n2 x7 M6))))))

def F_X5_bringBack (M : MS) : Option MS := (F_X5_bringBack_l2 FU (0 : Int32) M)

set_option maxHeartbeats 4000000 in
set_option maxRecDepth 100000 in
theorem k_X5_bringBack (l : Launch) (G : GG) (M : MS) {Mf : MS} (hF : F_X5_bringBack M = some Mf) : KV l yX5_bringBack (WS yX5_bringBack cX5_bringBack 2 none) (Rm 0) G [.ref (gad G 220)] M Mf := by
  intro sz
  refine y_met (by decide +kernel) (Nat.le_of_ble_eq_true rfl) rfl (fun p e s m below meth c ls hsz C0 hM hl => ?_)
  have hl : lv_has ls 2 [(0, .ref (gad G 220))] := hl
  have C0 : CX p s m meth c ([.ref (gad G 220)] : List Value).toArray cX5_bringBack RX5 2 none := C0
  rw [F_X5_bringBack] at hF
  refine lv_iconst (v := (0 : Int32)) C0.1 C0.2.1 dX5_bringBack_0 (by decide) ?_
  refine lv_istore_n (lv' := [(1, .int (0 : Int32)), (0, .ref (gad G 220))]) C0.1 C0.2.1 dX5_bringBack_1 rfl hl (by decide) rfl (fun ls hl => ?_)
  have L2 : ∀ (n : Nat) (l1_1 : Int32) (M2 : MS) (H : Heap) (locs : List Loc) (ls : Array Slot), MX G M2 s H locs → lv_has ls 2 [(0, .ref (gad G 220)), (1, .int l1_1)] → F_X5_bringBack_l2 n l1_1 M2 = some Mf → W p l e (Rm 0) s m ([.ref (gad G 220)] : List Value).toArray below meth c H locs 0 0 (QV below ([.ref (gad G 220)] : List Value).toArray s G sz Mf) (F0 m 2 ls []) := by
    intro n
    induction n with
    | zero => intro l1_1 M2 H locs ls hM hl hF; rw [F_X5_bringBack_l2] at hF; cases hF
    | succ n2 ih2 =>
      intro l1_1 M2 H locs ls hM hl hF
      rw [F_X5_bringBack_l2] at hF
      refine lv_iload_n C0.1 C0.2.1 dX5_bringBack_2 rfl (lv_at hl 1 rfl) ?_
      refine lv_sipush (v := (186 : Int32)) C0.1 C0.2.1 dX5_bringBack_3 (by decide) ?_
      refine lv_icmp_ge (tgt := 27) C0.1 C0.2.1 dX5_bringBack_6 (by decide) (fun c3 => ?_) (fun c3 => ?_)
      · have hF := if_t c3 hF
        have e9 := y_1 hF
        subst e9
        exact y_vret C0 hM hsz dX5_bringBack_27
      · have hF := if_f c3 hF
        refine lv_aload_n C0.1 C0.2.1 dX5_bringBack_9 rfl (lv_at hl 0 rfl) ?_
        refine gf5_1 C0 hM ok_md fl_RX5_7 dX5_bringBack_10 ?_
        refine lv_iload_n C0.1 C0.2.1 dX5_bringBack_13 rfl (lv_at hl 1 rfl) ?_
        refine lv_aload_n C0.1 C0.2.1 dX5_bringBack_14 rfl (lv_at hl 0 rfl) ?_
        refine gf5_4 C0 hM ok_md fl_RX5_16 dX5_bringBack_15 ?_
        refine lv_iload_n C0.1 C0.2.1 dX5_bringBack_18 rfl (lv_at hl 1 rfl) ?_
        obtain ⟨g4, hF⟩ := gdb_some hF
        refine y_iald C0 hM oka_spare g4 dX5_bringBack_19 ?_
        obtain ⟨g5, hF⟩ := gdb_some hF
        refine y_iast C0 hM oka_z g5 dX5_bringBack_20 (fun H locs hM => ?_)
        obtain ⟨M6, eM6, hF⟩ := nm_some hF
        have hM := y_mn eM6 hM
        obtain ⟨x7, ex7, hF⟩ := nm_some hF
        refine lv_iinc (v := x7) (lv' := [(1, .int x7), (0, .ref (gad G 220))]) C0.1 C0.2.1 dX5_bringBack_21 hl (k := 1) rfl (by rw [ex7]; rfl) (by decide) rfl (fun ls hl => ?_)
        refine lv_goto (tgt := 2) C0.1 C0.2.1 dX5_bringBack_24 (by decide) ?_
        exact ih2 x7 M6 _ _ _ hM (lv_sub hl [1, 0] rfl) hF
  exact L2 FU (0 : Int32) M _ _ _ hM (lv_sub hl [1, 0] rfl) hF

def F_X5_placeInRow_l4 (a0 : Int32) (M : MS) : Nat → Int32 → Int32 → Option Int32
  | 0, _, _ => none
  | n4 + 1, l2_1, l3_2 => (gdb (inb (0 : Int32) 186) (if (rA M 221 (Int32.toNatClampNeg (0 : Int32))) ≤ l3_2 then (some l2_1) else (gdb (inb ((6 : Int32) + l3_2) 186) (if ¬ (rA M 221 (Int32.toNatClampNeg ((6 : Int32) + l3_2))) = a0 then (nm (l3_2 + (1 : Int32)) fun x7 => (F_X5_placeInRow_l4 a0 M n4 l2_1 x7)) else (nm (l3_2 + (1 : Int32)) fun x8 => (F_X5_placeInRow_l4 a0 M n4 l3_2 x8))))))

def F_X5_placeInRow (M : MS) (a0 : Int32) : Option Int32 := (F_X5_placeInRow_l4 a0 M FU (-1 : Int32) (0 : Int32))

set_option maxHeartbeats 4000000 in
set_option maxRecDepth 100000 in
theorem k_X5_placeInRow (l : Launch) (G : GG) (M : MS) (a0 : Int32) {r : Int32} (hF : F_X5_placeInRow M a0 = some r) : KI l yX5_placeInRow (WS yX5_placeInRow cX5_placeInRow 4 (some .int)) (Rm 0) G [.ref (gad G 220), .int a0] M r M := by
  intro sz
  refine y_met (by decide +kernel) (Nat.le_of_ble_eq_true rfl) rfl (fun p e s m below meth c ls hsz C0 hM hl => ?_)
  have hl : lv_has ls 4 [(0, .ref (gad G 220)), (1, .int a0)] := hl
  have C0 : CX p s m meth c ([.ref (gad G 220), .int a0] : List Value).toArray cX5_placeInRow RX5 4 (some .int) := C0
  rw [F_X5_placeInRow] at hF
  refine lv_iconst (v := (-1 : Int32)) C0.1 C0.2.1 dX5_placeInRow_0 (by decide) ?_
  refine lv_istore_n (lv' := [(2, .int (-1 : Int32)), (0, .ref (gad G 220)), (1, .int a0)]) C0.1 C0.2.1 dX5_placeInRow_1 rfl hl (by decide) rfl (fun ls hl => ?_)
  refine lv_iconst (v := (0 : Int32)) C0.1 C0.2.1 dX5_placeInRow_2 (by decide) ?_
  refine lv_istore_n (lv' := [(3, .int (0 : Int32)), (2, .int (-1 : Int32)), (0, .ref (gad G 220)), (1, .int a0)]) C0.1 C0.2.1 dX5_placeInRow_3 rfl hl (by decide) rfl (fun ls hl => ?_)
  have L4 : ∀ (n : Nat) (l2_1 : Int32) (l3_2 : Int32) (H : Heap) (locs : List Loc) (ls : Array Slot), MX G M s H locs → lv_has ls 4 [(0, .ref (gad G 220)), (1, .int a0), (2, .int l2_1), (3, .int l3_2)] → F_X5_placeInRow_l4 a0 M n l2_1 l3_2 = some r → W p l e (Rm 0) s m ([.ref (gad G 220), .int a0] : List Value).toArray below meth c H locs 0 0 (QI below ([.ref (gad G 220), .int a0] : List Value).toArray s G sz r M) (F0 m 4 ls []) := by
    intro n
    induction n with
    | zero => intro l2_1 l3_2 H locs ls hM hl hF; rw [F_X5_placeInRow_l4] at hF; cases hF
    | succ n4 ih4 =>
      intro l2_1 l3_2 H locs ls hM hl hF
      rw [F_X5_placeInRow_l4] at hF
      refine lv_iload_n C0.1 C0.2.1 dX5_placeInRow_4 rfl (lv_at hl 3 rfl) ?_
      refine lv_aload_n C0.1 C0.2.1 dX5_placeInRow_5 rfl (lv_at hl 0 rfl) ?_
      refine gf5_1 C0 hM ok_md fl_RX5_7 dX5_placeInRow_6 ?_
      refine lv_iconst (v := (0 : Int32)) C0.1 C0.2.1 dX5_placeInRow_9 (by decide) ?_
      obtain ⟨g3, hF⟩ := gdb_some hF
      refine y_iald C0 hM oka_z g3 dX5_placeInRow_10 ?_
      refine lv_icmp_ge (tgt := 39) C0.1 C0.2.1 dX5_placeInRow_11 (by decide) (fun c4 => ?_) (fun c4 => ?_)
      · have hF := if_t c4 hF
        refine lv_iload_n C0.1 C0.2.1 dX5_placeInRow_39 rfl (lv_at hl 2 rfl) ?_
        have e8 := y_1 hF
        subst e8
        exact y_iret C0 hM hsz dX5_placeInRow_40
      · have hF := if_f c4 hF
        refine lv_aload_n C0.1 C0.2.1 dX5_placeInRow_14 rfl (lv_at hl 0 rfl) ?_
        refine gf5_1 C0 hM ok_md fl_RX5_7 dX5_placeInRow_15 ?_
        refine lv_bipush (v := (6 : Int32)) C0.1 C0.2.1 dX5_placeInRow_18 (by decide) ?_
        refine lv_iload_n C0.1 C0.2.1 dX5_placeInRow_20 rfl (lv_at hl 3 rfl) ?_
        refine lv_iadd C0.1 C0.2.1 dX5_placeInRow_21 ?_
        obtain ⟨g5, hF⟩ := gdb_some hF
        refine y_iald C0 hM oka_z g5 dX5_placeInRow_22 ?_
        refine lv_iload_n C0.1 C0.2.1 dX5_placeInRow_23 rfl (lv_at hl 1 rfl) ?_
        refine lv_icmp_ne (tgt := 31) C0.1 C0.2.1 dX5_placeInRow_24 (by decide) (fun c6 => ?_) (fun c6 => ?_)
        · have hF := if_t c6 hF
          refine lv_iload_n C0.1 C0.2.1 dX5_placeInRow_31 rfl (lv_at hl 2 rfl) ?_
          refine lv_istore_n (lv' := [(2, .int l2_1), (0, .ref (gad G 220)), (1, .int a0), (3, .int l3_2)]) C0.1 C0.2.1 dX5_placeInRow_32 rfl hl (by decide) rfl (fun ls hl => ?_)
          obtain ⟨x7, ex7, hF⟩ := nm_some hF
          refine lv_iinc (v := x7) (lv' := [(3, .int x7), (2, .int l2_1), (0, .ref (gad G 220)), (1, .int a0)]) C0.1 C0.2.1 dX5_placeInRow_33 hl (k := 3) rfl (by rw [ex7]; rfl) (by decide) rfl (fun ls hl => ?_)
          refine lv_goto (tgt := 4) C0.1 C0.2.1 dX5_placeInRow_36 (by decide) ?_
          exact ih4 l2_1 x7 _ _ _ hM (lv_sub hl [2, 3, 1, 0] rfl) hF
        · have hF := if_f (fun q => q c6) hF
          refine lv_iload_n C0.1 C0.2.1 dX5_placeInRow_27 rfl (lv_at hl 3 rfl) ?_
          refine lv_goto (tgt := 32) C0.1 C0.2.1 dX5_placeInRow_28 (by decide) ?_
          refine lv_istore_n (lv' := [(2, .int l3_2), (0, .ref (gad G 220)), (1, .int a0), (3, .int l3_2)]) C0.1 C0.2.1 dX5_placeInRow_32 rfl hl (by decide) rfl (fun ls hl => ?_)
          obtain ⟨x8, ex8, hF⟩ := nm_some hF
          refine lv_iinc (v := x8) (lv' := [(3, .int x8), (2, .int l3_2), (0, .ref (gad G 220)), (1, .int a0)]) C0.1 C0.2.1 dX5_placeInRow_33 hl (k := 3) rfl (by rw [ex8]; rfl) (by decide) rfl (fun ls hl => ?_)
          refine lv_goto (tgt := 4) C0.1 C0.2.1 dX5_placeInRow_36 (by decide) ?_
          exact ih4 l3_2 x8 _ _ _ hM (lv_sub hl [2, 3, 1, 0] rfl) hF
  exact L4 FU (-1 : Int32) (0 : Int32) _ _ _ hM (lv_sub hl [2, 3, 1, 0] rfl) hF

def F_X5_moveInRow_l53 (a0 : Int32) (a1 : Int32) : Nat → Int32 → MS → Option MS
  | 0, _, _ => none
  | n53 + 1, l3_9, M10 => (if l3_9 ≤ a1 then (gdb (inb ((6 : Int32) + a1) 186) (nm (wA M10 221 (Int32.toNatClampNeg ((6 : Int32) + a1)) a0) fun M13 => (some M13))) else (gdb (inb (((6 : Int32) + l3_9) - (1 : Int32)) 186) (gdb (inb ((6 : Int32) + l3_9) 186) (nm (wA M10 221 (Int32.toNatClampNeg ((6 : Int32) + l3_9)) (rA M10 221 (Int32.toNatClampNeg (((6 : Int32) + l3_9) - (1 : Int32))))) fun M16 => (nm (l3_9 + (-1 : Int32)) fun x17 => (F_X5_moveInRow_l53 a0 a1 n53 x17 M16))))))

def F_X5_moveInRow_l6 (a0 : Int32) (a1 : Int32) : Nat → Int32 → MS → Option MS
  | 0, _, _ => none
  | n6 + 1, l3_3, M4 => (gdb (inb (0 : Int32) 186) (if (rA M4 221 (Int32.toNatClampNeg (0 : Int32))) ≤ (l3_3 + (1 : Int32)) then (gdb (inb (0 : Int32) 186) (nm ((rA M4 221 (Int32.toNatClampNeg (0 : Int32))) - (1 : Int32)) fun x8 => (F_X5_moveInRow_l53 a0 a1 FU x8 M4))) else (gdb (inb (((6 : Int32) + l3_3) + (1 : Int32)) 186) (gdb (inb ((6 : Int32) + l3_3) 186) (nm (wA M4 221 (Int32.toNatClampNeg ((6 : Int32) + l3_3)) (rA M4 221 (Int32.toNatClampNeg (((6 : Int32) + l3_3) + (1 : Int32))))) fun M20 => (nm (l3_3 + (1 : Int32)) fun x21 => (F_X5_moveInRow_l6 a0 a1 n6 x21 M20)))))))

def F_X5_moveInRow (M : MS) (a0 : Int32) (a1 : Int32) : Option MS := (bd (F_X5_placeInRow M a0) fun r2 => (F_X5_moveInRow_l6 a0 a1 FU r2 M))

set_option maxHeartbeats 4000000 in
set_option maxRecDepth 100000 in
theorem k_X5_moveInRow (l : Launch) (G : GG) (M : MS) (a0 : Int32) (a1 : Int32) {Mf : MS} (hF : F_X5_moveInRow M a0 a1 = some Mf) : KV l yX5_moveInRow (WS yX5_moveInRow cX5_moveInRow 4 none) (Rm 1) G [.ref (gad G 220), .int a0, .int a1] M Mf := by
  intro sz
  refine y_met (by decide +kernel) (Nat.le_of_ble_eq_true rfl) rfl (fun p e s m below meth c ls hsz C0 hM hl => ?_)
  have hl : lv_has ls 4 [(0, .ref (gad G 220)), (1, .int a0), (2, .int a1)] := hl
  have C0 : CX p s m meth c ([.ref (gad G 220), .int a0, .int a1] : List Value).toArray cX5_moveInRow RX5 4 none := C0
  rw [F_X5_moveInRow] at hF
  refine lv_aload_n C0.1 C0.2.1 dX5_moveInRow_0 rfl (lv_at hl 0 rfl) ?_
  refine lv_iload_n C0.1 C0.2.1 dX5_moveInRow_1 rfl (lv_at hl 1 rfl) ?_
  obtain ⟨r2, h1, hF⟩ := bd_some hF
  refine y_vi (rest := []) C0 hM hl.1 ok_md (ent5 ok_md) rfl (k_X5_placeInRow l G M a0 h1) cw_RX5_39 rfl rfl ⟨Nat.le_of_ble_eq_true rfl, Nat.le_of_ble_eq_true rfl⟩ rfl (Nat.le_of_ble_eq_true rfl) ⟨Nat.le_of_ble_eq_true rfl, Nat.le_of_ble_eq_true rfl⟩ dX5_moveInRow_2 (fun H locs hM => ?_)
  refine lv_istore_n (lv' := [(3, .int r2), (0, .ref (gad G 220)), (1, .int a0), (2, .int a1)]) C0.1 C0.2.1 dX5_moveInRow_5 rfl hl (by decide) rfl (fun ls hl => ?_)
  have L6 : ∀ (n : Nat) (l3_3 : Int32) (M4 : MS) (H : Heap) (locs : List Loc) (ls : Array Slot), MX G M4 s H locs → lv_has ls 4 [(0, .ref (gad G 220)), (1, .int a0), (2, .int a1), (3, .int l3_3)] → F_X5_moveInRow_l6 a0 a1 n l3_3 M4 = some Mf → W p l e (Rm 1) s m ([.ref (gad G 220), .int a0, .int a1] : List Value).toArray below meth c H locs 0 0 (QV below ([.ref (gad G 220), .int a0, .int a1] : List Value).toArray s G sz Mf) (F0 m 6 ls []) := by
    intro n
    induction n with
    | zero => intro l3_3 M4 H locs ls hM hl hF; rw [F_X5_moveInRow_l6] at hF; cases hF
    | succ n6 ih6 =>
      intro l3_3 M4 H locs ls hM hl hF
      rw [F_X5_moveInRow_l6] at hF
      refine lv_iload_n C0.1 C0.2.1 dX5_moveInRow_6 rfl (lv_at hl 3 rfl) ?_
      refine lv_iconst (v := (1 : Int32)) C0.1 C0.2.1 dX5_moveInRow_7 (by decide) ?_
      refine lv_iadd C0.1 C0.2.1 dX5_moveInRow_8 ?_
      refine lv_aload_n C0.1 C0.2.1 dX5_moveInRow_9 rfl (lv_at hl 0 rfl) ?_
      refine gf5_1 C0 hM ok_md fl_RX5_7 dX5_moveInRow_10 ?_
      refine lv_iconst (v := (0 : Int32)) C0.1 C0.2.1 dX5_moveInRow_13 (by decide) ?_
      obtain ⟨g5, hF⟩ := gdb_some hF
      refine y_iald C0 hM oka_z g5 dX5_moveInRow_14 ?_
      refine lv_icmp_ge (tgt := 44) C0.1 C0.2.1 dX5_moveInRow_15 (by decide) (fun c6 => ?_) (fun c6 => ?_)
      · have hF := if_t c6 hF
        refine lv_aload_n C0.1 C0.2.1 dX5_moveInRow_44 rfl (lv_at hl 0 rfl) ?_
        refine gf5_1 C0 hM ok_md fl_RX5_7 dX5_moveInRow_45 ?_
        refine lv_iconst (v := (0 : Int32)) C0.1 C0.2.1 dX5_moveInRow_48 (by decide) ?_
        obtain ⟨g7, hF⟩ := gdb_some hF
        refine y_iald C0 hM oka_z g7 dX5_moveInRow_49 ?_
        refine lv_iconst (v := (1 : Int32)) C0.1 C0.2.1 dX5_moveInRow_50 (by decide) ?_
        refine lv_isub C0.1 C0.2.1 dX5_moveInRow_51 ?_
        obtain ⟨x8, ex8, hF⟩ := nm_some hF
        refine y_topi ex8 ?_
        refine lv_istore_n (lv' := [(3, .int x8), (0, .ref (gad G 220)), (1, .int a0), (2, .int a1)]) C0.1 C0.2.1 dX5_moveInRow_52 rfl hl (by decide) rfl (fun ls hl => ?_)
        have L53 : ∀ (n : Nat) (l3_9 : Int32) (M10 : MS) (H : Heap) (locs : List Loc) (ls : Array Slot), MX G M10 s H locs → lv_has ls 4 [(0, .ref (gad G 220)), (1, .int a0), (2, .int a1), (3, .int l3_9)] → F_X5_moveInRow_l53 a0 a1 n l3_9 M10 = some Mf → W p l e (Rm 1) s m ([.ref (gad G 220), .int a0, .int a1] : List Value).toArray below meth c H locs 0 0 (QV below ([.ref (gad G 220), .int a0, .int a1] : List Value).toArray s G sz Mf) (F0 m 53 ls []) := by
          intro n
          induction n with
          | zero => intro l3_9 M10 H locs ls hM hl hF; rw [F_X5_moveInRow_l53] at hF; cases hF
          | succ n53 ih53 =>
            intro l3_9 M10 H locs ls hM hl hF
            rw [F_X5_moveInRow_l53] at hF
            refine lv_iload_n C0.1 C0.2.1 dX5_moveInRow_53 rfl (lv_at hl 3 rfl) ?_
            refine lv_iload_n C0.1 C0.2.1 dX5_moveInRow_54 rfl (lv_at hl 2 rfl) ?_
            refine lv_icmp_le (tgt := 84) C0.1 C0.2.1 dX5_moveInRow_55 (by decide) (fun c11 => ?_) (fun c11 => ?_)
            · have hF := if_t c11 hF
              refine lv_aload_n C0.1 C0.2.1 dX5_moveInRow_84 rfl (lv_at hl 0 rfl) ?_
              refine gf5_1 C0 hM ok_md fl_RX5_7 dX5_moveInRow_85 ?_
              refine lv_bipush (v := (6 : Int32)) C0.1 C0.2.1 dX5_moveInRow_88 (by decide) ?_
              refine lv_iload_n C0.1 C0.2.1 dX5_moveInRow_90 rfl (lv_at hl 2 rfl) ?_
              refine lv_iadd C0.1 C0.2.1 dX5_moveInRow_91 ?_
              refine lv_iload_n C0.1 C0.2.1 dX5_moveInRow_92 rfl (lv_at hl 1 rfl) ?_
              obtain ⟨g12, hF⟩ := gdb_some hF
              refine y_iast C0 hM oka_z g12 dX5_moveInRow_93 (fun H locs hM => ?_)
              obtain ⟨M13, eM13, hF⟩ := nm_some hF
              have hM := y_mn eM13 hM
              have e9 := y_1 hF
              subst e9
              exact y_vret C0 hM hsz dX5_moveInRow_94
            · have hF := if_f c11 hF
              refine lv_aload_n C0.1 C0.2.1 dX5_moveInRow_58 rfl (lv_at hl 0 rfl) ?_
              refine gf5_1 C0 hM ok_md fl_RX5_7 dX5_moveInRow_59 ?_
              refine lv_bipush (v := (6 : Int32)) C0.1 C0.2.1 dX5_moveInRow_62 (by decide) ?_
              refine lv_iload_n C0.1 C0.2.1 dX5_moveInRow_64 rfl (lv_at hl 3 rfl) ?_
              refine lv_iadd C0.1 C0.2.1 dX5_moveInRow_65 ?_
              refine lv_aload_n C0.1 C0.2.1 dX5_moveInRow_66 rfl (lv_at hl 0 rfl) ?_
              refine gf5_1 C0 hM ok_md fl_RX5_7 dX5_moveInRow_67 ?_
              refine lv_bipush (v := (6 : Int32)) C0.1 C0.2.1 dX5_moveInRow_70 (by decide) ?_
              refine lv_iload_n C0.1 C0.2.1 dX5_moveInRow_72 rfl (lv_at hl 3 rfl) ?_
              refine lv_iadd C0.1 C0.2.1 dX5_moveInRow_73 ?_
              refine lv_iconst (v := (1 : Int32)) C0.1 C0.2.1 dX5_moveInRow_74 (by decide) ?_
              refine lv_isub C0.1 C0.2.1 dX5_moveInRow_75 ?_
              obtain ⟨g14, hF⟩ := gdb_some hF
              refine y_iald C0 hM oka_z g14 dX5_moveInRow_76 ?_
              obtain ⟨g15, hF⟩ := gdb_some hF
              refine y_iast C0 hM oka_z g15 dX5_moveInRow_77 (fun H locs hM => ?_)
              obtain ⟨M16, eM16, hF⟩ := nm_some hF
              have hM := y_mn eM16 hM
              obtain ⟨x17, ex17, hF⟩ := nm_some hF
              refine lv_iinc (v := x17) (lv' := [(3, .int x17), (0, .ref (gad G 220)), (1, .int a0), (2, .int a1)]) C0.1 C0.2.1 dX5_moveInRow_78 hl (k := 3) rfl (by rw [ex17]; rfl) (by decide) rfl (fun ls hl => ?_)
              refine lv_goto (tgt := 53) C0.1 C0.2.1 dX5_moveInRow_81 (by decide) ?_
              exact ih53 x17 M16 _ _ _ hM (lv_sub hl [1, 2, 3, 0] rfl) hF
        exact L53 FU x8 M4 _ _ _ hM (lv_sub hl [1, 2, 3, 0] rfl) hF
      · have hF := if_f c6 hF
        refine lv_aload_n C0.1 C0.2.1 dX5_moveInRow_18 rfl (lv_at hl 0 rfl) ?_
        refine gf5_1 C0 hM ok_md fl_RX5_7 dX5_moveInRow_19 ?_
        refine lv_bipush (v := (6 : Int32)) C0.1 C0.2.1 dX5_moveInRow_22 (by decide) ?_
        refine lv_iload_n C0.1 C0.2.1 dX5_moveInRow_24 rfl (lv_at hl 3 rfl) ?_
        refine lv_iadd C0.1 C0.2.1 dX5_moveInRow_25 ?_
        refine lv_aload_n C0.1 C0.2.1 dX5_moveInRow_26 rfl (lv_at hl 0 rfl) ?_
        refine gf5_1 C0 hM ok_md fl_RX5_7 dX5_moveInRow_27 ?_
        refine lv_bipush (v := (6 : Int32)) C0.1 C0.2.1 dX5_moveInRow_30 (by decide) ?_
        refine lv_iload_n C0.1 C0.2.1 dX5_moveInRow_32 rfl (lv_at hl 3 rfl) ?_
        refine lv_iadd C0.1 C0.2.1 dX5_moveInRow_33 ?_
        refine lv_iconst (v := (1 : Int32)) C0.1 C0.2.1 dX5_moveInRow_34 (by decide) ?_
        refine lv_iadd C0.1 C0.2.1 dX5_moveInRow_35 ?_
        obtain ⟨g18, hF⟩ := gdb_some hF
        refine y_iald C0 hM oka_z g18 dX5_moveInRow_36 ?_
        obtain ⟨g19, hF⟩ := gdb_some hF
        refine y_iast C0 hM oka_z g19 dX5_moveInRow_37 (fun H locs hM => ?_)
        obtain ⟨M20, eM20, hF⟩ := nm_some hF
        have hM := y_mn eM20 hM
        obtain ⟨x21, ex21, hF⟩ := nm_some hF
        refine lv_iinc (v := x21) (lv' := [(3, .int x21), (0, .ref (gad G 220)), (1, .int a0), (2, .int a1)]) C0.1 C0.2.1 dX5_moveInRow_38 hl (k := 3) rfl (by rw [ex21]; rfl) (by decide) rfl (fun ls hl => ?_)
        refine lv_goto (tgt := 6) C0.1 C0.2.1 dX5_moveInRow_41 (by decide) ?_
        exact ih6 x21 M20 _ _ _ hM (lv_sub hl [1, 2, 3, 0] rfl) hF
  exact L6 FU r2 M _ _ _ hM (lv_sub hl [1, 2, 3, 0] rfl) hF

def F_X5_standAhead (M : MS) (a0 : Int32) (a1 : Int32) : Option MS := (bd (F_X5_placeInRow M a1) fun r2 => (bd (F_X5_placeInRow M a0) fun r4 => (nm (fun (s5 : Int32) => (bd (F_X5_moveInRow M a0 s5) fun M8 => (bd (F_X5_of M8 a1 (1 : Int32)) fun r10 => (bd (F_X5_lay M8 a0 (1 : Int32) r10) fun M12 => (some M12))))) fun j24_5 => (if r2 ≤ r4 then (j24_5 r2) else (j24_5 (r2 - (1 : Int32)))))))

set_option maxHeartbeats 4000000 in
set_option maxRecDepth 100000 in
theorem k_X5_standAhead (l : Launch) (G : GG) (M : MS) (a0 : Int32) (a1 : Int32) {Mf : MS} (hF : F_X5_standAhead M a0 a1 = some Mf) : KV l yX5_standAhead (WS yX5_standAhead cX5_standAhead 4 none) (Rm 2) G [.ref (gad G 220), .int a0, .int a1] M Mf := by
  intro sz
  refine y_met (by decide +kernel) (Nat.le_of_ble_eq_true rfl) rfl (fun p e s m below meth c ls hsz C0 hM hl => ?_)
  have hl : lv_has ls 4 [(0, .ref (gad G 220)), (1, .int a0), (2, .int a1)] := hl
  have C0 : CX p s m meth c ([.ref (gad G 220), .int a0, .int a1] : List Value).toArray cX5_standAhead RX5 4 none := C0
  rw [F_X5_standAhead] at hF
  refine lv_aload_n C0.1 C0.2.1 dX5_standAhead_0 rfl (lv_at hl 0 rfl) ?_
  refine lv_iload_n C0.1 C0.2.1 dX5_standAhead_1 rfl (lv_at hl 2 rfl) ?_
  obtain ⟨r2, h1, hF⟩ := bd_some hF
  refine y_vi (rest := []) C0 hM hl.1 ok_md (ent5 ok_md) rfl (k_X5_placeInRow l G M a1 h1) cw_RX5_39 rfl rfl ⟨Nat.le_of_ble_eq_true rfl, Nat.le_of_ble_eq_true rfl⟩ rfl (Nat.le_of_ble_eq_true rfl) ⟨Nat.le_of_ble_eq_true rfl, Nat.le_of_ble_eq_true rfl⟩ dX5_standAhead_2 (fun H locs hM => ?_)
  refine lv_istore_n (lv' := [(3, .int r2), (0, .ref (gad G 220)), (1, .int a0), (2, .int a1)]) C0.1 C0.2.1 dX5_standAhead_5 rfl hl (by decide) rfl (fun ls hl => ?_)
  refine lv_aload_n C0.1 C0.2.1 dX5_standAhead_6 rfl (lv_at hl 1 rfl) ?_
  refine lv_iload_n C0.1 C0.2.1 dX5_standAhead_7 rfl (lv_at hl 2 rfl) ?_
  refine lv_aload_n C0.1 C0.2.1 dX5_standAhead_8 rfl (lv_at hl 1 rfl) ?_
  refine lv_iload_n C0.1 C0.2.1 dX5_standAhead_9 rfl (lv_at hl 2 rfl) ?_
  obtain ⟨r4, h3, hF⟩ := bd_some hF
  refine y_vi (rest := [.int a0, .ref (gad G 220)]) C0 hM hl.1 ok_md (ent5 ok_md) rfl (k_X5_placeInRow l G M a0 h3) cw_RX5_39 rfl rfl ⟨Nat.le_of_ble_eq_true rfl, Nat.le_of_ble_eq_true rfl⟩ rfl (Nat.le_of_ble_eq_true rfl) ⟨Nat.le_of_ble_eq_true rfl, Nat.le_of_ble_eq_true rfl⟩ dX5_standAhead_10 (fun H locs hM => ?_)
  refine lv_iload_n C0.1 C0.2.1 dX5_standAhead_13 rfl (lv_at hl 0 rfl) ?_
  obtain ⟨j24_5, ej24_5, hF⟩ := nm_some hF
  have J24 : ∀ (s5 : Int32) (H : Heap) (locs : List Loc) (ls : Array Slot), MX G M s H locs → lv_has ls 4 [(0, .ref (gad G 220)), (1, .int a0), (2, .int a1), (3, .int r2)] → j24_5 s5 = some Mf → W p l e (Rm 2) s m ([.ref (gad G 220), .int a0, .int a1] : List Value).toArray below meth c H locs 0 0 (QV below ([.ref (gad G 220), .int a0, .int a1] : List Value).toArray s G sz Mf) (F0 m 24 ls [.int s5, .int a0, .ref (gad G 220)]) := by
    intro s5 H locs ls hM hl hF
    rw [ej24_5] at hF
    obtain ⟨M8, h7, hF⟩ := bd_some hF
    refine y_vv (rest := []) C0 hM hl.1 ok_md (ent5 ok_md) rfl (k_X5_moveInRow l G M a0 s5 h7) cw_RX5_43 rfl rfl ⟨Nat.le_of_ble_eq_true rfl, Nat.le_of_ble_eq_true rfl⟩ rfl (Nat.le_of_ble_eq_true rfl) ⟨Nat.le_of_ble_eq_true rfl, Nat.le_of_ble_eq_true rfl⟩ dX5_standAhead_24 (fun H locs hM => ?_)
    refine lv_aload_n C0.1 C0.2.1 dX5_standAhead_27 rfl (lv_at hl 0 rfl) ?_
    refine lv_iload_n C0.1 C0.2.1 dX5_standAhead_28 rfl (lv_at hl 1 rfl) ?_
    refine lv_iconst (v := (1 : Int32)) C0.1 C0.2.1 dX5_standAhead_29 (by decide) ?_
    refine lv_aload_n C0.1 C0.2.1 dX5_standAhead_30 rfl (lv_at hl 0 rfl) ?_
    refine lv_iload_n C0.1 C0.2.1 dX5_standAhead_31 rfl (lv_at hl 2 rfl) ?_
    refine lv_iconst (v := (1 : Int32)) C0.1 C0.2.1 dX5_standAhead_32 (by decide) ?_
    obtain ⟨r10, h9, hF⟩ := bd_some hF
    refine y_vi (rest := [.int (1 : Int32), .int a0, .ref (gad G 220)]) C0 hM hl.1 ok_md (ent5 ok_md) rfl (k_X5_of l G M8 a1 (1 : Int32) h9) cw_RX5_32 rfl rfl ⟨Nat.le_of_ble_eq_true rfl, Nat.le_of_ble_eq_true rfl⟩ rfl (Nat.le_of_ble_eq_true rfl) ⟨Nat.le_of_ble_eq_true rfl, Nat.le_of_ble_eq_true rfl⟩ dX5_standAhead_33 (fun H locs hM => ?_)
    obtain ⟨M12, h11, hF⟩ := bd_some hF
    refine y_vv (rest := []) C0 hM hl.1 ok_md (ent5 ok_md) rfl (k_X5_lay l G M8 a0 (1 : Int32) r10 h11) cw_RX5_47 rfl rfl ⟨Nat.le_of_ble_eq_true rfl, Nat.le_of_ble_eq_true rfl⟩ rfl (Nat.le_of_ble_eq_true rfl) ⟨Nat.le_of_ble_eq_true rfl, Nat.le_of_ble_eq_true rfl⟩ dX5_standAhead_36 (fun H locs hM => ?_)
    have e9 := y_1 hF
    subst e9
    exact y_vret C0 hM hsz dX5_standAhead_39
  refine lv_icmp_ge (tgt := 23) C0.1 C0.2.1 dX5_standAhead_14 (by decide) (fun c13 => ?_) (fun c13 => ?_)
  · have hF := if_t c13 hF
    refine lv_iload_n C0.1 C0.2.1 dX5_standAhead_23 rfl (lv_at hl 0 rfl) ?_
    exact J24 r2 _ _ _ hM (lv_sub hl [1, 2, 3, 0] rfl) hF
  · have hF := if_f c13 hF
    refine lv_iload_n C0.1 C0.2.1 dX5_standAhead_17 rfl (lv_at hl 0 rfl) ?_
    refine lv_iconst (v := (1 : Int32)) C0.1 C0.2.1 dX5_standAhead_18 (by decide) ?_
    refine lv_isub C0.1 C0.2.1 dX5_standAhead_19 ?_
    refine lv_goto (tgt := 24) C0.1 C0.2.1 dX5_standAhead_20 (by decide) ?_
    exact J24 (r2 - (1 : Int32)) _ _ _ hM (lv_sub hl [1, 2, 3, 0] rfl) hF

def F_X5_standBehind (M : MS) (a0 : Int32) (a1 : Int32) : Option MS := (bd (F_X5_placeInRow M a1) fun r2 => (nm (r2 + (1 : Int32)) fun x3 => (bd (F_X5_placeInRow M a0) fun r5 => (nm (fun (s6 : Int32) => (bd (F_X5_moveInRow M a0 s6) fun M9 => (bd (F_X5_of M9 a1 (1 : Int32)) fun r11 => (bd (F_X5_lay M9 a0 (1 : Int32) r11) fun M13 => (some M13))))) fun j26_6 => (if x3 ≤ r5 then (j26_6 x3) else (j26_6 (x3 - (1 : Int32))))))))

set_option maxHeartbeats 4000000 in
set_option maxRecDepth 100000 in
theorem k_X5_standBehind (l : Launch) (G : GG) (M : MS) (a0 : Int32) (a1 : Int32) {Mf : MS} (hF : F_X5_standBehind M a0 a1 = some Mf) : KV l yX5_standBehind (WS yX5_standBehind cX5_standBehind 4 none) (Rm 2) G [.ref (gad G 220), .int a0, .int a1] M Mf := by
  intro sz
  refine y_met (by decide +kernel) (Nat.le_of_ble_eq_true rfl) rfl (fun p e s m below meth c ls hsz C0 hM hl => ?_)
  have hl : lv_has ls 4 [(0, .ref (gad G 220)), (1, .int a0), (2, .int a1)] := hl
  have C0 : CX p s m meth c ([.ref (gad G 220), .int a0, .int a1] : List Value).toArray cX5_standBehind RX5 4 none := C0
  rw [F_X5_standBehind] at hF
  refine lv_aload_n C0.1 C0.2.1 dX5_standBehind_0 rfl (lv_at hl 0 rfl) ?_
  refine lv_iload_n C0.1 C0.2.1 dX5_standBehind_1 rfl (lv_at hl 2 rfl) ?_
  obtain ⟨r2, h1, hF⟩ := bd_some hF
  refine y_vi (rest := []) C0 hM hl.1 ok_md (ent5 ok_md) rfl (k_X5_placeInRow l G M a1 h1) cw_RX5_39 rfl rfl ⟨Nat.le_of_ble_eq_true rfl, Nat.le_of_ble_eq_true rfl⟩ rfl (Nat.le_of_ble_eq_true rfl) ⟨Nat.le_of_ble_eq_true rfl, Nat.le_of_ble_eq_true rfl⟩ dX5_standBehind_2 (fun H locs hM => ?_)
  refine lv_iconst (v := (1 : Int32)) C0.1 C0.2.1 dX5_standBehind_5 (by decide) ?_
  refine lv_iadd C0.1 C0.2.1 dX5_standBehind_6 ?_
  obtain ⟨x3, ex3, hF⟩ := nm_some hF
  refine y_topi ex3 ?_
  refine lv_istore_n (lv' := [(3, .int x3), (0, .ref (gad G 220)), (1, .int a0), (2, .int a1)]) C0.1 C0.2.1 dX5_standBehind_7 rfl hl (by decide) rfl (fun ls hl => ?_)
  refine lv_aload_n C0.1 C0.2.1 dX5_standBehind_8 rfl (lv_at hl 1 rfl) ?_
  refine lv_iload_n C0.1 C0.2.1 dX5_standBehind_9 rfl (lv_at hl 2 rfl) ?_
  refine lv_aload_n C0.1 C0.2.1 dX5_standBehind_10 rfl (lv_at hl 1 rfl) ?_
  refine lv_iload_n C0.1 C0.2.1 dX5_standBehind_11 rfl (lv_at hl 2 rfl) ?_
  obtain ⟨r5, h4, hF⟩ := bd_some hF
  refine y_vi (rest := [.int a0, .ref (gad G 220)]) C0 hM hl.1 ok_md (ent5 ok_md) rfl (k_X5_placeInRow l G M a0 h4) cw_RX5_39 rfl rfl ⟨Nat.le_of_ble_eq_true rfl, Nat.le_of_ble_eq_true rfl⟩ rfl (Nat.le_of_ble_eq_true rfl) ⟨Nat.le_of_ble_eq_true rfl, Nat.le_of_ble_eq_true rfl⟩ dX5_standBehind_12 (fun H locs hM => ?_)
  refine lv_iload_n C0.1 C0.2.1 dX5_standBehind_15 rfl (lv_at hl 0 rfl) ?_
  obtain ⟨j26_6, ej26_6, hF⟩ := nm_some hF
  have J26 : ∀ (s6 : Int32) (H : Heap) (locs : List Loc) (ls : Array Slot), MX G M s H locs → lv_has ls 4 [(0, .ref (gad G 220)), (1, .int a0), (2, .int a1), (3, .int x3)] → j26_6 s6 = some Mf → W p l e (Rm 2) s m ([.ref (gad G 220), .int a0, .int a1] : List Value).toArray below meth c H locs 0 0 (QV below ([.ref (gad G 220), .int a0, .int a1] : List Value).toArray s G sz Mf) (F0 m 26 ls [.int s6, .int a0, .ref (gad G 220)]) := by
    intro s6 H locs ls hM hl hF
    rw [ej26_6] at hF
    obtain ⟨M9, h8, hF⟩ := bd_some hF
    refine y_vv (rest := []) C0 hM hl.1 ok_md (ent5 ok_md) rfl (k_X5_moveInRow l G M a0 s6 h8) cw_RX5_43 rfl rfl ⟨Nat.le_of_ble_eq_true rfl, Nat.le_of_ble_eq_true rfl⟩ rfl (Nat.le_of_ble_eq_true rfl) ⟨Nat.le_of_ble_eq_true rfl, Nat.le_of_ble_eq_true rfl⟩ dX5_standBehind_26 (fun H locs hM => ?_)
    refine lv_aload_n C0.1 C0.2.1 dX5_standBehind_29 rfl (lv_at hl 0 rfl) ?_
    refine lv_iload_n C0.1 C0.2.1 dX5_standBehind_30 rfl (lv_at hl 1 rfl) ?_
    refine lv_iconst (v := (1 : Int32)) C0.1 C0.2.1 dX5_standBehind_31 (by decide) ?_
    refine lv_aload_n C0.1 C0.2.1 dX5_standBehind_32 rfl (lv_at hl 0 rfl) ?_
    refine lv_iload_n C0.1 C0.2.1 dX5_standBehind_33 rfl (lv_at hl 2 rfl) ?_
    refine lv_iconst (v := (1 : Int32)) C0.1 C0.2.1 dX5_standBehind_34 (by decide) ?_
    obtain ⟨r11, h10, hF⟩ := bd_some hF
    refine y_vi (rest := [.int (1 : Int32), .int a0, .ref (gad G 220)]) C0 hM hl.1 ok_md (ent5 ok_md) rfl (k_X5_of l G M9 a1 (1 : Int32) h10) cw_RX5_32 rfl rfl ⟨Nat.le_of_ble_eq_true rfl, Nat.le_of_ble_eq_true rfl⟩ rfl (Nat.le_of_ble_eq_true rfl) ⟨Nat.le_of_ble_eq_true rfl, Nat.le_of_ble_eq_true rfl⟩ dX5_standBehind_35 (fun H locs hM => ?_)
    obtain ⟨M13, h12, hF⟩ := bd_some hF
    refine y_vv (rest := []) C0 hM hl.1 ok_md (ent5 ok_md) rfl (k_X5_lay l G M9 a0 (1 : Int32) r11 h12) cw_RX5_47 rfl rfl ⟨Nat.le_of_ble_eq_true rfl, Nat.le_of_ble_eq_true rfl⟩ rfl (Nat.le_of_ble_eq_true rfl) ⟨Nat.le_of_ble_eq_true rfl, Nat.le_of_ble_eq_true rfl⟩ dX5_standBehind_38 (fun H locs hM => ?_)
    have e9 := y_1 hF
    subst e9
    exact y_vret C0 hM hsz dX5_standBehind_41
  refine lv_icmp_ge (tgt := 25) C0.1 C0.2.1 dX5_standBehind_16 (by decide) (fun c14 => ?_) (fun c14 => ?_)
  · have hF := if_t c14 hF
    refine lv_iload_n C0.1 C0.2.1 dX5_standBehind_25 rfl (lv_at hl 0 rfl) ?_
    exact J26 x3 _ _ _ hM (lv_sub hl [1, 2, 3, 0] rfl) hF
  · have hF := if_f c14 hF
    refine lv_iload_n C0.1 C0.2.1 dX5_standBehind_19 rfl (lv_at hl 0 rfl) ?_
    refine lv_iconst (v := (1 : Int32)) C0.1 C0.2.1 dX5_standBehind_20 (by decide) ?_
    refine lv_isub C0.1 C0.2.1 dX5_standBehind_21 ?_
    refine lv_goto (tgt := 26) C0.1 C0.2.1 dX5_standBehind_22 (by decide) ?_
    exact J26 (x3 - (1 : Int32)) _ _ _ hM (lv_sub hl [1, 2, 3, 0] rfl) hF

def F_X5_haveAllFallen_l4 (M : MS) : Nat → Int32 → Int32 → Option Int32
  | 0, _, _ => none
  | n4 + 1, l1_1, l2_2 => (gdb (inb (0 : Int32) 186) (if (rA M 221 (Int32.toNatClampNeg (0 : Int32))) ≤ l2_2 then (gdb (l1_1 == 0 || l1_1 == 1) (some l1_1)) else (if l1_1 = 0 then (nm (l2_2 + (1 : Int32)) fun x7 => (F_X5_haveAllFallen_l4 M n4 (0 : Int32) x7)) else (bd (F_X5_hasFallen M l2_2) fun r9 => (if r9 = 0 then (nm (l2_2 + (1 : Int32)) fun x11 => (F_X5_haveAllFallen_l4 M n4 (0 : Int32) x11)) else (nm (l2_2 + (1 : Int32)) fun x12 => (F_X5_haveAllFallen_l4 M n4 (1 : Int32) x12)))))))

def F_X5_haveAllFallen (M : MS) : Option Int32 := (F_X5_haveAllFallen_l4 M FU (1 : Int32) (0 : Int32))

set_option maxHeartbeats 4000000 in
set_option maxRecDepth 100000 in
theorem k_X5_haveAllFallen (l : Launch) (G : GG) (M : MS) {r : Int32} (hF : F_X5_haveAllFallen M = some r) : KI l yX5_haveAllFallen (WS yX5_haveAllFallen cX5_haveAllFallen 3 (some .boolean)) (Rm 2) G [.ref (gad G 220)] M r M := by
  intro sz
  refine y_met (by decide +kernel) (Nat.le_of_ble_eq_true rfl) rfl (fun p e s m below meth c ls hsz C0 hM hl => ?_)
  have hl : lv_has ls 3 [(0, .ref (gad G 220))] := hl
  have C0 : CX p s m meth c ([.ref (gad G 220)] : List Value).toArray cX5_haveAllFallen RX5 3 (some .boolean) := C0
  rw [F_X5_haveAllFallen] at hF
  refine lv_iconst (v := (1 : Int32)) C0.1 C0.2.1 dX5_haveAllFallen_0 (by decide) ?_
  refine lv_istore_n (lv' := [(1, .int (1 : Int32)), (0, .ref (gad G 220))]) C0.1 C0.2.1 dX5_haveAllFallen_1 rfl hl (by decide) rfl (fun ls hl => ?_)
  refine lv_iconst (v := (0 : Int32)) C0.1 C0.2.1 dX5_haveAllFallen_2 (by decide) ?_
  refine lv_istore_n (lv' := [(2, .int (0 : Int32)), (1, .int (1 : Int32)), (0, .ref (gad G 220))]) C0.1 C0.2.1 dX5_haveAllFallen_3 rfl hl (by decide) rfl (fun ls hl => ?_)
  have L4 : ∀ (n : Nat) (l1_1 : Int32) (l2_2 : Int32) (H : Heap) (locs : List Loc) (ls : Array Slot), MX G M s H locs → lv_has ls 3 [(0, .ref (gad G 220)), (1, .int l1_1), (2, .int l2_2)] → F_X5_haveAllFallen_l4 M n l1_1 l2_2 = some r → W p l e (Rm 2) s m ([.ref (gad G 220)] : List Value).toArray below meth c H locs 0 0 (QI below ([.ref (gad G 220)] : List Value).toArray s G sz r M) (F0 m 4 ls []) := by
    intro n
    induction n with
    | zero => intro l1_1 l2_2 H locs ls hM hl hF; rw [F_X5_haveAllFallen_l4] at hF; cases hF
    | succ n4 ih4 =>
      intro l1_1 l2_2 H locs ls hM hl hF
      rw [F_X5_haveAllFallen_l4] at hF
      refine lv_iload_n C0.1 C0.2.1 dX5_haveAllFallen_4 rfl (lv_at hl 2 rfl) ?_
      refine lv_aload_n C0.1 C0.2.1 dX5_haveAllFallen_5 rfl (lv_at hl 0 rfl) ?_
      refine gf5_1 C0 hM ok_md fl_RX5_7 dX5_haveAllFallen_6 ?_
      refine lv_iconst (v := (0 : Int32)) C0.1 C0.2.1 dX5_haveAllFallen_9 (by decide) ?_
      obtain ⟨g3, hF⟩ := gdb_some hF
      refine y_iald C0 hM oka_z g3 dX5_haveAllFallen_10 ?_
      refine lv_icmp_ge (tgt := 38) C0.1 C0.2.1 dX5_haveAllFallen_11 (by decide) (fun c4 => ?_) (fun c4 => ?_)
      · have hF := if_t c4 hF
        refine lv_iload_n C0.1 C0.2.1 dX5_haveAllFallen_38 rfl (lv_at hl 1 rfl) ?_
        obtain ⟨g5, hF⟩ := gdb_some hF
        have e8 := y_1 hF
        subst e8
        exact y_zret C0 hM hsz (zob_n g5) dX5_haveAllFallen_39
      · have hF := if_f c4 hF
        refine lv_iload_n C0.1 C0.2.1 dX5_haveAllFallen_14 rfl (lv_at hl 1 rfl) ?_
        refine lv_if_eq (tgt := 30) C0.1 C0.2.1 dX5_haveAllFallen_15 (by decide) (fun c6 => ?_) (fun c6 => ?_)
        · have hF := if_t c6 hF
          refine lv_iconst (v := (0 : Int32)) C0.1 C0.2.1 dX5_haveAllFallen_30 (by decide) ?_
          refine lv_istore_n (lv' := [(1, .int (0 : Int32)), (0, .ref (gad G 220)), (2, .int l2_2)]) C0.1 C0.2.1 dX5_haveAllFallen_31 rfl hl (by decide) rfl (fun ls hl => ?_)
          obtain ⟨x7, ex7, hF⟩ := nm_some hF
          refine lv_iinc (v := x7) (lv' := [(2, .int x7), (1, .int (0 : Int32)), (0, .ref (gad G 220))]) C0.1 C0.2.1 dX5_haveAllFallen_32 hl (k := 2) rfl (by rw [ex7]; rfl) (by decide) rfl (fun ls hl => ?_)
          refine lv_goto (tgt := 4) C0.1 C0.2.1 dX5_haveAllFallen_35 (by decide) ?_
          exact ih4 (0 : Int32) x7 _ _ _ hM (lv_sub hl [2, 1, 0] rfl) hF
        · have hF := if_f c6 hF
          refine lv_aload_n C0.1 C0.2.1 dX5_haveAllFallen_18 rfl (lv_at hl 0 rfl) ?_
          refine lv_iload_n C0.1 C0.2.1 dX5_haveAllFallen_19 rfl (lv_at hl 2 rfl) ?_
          obtain ⟨r9, h8, hF⟩ := bd_some hF
          refine y_vi (rest := []) C0 hM hl.1 ok_md (ent5 ok_md) rfl (k_X5_hasFallen l G M l2_2 h8) cw_RX5_51 rfl rfl ⟨Nat.le_of_ble_eq_true rfl, Nat.le_of_ble_eq_true rfl⟩ rfl (Nat.le_of_ble_eq_true rfl) ⟨Nat.le_of_ble_eq_true rfl, Nat.le_of_ble_eq_true rfl⟩ dX5_haveAllFallen_20 (fun H locs hM => ?_)
          refine lv_if_eq (tgt := 30) C0.1 C0.2.1 dX5_haveAllFallen_23 (by decide) (fun c10 => ?_) (fun c10 => ?_)
          · have hF := if_t c10 hF
            refine lv_iconst (v := (0 : Int32)) C0.1 C0.2.1 dX5_haveAllFallen_30 (by decide) ?_
            refine lv_istore_n (lv' := [(1, .int (0 : Int32)), (0, .ref (gad G 220)), (2, .int l2_2)]) C0.1 C0.2.1 dX5_haveAllFallen_31 rfl hl (by decide) rfl (fun ls hl => ?_)
            obtain ⟨x11, ex11, hF⟩ := nm_some hF
            refine lv_iinc (v := x11) (lv' := [(2, .int x11), (1, .int (0 : Int32)), (0, .ref (gad G 220))]) C0.1 C0.2.1 dX5_haveAllFallen_32 hl (k := 2) rfl (by rw [ex11]; rfl) (by decide) rfl (fun ls hl => ?_)
            refine lv_goto (tgt := 4) C0.1 C0.2.1 dX5_haveAllFallen_35 (by decide) ?_
            exact ih4 (0 : Int32) x11 _ _ _ hM (lv_sub hl [2, 1, 0] rfl) hF
          · have hF := if_f c10 hF
            refine lv_iconst (v := (1 : Int32)) C0.1 C0.2.1 dX5_haveAllFallen_26 (by decide) ?_
            refine lv_goto (tgt := 31) C0.1 C0.2.1 dX5_haveAllFallen_27 (by decide) ?_
            refine lv_istore_n (lv' := [(1, .int (1 : Int32)), (0, .ref (gad G 220)), (2, .int l2_2)]) C0.1 C0.2.1 dX5_haveAllFallen_31 rfl hl (by decide) rfl (fun ls hl => ?_)
            obtain ⟨x12, ex12, hF⟩ := nm_some hF
            refine lv_iinc (v := x12) (lv' := [(2, .int x12), (1, .int (1 : Int32)), (0, .ref (gad G 220))]) C0.1 C0.2.1 dX5_haveAllFallen_32 hl (k := 2) rfl (by rw [ex12]; rfl) (by decide) rfl (fun ls hl => ?_)
            refine lv_goto (tgt := 4) C0.1 C0.2.1 dX5_haveAllFallen_35 (by decide) ?_
            exact ih4 (1 : Int32) x12 _ _ _ hM (lv_sub hl [2, 1, 0] rfl) hF
  exact L4 FU (1 : Int32) (0 : Int32) _ _ _ hM (lv_sub hl [2, 1, 0] rfl) hF

def F_X5_endDelays_l2 : Nat → Int32 → MS → Option MS
  | 0, _, _ => none
  | n2 + 1, l1_1, M2 => (gdb (inb (0 : Int32) 186) (if (rA M2 221 (Int32.toNatClampNeg (0 : Int32))) ≤ l1_1 then (some M2) else (bd (F_X5_lay M2 l1_1 (6 : Int32) (0 : Int32)) fun M6 => (nm (l1_1 + (1 : Int32)) fun x7 => (F_X5_endDelays_l2 n2 x7 M6)))))

def F_X5_endDelays (M : MS) : Option MS := (F_X5_endDelays_l2 FU (0 : Int32) M)

set_option maxHeartbeats 4000000 in
set_option maxRecDepth 100000 in
theorem k_X5_endDelays (l : Launch) (G : GG) (M : MS) {Mf : MS} (hF : F_X5_endDelays M = some Mf) : KV l yX5_endDelays (WS yX5_endDelays cX5_endDelays 2 none) (Rm 1) G [.ref (gad G 220)] M Mf := by
  intro sz
  refine y_met (by decide +kernel) (Nat.le_of_ble_eq_true rfl) rfl (fun p e s m below meth c ls hsz C0 hM hl => ?_)
  have hl : lv_has ls 2 [(0, .ref (gad G 220))] := hl
  have C0 : CX p s m meth c ([.ref (gad G 220)] : List Value).toArray cX5_endDelays RX5 2 none := C0
  rw [F_X5_endDelays] at hF
  refine lv_iconst (v := (0 : Int32)) C0.1 C0.2.1 dX5_endDelays_0 (by decide) ?_
  refine lv_istore_n (lv' := [(1, .int (0 : Int32)), (0, .ref (gad G 220))]) C0.1 C0.2.1 dX5_endDelays_1 rfl hl (by decide) rfl (fun ls hl => ?_)
  have L2 : ∀ (n : Nat) (l1_1 : Int32) (M2 : MS) (H : Heap) (locs : List Loc) (ls : Array Slot), MX G M2 s H locs → lv_has ls 2 [(0, .ref (gad G 220)), (1, .int l1_1)] → F_X5_endDelays_l2 n l1_1 M2 = some Mf → W p l e (Rm 1) s m ([.ref (gad G 220)] : List Value).toArray below meth c H locs 0 0 (QV below ([.ref (gad G 220)] : List Value).toArray s G sz Mf) (F0 m 2 ls []) := by
    intro n
    induction n with
    | zero => intro l1_1 M2 H locs ls hM hl hF; rw [F_X5_endDelays_l2] at hF; cases hF
    | succ n2 ih2 =>
      intro l1_1 M2 H locs ls hM hl hF
      rw [F_X5_endDelays_l2] at hF
      refine lv_iload_n C0.1 C0.2.1 dX5_endDelays_2 rfl (lv_at hl 1 rfl) ?_
      refine lv_aload_n C0.1 C0.2.1 dX5_endDelays_3 rfl (lv_at hl 0 rfl) ?_
      refine gf5_1 C0 hM ok_md fl_RX5_7 dX5_endDelays_4 ?_
      refine lv_iconst (v := (0 : Int32)) C0.1 C0.2.1 dX5_endDelays_7 (by decide) ?_
      obtain ⟨g3, hF⟩ := gdb_some hF
      refine y_iald C0 hM oka_z g3 dX5_endDelays_8 ?_
      refine lv_icmp_ge (tgt := 26) C0.1 C0.2.1 dX5_endDelays_9 (by decide) (fun c4 => ?_) (fun c4 => ?_)
      · have hF := if_t c4 hF
        have e9 := y_1 hF
        subst e9
        exact y_vret C0 hM hsz dX5_endDelays_26
      · have hF := if_f c4 hF
        refine lv_aload_n C0.1 C0.2.1 dX5_endDelays_12 rfl (lv_at hl 0 rfl) ?_
        refine lv_iload_n C0.1 C0.2.1 dX5_endDelays_13 rfl (lv_at hl 1 rfl) ?_
        refine lv_bipush (v := (6 : Int32)) C0.1 C0.2.1 dX5_endDelays_14 (by decide) ?_
        refine lv_iconst (v := (0 : Int32)) C0.1 C0.2.1 dX5_endDelays_16 (by decide) ?_
        obtain ⟨M6, h5, hF⟩ := bd_some hF
        refine y_vv (rest := []) C0 hM hl.1 ok_md (ent5 ok_md) rfl (k_X5_lay l G M2 l1_1 (6 : Int32) (0 : Int32) h5) cw_RX5_47 rfl rfl ⟨Nat.le_of_ble_eq_true rfl, Nat.le_of_ble_eq_true rfl⟩ rfl (Nat.le_of_ble_eq_true rfl) ⟨Nat.le_of_ble_eq_true rfl, Nat.le_of_ble_eq_true rfl⟩ dX5_endDelays_17 (fun H locs hM => ?_)
        obtain ⟨x7, ex7, hF⟩ := nm_some hF
        refine lv_iinc (v := x7) (lv' := [(1, .int x7), (0, .ref (gad G 220))]) C0.1 C0.2.1 dX5_endDelays_20 hl (k := 1) rfl (by rw [ex7]; rfl) (by decide) rfl (fun ls hl => ?_)
        refine lv_goto (tgt := 2) C0.1 C0.2.1 dX5_endDelays_23 (by decide) ?_
        exact ih2 x7 M6 _ _ _ hM (lv_sub hl [1, 0] rfl) hF
  exact L2 FU (0 : Int32) M _ _ _ hM (lv_sub hl [1, 0] rfl) hF

def F_X5_nextFrom_l2 (M : MS) : Nat → Int32 → Option Int32
  | 0, _ => none
  | n2 + 1, l2_1 => (gdb (inb (0 : Int32) 186) (if (rA M 221 (Int32.toNatClampNeg (0 : Int32))) ≤ l2_1 then (some (-1 : Int32)) else (gdb (inb ((6 : Int32) + l2_1) 186) (nm (rA M 221 (Int32.toNatClampNeg ((6 : Int32) + l2_1))) fun x5 => (bd (F_X5_hasFallen M x5) fun r7 => (if ¬ r7 = 0 then (nm (l2_1 + (1 : Int32)) fun x9 => (F_X5_nextFrom_l2 M n2 x9)) else (bd (F_X5_of M x5 (6 : Int32)) fun r11 => (if ¬ r11 = 0 then (nm (l2_1 + (1 : Int32)) fun x13 => (F_X5_nextFrom_l2 M n2 x13)) else (some x5)))))))))

def F_X5_nextFrom (M : MS) (a0 : Int32) : Option Int32 := (F_X5_nextFrom_l2 M FU a0)

set_option maxHeartbeats 4000000 in
set_option maxRecDepth 100000 in
theorem k_X5_nextFrom (l : Launch) (G : GG) (M : MS) (a0 : Int32) {r : Int32} (hF : F_X5_nextFrom M a0 = some r) : KI l yX5_nextFrom (WS yX5_nextFrom cX5_nextFrom 4 (some .int)) (Rm 2) G [.ref (gad G 220), .int a0] M r M := by
  intro sz
  refine y_met (by decide +kernel) (Nat.le_of_ble_eq_true rfl) rfl (fun p e s m below meth c ls hsz C0 hM hl => ?_)
  have hl : lv_has ls 4 [(0, .ref (gad G 220)), (1, .int a0)] := hl
  have C0 : CX p s m meth c ([.ref (gad G 220), .int a0] : List Value).toArray cX5_nextFrom RX5 4 (some .int) := C0
  rw [F_X5_nextFrom] at hF
  refine lv_iload_n C0.1 C0.2.1 dX5_nextFrom_0 rfl (lv_at hl 1 rfl) ?_
  refine lv_istore_n (lv' := [(2, .int a0), (0, .ref (gad G 220)), (1, .int a0)]) C0.1 C0.2.1 dX5_nextFrom_1 rfl hl (by decide) rfl (fun ls hl => ?_)
  have L2 : ∀ (n : Nat) (l2_1 : Int32) (H : Heap) (locs : List Loc) (ls : Array Slot), MX G M s H locs → lv_has ls 4 [(0, .ref (gad G 220)), (1, .int a0), (2, .int l2_1)] → F_X5_nextFrom_l2 M n l2_1 = some r → W p l e (Rm 2) s m ([.ref (gad G 220), .int a0] : List Value).toArray below meth c H locs 0 0 (QI below ([.ref (gad G 220), .int a0] : List Value).toArray s G sz r M) (F0 m 2 ls []) := by
    intro n
    induction n with
    | zero => intro l2_1 H locs ls hM hl hF; rw [F_X5_nextFrom_l2] at hF; cases hF
    | succ n2 ih2 =>
      intro l2_1 H locs ls hM hl hF
      rw [F_X5_nextFrom_l2] at hF
      refine lv_iload_n C0.1 C0.2.1 dX5_nextFrom_2 rfl (lv_at hl 2 rfl) ?_
      refine lv_aload_n C0.1 C0.2.1 dX5_nextFrom_3 rfl (lv_at hl 0 rfl) ?_
      refine gf5_1 C0 hM ok_md fl_RX5_7 dX5_nextFrom_4 ?_
      refine lv_iconst (v := (0 : Int32)) C0.1 C0.2.1 dX5_nextFrom_7 (by decide) ?_
      obtain ⟨g2, hF⟩ := gdb_some hF
      refine y_iald C0 hM oka_z g2 dX5_nextFrom_8 ?_
      refine lv_icmp_ge (tgt := 48) C0.1 C0.2.1 dX5_nextFrom_9 (by decide) (fun c3 => ?_) (fun c3 => ?_)
      · have hF := if_t c3 hF
        refine lv_iconst (v := (-1 : Int32)) C0.1 C0.2.1 dX5_nextFrom_48 (by decide) ?_
        have e8 := y_1 hF
        subst e8
        exact y_iret C0 hM hsz dX5_nextFrom_49
      · have hF := if_f c3 hF
        refine lv_aload_n C0.1 C0.2.1 dX5_nextFrom_12 rfl (lv_at hl 0 rfl) ?_
        refine gf5_1 C0 hM ok_md fl_RX5_7 dX5_nextFrom_13 ?_
        refine lv_bipush (v := (6 : Int32)) C0.1 C0.2.1 dX5_nextFrom_16 (by decide) ?_
        refine lv_iload_n C0.1 C0.2.1 dX5_nextFrom_18 rfl (lv_at hl 2 rfl) ?_
        refine lv_iadd C0.1 C0.2.1 dX5_nextFrom_19 ?_
        obtain ⟨g4, hF⟩ := gdb_some hF
        refine y_iald C0 hM oka_z g4 dX5_nextFrom_20 ?_
        obtain ⟨x5, ex5, hF⟩ := nm_some hF
        refine y_topi ex5 ?_
        refine lv_istore_n (lv' := [(3, .int x5), (0, .ref (gad G 220)), (1, .int a0), (2, .int l2_1)]) C0.1 C0.2.1 dX5_nextFrom_21 rfl hl (by decide) rfl (fun ls hl => ?_)
        refine lv_aload_n C0.1 C0.2.1 dX5_nextFrom_22 rfl (lv_at hl 1 rfl) ?_
        refine lv_iload_n C0.1 C0.2.1 dX5_nextFrom_23 rfl (lv_at hl 0 rfl) ?_
        obtain ⟨r7, h6, hF⟩ := bd_some hF
        refine y_vi (rest := []) C0 hM hl.1 ok_md (ent5 ok_md) rfl (k_X5_hasFallen l G M x5 h6) cw_RX5_51 rfl rfl ⟨Nat.le_of_ble_eq_true rfl, Nat.le_of_ble_eq_true rfl⟩ rfl (Nat.le_of_ble_eq_true rfl) ⟨Nat.le_of_ble_eq_true rfl, Nat.le_of_ble_eq_true rfl⟩ dX5_nextFrom_24 (fun H locs hM => ?_)
        refine lv_if_ne (tgt := 42) C0.1 C0.2.1 dX5_nextFrom_27 (by decide) (fun c8 => ?_) (fun c8 => ?_)
        · have hF := if_t c8 hF
          obtain ⟨x9, ex9, hF⟩ := nm_some hF
          refine lv_iinc (v := x9) (lv' := [(2, .int x9), (3, .int x5), (0, .ref (gad G 220)), (1, .int a0)]) C0.1 C0.2.1 dX5_nextFrom_42 hl (k := 3) rfl (by rw [ex9]; rfl) (by decide) rfl (fun ls hl => ?_)
          refine lv_goto (tgt := 2) C0.1 C0.2.1 dX5_nextFrom_45 (by decide) ?_
          exact ih2 x9 _ _ _ hM (lv_sub hl [2, 3, 0] rfl) hF
        · have hF := if_f (fun q => q c8) hF
          refine lv_aload_n C0.1 C0.2.1 dX5_nextFrom_30 rfl (lv_at hl 1 rfl) ?_
          refine lv_iload_n C0.1 C0.2.1 dX5_nextFrom_31 rfl (lv_at hl 0 rfl) ?_
          refine lv_bipush (v := (6 : Int32)) C0.1 C0.2.1 dX5_nextFrom_32 (by decide) ?_
          obtain ⟨r11, h10, hF⟩ := bd_some hF
          refine y_vi (rest := []) C0 hM hl.1 ok_md (ent5 ok_md) rfl (k_X5_of l G M x5 (6 : Int32) h10) cw_RX5_32 rfl rfl ⟨Nat.le_of_ble_eq_true rfl, Nat.le_of_ble_eq_true rfl⟩ rfl (Nat.le_of_ble_eq_true rfl) ⟨Nat.le_of_ble_eq_true rfl, Nat.le_of_ble_eq_true rfl⟩ dX5_nextFrom_34 (fun H locs hM => ?_)
          refine lv_if_ne (tgt := 42) C0.1 C0.2.1 dX5_nextFrom_37 (by decide) (fun c12 => ?_) (fun c12 => ?_)
          · have hF := if_t c12 hF
            obtain ⟨x13, ex13, hF⟩ := nm_some hF
            refine lv_iinc (v := x13) (lv' := [(2, .int x13), (3, .int x5), (0, .ref (gad G 220)), (1, .int a0)]) C0.1 C0.2.1 dX5_nextFrom_42 hl (k := 3) rfl (by rw [ex13]; rfl) (by decide) rfl (fun ls hl => ?_)
            refine lv_goto (tgt := 2) C0.1 C0.2.1 dX5_nextFrom_45 (by decide) ?_
            exact ih2 x13 _ _ _ hM (lv_sub hl [2, 3, 0] rfl) hF
          · have hF := if_f (fun q => q c12) hF
            refine lv_iload_n C0.1 C0.2.1 dX5_nextFrom_40 rfl (lv_at hl 0 rfl) ?_
            have e8 := y_1 hF
            subst e8
            exact y_iret C0 hM hsz dX5_nextFrom_41
  exact L2 FU a0 _ _ _ hM (lv_sub hl [1, 2, 0] rfl) hF

def F_X5_loseReadied (M : MS) (a0 : Int32) : Option MS := (bd (F_X5_lay M a0 (7 : Int32) (-1 : Int32)) fun M2 => (bd (F_X5_lay M2 a0 (8 : Int32) (-1 : Int32)) fun M4 => (bd (F_X5_lay M4 a0 (9 : Int32) (-1 : Int32)) fun M6 => (bd (F_X5_lay M6 a0 (10 : Int32) (-1 : Int32)) fun M8 => (some M8)))))

set_option maxHeartbeats 4000000 in
set_option maxRecDepth 100000 in
theorem k_X5_loseReadied (l : Launch) (G : GG) (M : MS) (a0 : Int32) {Mf : MS} (hF : F_X5_loseReadied M a0 = some Mf) : KV l yX5_loseReadied (WS yX5_loseReadied cX5_loseReadied 2 none) (Rm 1) G [.ref (gad G 220), .int a0] M Mf := by
  intro sz
  refine y_met (by decide +kernel) (Nat.le_of_ble_eq_true rfl) rfl (fun p e s m below meth c ls hsz C0 hM hl => ?_)
  have hl : lv_has ls 2 [(0, .ref (gad G 220)), (1, .int a0)] := hl
  have C0 : CX p s m meth c ([.ref (gad G 220), .int a0] : List Value).toArray cX5_loseReadied RX5 2 none := C0
  rw [F_X5_loseReadied] at hF
  refine lv_aload_n C0.1 C0.2.1 dX5_loseReadied_0 rfl (lv_at hl 0 rfl) ?_
  refine lv_iload_n C0.1 C0.2.1 dX5_loseReadied_1 rfl (lv_at hl 1 rfl) ?_
  refine lv_bipush (v := (7 : Int32)) C0.1 C0.2.1 dX5_loseReadied_2 (by decide) ?_
  refine lv_iconst (v := (-1 : Int32)) C0.1 C0.2.1 dX5_loseReadied_4 (by decide) ?_
  obtain ⟨M2, h1, hF⟩ := bd_some hF
  refine y_vv (rest := []) C0 hM hl.1 ok_md (ent5 ok_md) rfl (k_X5_lay l G M a0 (7 : Int32) (-1 : Int32) h1) cw_RX5_47 rfl rfl ⟨Nat.le_of_ble_eq_true rfl, Nat.le_of_ble_eq_true rfl⟩ rfl (Nat.le_of_ble_eq_true rfl) ⟨Nat.le_of_ble_eq_true rfl, Nat.le_of_ble_eq_true rfl⟩ dX5_loseReadied_5 (fun H locs hM => ?_)
  refine lv_aload_n C0.1 C0.2.1 dX5_loseReadied_8 rfl (lv_at hl 0 rfl) ?_
  refine lv_iload_n C0.1 C0.2.1 dX5_loseReadied_9 rfl (lv_at hl 1 rfl) ?_
  refine lv_bipush (v := (8 : Int32)) C0.1 C0.2.1 dX5_loseReadied_10 (by decide) ?_
  refine lv_iconst (v := (-1 : Int32)) C0.1 C0.2.1 dX5_loseReadied_12 (by decide) ?_
  obtain ⟨M4, h3, hF⟩ := bd_some hF
  refine y_vv (rest := []) C0 hM hl.1 ok_md (ent5 ok_md) rfl (k_X5_lay l G M2 a0 (8 : Int32) (-1 : Int32) h3) cw_RX5_47 rfl rfl ⟨Nat.le_of_ble_eq_true rfl, Nat.le_of_ble_eq_true rfl⟩ rfl (Nat.le_of_ble_eq_true rfl) ⟨Nat.le_of_ble_eq_true rfl, Nat.le_of_ble_eq_true rfl⟩ dX5_loseReadied_13 (fun H locs hM => ?_)
  refine lv_aload_n C0.1 C0.2.1 dX5_loseReadied_16 rfl (lv_at hl 0 rfl) ?_
  refine lv_iload_n C0.1 C0.2.1 dX5_loseReadied_17 rfl (lv_at hl 1 rfl) ?_
  refine lv_bipush (v := (9 : Int32)) C0.1 C0.2.1 dX5_loseReadied_18 (by decide) ?_
  refine lv_iconst (v := (-1 : Int32)) C0.1 C0.2.1 dX5_loseReadied_20 (by decide) ?_
  obtain ⟨M6, h5, hF⟩ := bd_some hF
  refine y_vv (rest := []) C0 hM hl.1 ok_md (ent5 ok_md) rfl (k_X5_lay l G M4 a0 (9 : Int32) (-1 : Int32) h5) cw_RX5_47 rfl rfl ⟨Nat.le_of_ble_eq_true rfl, Nat.le_of_ble_eq_true rfl⟩ rfl (Nat.le_of_ble_eq_true rfl) ⟨Nat.le_of_ble_eq_true rfl, Nat.le_of_ble_eq_true rfl⟩ dX5_loseReadied_21 (fun H locs hM => ?_)
  refine lv_aload_n C0.1 C0.2.1 dX5_loseReadied_24 rfl (lv_at hl 0 rfl) ?_
  refine lv_iload_n C0.1 C0.2.1 dX5_loseReadied_25 rfl (lv_at hl 1 rfl) ?_
  refine lv_bipush (v := (10 : Int32)) C0.1 C0.2.1 dX5_loseReadied_26 (by decide) ?_
  refine lv_iconst (v := (-1 : Int32)) C0.1 C0.2.1 dX5_loseReadied_28 (by decide) ?_
  obtain ⟨M8, h7, hF⟩ := bd_some hF
  refine y_vv (rest := []) C0 hM hl.1 ok_md (ent5 ok_md) rfl (k_X5_lay l G M6 a0 (10 : Int32) (-1 : Int32) h7) cw_RX5_47 rfl rfl ⟨Nat.le_of_ble_eq_true rfl, Nat.le_of_ble_eq_true rfl⟩ rfl (Nat.le_of_ble_eq_true rfl) ⟨Nat.le_of_ble_eq_true rfl, Nat.le_of_ble_eq_true rfl⟩ dX5_loseReadied_29 (fun H locs hM => ?_)
  have e9 := y_1 hF
  subst e9
  exact y_vret C0 hM hsz dX5_loseReadied_32

def F_X5_endConditions_l2 (a0 : Int32) : Nat → Int32 → MS → Option MS
  | 0, _, _ => none
  | n2 + 1, l2_1, M2 => (if (4 : Int32) ≤ l2_1 then (some M2) else (bd (F_X5_has M2 a0 l2_1) fun r5 => (nm (fun (s6 : Int32) => (bd (F_X5_lay M2 a0 ((11 : Int32) + l2_1) s6) fun M9 => (nm (l2_1 + (1 : Int32)) fun x10 => (F_X5_endConditions_l2 a0 n2 x10 M9)))) fun j37_6 => (if r5 = 0 then (j37_6 (0 : Int32)) else (bd (F_X5_of M2 a0 ((11 : Int32) + l2_1)) fun r13 => (j37_6 (r13 - (1 : Int32))))))))

def F_X5_endConditions (M : MS) (a0 : Int32) : Option MS := (F_X5_endConditions_l2 a0 FU (0 : Int32) M)

set_option maxHeartbeats 4000000 in
set_option maxRecDepth 100000 in
theorem k_X5_endConditions (l : Launch) (G : GG) (M : MS) (a0 : Int32) {Mf : MS} (hF : F_X5_endConditions M a0 = some Mf) : KV l yX5_endConditions (WS yX5_endConditions cX5_endConditions 3 none) (Rm 2) G [.ref (gad G 220), .int a0] M Mf := by
  intro sz
  refine y_met (by decide +kernel) (Nat.le_of_ble_eq_true rfl) rfl (fun p e s m below meth c ls hsz C0 hM hl => ?_)
  have hl : lv_has ls 3 [(0, .ref (gad G 220)), (1, .int a0)] := hl
  have C0 : CX p s m meth c ([.ref (gad G 220), .int a0] : List Value).toArray cX5_endConditions RX5 3 none := C0
  rw [F_X5_endConditions] at hF
  refine lv_iconst (v := (0 : Int32)) C0.1 C0.2.1 dX5_endConditions_0 (by decide) ?_
  refine lv_istore_n (lv' := [(2, .int (0 : Int32)), (0, .ref (gad G 220)), (1, .int a0)]) C0.1 C0.2.1 dX5_endConditions_1 rfl hl (by decide) rfl (fun ls hl => ?_)
  have L2 : ∀ (n : Nat) (l2_1 : Int32) (M2 : MS) (H : Heap) (locs : List Loc) (ls : Array Slot), MX G M2 s H locs → lv_has ls 3 [(0, .ref (gad G 220)), (1, .int a0), (2, .int l2_1)] → F_X5_endConditions_l2 a0 n l2_1 M2 = some Mf → W p l e (Rm 2) s m ([.ref (gad G 220), .int a0] : List Value).toArray below meth c H locs 0 0 (QV below ([.ref (gad G 220), .int a0] : List Value).toArray s G sz Mf) (F0 m 2 ls []) := by
    intro n
    induction n with
    | zero => intro l2_1 M2 H locs ls hM hl hF; rw [F_X5_endConditions_l2] at hF; cases hF
    | succ n2 ih2 =>
      intro l2_1 M2 H locs ls hM hl hF
      rw [F_X5_endConditions_l2] at hF
      refine lv_iload_n C0.1 C0.2.1 dX5_endConditions_2 rfl (lv_at hl 2 rfl) ?_
      refine lv_iconst (v := (4 : Int32)) C0.1 C0.2.1 dX5_endConditions_3 (by decide) ?_
      refine lv_icmp_ge (tgt := 46) C0.1 C0.2.1 dX5_endConditions_4 (by decide) (fun c3 => ?_) (fun c3 => ?_)
      · have hF := if_t c3 hF
        have e9 := y_1 hF
        subst e9
        exact y_vret C0 hM hsz dX5_endConditions_46
      · have hF := if_f c3 hF
        refine lv_aload_n C0.1 C0.2.1 dX5_endConditions_7 rfl (lv_at hl 0 rfl) ?_
        refine lv_iload_n C0.1 C0.2.1 dX5_endConditions_8 rfl (lv_at hl 1 rfl) ?_
        refine lv_bipush (v := (11 : Int32)) C0.1 C0.2.1 dX5_endConditions_9 (by decide) ?_
        refine lv_iload_n C0.1 C0.2.1 dX5_endConditions_11 rfl (lv_at hl 2 rfl) ?_
        refine lv_iadd C0.1 C0.2.1 dX5_endConditions_12 ?_
        refine lv_aload_n C0.1 C0.2.1 dX5_endConditions_13 rfl (lv_at hl 0 rfl) ?_
        refine lv_iload_n C0.1 C0.2.1 dX5_endConditions_14 rfl (lv_at hl 1 rfl) ?_
        refine lv_iload_n C0.1 C0.2.1 dX5_endConditions_15 rfl (lv_at hl 2 rfl) ?_
        obtain ⟨r5, h4, hF⟩ := bd_some hF
        refine y_vi (rest := [.int ((11 : Int32) + l2_1), .int a0, .ref (gad G 220)]) C0 hM hl.1 ok_md (ent5 ok_md) rfl (k_X5_has l G M2 a0 l2_1 h4) cw_RX5_55 rfl rfl ⟨Nat.le_of_ble_eq_true rfl, Nat.le_of_ble_eq_true rfl⟩ rfl (Nat.le_of_ble_eq_true rfl) ⟨Nat.le_of_ble_eq_true rfl, Nat.le_of_ble_eq_true rfl⟩ dX5_endConditions_16 (fun H locs hM => ?_)
        obtain ⟨j37_6, ej37_6, hF⟩ := nm_some hF
        have J37 : ∀ (s6 : Int32) (H : Heap) (locs : List Loc) (ls : Array Slot), MX G M2 s H locs → lv_has ls 3 [(0, .ref (gad G 220)), (1, .int a0), (2, .int l2_1)] → j37_6 s6 = some Mf → W p l e (Rm 2) s m ([.ref (gad G 220), .int a0] : List Value).toArray below meth c H locs 0 0 (QV below ([.ref (gad G 220), .int a0] : List Value).toArray s G sz Mf) (F0 m 37 ls [.int s6, .int ((11 : Int32) + l2_1), .int a0, .ref (gad G 220)]) := by
          intro s6 H locs ls hM hl hF
          rw [ej37_6] at hF
          obtain ⟨M9, h8, hF⟩ := bd_some hF
          refine y_vv (rest := []) C0 hM hl.1 ok_md (ent5 ok_md) rfl (k_X5_lay l G M2 a0 ((11 : Int32) + l2_1) s6 h8) cw_RX5_47 rfl rfl ⟨Nat.le_of_ble_eq_true rfl, Nat.le_of_ble_eq_true rfl⟩ rfl (Nat.le_of_ble_eq_true rfl) ⟨Nat.le_of_ble_eq_true rfl, Nat.le_of_ble_eq_true rfl⟩ dX5_endConditions_37 (fun H locs hM => ?_)
          obtain ⟨x10, ex10, hF⟩ := nm_some hF
          refine lv_iinc (v := x10) (lv' := [(2, .int x10), (0, .ref (gad G 220)), (1, .int a0)]) C0.1 C0.2.1 dX5_endConditions_40 hl (k := 2) rfl (by rw [ex10]; rfl) (by decide) rfl (fun ls hl => ?_)
          refine lv_goto (tgt := 2) C0.1 C0.2.1 dX5_endConditions_43 (by decide) ?_
          exact ih2 x10 M9 _ _ _ hM (lv_sub hl [1, 2, 0] rfl) hF
        refine lv_if_eq (tgt := 36) C0.1 C0.2.1 dX5_endConditions_19 (by decide) (fun c11 => ?_) (fun c11 => ?_)
        · have hF := if_t c11 hF
          refine lv_iconst (v := (0 : Int32)) C0.1 C0.2.1 dX5_endConditions_36 (by decide) ?_
          exact J37 (0 : Int32) _ _ _ hM (lv_sub hl [0, 1, 2] rfl) hF
        · have hF := if_f c11 hF
          refine lv_aload_n C0.1 C0.2.1 dX5_endConditions_22 rfl (lv_at hl 0 rfl) ?_
          refine lv_iload_n C0.1 C0.2.1 dX5_endConditions_23 rfl (lv_at hl 1 rfl) ?_
          refine lv_bipush (v := (11 : Int32)) C0.1 C0.2.1 dX5_endConditions_24 (by decide) ?_
          refine lv_iload_n C0.1 C0.2.1 dX5_endConditions_26 rfl (lv_at hl 2 rfl) ?_
          refine lv_iadd C0.1 C0.2.1 dX5_endConditions_27 ?_
          obtain ⟨r13, h12, hF⟩ := bd_some hF
          refine y_vi (rest := [.int ((11 : Int32) + l2_1), .int a0, .ref (gad G 220)]) C0 hM hl.1 ok_md (ent5 ok_md) rfl (k_X5_of l G M2 a0 ((11 : Int32) + l2_1) h12) cw_RX5_32 rfl rfl ⟨Nat.le_of_ble_eq_true rfl, Nat.le_of_ble_eq_true rfl⟩ rfl (Nat.le_of_ble_eq_true rfl) ⟨Nat.le_of_ble_eq_true rfl, Nat.le_of_ble_eq_true rfl⟩ dX5_endConditions_28 (fun H locs hM => ?_)
          refine lv_iconst (v := (1 : Int32)) C0.1 C0.2.1 dX5_endConditions_31 (by decide) ?_
          refine lv_isub C0.1 C0.2.1 dX5_endConditions_32 ?_
          refine lv_goto (tgt := 37) C0.1 C0.2.1 dX5_endConditions_33 (by decide) ?_
          exact J37 (r13 - (1 : Int32)) _ _ _ hM (lv_sub hl [0, 1, 2] rfl) hF
  exact L2 FU (0 : Int32) M _ _ _ hM (lv_sub hl [1, 2, 0] rfl) hF

def F_X5_beginTurn (M : MS) (a0 : Int32) : Option (Int32 × MS) := (gdb (inb (2 : Int32) 186) (nm (wA M 221 (Int32.toNatClampNeg (2 : Int32)) a0) fun M2 => (gdb (inb (5 : Int32) 186) (gdb (inb (5 : Int32) 186) (nm (wA M2 221 (Int32.toNatClampNeg (5 : Int32)) ((rA M2 221 (Int32.toNatClampNeg (5 : Int32))) + (1 : Int32))) fun M5 => (bd (F_X5_loseReadied M5 a0) fun M7 => (bd (F_X5_has M7 a0 (3 : Int32)) fun r9 => (nm (fun (M10 : MS) => (bd (F_X5_hasFallen M10 a0) fun r13 => (if ¬ r13 = 0 then (some ((0 : Int32), M10)) else (bd (F_X5_has M10 a0 (0 : Int32)) fun r16 => (if ¬ r16 = 0 then (some ((0 : Int32), M10)) else (some ((1 : Int32), M10))))))) fun j59_10 => (if r9 = 0 then (j59_10 M7) else (bd (F_X5_of M7 a0 (2 : Int32)) fun r20 => (nm (fun (s21 : Int32) => (bd (F_X5_lay M7 a0 (2 : Int32) s21) fun M24 => (j59_10 M24))) fun j56_21 => (if (2 : Int32) ≤ r20 then (bd (F_X5_of M7 a0 (2 : Int32)) fun r27 => (j56_21 (r27 - (2 : Int32)))) else (j56_21 (0 : Int32))))))))))))))

set_option maxHeartbeats 4000000 in
set_option maxRecDepth 100000 in
theorem k_X5_beginTurn (l : Launch) (G : GG) (M : MS) (a0 : Int32) {r : Int32} {Mf : MS} (hF : F_X5_beginTurn M a0 = some (r, Mf)) : KI l yX5_beginTurn (WS yX5_beginTurn cX5_beginTurn 2 (some .boolean)) (Rm 2) G [.ref (gad G 220), .int a0] M r Mf := by
  intro sz
  refine y_met (by decide +kernel) (Nat.le_of_ble_eq_true rfl) rfl (fun p e s m below meth c ls hsz C0 hM hl => ?_)
  have hl : lv_has ls 2 [(0, .ref (gad G 220)), (1, .int a0)] := hl
  have C0 : CX p s m meth c ([.ref (gad G 220), .int a0] : List Value).toArray cX5_beginTurn RX5 2 (some .boolean) := C0
  rw [F_X5_beginTurn] at hF
  refine lv_aload_n C0.1 C0.2.1 dX5_beginTurn_0 rfl (lv_at hl 0 rfl) ?_
  refine gf5_1 C0 hM ok_md fl_RX5_7 dX5_beginTurn_1 ?_
  refine lv_iconst (v := (2 : Int32)) C0.1 C0.2.1 dX5_beginTurn_4 (by decide) ?_
  refine lv_iload_n C0.1 C0.2.1 dX5_beginTurn_5 rfl (lv_at hl 1 rfl) ?_
  obtain ⟨g1, hF⟩ := gdb_some hF
  refine y_iast C0 hM oka_z g1 dX5_beginTurn_6 (fun H locs hM => ?_)
  obtain ⟨M2, eM2, hF⟩ := nm_some hF
  have hM := y_mn eM2 hM
  refine lv_aload_n C0.1 C0.2.1 dX5_beginTurn_7 rfl (lv_at hl 0 rfl) ?_
  refine gf5_1 C0 hM ok_md fl_RX5_7 dX5_beginTurn_8 ?_
  refine lv_iconst (v := (5 : Int32)) C0.1 C0.2.1 dX5_beginTurn_11 (by decide) ?_
  refine lv_dup2_11 C0.1 C0.2.1 dX5_beginTurn_12 rfl rfl ?_
  obtain ⟨g3, hF⟩ := gdb_some hF
  refine y_iald C0 hM oka_z g3 dX5_beginTurn_13 ?_
  refine lv_iconst (v := (1 : Int32)) C0.1 C0.2.1 dX5_beginTurn_14 (by decide) ?_
  refine lv_iadd C0.1 C0.2.1 dX5_beginTurn_15 ?_
  obtain ⟨g4, hF⟩ := gdb_some hF
  refine y_iast C0 hM oka_z g4 dX5_beginTurn_16 (fun H locs hM => ?_)
  obtain ⟨M5, eM5, hF⟩ := nm_some hF
  have hM := y_mn eM5 hM
  refine lv_aload_n C0.1 C0.2.1 dX5_beginTurn_17 rfl (lv_at hl 0 rfl) ?_
  refine lv_iload_n C0.1 C0.2.1 dX5_beginTurn_18 rfl (lv_at hl 1 rfl) ?_
  obtain ⟨M7, h6, hF⟩ := bd_some hF
  refine y_vv (rest := []) C0 hM hl.1 ok_md (ent5 ok_md) rfl (k_X5_loseReadied l G M5 a0 h6) cw_RX5_59 rfl rfl ⟨Nat.le_of_ble_eq_true rfl, Nat.le_of_ble_eq_true rfl⟩ rfl (Nat.le_of_ble_eq_true rfl) ⟨Nat.le_of_ble_eq_true rfl, Nat.le_of_ble_eq_true rfl⟩ dX5_beginTurn_19 (fun H locs hM => ?_)
  refine lv_aload_n C0.1 C0.2.1 dX5_beginTurn_22 rfl (lv_at hl 0 rfl) ?_
  refine lv_iload_n C0.1 C0.2.1 dX5_beginTurn_23 rfl (lv_at hl 1 rfl) ?_
  refine lv_iconst (v := (3 : Int32)) C0.1 C0.2.1 dX5_beginTurn_24 (by decide) ?_
  obtain ⟨r9, h8, hF⟩ := bd_some hF
  refine y_vi (rest := []) C0 hM hl.1 ok_md (ent5 ok_md) rfl (k_X5_has l G M7 a0 (3 : Int32) h8) cw_RX5_55 rfl rfl ⟨Nat.le_of_ble_eq_true rfl, Nat.le_of_ble_eq_true rfl⟩ rfl (Nat.le_of_ble_eq_true rfl) ⟨Nat.le_of_ble_eq_true rfl, Nat.le_of_ble_eq_true rfl⟩ dX5_beginTurn_25 (fun H locs hM => ?_)
  obtain ⟨j59_10, ej59_10, hF⟩ := nm_some hF
  have J59 : ∀ (M10 : MS) (H : Heap) (locs : List Loc) (ls : Array Slot), MX G M10 s H locs → lv_has ls 2 [(0, .ref (gad G 220)), (1, .int a0)] → j59_10 M10 = some (r, Mf) → W p l e (Rm 2) s m ([.ref (gad G 220), .int a0] : List Value).toArray below meth c H locs 0 0 (QI below ([.ref (gad G 220), .int a0] : List Value).toArray s G sz r Mf) (F0 m 59 ls []) := by
    intro M10 H locs ls hM hl hF
    rw [ej59_10] at hF
    refine lv_aload_n C0.1 C0.2.1 dX5_beginTurn_59 rfl (lv_at hl 0 rfl) ?_
    refine lv_iload_n C0.1 C0.2.1 dX5_beginTurn_60 rfl (lv_at hl 1 rfl) ?_
    obtain ⟨r13, h12, hF⟩ := bd_some hF
    refine y_vi (rest := []) C0 hM hl.1 ok_md (ent5 ok_md) rfl (k_X5_hasFallen l G M10 a0 h12) cw_RX5_51 rfl rfl ⟨Nat.le_of_ble_eq_true rfl, Nat.le_of_ble_eq_true rfl⟩ rfl (Nat.le_of_ble_eq_true rfl) ⟨Nat.le_of_ble_eq_true rfl, Nat.le_of_ble_eq_true rfl⟩ dX5_beginTurn_61 (fun H locs hM => ?_)
    refine lv_if_ne (tgt := 80) C0.1 C0.2.1 dX5_beginTurn_64 (by decide) (fun c14 => ?_) (fun c14 => ?_)
    · have hF := if_t c14 hF
      refine lv_iconst (v := (0 : Int32)) C0.1 C0.2.1 dX5_beginTurn_80 (by decide) ?_
      obtain ⟨e8, e9⟩ := y_2 hF
      subst e8
      subst e9
      exact y_zret C0 hM hsz rfl dX5_beginTurn_81
    · have hF := if_f (fun q => q c14) hF
      refine lv_aload_n C0.1 C0.2.1 dX5_beginTurn_67 rfl (lv_at hl 0 rfl) ?_
      refine lv_iload_n C0.1 C0.2.1 dX5_beginTurn_68 rfl (lv_at hl 1 rfl) ?_
      refine lv_iconst (v := (0 : Int32)) C0.1 C0.2.1 dX5_beginTurn_69 (by decide) ?_
      obtain ⟨r16, h15, hF⟩ := bd_some hF
      refine y_vi (rest := []) C0 hM hl.1 ok_md (ent5 ok_md) rfl (k_X5_has l G M10 a0 (0 : Int32) h15) cw_RX5_55 rfl rfl ⟨Nat.le_of_ble_eq_true rfl, Nat.le_of_ble_eq_true rfl⟩ rfl (Nat.le_of_ble_eq_true rfl) ⟨Nat.le_of_ble_eq_true rfl, Nat.le_of_ble_eq_true rfl⟩ dX5_beginTurn_70 (fun H locs hM => ?_)
      refine lv_if_ne (tgt := 80) C0.1 C0.2.1 dX5_beginTurn_73 (by decide) (fun c17 => ?_) (fun c17 => ?_)
      · have hF := if_t c17 hF
        refine lv_iconst (v := (0 : Int32)) C0.1 C0.2.1 dX5_beginTurn_80 (by decide) ?_
        obtain ⟨e8, e9⟩ := y_2 hF
        subst e8
        subst e9
        exact y_zret C0 hM hsz rfl dX5_beginTurn_81
      · have hF := if_f (fun q => q c17) hF
        refine lv_iconst (v := (1 : Int32)) C0.1 C0.2.1 dX5_beginTurn_76 (by decide) ?_
        refine lv_goto (tgt := 81) C0.1 C0.2.1 dX5_beginTurn_77 (by decide) ?_
        obtain ⟨e8, e9⟩ := y_2 hF
        subst e8
        subst e9
        exact y_zret C0 hM hsz rfl dX5_beginTurn_81
  refine lv_if_eq (tgt := 59) C0.1 C0.2.1 dX5_beginTurn_28 (by decide) (fun c18 => ?_) (fun c18 => ?_)
  · have hF := if_t c18 hF
    exact J59 M7 _ _ _ hM (lv_sub hl [0, 1] rfl) hF
  · have hF := if_f c18 hF
    refine lv_aload_n C0.1 C0.2.1 dX5_beginTurn_31 rfl (lv_at hl 0 rfl) ?_
    refine lv_iload_n C0.1 C0.2.1 dX5_beginTurn_32 rfl (lv_at hl 1 rfl) ?_
    refine lv_iconst (v := (2 : Int32)) C0.1 C0.2.1 dX5_beginTurn_33 (by decide) ?_
    refine lv_aload_n C0.1 C0.2.1 dX5_beginTurn_34 rfl (lv_at hl 0 rfl) ?_
    refine lv_iload_n C0.1 C0.2.1 dX5_beginTurn_35 rfl (lv_at hl 1 rfl) ?_
    refine lv_iconst (v := (2 : Int32)) C0.1 C0.2.1 dX5_beginTurn_36 (by decide) ?_
    obtain ⟨r20, h19, hF⟩ := bd_some hF
    refine y_vi (rest := [.int (2 : Int32), .int a0, .ref (gad G 220)]) C0 hM hl.1 ok_md (ent5 ok_md) rfl (k_X5_of l G M7 a0 (2 : Int32) h19) cw_RX5_32 rfl rfl ⟨Nat.le_of_ble_eq_true rfl, Nat.le_of_ble_eq_true rfl⟩ rfl (Nat.le_of_ble_eq_true rfl) ⟨Nat.le_of_ble_eq_true rfl, Nat.le_of_ble_eq_true rfl⟩ dX5_beginTurn_37 (fun H locs hM => ?_)
    refine lv_iconst (v := (2 : Int32)) C0.1 C0.2.1 dX5_beginTurn_40 (by decide) ?_
    obtain ⟨j56_21, ej56_21, hF⟩ := nm_some hF
    have J56 : ∀ (s21 : Int32) (H : Heap) (locs : List Loc) (ls : Array Slot), MX G M7 s H locs → lv_has ls 2 [(0, .ref (gad G 220)), (1, .int a0)] → j56_21 s21 = some (r, Mf) → W p l e (Rm 2) s m ([.ref (gad G 220), .int a0] : List Value).toArray below meth c H locs 0 0 (QI below ([.ref (gad G 220), .int a0] : List Value).toArray s G sz r Mf) (F0 m 56 ls [.int s21, .int (2 : Int32), .int a0, .ref (gad G 220)]) := by
      intro s21 H locs ls hM hl hF
      rw [ej56_21] at hF
      obtain ⟨M24, h23, hF⟩ := bd_some hF
      refine y_vv (rest := []) C0 hM hl.1 ok_md (ent5 ok_md) rfl (k_X5_lay l G M7 a0 (2 : Int32) s21 h23) cw_RX5_47 rfl rfl ⟨Nat.le_of_ble_eq_true rfl, Nat.le_of_ble_eq_true rfl⟩ rfl (Nat.le_of_ble_eq_true rfl) ⟨Nat.le_of_ble_eq_true rfl, Nat.le_of_ble_eq_true rfl⟩ dX5_beginTurn_56 (fun H locs hM => ?_)
      exact J59 M24 _ _ _ hM (lv_sub hl [0, 1] rfl) hF
    refine lv_icmp_ge (tgt := 48) C0.1 C0.2.1 dX5_beginTurn_41 (by decide) (fun c25 => ?_) (fun c25 => ?_)
    · have hF := if_t c25 hF
      refine lv_aload_n C0.1 C0.2.1 dX5_beginTurn_48 rfl (lv_at hl 0 rfl) ?_
      refine lv_iload_n C0.1 C0.2.1 dX5_beginTurn_49 rfl (lv_at hl 1 rfl) ?_
      refine lv_iconst (v := (2 : Int32)) C0.1 C0.2.1 dX5_beginTurn_50 (by decide) ?_
      obtain ⟨r27, h26, hF⟩ := bd_some hF
      refine y_vi (rest := [.int (2 : Int32), .int a0, .ref (gad G 220)]) C0 hM hl.1 ok_md (ent5 ok_md) rfl (k_X5_of l G M7 a0 (2 : Int32) h26) cw_RX5_32 rfl rfl ⟨Nat.le_of_ble_eq_true rfl, Nat.le_of_ble_eq_true rfl⟩ rfl (Nat.le_of_ble_eq_true rfl) ⟨Nat.le_of_ble_eq_true rfl, Nat.le_of_ble_eq_true rfl⟩ dX5_beginTurn_51 (fun H locs hM => ?_)
      refine lv_iconst (v := (2 : Int32)) C0.1 C0.2.1 dX5_beginTurn_54 (by decide) ?_
      refine lv_isub C0.1 C0.2.1 dX5_beginTurn_55 ?_
      exact J56 (r27 - (2 : Int32)) _ _ _ hM (lv_sub hl [0, 1] rfl) hF
    · have hF := if_f c25 hF
      refine lv_iconst (v := (0 : Int32)) C0.1 C0.2.1 dX5_beginTurn_44 (by decide) ?_
      refine lv_goto (tgt := 56) C0.1 C0.2.1 dX5_beginTurn_45 (by decide) ?_
      exact J56 (0 : Int32) _ _ _ hM (lv_sub hl [0, 1] rfl) hF

def F_X5_goOn_l2 : Nat → Int32 → MS → Option MS
  | 0, _, _ => none
  | n2 + 1, l2_1, M2 => (bd (F_X5_haveAllFallen M2) fun r4 => (if ¬ r4 = 0 then (gdb (inb (2 : Int32) 186) (nm (wA M2 221 (Int32.toNatClampNeg (2 : Int32)) (-1 : Int32)) fun M7 => (some M7))) else (bd (F_X5_nextFrom M2 l2_1) fun r9 => (nm (fun (l3_10 : Int32) (M11 : MS) => (bd2 (F_X5_beginTurn M11 l3_10) fun r15 M14 => (if r15 = 0 then (bd (F_X5_endConditions M14 l3_10) fun M18 => (bd (F_X5_placeInRow M18 l3_10) fun r20 => (nm (r20 + (1 : Int32)) fun x21 => (F_X5_goOn_l2 n2 x21 M18)))) else (some M14)))) fun j40_11 => (if ¬ r9 = (-1 : Int32) then (j40_11 r9 M2) else (gdb (inb (1 : Int32) 186) (gdb (inb (1 : Int32) 186) (nm (wA M2 221 (Int32.toNatClampNeg (1 : Int32)) ((rA M2 221 (Int32.toNatClampNeg (1 : Int32))) + (1 : Int32))) fun M25 => (bd (F_X5_endDelays M25) fun M27 => (bd (F_X5_nextFrom M27 (0 : Int32)) fun r29 => (j40_11 r29 M27)))))))))))

def F_X5_goOn (M : MS) (a0 : Int32) : Option MS := (F_X5_goOn_l2 FU a0 M)

set_option maxHeartbeats 4000000 in
set_option maxRecDepth 100000 in
theorem k_X5_goOn (l : Launch) (G : GG) (M : MS) (a0 : Int32) {Mf : MS} (hF : F_X5_goOn M a0 = some Mf) : KV l yX5_goOn (WS yX5_goOn cX5_goOn 4 none) (Rm 3) G [.ref (gad G 220), .int a0] M Mf := by
  intro sz
  refine y_met (by decide +kernel) (Nat.le_of_ble_eq_true rfl) rfl (fun p e s m below meth c ls hsz C0 hM hl => ?_)
  have hl : lv_has ls 4 [(0, .ref (gad G 220)), (1, .int a0)] := hl
  have C0 : CX p s m meth c ([.ref (gad G 220), .int a0] : List Value).toArray cX5_goOn RX5 4 none := C0
  rw [F_X5_goOn] at hF
  refine lv_iload_n C0.1 C0.2.1 dX5_goOn_0 rfl (lv_at hl 1 rfl) ?_
  refine lv_istore_n (lv' := [(2, .int a0), (0, .ref (gad G 220)), (1, .int a0)]) C0.1 C0.2.1 dX5_goOn_1 rfl hl (by decide) rfl (fun ls hl => ?_)
  have L2 : ∀ (n : Nat) (l2_1 : Int32) (M2 : MS) (H : Heap) (locs : List Loc) (ls : Array Slot), MX G M2 s H locs → lv_has ls 4 [(0, .ref (gad G 220)), (1, .int a0), (2, .int l2_1)] → F_X5_goOn_l2 n l2_1 M2 = some Mf → W p l e (Rm 3) s m ([.ref (gad G 220), .int a0] : List Value).toArray below meth c H locs 0 0 (QV below ([.ref (gad G 220), .int a0] : List Value).toArray s G sz Mf) (F0 m 2 ls []) := by
    intro n
    induction n with
    | zero => intro l2_1 M2 H locs ls hM hl hF; rw [F_X5_goOn_l2] at hF; cases hF
    | succ n2 ih2 =>
      intro l2_1 M2 H locs ls hM hl hF
      rw [F_X5_goOn_l2] at hF
      refine lv_aload_n C0.1 C0.2.1 dX5_goOn_2 rfl (lv_at hl 0 rfl) ?_
      obtain ⟨r4, h3, hF⟩ := bd_some hF
      refine y_vi (rest := []) C0 hM hl.1 ok_md (ent5 ok_md) rfl (k_X5_haveAllFallen l G M2 h3) cw_RX5_63 rfl rfl ⟨Nat.le_of_ble_eq_true rfl, Nat.le_of_ble_eq_true rfl⟩ rfl (Nat.le_of_ble_eq_true rfl) ⟨Nat.le_of_ble_eq_true rfl, Nat.le_of_ble_eq_true rfl⟩ dX5_goOn_3 (fun H locs hM => ?_)
      refine lv_if_ne (tgt := 65) C0.1 C0.2.1 dX5_goOn_6 (by decide) (fun c5 => ?_) (fun c5 => ?_)
      · have hF := if_t c5 hF
        refine lv_aload_n C0.1 C0.2.1 dX5_goOn_65 rfl (lv_at hl 0 rfl) ?_
        refine gf5_1 C0 hM ok_md fl_RX5_7 dX5_goOn_66 ?_
        refine lv_iconst (v := (2 : Int32)) C0.1 C0.2.1 dX5_goOn_69 (by decide) ?_
        refine lv_iconst (v := (-1 : Int32)) C0.1 C0.2.1 dX5_goOn_70 (by decide) ?_
        obtain ⟨g6, hF⟩ := gdb_some hF
        refine y_iast C0 hM oka_z g6 dX5_goOn_71 (fun H locs hM => ?_)
        obtain ⟨M7, eM7, hF⟩ := nm_some hF
        have hM := y_mn eM7 hM
        have e9 := y_1 hF
        subst e9
        exact y_vret C0 hM hsz dX5_goOn_72
      · have hF := if_f (fun q => q c5) hF
        refine lv_aload_n C0.1 C0.2.1 dX5_goOn_9 rfl (lv_at hl 0 rfl) ?_
        refine lv_iload_n C0.1 C0.2.1 dX5_goOn_10 rfl (lv_at hl 2 rfl) ?_
        obtain ⟨r9, h8, hF⟩ := bd_some hF
        refine y_vi (rest := []) C0 hM hl.1 ok_md (ent5 ok_md) rfl (k_X5_nextFrom l G M2 l2_1 h8) cw_RX5_67 rfl rfl ⟨Nat.le_of_ble_eq_true rfl, Nat.le_of_ble_eq_true rfl⟩ rfl (Nat.le_of_ble_eq_true rfl) ⟨Nat.le_of_ble_eq_true rfl, Nat.le_of_ble_eq_true rfl⟩ dX5_goOn_11 (fun H locs hM => ?_)
        refine lv_istore_n (lv' := [(3, .int r9), (0, .ref (gad G 220)), (1, .int a0), (2, .int l2_1)]) C0.1 C0.2.1 dX5_goOn_14 rfl hl (by decide) rfl (fun ls hl => ?_)
        refine lv_iload_n C0.1 C0.2.1 dX5_goOn_15 rfl (lv_at hl 0 rfl) ?_
        refine lv_iconst (v := (-1 : Int32)) C0.1 C0.2.1 dX5_goOn_16 (by decide) ?_
        obtain ⟨j40_11, ej40_11, hF⟩ := nm_some hF
        have J40 : ∀ (l3_10 : Int32) (M11 : MS) (H : Heap) (locs : List Loc) (ls : Array Slot), MX G M11 s H locs → lv_has ls 4 [(0, .ref (gad G 220)), (1, .int a0), (2, .int l2_1), (3, .int l3_10)] → j40_11 l3_10 M11 = some Mf → W p l e (Rm 3) s m ([.ref (gad G 220), .int a0] : List Value).toArray below meth c H locs 0 0 (QV below ([.ref (gad G 220), .int a0] : List Value).toArray s G sz Mf) (F0 m 40 ls []) := by
          intro l3_10 M11 H locs ls hM hl hF
          rw [ej40_11] at hF
          refine lv_aload_n C0.1 C0.2.1 dX5_goOn_40 rfl (lv_at hl 0 rfl) ?_
          refine lv_iload_n C0.1 C0.2.1 dX5_goOn_41 rfl (lv_at hl 3 rfl) ?_
          obtain ⟨r15, M14, h13, hF⟩ := bd2_some hF
          refine y_vi (rest := []) C0 hM hl.1 ok_md (ent5 ok_md) rfl (k_X5_beginTurn l G M11 l3_10 h13) cw_RX5_73 rfl rfl ⟨Nat.le_of_ble_eq_true rfl, Nat.le_of_ble_eq_true rfl⟩ rfl (Nat.le_of_ble_eq_true rfl) ⟨Nat.le_of_ble_eq_true rfl, Nat.le_of_ble_eq_true rfl⟩ dX5_goOn_42 (fun H locs hM => ?_)
          refine lv_if_eq (tgt := 49) C0.1 C0.2.1 dX5_goOn_45 (by decide) (fun c16 => ?_) (fun c16 => ?_)
          · have hF := if_t c16 hF
            refine lv_aload_n C0.1 C0.2.1 dX5_goOn_49 rfl (lv_at hl 0 rfl) ?_
            refine lv_iload_n C0.1 C0.2.1 dX5_goOn_50 rfl (lv_at hl 3 rfl) ?_
            obtain ⟨M18, h17, hF⟩ := bd_some hF
            refine y_vv (rest := []) C0 hM hl.1 ok_md (ent5 ok_md) rfl (k_X5_endConditions l G M14 l3_10 h17) cw_RX5_76 rfl rfl ⟨Nat.le_of_ble_eq_true rfl, Nat.le_of_ble_eq_true rfl⟩ rfl (Nat.le_of_ble_eq_true rfl) ⟨Nat.le_of_ble_eq_true rfl, Nat.le_of_ble_eq_true rfl⟩ dX5_goOn_51 (fun H locs hM => ?_)
            refine lv_aload_n C0.1 C0.2.1 dX5_goOn_54 rfl (lv_at hl 0 rfl) ?_
            refine lv_iload_n C0.1 C0.2.1 dX5_goOn_55 rfl (lv_at hl 3 rfl) ?_
            obtain ⟨r20, h19, hF⟩ := bd_some hF
            refine y_vi (rest := []) C0 hM hl.1 ok_md (ent5 ok_md) rfl (k_X5_placeInRow l G M18 l3_10 h19) cw_RX5_39 rfl rfl ⟨Nat.le_of_ble_eq_true rfl, Nat.le_of_ble_eq_true rfl⟩ rfl (Nat.le_of_ble_eq_true rfl) ⟨Nat.le_of_ble_eq_true rfl, Nat.le_of_ble_eq_true rfl⟩ dX5_goOn_56 (fun H locs hM => ?_)
            refine lv_iconst (v := (1 : Int32)) C0.1 C0.2.1 dX5_goOn_59 (by decide) ?_
            refine lv_iadd C0.1 C0.2.1 dX5_goOn_60 ?_
            obtain ⟨x21, ex21, hF⟩ := nm_some hF
            refine y_topi ex21 ?_
            refine lv_istore_n (lv' := [(2, .int x21), (0, .ref (gad G 220)), (1, .int a0), (3, .int l3_10)]) C0.1 C0.2.1 dX5_goOn_61 rfl hl (by decide) rfl (fun ls hl => ?_)
            refine lv_goto (tgt := 2) C0.1 C0.2.1 dX5_goOn_62 (by decide) ?_
            exact ih2 x21 M18 _ _ _ hM (lv_sub hl [1, 2, 0] rfl) hF
          · have hF := if_f c16 hF
            have e9 := y_1 hF
            subst e9
            exact y_vret C0 hM hsz dX5_goOn_48
        refine lv_icmp_ne (tgt := 40) C0.1 C0.2.1 dX5_goOn_17 (by decide) (fun c22 => ?_) (fun c22 => ?_)
        · have hF := if_t c22 hF
          exact J40 r9 M2 _ _ _ hM (lv_sub hl [1, 2, 3, 0] rfl) hF
        · have hF := if_f (fun q => q c22) hF
          refine lv_aload_n C0.1 C0.2.1 dX5_goOn_20 rfl (lv_at hl 1 rfl) ?_
          refine gf5_1 C0 hM ok_md fl_RX5_7 dX5_goOn_21 ?_
          refine lv_iconst (v := (1 : Int32)) C0.1 C0.2.1 dX5_goOn_24 (by decide) ?_
          refine lv_dup2_11 C0.1 C0.2.1 dX5_goOn_25 rfl rfl ?_
          obtain ⟨g23, hF⟩ := gdb_some hF
          refine y_iald C0 hM oka_z g23 dX5_goOn_26 ?_
          refine lv_iconst (v := (1 : Int32)) C0.1 C0.2.1 dX5_goOn_27 (by decide) ?_
          refine lv_iadd C0.1 C0.2.1 dX5_goOn_28 ?_
          obtain ⟨g24, hF⟩ := gdb_some hF
          refine y_iast C0 hM oka_z g24 dX5_goOn_29 (fun H locs hM => ?_)
          obtain ⟨M25, eM25, hF⟩ := nm_some hF
          have hM := y_mn eM25 hM
          refine lv_aload_n C0.1 C0.2.1 dX5_goOn_30 rfl (lv_at hl 1 rfl) ?_
          obtain ⟨M27, h26, hF⟩ := bd_some hF
          refine y_vv (rest := []) C0 hM hl.1 ok_md (ent5 ok_md) rfl (k_X5_endDelays l G M25 h26) cw_RX5_70 rfl rfl ⟨Nat.le_of_ble_eq_true rfl, Nat.le_of_ble_eq_true rfl⟩ rfl (Nat.le_of_ble_eq_true rfl) ⟨Nat.le_of_ble_eq_true rfl, Nat.le_of_ble_eq_true rfl⟩ dX5_goOn_31 (fun H locs hM => ?_)
          refine lv_aload_n C0.1 C0.2.1 dX5_goOn_34 rfl (lv_at hl 1 rfl) ?_
          refine lv_iconst (v := (0 : Int32)) C0.1 C0.2.1 dX5_goOn_35 (by decide) ?_
          obtain ⟨r29, h28, hF⟩ := bd_some hF
          refine y_vi (rest := []) C0 hM hl.1 ok_md (ent5 ok_md) rfl (k_X5_nextFrom l G M27 (0 : Int32) h28) cw_RX5_67 rfl rfl ⟨Nat.le_of_ble_eq_true rfl, Nat.le_of_ble_eq_true rfl⟩ rfl (Nat.le_of_ble_eq_true rfl) ⟨Nat.le_of_ble_eq_true rfl, Nat.le_of_ble_eq_true rfl⟩ dX5_goOn_36 (fun H locs hM => ?_)
          refine lv_istore_n (lv' := [(3, .int r29), (0, .ref (gad G 220)), (1, .int a0), (2, .int l2_1)]) C0.1 C0.2.1 dX5_goOn_39 rfl hl (by decide) rfl (fun ls hl => ?_)
          exact J40 r29 M27 _ _ _ hM (lv_sub hl [1, 2, 3, 0] rfl) hF
  exact L2 FU a0 M _ _ _ hM (lv_sub hl [1, 2, 0] rfl) hF

def F_X5_endTurn (M : MS) : Option MS := (gdb (inb (2 : Int32) 186) (nm (rA M 221 (Int32.toNatClampNeg (2 : Int32))) fun x2 => (bd (F_X5_endConditions M x2) fun M4 => (bd (F_X5_placeInRow M4 x2) fun r6 => (bd (F_X5_goOn M4 (r6 + (1 : Int32))) fun M8 => (some M8))))))

set_option maxHeartbeats 4000000 in
set_option maxRecDepth 100000 in
theorem k_X5_endTurn (l : Launch) (G : GG) (M : MS) {Mf : MS} (hF : F_X5_endTurn M = some Mf) : KV l yX5_endTurn (WS yX5_endTurn cX5_endTurn 2 none) (Rm 4) G [.ref (gad G 220)] M Mf := by
  intro sz
  refine y_met (by decide +kernel) (Nat.le_of_ble_eq_true rfl) rfl (fun p e s m below meth c ls hsz C0 hM hl => ?_)
  have hl : lv_has ls 2 [(0, .ref (gad G 220))] := hl
  have C0 : CX p s m meth c ([.ref (gad G 220)] : List Value).toArray cX5_endTurn RX5 2 none := C0
  rw [F_X5_endTurn] at hF
  refine lv_aload_n C0.1 C0.2.1 dX5_endTurn_0 rfl (lv_at hl 0 rfl) ?_
  refine gf5_1 C0 hM ok_md fl_RX5_7 dX5_endTurn_1 ?_
  refine lv_iconst (v := (2 : Int32)) C0.1 C0.2.1 dX5_endTurn_4 (by decide) ?_
  obtain ⟨g1, hF⟩ := gdb_some hF
  refine y_iald C0 hM oka_z g1 dX5_endTurn_5 ?_
  obtain ⟨x2, ex2, hF⟩ := nm_some hF
  refine y_topi ex2 ?_
  refine lv_istore_n (lv' := [(1, .int x2), (0, .ref (gad G 220))]) C0.1 C0.2.1 dX5_endTurn_6 rfl hl (by decide) rfl (fun ls hl => ?_)
  refine lv_aload_n C0.1 C0.2.1 dX5_endTurn_7 rfl (lv_at hl 1 rfl) ?_
  refine lv_iload_n C0.1 C0.2.1 dX5_endTurn_8 rfl (lv_at hl 0 rfl) ?_
  obtain ⟨M4, h3, hF⟩ := bd_some hF
  refine y_vv (rest := []) C0 hM hl.1 ok_md (ent5 ok_md) rfl (k_X5_endConditions l G M x2 h3) cw_RX5_76 rfl rfl ⟨Nat.le_of_ble_eq_true rfl, Nat.le_of_ble_eq_true rfl⟩ rfl (Nat.le_of_ble_eq_true rfl) ⟨Nat.le_of_ble_eq_true rfl, Nat.le_of_ble_eq_true rfl⟩ dX5_endTurn_9 (fun H locs hM => ?_)
  refine lv_aload_n C0.1 C0.2.1 dX5_endTurn_12 rfl (lv_at hl 1 rfl) ?_
  refine lv_aload_n C0.1 C0.2.1 dX5_endTurn_13 rfl (lv_at hl 1 rfl) ?_
  refine lv_iload_n C0.1 C0.2.1 dX5_endTurn_14 rfl (lv_at hl 0 rfl) ?_
  obtain ⟨r6, h5, hF⟩ := bd_some hF
  refine y_vi (rest := [.ref (gad G 220)]) C0 hM hl.1 ok_md (ent5 ok_md) rfl (k_X5_placeInRow l G M4 x2 h5) cw_RX5_39 rfl rfl ⟨Nat.le_of_ble_eq_true rfl, Nat.le_of_ble_eq_true rfl⟩ rfl (Nat.le_of_ble_eq_true rfl) ⟨Nat.le_of_ble_eq_true rfl, Nat.le_of_ble_eq_true rfl⟩ dX5_endTurn_15 (fun H locs hM => ?_)
  refine lv_iconst (v := (1 : Int32)) C0.1 C0.2.1 dX5_endTurn_18 (by decide) ?_
  refine lv_iadd C0.1 C0.2.1 dX5_endTurn_19 ?_
  obtain ⟨M8, h7, hF⟩ := bd_some hF
  refine y_vv (rest := []) C0 hM hl.1 ok_md (ent5 ok_md) rfl (k_X5_goOn l G M4 (r6 + (1 : Int32)) h7) cw_RX5_79 rfl rfl ⟨Nat.le_of_ble_eq_true rfl, Nat.le_of_ble_eq_true rfl⟩ rfl (Nat.le_of_ble_eq_true rfl) ⟨Nat.le_of_ble_eq_true rfl, Nat.le_of_ble_eq_true rfl⟩ dX5_endTurn_20 (fun H locs hM => ?_)
  have e9 := y_1 hF
  subst e9
  exact y_vret C0 hM hsz dX5_endTurn_23

def F_X5_begin_l96 : Nat → Int32 → MS → Option (Int32 × MS)
  | 0, _, _ => none
  | n96 + 1, l1_8, M9 => (gdb (inb (0 : Int32) 186) (if (rA M9 221 (Int32.toNatClampNeg (0 : Int32))) ≤ l1_8 then (bd (F_X5_endDelays M9) fun M13 => (gdb (inb (1 : Int32) 186) (nm (wA M13 221 (Int32.toNatClampNeg (1 : Int32)) (1 : Int32)) fun M15 => (bd (F_X5_goOn M15 (0 : Int32)) fun M17 => (gdb (inb (2 : Int32) 186) (some ((rA M17 221 (Int32.toNatClampNeg (2 : Int32))), M17))))))) else (bd (F_X5_loseReadied M9 l1_8) fun M20 => (nm (l1_8 + (1 : Int32)) fun x21 => (F_X5_begin_l96 n96 x21 M20)))))

def F_X5_begin_l23 (l1_4 : Int32) (k11 : Int32 → MS → Option (Int32 × MS)) : Nat → Int32 → MS → Option (Int32 × MS)
  | 0, _, _ => none
  | n23 + 1, l2_22, M23 => (nm (gdb (inb ((6 : Int32) + l2_22) 186) (nm (wA M23 221 (Int32.toNatClampNeg ((6 : Int32) + l2_22)) l1_4) fun M26 => (nm (l1_4 + (1 : Int32)) fun x27 => (k11 x27 M26)))) fun j78_23 => (if l2_22 ≤ 0 then j78_23 else (gdb (inb (((6 : Int32) + l2_22) - (1 : Int32)) 186) (bd (F_X5_of M23 (rA M23 221 (Int32.toNatClampNeg (((6 : Int32) + l2_22) - (1 : Int32)))) (1 : Int32)) fun r31 => (bd (F_X5_of M23 l1_4 (1 : Int32)) fun r33 => (if r33 ≤ r31 then j78_23 else (gdb (inb (((6 : Int32) + l2_22) - (1 : Int32)) 186) (gdb (inb ((6 : Int32) + l2_22) 186) (nm (wA M23 221 (Int32.toNatClampNeg ((6 : Int32) + l2_22)) (rA M23 221 (Int32.toNatClampNeg (((6 : Int32) + l2_22) - (1 : Int32))))) fun M37 => (nm (l2_22 + (-1 : Int32)) fun x38 => (F_X5_begin_l23 l1_4 k11 n23 x38 M37)))))))))))

def F_X5_begin_l11 : Nat → Int32 → MS → Option (Int32 × MS)
  | 0, _, _ => none
  | n11 + 1, l1_4, M5 => (gdb (inb (0 : Int32) 186) (if (rA M5 221 (Int32.toNatClampNeg (0 : Int32))) ≤ l1_4 then (F_X5_begin_l96 FU (0 : Int32) M5) else (F_X5_begin_l23 l1_4 (fun x0 x1 => F_X5_begin_l11 n11 x0 x1) FU l1_4 M5)))

def F_X5_begin (M : MS) : Option (Int32 × MS) := (nm (wF M 80 220 (0 : Int32)) fun M1 => (bd (F_X5_save M1) fun M3 => (F_X5_begin_l11 FU (0 : Int32) M3)))

set_option maxHeartbeats 4000000 in
set_option maxRecDepth 100000 in
theorem k_X5_begin (l : Launch) (G : GG) (M : MS) {r : Int32} {Mf : MS} (hF : F_X5_begin M = some (r, Mf)) : KI l yX5_begin (WS yX5_begin cX5_begin 3 (some .int)) (Rm 4) G [.ref (gad G 220)] M r Mf := by
  intro sz
  refine y_met (by decide +kernel) (Nat.le_of_ble_eq_true rfl) rfl (fun p e s m below meth c ls hsz C0 hM hl => ?_)
  have hl : lv_has ls 3 [(0, .ref (gad G 220))] := hl
  have C0 : CX p s m meth c ([.ref (gad G 220)] : List Value).toArray cX5_begin RX5 3 (some .int) := C0
  rw [F_X5_begin] at hF
  refine lv_aload_n C0.1 C0.2.1 dX5_begin_0 rfl (lv_at hl 0 rfl) ?_
  refine lv_iconst (v := (0 : Int32)) C0.1 C0.2.1 dX5_begin_1 (by decide) ?_
  refine pf5_0 C0 hM ok_md fl_RX5_28 dX5_begin_2 (fun H locs hM => ?_)
  obtain ⟨M1, eM1, hF⟩ := nm_some hF
  have hM := y_mn eM1 hM
  refine lv_aload_n C0.1 C0.2.1 dX5_begin_5 rfl (lv_at hl 0 rfl) ?_
  obtain ⟨M3, h2, hF⟩ := bd_some hF
  refine y_vv (rest := []) C0 hM hl.1 ok_md (ent5 ok_md) rfl (k_X5_save l G M1 h2) cw_RX5_82 rfl rfl ⟨Nat.le_of_ble_eq_true rfl, Nat.le_of_ble_eq_true rfl⟩ rfl (Nat.le_of_ble_eq_true rfl) ⟨Nat.le_of_ble_eq_true rfl, Nat.le_of_ble_eq_true rfl⟩ dX5_begin_6 (fun H locs hM => ?_)
  refine lv_iconst (v := (0 : Int32)) C0.1 C0.2.1 dX5_begin_9 (by decide) ?_
  refine lv_istore_n (lv' := [(1, .int (0 : Int32)), (0, .ref (gad G 220))]) C0.1 C0.2.1 dX5_begin_10 rfl hl (by decide) rfl (fun ls hl => ?_)
  have L11 : ∀ (n : Nat) (l1_4 : Int32) (M5 : MS) (H : Heap) (locs : List Loc) (ls : Array Slot), MX G M5 s H locs → lv_has ls 3 [(0, .ref (gad G 220)), (1, .int l1_4)] → F_X5_begin_l11 n l1_4 M5 = some (r, Mf) → W p l e (Rm 4) s m ([.ref (gad G 220)] : List Value).toArray below meth c H locs 0 0 (QI below ([.ref (gad G 220)] : List Value).toArray s G sz r Mf) (F0 m 11 ls []) := by
    intro n
    induction n with
    | zero => intro l1_4 M5 H locs ls hM hl hF; rw [F_X5_begin_l11] at hF; cases hF
    | succ n11 ih11 =>
      intro l1_4 M5 H locs ls hM hl hF
      rw [F_X5_begin_l11] at hF
      refine lv_iload_n C0.1 C0.2.1 dX5_begin_11 rfl (lv_at hl 1 rfl) ?_
      refine lv_aload_n C0.1 C0.2.1 dX5_begin_12 rfl (lv_at hl 0 rfl) ?_
      refine gf5_1 C0 hM ok_md fl_RX5_7 dX5_begin_13 ?_
      refine lv_iconst (v := (0 : Int32)) C0.1 C0.2.1 dX5_begin_16 (by decide) ?_
      obtain ⟨g6, hF⟩ := gdb_some hF
      refine y_iald C0 hM oka_z g6 dX5_begin_17 ?_
      refine lv_icmp_ge (tgt := 94) C0.1 C0.2.1 dX5_begin_18 (by decide) (fun c7 => ?_) (fun c7 => ?_)
      · have hF := if_t c7 hF
        refine lv_iconst (v := (0 : Int32)) C0.1 C0.2.1 dX5_begin_94 (by decide) ?_
        refine lv_istore_n (lv' := [(1, .int (0 : Int32)), (0, .ref (gad G 220))]) C0.1 C0.2.1 dX5_begin_95 rfl hl (by decide) rfl (fun ls hl => ?_)
        have L96 : ∀ (n : Nat) (l1_8 : Int32) (M9 : MS) (H : Heap) (locs : List Loc) (ls : Array Slot), MX G M9 s H locs → lv_has ls 3 [(0, .ref (gad G 220)), (1, .int l1_8)] → F_X5_begin_l96 n l1_8 M9 = some (r, Mf) → W p l e (Rm 4) s m ([.ref (gad G 220)] : List Value).toArray below meth c H locs 0 0 (QI below ([.ref (gad G 220)] : List Value).toArray s G sz r Mf) (F0 m 96 ls []) := by
          intro n
          induction n with
          | zero => intro l1_8 M9 H locs ls hM hl hF; rw [F_X5_begin_l96] at hF; cases hF
          | succ n96 ih96 =>
            intro l1_8 M9 H locs ls hM hl hF
            rw [F_X5_begin_l96] at hF
            refine lv_iload_n C0.1 C0.2.1 dX5_begin_96 rfl (lv_at hl 1 rfl) ?_
            refine lv_aload_n C0.1 C0.2.1 dX5_begin_97 rfl (lv_at hl 0 rfl) ?_
            refine gf5_1 C0 hM ok_md fl_RX5_7 dX5_begin_98 ?_
            refine lv_iconst (v := (0 : Int32)) C0.1 C0.2.1 dX5_begin_101 (by decide) ?_
            obtain ⟨g10, hF⟩ := gdb_some hF
            refine y_iald C0 hM oka_z g10 dX5_begin_102 ?_
            refine lv_icmp_ge (tgt := 117) C0.1 C0.2.1 dX5_begin_103 (by decide) (fun c11 => ?_) (fun c11 => ?_)
            · have hF := if_t c11 hF
              refine lv_aload_n C0.1 C0.2.1 dX5_begin_117 rfl (lv_at hl 0 rfl) ?_
              obtain ⟨M13, h12, hF⟩ := bd_some hF
              refine y_vv (rest := []) C0 hM hl.1 ok_md (ent5 ok_md) rfl (k_X5_endDelays l G M9 h12) cw_RX5_70 rfl rfl ⟨Nat.le_of_ble_eq_true rfl, Nat.le_of_ble_eq_true rfl⟩ rfl (Nat.le_of_ble_eq_true rfl) ⟨Nat.le_of_ble_eq_true rfl, Nat.le_of_ble_eq_true rfl⟩ dX5_begin_118 (fun H locs hM => ?_)
              refine lv_aload_n C0.1 C0.2.1 dX5_begin_121 rfl (lv_at hl 0 rfl) ?_
              refine gf5_1 C0 hM ok_md fl_RX5_7 dX5_begin_122 ?_
              refine lv_iconst (v := (1 : Int32)) C0.1 C0.2.1 dX5_begin_125 (by decide) ?_
              refine lv_iconst (v := (1 : Int32)) C0.1 C0.2.1 dX5_begin_126 (by decide) ?_
              obtain ⟨g14, hF⟩ := gdb_some hF
              refine y_iast C0 hM oka_z g14 dX5_begin_127 (fun H locs hM => ?_)
              obtain ⟨M15, eM15, hF⟩ := nm_some hF
              have hM := y_mn eM15 hM
              refine lv_aload_n C0.1 C0.2.1 dX5_begin_128 rfl (lv_at hl 0 rfl) ?_
              refine lv_iconst (v := (0 : Int32)) C0.1 C0.2.1 dX5_begin_129 (by decide) ?_
              obtain ⟨M17, h16, hF⟩ := bd_some hF
              refine y_vv (rest := []) C0 hM hl.1 ok_md (ent5 ok_md) rfl (k_X5_goOn l G M15 (0 : Int32) h16) cw_RX5_79 rfl rfl ⟨Nat.le_of_ble_eq_true rfl, Nat.le_of_ble_eq_true rfl⟩ rfl (Nat.le_of_ble_eq_true rfl) ⟨Nat.le_of_ble_eq_true rfl, Nat.le_of_ble_eq_true rfl⟩ dX5_begin_130 (fun H locs hM => ?_)
              refine lv_aload_n C0.1 C0.2.1 dX5_begin_133 rfl (lv_at hl 0 rfl) ?_
              refine gf5_1 C0 hM ok_md fl_RX5_7 dX5_begin_134 ?_
              refine lv_iconst (v := (2 : Int32)) C0.1 C0.2.1 dX5_begin_137 (by decide) ?_
              obtain ⟨g18, hF⟩ := gdb_some hF
              refine y_iald C0 hM oka_z g18 dX5_begin_138 ?_
              obtain ⟨e8, e9⟩ := y_2 hF
              subst e8
              subst e9
              exact y_iret C0 hM hsz dX5_begin_139
            · have hF := if_f c11 hF
              refine lv_aload_n C0.1 C0.2.1 dX5_begin_106 rfl (lv_at hl 0 rfl) ?_
              refine lv_iload_n C0.1 C0.2.1 dX5_begin_107 rfl (lv_at hl 1 rfl) ?_
              obtain ⟨M20, h19, hF⟩ := bd_some hF
              refine y_vv (rest := []) C0 hM hl.1 ok_md (ent5 ok_md) rfl (k_X5_loseReadied l G M9 l1_8 h19) cw_RX5_59 rfl rfl ⟨Nat.le_of_ble_eq_true rfl, Nat.le_of_ble_eq_true rfl⟩ rfl (Nat.le_of_ble_eq_true rfl) ⟨Nat.le_of_ble_eq_true rfl, Nat.le_of_ble_eq_true rfl⟩ dX5_begin_108 (fun H locs hM => ?_)
              obtain ⟨x21, ex21, hF⟩ := nm_some hF
              refine lv_iinc (v := x21) (lv' := [(1, .int x21), (0, .ref (gad G 220))]) C0.1 C0.2.1 dX5_begin_111 hl (k := 1) rfl (by rw [ex21]; rfl) (by decide) rfl (fun ls hl => ?_)
              refine lv_goto (tgt := 96) C0.1 C0.2.1 dX5_begin_114 (by decide) ?_
              exact ih96 x21 M20 _ _ _ hM (lv_sub hl [1, 0] rfl) hF
        exact L96 FU (0 : Int32) M5 _ _ _ hM (lv_sub hl [1, 0] rfl) hF
      · have hF := if_f c7 hF
        refine lv_iload_n C0.1 C0.2.1 dX5_begin_21 rfl (lv_at hl 1 rfl) ?_
        refine lv_istore_n (lv' := [(2, .int l1_4), (0, .ref (gad G 220)), (1, .int l1_4)]) C0.1 C0.2.1 dX5_begin_22 rfl hl (by decide) rfl (fun ls hl => ?_)
        have L23 : ∀ (n : Nat) (l2_22 : Int32) (M23 : MS) (H : Heap) (locs : List Loc) (ls : Array Slot), MX G M23 s H locs → lv_has ls 3 [(0, .ref (gad G 220)), (1, .int l1_4), (2, .int l2_22)] → F_X5_begin_l23 l1_4 (fun x0 x1 => F_X5_begin_l11 n11 x0 x1) n l2_22 M23 = some (r, Mf) → W p l e (Rm 4) s m ([.ref (gad G 220)] : List Value).toArray below meth c H locs 0 0 (QI below ([.ref (gad G 220)] : List Value).toArray s G sz r Mf) (F0 m 23 ls []) := by
          intro n
          induction n with
          | zero => intro l2_22 M23 H locs ls hM hl hF; rw [F_X5_begin_l23] at hF; cases hF
          | succ n23 ih23 =>
            intro l2_22 M23 H locs ls hM hl hF
            rw [F_X5_begin_l23] at hF
            refine lv_iload_n C0.1 C0.2.1 dX5_begin_23 rfl (lv_at hl 2 rfl) ?_
            obtain ⟨j78_23, ej78_23, hF⟩ := nm_some hF
            have J78 : ∀ (H : Heap) (locs : List Loc) (ls : Array Slot), MX G M23 s H locs → lv_has ls 3 [(0, .ref (gad G 220)), (1, .int l1_4), (2, .int l2_22)] → j78_23 = some (r, Mf) → W p l e (Rm 4) s m ([.ref (gad G 220)] : List Value).toArray below meth c H locs 0 0 (QI below ([.ref (gad G 220)] : List Value).toArray s G sz r Mf) (F0 m 78 ls []) := by
              intro H locs ls hM hl hF
              rw [ej78_23] at hF
              refine lv_aload_n C0.1 C0.2.1 dX5_begin_78 rfl (lv_at hl 0 rfl) ?_
              refine gf5_1 C0 hM ok_md fl_RX5_7 dX5_begin_79 ?_
              refine lv_bipush (v := (6 : Int32)) C0.1 C0.2.1 dX5_begin_82 (by decide) ?_
              refine lv_iload_n C0.1 C0.2.1 dX5_begin_84 rfl (lv_at hl 2 rfl) ?_
              refine lv_iadd C0.1 C0.2.1 dX5_begin_85 ?_
              refine lv_iload_n C0.1 C0.2.1 dX5_begin_86 rfl (lv_at hl 1 rfl) ?_
              obtain ⟨g25, hF⟩ := gdb_some hF
              refine y_iast C0 hM oka_z g25 dX5_begin_87 (fun H locs hM => ?_)
              obtain ⟨M26, eM26, hF⟩ := nm_some hF
              have hM := y_mn eM26 hM
              obtain ⟨x27, ex27, hF⟩ := nm_some hF
              refine lv_iinc (v := x27) (lv' := [(1, .int x27), (0, .ref (gad G 220)), (2, .int l2_22)]) C0.1 C0.2.1 dX5_begin_88 hl (k := 1) rfl (by rw [ex27]; rfl) (by decide) rfl (fun ls hl => ?_)
              refine lv_goto (tgt := 11) C0.1 C0.2.1 dX5_begin_91 (by decide) ?_
              exact ih11 x27 M26 _ _ _ hM (lv_sub hl [1, 0] rfl) hF
            refine lv_if_le (tgt := 78) C0.1 C0.2.1 dX5_begin_24 (by decide) (fun c28 => ?_) (fun c28 => ?_)
            · have hF := if_t c28 hF
              exact J78  _ _ _ hM (lv_sub hl [0, 1, 2] rfl) hF
            · have hF := if_f c28 hF
              refine lv_aload_n C0.1 C0.2.1 dX5_begin_27 rfl (lv_at hl 0 rfl) ?_
              refine lv_aload_n C0.1 C0.2.1 dX5_begin_28 rfl (lv_at hl 0 rfl) ?_
              refine gf5_1 C0 hM ok_md fl_RX5_7 dX5_begin_29 ?_
              refine lv_bipush (v := (6 : Int32)) C0.1 C0.2.1 dX5_begin_32 (by decide) ?_
              refine lv_iload_n C0.1 C0.2.1 dX5_begin_34 rfl (lv_at hl 2 rfl) ?_
              refine lv_iadd C0.1 C0.2.1 dX5_begin_35 ?_
              refine lv_iconst (v := (1 : Int32)) C0.1 C0.2.1 dX5_begin_36 (by decide) ?_
              refine lv_isub C0.1 C0.2.1 dX5_begin_37 ?_
              obtain ⟨g29, hF⟩ := gdb_some hF
              refine y_iald C0 hM oka_z g29 dX5_begin_38 ?_
              refine lv_iconst (v := (1 : Int32)) C0.1 C0.2.1 dX5_begin_39 (by decide) ?_
              obtain ⟨r31, h30, hF⟩ := bd_some hF
              refine y_vi (rest := []) C0 hM hl.1 ok_md (ent5 ok_md) rfl (k_X5_of l G M23 (rA M23 221 (Int32.toNatClampNeg (((6 : Int32) + l2_22) - (1 : Int32)))) (1 : Int32) h30) cw_RX5_32 rfl rfl ⟨Nat.le_of_ble_eq_true rfl, Nat.le_of_ble_eq_true rfl⟩ rfl (Nat.le_of_ble_eq_true rfl) ⟨Nat.le_of_ble_eq_true rfl, Nat.le_of_ble_eq_true rfl⟩ dX5_begin_40 (fun H locs hM => ?_)
              refine lv_aload_n C0.1 C0.2.1 dX5_begin_43 rfl (lv_at hl 0 rfl) ?_
              refine lv_iload_n C0.1 C0.2.1 dX5_begin_44 rfl (lv_at hl 1 rfl) ?_
              refine lv_iconst (v := (1 : Int32)) C0.1 C0.2.1 dX5_begin_45 (by decide) ?_
              obtain ⟨r33, h32, hF⟩ := bd_some hF
              refine y_vi (rest := [.int r31]) C0 hM hl.1 ok_md (ent5 ok_md) rfl (k_X5_of l G M23 l1_4 (1 : Int32) h32) cw_RX5_32 rfl rfl ⟨Nat.le_of_ble_eq_true rfl, Nat.le_of_ble_eq_true rfl⟩ rfl (Nat.le_of_ble_eq_true rfl) ⟨Nat.le_of_ble_eq_true rfl, Nat.le_of_ble_eq_true rfl⟩ dX5_begin_46 (fun H locs hM => ?_)
              refine lv_icmp_ge (tgt := 78) C0.1 C0.2.1 dX5_begin_49 (by decide) (fun c34 => ?_) (fun c34 => ?_)
              · have hF := if_t c34 hF
                exact J78  _ _ _ hM (lv_sub hl [0, 1, 2] rfl) hF
              · have hF := if_f c34 hF
                refine lv_aload_n C0.1 C0.2.1 dX5_begin_52 rfl (lv_at hl 0 rfl) ?_
                refine gf5_1 C0 hM ok_md fl_RX5_7 dX5_begin_53 ?_
                refine lv_bipush (v := (6 : Int32)) C0.1 C0.2.1 dX5_begin_56 (by decide) ?_
                refine lv_iload_n C0.1 C0.2.1 dX5_begin_58 rfl (lv_at hl 2 rfl) ?_
                refine lv_iadd C0.1 C0.2.1 dX5_begin_59 ?_
                refine lv_aload_n C0.1 C0.2.1 dX5_begin_60 rfl (lv_at hl 0 rfl) ?_
                refine gf5_1 C0 hM ok_md fl_RX5_7 dX5_begin_61 ?_
                refine lv_bipush (v := (6 : Int32)) C0.1 C0.2.1 dX5_begin_64 (by decide) ?_
                refine lv_iload_n C0.1 C0.2.1 dX5_begin_66 rfl (lv_at hl 2 rfl) ?_
                refine lv_iadd C0.1 C0.2.1 dX5_begin_67 ?_
                refine lv_iconst (v := (1 : Int32)) C0.1 C0.2.1 dX5_begin_68 (by decide) ?_
                refine lv_isub C0.1 C0.2.1 dX5_begin_69 ?_
                obtain ⟨g35, hF⟩ := gdb_some hF
                refine y_iald C0 hM oka_z g35 dX5_begin_70 ?_
                obtain ⟨g36, hF⟩ := gdb_some hF
                refine y_iast C0 hM oka_z g36 dX5_begin_71 (fun H locs hM => ?_)
                obtain ⟨M37, eM37, hF⟩ := nm_some hF
                have hM := y_mn eM37 hM
                obtain ⟨x38, ex38, hF⟩ := nm_some hF
                refine lv_iinc (v := x38) (lv' := [(2, .int x38), (0, .ref (gad G 220)), (1, .int l1_4)]) C0.1 C0.2.1 dX5_begin_72 hl (k := 2) rfl (by rw [ex38]; rfl) (by decide) rfl (fun ls hl => ?_)
                refine lv_goto (tgt := 23) C0.1 C0.2.1 dX5_begin_75 (by decide) ?_
                exact ih23 x38 M37 _ _ _ hM (lv_sub hl [1, 2, 0] rfl) hF
        exact L23 FU l1_4 M5 _ _ _ hM (lv_sub hl [1, 2, 0] rfl) hF
  exact L11 FU (0 : Int32) M3 _ _ _ hM (lv_sub hl [1, 0] rfl) hF

def F_X5_come_l225 (x12 : Int32) (l7_32 : Int32) : Nat → Int32 → MS → Option (Int32 × MS)
  | 0, _, _ => none
  | n225 + 1, l8_34, M35 => (if l8_34 ≤ l7_32 then (gdb (inb ((6 : Int32) + l7_32) 186) (nm (wA M35 221 (Int32.toNatClampNeg ((6 : Int32) + l7_32)) x12) fun M38 => (gdb (inb (0 : Int32) 186) (gdb (inb (0 : Int32) 186) (nm (wA M38 221 (Int32.toNatClampNeg (0 : Int32)) ((rA M38 221 (Int32.toNatClampNeg (0 : Int32))) + (1 : Int32))) fun M41 => (some (x12, M41))))))) else (gdb (inb (((6 : Int32) + l8_34) - (1 : Int32)) 186) (gdb (inb ((6 : Int32) + l8_34) 186) (nm (wA M35 221 (Int32.toNatClampNeg ((6 : Int32) + l8_34)) (rA M35 221 (Int32.toNatClampNeg (((6 : Int32) + l8_34) - (1 : Int32))))) fun M44 => (nm (l8_34 + (-1 : Int32)) fun x45 => (F_X5_come_l225 x12 l7_32 n225 x45 M44))))))

def F_X5_come_l189 (a1 : Int32) (x12 : Int32) (M31 : MS) : Nat → Int32 → Option (Int32 × MS)
  | 0, _ => none
  | n189 + 1, l7_32 => (nm (F_X5_come_l225 x12 l7_32 FU x12 M31) fun j221_32 => (if x12 ≤ l7_32 then j221_32 else (gdb (inb ((6 : Int32) + l7_32) 186) (bd (F_X5_of M31 (rA M31 221 (Int32.toNatClampNeg ((6 : Int32) + l7_32))) (1 : Int32)) fun r49 => (if r49 < a1 then j221_32 else (nm (l7_32 + (1 : Int32)) fun x51 => (F_X5_come_l189 a1 x12 M31 n189 x51)))))))

def F_X5_come_l100 (a0 : Int32) (a1 : Int32) (a2 : Int32) (a3 : Int32) (x12 : Int32) : Nat → Int32 → MS → Option (Int32 × MS)
  | 0, _, _ => none
  | n100 + 1, l7_13, M14 => (if (17 : Int32) ≤ l7_13 then (bd (F_X5_lay M14 x12 (0 : Int32) a0) fun M17 => (bd (F_X5_lay M17 x12 (1 : Int32) a1) fun M19 => (bd (F_X5_lay M19 x12 (2 : Int32) a2) fun M21 => (bd (F_X5_lay M21 x12 (3 : Int32) a2) fun M23 => (bd (F_X5_lay M23 x12 (4 : Int32) a3) fun M25 => (nm (fun (s26 : Int32) => (bd (F_X5_lay M25 x12 (5 : Int32) s26) fun M29 => (bd (F_X5_loseReadied M29 x12) fun M31 => (F_X5_come_l189 a1 x12 M31 FU (0 : Int32))))) fun j177_26 => (if ¬ a0 = 0 then (j177_26 (9 : Int32)) else (j177_26 (0 : Int32))))))))) else (bd (F_X5_lay M14 x12 l7_13 (0 : Int32)) fun M54 => (nm (l7_13 + (1 : Int32)) fun x55 => (F_X5_come_l100 a0 a1 a2 a3 x12 n100 x55 M54))))

def F_X5_come (M : MS) (a0 : Int32) (a1 : Int32) (a2 : Int32) (a3 : Int32) : Option (Int32 × MS) := (bd (F_X5_in M a0 (0 : Int32) (1 : Int32)) fun r2 => (nm (fun (s3 : Int32) => (nm (fun (s5 : Int32) => (nm (wF M 80 220 s5) fun M7 => (if (rF M7 80 220) ≤ 0 then (bd (F_X5_save M7) fun M10 => (gdb (inb (0 : Int32) 186) (nm (rA M10 221 (Int32.toNatClampNeg (0 : Int32))) fun x12 => (F_X5_come_l100 a0 a1 a2 a3 x12 FU (0 : Int32) M10)))) else (some ((0 : Int32), M7))))) fun j73_5 => (if ¬ s3 = 0 then (gdb (inb (0 : Int32) 186) (if ¬ (rA M 221 (Int32.toNatClampNeg (0 : Int32))) = (10 : Int32) then (j73_5 (0 : Int32)) else (j73_5 (2 : Int32)))) else (j73_5 (1 : Int32))))) fun j45_3 => (if r2 = 0 then (j45_3 (0 : Int32)) else (bd (F_X5_in M a1 (0 : Int32) (40 : Int32)) fun r61 => (if r61 = 0 then (j45_3 (0 : Int32)) else (bd (F_X5_in M a2 (1 : Int32) (99 : Int32)) fun r64 => (if r64 = 0 then (j45_3 (0 : Int32)) else (bd (F_X5_in M a3 (1 : Int32) (20 : Int32)) fun r67 => (if r67 = 0 then (j45_3 (0 : Int32)) else (j45_3 (1 : Int32)))))))))))

set_option maxHeartbeats 4000000 in
set_option maxRecDepth 100000 in
theorem k_X5_come (l : Launch) (G : GG) (M : MS) (a0 : Int32) (a1 : Int32) (a2 : Int32) (a3 : Int32) {r : Int32} {Mf : MS} (hF : F_X5_come M a0 a1 a2 a3 = some (r, Mf)) : KI l yX5_come (WS yX5_come cX5_come 9 (some .int)) (Rm 2) G [.ref (gad G 220), .int a0, .int a1, .int a2, .int a3] M r Mf := by
  intro sz
  refine y_met (by decide +kernel) (Nat.le_of_ble_eq_true rfl) rfl (fun p e s m below meth c ls hsz C0 hM hl => ?_)
  have hl : lv_has ls 9 [(0, .ref (gad G 220)), (1, .int a0), (2, .int a1), (3, .int a2), (4, .int a3)] := hl
  have C0 : CX p s m meth c ([.ref (gad G 220), .int a0, .int a1, .int a2, .int a3] : List Value).toArray cX5_come RX5 9 (some .int) := C0
  rw [F_X5_come] at hF
  refine lv_iload_n C0.1 C0.2.1 dX5_come_0 rfl (lv_at hl 1 rfl) ?_
  refine lv_iconst (v := (0 : Int32)) C0.1 C0.2.1 dX5_come_1 (by decide) ?_
  refine lv_iconst (v := (1 : Int32)) C0.1 C0.2.1 dX5_come_2 (by decide) ?_
  obtain ⟨r2, h1, hF⟩ := bd_some hF
  refine y_si (rest := []) C0 hM hl.1 (k_X5_in l G M a0 (0 : Int32) (1 : Int32) h1) cw_RX5_85 rfl rfl ⟨Nat.le_of_ble_eq_true rfl, Nat.le_of_ble_eq_true rfl⟩ rfl (Nat.le_of_ble_eq_true rfl) ⟨Nat.le_of_ble_eq_true rfl, Nat.le_of_ble_eq_true rfl⟩ dX5_come_3 (fun H locs hM => ?_)
  obtain ⟨j45_3, ej45_3, hF⟩ := nm_some hF
  have J45 : ∀ (s3 : Int32) (H : Heap) (locs : List Loc) (ls : Array Slot), MX G M s H locs → lv_has ls 9 [(0, .ref (gad G 220)), (1, .int a0), (2, .int a1), (3, .int a2), (4, .int a3)] → j45_3 s3 = some (r, Mf) → W p l e (Rm 2) s m ([.ref (gad G 220), .int a0, .int a1, .int a2, .int a3] : List Value).toArray below meth c H locs 0 0 (QI below ([.ref (gad G 220), .int a0, .int a1, .int a2, .int a3] : List Value).toArray s G sz r Mf) (F0 m 45 ls [.int s3]) := by
    intro s3 H locs ls hM hl hF
    rw [ej45_3] at hF
    refine lv_istore (lv' := [(5, .int s3), (0, .ref (gad G 220)), (1, .int a0), (2, .int a1), (3, .int a2), (4, .int a3)]) C0.1 C0.2.1 dX5_come_45 hl (by decide) rfl (fun ls hl => ?_)
    refine lv_aload_n C0.1 C0.2.1 dX5_come_47 rfl (lv_at hl 1 rfl) ?_
    refine lv_iload C0.1 C0.2.1 dX5_come_48 (lv_at hl 0 rfl) ?_
    obtain ⟨j73_5, ej73_5, hF⟩ := nm_some hF
    have J73 : ∀ (s5 : Int32) (H : Heap) (locs : List Loc) (ls : Array Slot), MX G M s H locs → lv_has ls 9 [(0, .ref (gad G 220)), (1, .int a0), (2, .int a1), (3, .int a2), (4, .int a3), (5, .int s3)] → j73_5 s5 = some (r, Mf) → W p l e (Rm 2) s m ([.ref (gad G 220), .int a0, .int a1, .int a2, .int a3] : List Value).toArray below meth c H locs 0 0 (QI below ([.ref (gad G 220), .int a0, .int a1, .int a2, .int a3] : List Value).toArray s G sz r Mf) (F0 m 73 ls [.int s5, .ref (gad G 220)]) := by
      intro s5 H locs ls hM hl hF
      rw [ej73_5] at hF
      refine pf5_0 C0 hM ok_md fl_RX5_28 dX5_come_73 (fun H locs hM => ?_)
      obtain ⟨M7, eM7, hF⟩ := nm_some hF
      have hM := y_mn eM7 hM
      refine lv_aload_n C0.1 C0.2.1 dX5_come_76 rfl (lv_at hl 0 rfl) ?_
      refine gf5_0 C0 hM ok_md fl_RX5_28 dX5_come_77 ?_
      refine lv_if_le (tgt := 85) C0.1 C0.2.1 dX5_come_80 (by decide) (fun c8 => ?_) (fun c8 => ?_)
      · have hF := if_t c8 hF
        refine lv_aload_n C0.1 C0.2.1 dX5_come_85 rfl (lv_at hl 0 rfl) ?_
        obtain ⟨M10, h9, hF⟩ := bd_some hF
        refine y_vv (rest := []) C0 hM hl.1 ok_md (ent5 ok_md) rfl (k_X5_save l G M7 h9) cw_RX5_82 rfl rfl ⟨Nat.le_of_ble_eq_true rfl, Nat.le_of_ble_eq_true rfl⟩ rfl (Nat.le_of_ble_eq_true rfl) ⟨Nat.le_of_ble_eq_true rfl, Nat.le_of_ble_eq_true rfl⟩ dX5_come_86 (fun H locs hM => ?_)
        refine lv_aload_n C0.1 C0.2.1 dX5_come_89 rfl (lv_at hl 0 rfl) ?_
        refine gf5_1 C0 hM ok_md fl_RX5_7 dX5_come_90 ?_
        refine lv_iconst (v := (0 : Int32)) C0.1 C0.2.1 dX5_come_93 (by decide) ?_
        obtain ⟨g11, hF⟩ := gdb_some hF
        refine y_iald C0 hM oka_z g11 dX5_come_94 ?_
        obtain ⟨x12, ex12, hF⟩ := nm_some hF
        refine y_topi ex12 ?_
        refine lv_istore (lv' := [(6, .int x12), (0, .ref (gad G 220)), (1, .int a0), (2, .int a1), (3, .int a2), (4, .int a3), (5, .int s3)]) C0.1 C0.2.1 dX5_come_95 hl (by decide) rfl (fun ls hl => ?_)
        refine lv_iconst (v := (0 : Int32)) C0.1 C0.2.1 dX5_come_97 (by decide) ?_
        refine lv_istore (lv' := [(7, .int (0 : Int32)), (6, .int x12), (0, .ref (gad G 220)), (1, .int a0), (2, .int a1), (3, .int a2), (4, .int a3), (5, .int s3)]) C0.1 C0.2.1 dX5_come_98 hl (by decide) rfl (fun ls hl => ?_)
        have L100 : ∀ (n : Nat) (l7_13 : Int32) (M14 : MS) (H : Heap) (locs : List Loc) (ls : Array Slot), MX G M14 s H locs → lv_has ls 9 [(0, .ref (gad G 220)), (1, .int a0), (2, .int a1), (3, .int a2), (4, .int a3), (5, .int s3), (6, .int x12), (7, .int l7_13)] → F_X5_come_l100 a0 a1 a2 a3 x12 n l7_13 M14 = some (r, Mf) → W p l e (Rm 2) s m ([.ref (gad G 220), .int a0, .int a1, .int a2, .int a3] : List Value).toArray below meth c H locs 0 0 (QI below ([.ref (gad G 220), .int a0, .int a1, .int a2, .int a3] : List Value).toArray s G sz r Mf) (F0 m 100 ls []) := by
          intro n
          induction n with
          | zero => intro l7_13 M14 H locs ls hM hl hF; rw [F_X5_come_l100] at hF; cases hF
          | succ n100 ih100 =>
            intro l7_13 M14 H locs ls hM hl hF
            rw [F_X5_come_l100] at hF
            refine lv_iload C0.1 C0.2.1 dX5_come_100 (lv_at hl 7 rfl) ?_
            refine lv_bipush (v := (17 : Int32)) C0.1 C0.2.1 dX5_come_102 (by decide) ?_
            refine lv_icmp_ge (tgt := 122) C0.1 C0.2.1 dX5_come_104 (by decide) (fun c15 => ?_) (fun c15 => ?_)
            · have hF := if_t c15 hF
              refine lv_aload_n C0.1 C0.2.1 dX5_come_122 rfl (lv_at hl 0 rfl) ?_
              refine lv_iload C0.1 C0.2.1 dX5_come_123 (lv_at hl 6 rfl) ?_
              refine lv_iconst (v := (0 : Int32)) C0.1 C0.2.1 dX5_come_125 (by decide) ?_
              refine lv_iload_n C0.1 C0.2.1 dX5_come_126 rfl (lv_at hl 1 rfl) ?_
              obtain ⟨M17, h16, hF⟩ := bd_some hF
              refine y_vv (rest := []) C0 hM hl.1 ok_md (ent5 ok_md) rfl (k_X5_lay l G M14 x12 (0 : Int32) a0 h16) cw_RX5_47 rfl rfl ⟨Nat.le_of_ble_eq_true rfl, Nat.le_of_ble_eq_true rfl⟩ rfl (Nat.le_of_ble_eq_true rfl) ⟨Nat.le_of_ble_eq_true rfl, Nat.le_of_ble_eq_true rfl⟩ dX5_come_127 (fun H locs hM => ?_)
              refine lv_aload_n C0.1 C0.2.1 dX5_come_130 rfl (lv_at hl 0 rfl) ?_
              refine lv_iload C0.1 C0.2.1 dX5_come_131 (lv_at hl 6 rfl) ?_
              refine lv_iconst (v := (1 : Int32)) C0.1 C0.2.1 dX5_come_133 (by decide) ?_
              refine lv_iload_n C0.1 C0.2.1 dX5_come_134 rfl (lv_at hl 2 rfl) ?_
              obtain ⟨M19, h18, hF⟩ := bd_some hF
              refine y_vv (rest := []) C0 hM hl.1 ok_md (ent5 ok_md) rfl (k_X5_lay l G M17 x12 (1 : Int32) a1 h18) cw_RX5_47 rfl rfl ⟨Nat.le_of_ble_eq_true rfl, Nat.le_of_ble_eq_true rfl⟩ rfl (Nat.le_of_ble_eq_true rfl) ⟨Nat.le_of_ble_eq_true rfl, Nat.le_of_ble_eq_true rfl⟩ dX5_come_135 (fun H locs hM => ?_)
              refine lv_aload_n C0.1 C0.2.1 dX5_come_138 rfl (lv_at hl 0 rfl) ?_
              refine lv_iload C0.1 C0.2.1 dX5_come_139 (lv_at hl 6 rfl) ?_
              refine lv_iconst (v := (2 : Int32)) C0.1 C0.2.1 dX5_come_141 (by decide) ?_
              refine lv_iload_n C0.1 C0.2.1 dX5_come_142 rfl (lv_at hl 3 rfl) ?_
              obtain ⟨M21, h20, hF⟩ := bd_some hF
              refine y_vv (rest := []) C0 hM hl.1 ok_md (ent5 ok_md) rfl (k_X5_lay l G M19 x12 (2 : Int32) a2 h20) cw_RX5_47 rfl rfl ⟨Nat.le_of_ble_eq_true rfl, Nat.le_of_ble_eq_true rfl⟩ rfl (Nat.le_of_ble_eq_true rfl) ⟨Nat.le_of_ble_eq_true rfl, Nat.le_of_ble_eq_true rfl⟩ dX5_come_143 (fun H locs hM => ?_)
              refine lv_aload_n C0.1 C0.2.1 dX5_come_146 rfl (lv_at hl 0 rfl) ?_
              refine lv_iload C0.1 C0.2.1 dX5_come_147 (lv_at hl 6 rfl) ?_
              refine lv_iconst (v := (3 : Int32)) C0.1 C0.2.1 dX5_come_149 (by decide) ?_
              refine lv_iload_n C0.1 C0.2.1 dX5_come_150 rfl (lv_at hl 3 rfl) ?_
              obtain ⟨M23, h22, hF⟩ := bd_some hF
              refine y_vv (rest := []) C0 hM hl.1 ok_md (ent5 ok_md) rfl (k_X5_lay l G M21 x12 (3 : Int32) a2 h22) cw_RX5_47 rfl rfl ⟨Nat.le_of_ble_eq_true rfl, Nat.le_of_ble_eq_true rfl⟩ rfl (Nat.le_of_ble_eq_true rfl) ⟨Nat.le_of_ble_eq_true rfl, Nat.le_of_ble_eq_true rfl⟩ dX5_come_151 (fun H locs hM => ?_)
              refine lv_aload_n C0.1 C0.2.1 dX5_come_154 rfl (lv_at hl 0 rfl) ?_
              refine lv_iload C0.1 C0.2.1 dX5_come_155 (lv_at hl 6 rfl) ?_
              refine lv_iconst (v := (4 : Int32)) C0.1 C0.2.1 dX5_come_157 (by decide) ?_
              refine lv_iload C0.1 C0.2.1 dX5_come_158 (lv_at hl 4 rfl) ?_
              obtain ⟨M25, h24, hF⟩ := bd_some hF
              refine y_vv (rest := []) C0 hM hl.1 ok_md (ent5 ok_md) rfl (k_X5_lay l G M23 x12 (4 : Int32) a3 h24) cw_RX5_47 rfl rfl ⟨Nat.le_of_ble_eq_true rfl, Nat.le_of_ble_eq_true rfl⟩ rfl (Nat.le_of_ble_eq_true rfl) ⟨Nat.le_of_ble_eq_true rfl, Nat.le_of_ble_eq_true rfl⟩ dX5_come_160 (fun H locs hM => ?_)
              refine lv_aload_n C0.1 C0.2.1 dX5_come_163 rfl (lv_at hl 0 rfl) ?_
              refine lv_iload C0.1 C0.2.1 dX5_come_164 (lv_at hl 6 rfl) ?_
              refine lv_iconst (v := (5 : Int32)) C0.1 C0.2.1 dX5_come_166 (by decide) ?_
              refine lv_iload_n C0.1 C0.2.1 dX5_come_167 rfl (lv_at hl 1 rfl) ?_
              obtain ⟨j177_26, ej177_26, hF⟩ := nm_some hF
              have J177 : ∀ (s26 : Int32) (H : Heap) (locs : List Loc) (ls : Array Slot), MX G M25 s H locs → lv_has ls 9 [(0, .ref (gad G 220)), (1, .int a0), (2, .int a1), (3, .int a2), (4, .int a3), (5, .int s3), (6, .int x12), (7, .int l7_13)] → j177_26 s26 = some (r, Mf) → W p l e (Rm 2) s m ([.ref (gad G 220), .int a0, .int a1, .int a2, .int a3] : List Value).toArray below meth c H locs 0 0 (QI below ([.ref (gad G 220), .int a0, .int a1, .int a2, .int a3] : List Value).toArray s G sz r Mf) (F0 m 177 ls [.int s26, .int (5 : Int32), .int x12, .ref (gad G 220)]) := by
                intro s26 H locs ls hM hl hF
                rw [ej177_26] at hF
                obtain ⟨M29, h28, hF⟩ := bd_some hF
                refine y_vv (rest := []) C0 hM hl.1 ok_md (ent5 ok_md) rfl (k_X5_lay l G M25 x12 (5 : Int32) s26 h28) cw_RX5_47 rfl rfl ⟨Nat.le_of_ble_eq_true rfl, Nat.le_of_ble_eq_true rfl⟩ rfl (Nat.le_of_ble_eq_true rfl) ⟨Nat.le_of_ble_eq_true rfl, Nat.le_of_ble_eq_true rfl⟩ dX5_come_177 (fun H locs hM => ?_)
                refine lv_aload_n C0.1 C0.2.1 dX5_come_180 rfl (lv_at hl 0 rfl) ?_
                refine lv_iload C0.1 C0.2.1 dX5_come_181 (lv_at hl 6 rfl) ?_
                obtain ⟨M31, h30, hF⟩ := bd_some hF
                refine y_vv (rest := []) C0 hM hl.1 ok_md (ent5 ok_md) rfl (k_X5_loseReadied l G M29 x12 h30) cw_RX5_59 rfl rfl ⟨Nat.le_of_ble_eq_true rfl, Nat.le_of_ble_eq_true rfl⟩ rfl (Nat.le_of_ble_eq_true rfl) ⟨Nat.le_of_ble_eq_true rfl, Nat.le_of_ble_eq_true rfl⟩ dX5_come_183 (fun H locs hM => ?_)
                refine lv_iconst (v := (0 : Int32)) C0.1 C0.2.1 dX5_come_186 (by decide) ?_
                refine lv_istore (lv' := [(7, .int (0 : Int32)), (0, .ref (gad G 220)), (1, .int a0), (2, .int a1), (3, .int a2), (4, .int a3), (5, .int s3), (6, .int x12)]) C0.1 C0.2.1 dX5_come_187 hl (by decide) rfl (fun ls hl => ?_)
                have L189 : ∀ (n : Nat) (l7_32 : Int32) (H : Heap) (locs : List Loc) (ls : Array Slot), MX G M31 s H locs → lv_has ls 9 [(0, .ref (gad G 220)), (1, .int a0), (2, .int a1), (3, .int a2), (4, .int a3), (5, .int s3), (6, .int x12), (7, .int l7_32)] → F_X5_come_l189 a1 x12 M31 n l7_32 = some (r, Mf) → W p l e (Rm 2) s m ([.ref (gad G 220), .int a0, .int a1, .int a2, .int a3] : List Value).toArray below meth c H locs 0 0 (QI below ([.ref (gad G 220), .int a0, .int a1, .int a2, .int a3] : List Value).toArray s G sz r Mf) (F0 m 189 ls []) := by
                  intro n
                  induction n with
                  | zero => intro l7_32 H locs ls hM hl hF; rw [F_X5_come_l189] at hF; cases hF
                  | succ n189 ih189 =>
                    intro l7_32 H locs ls hM hl hF
                    rw [F_X5_come_l189] at hF
                    refine lv_iload C0.1 C0.2.1 dX5_come_189 (lv_at hl 7 rfl) ?_
                    refine lv_iload C0.1 C0.2.1 dX5_come_191 (lv_at hl 6 rfl) ?_
                    obtain ⟨j221_32, ej221_32, hF⟩ := nm_some hF
                    have J221 : ∀ (H : Heap) (locs : List Loc) (ls : Array Slot), MX G M31 s H locs → lv_has ls 9 [(0, .ref (gad G 220)), (1, .int a0), (2, .int a1), (3, .int a2), (4, .int a3), (5, .int s3), (6, .int x12), (7, .int l7_32)] → j221_32 = some (r, Mf) → W p l e (Rm 2) s m ([.ref (gad G 220), .int a0, .int a1, .int a2, .int a3] : List Value).toArray below meth c H locs 0 0 (QI below ([.ref (gad G 220), .int a0, .int a1, .int a2, .int a3] : List Value).toArray s G sz r Mf) (F0 m 221 ls []) := by
                      intro H locs ls hM hl hF
                      rw [ej221_32] at hF
                      refine lv_iload C0.1 C0.2.1 dX5_come_221 (lv_at hl 6 rfl) ?_
                      refine lv_istore (lv' := [(8, .int x12), (0, .ref (gad G 220)), (1, .int a0), (2, .int a1), (3, .int a2), (4, .int a3), (5, .int s3), (6, .int x12), (7, .int l7_32)]) C0.1 C0.2.1 dX5_come_223 hl (by decide) rfl (fun ls hl => ?_)
                      have L225 : ∀ (n : Nat) (l8_34 : Int32) (M35 : MS) (H : Heap) (locs : List Loc) (ls : Array Slot), MX G M35 s H locs → lv_has ls 9 [(0, .ref (gad G 220)), (1, .int a0), (2, .int a1), (3, .int a2), (4, .int a3), (5, .int s3), (6, .int x12), (7, .int l7_32), (8, .int l8_34)] → F_X5_come_l225 x12 l7_32 n l8_34 M35 = some (r, Mf) → W p l e (Rm 2) s m ([.ref (gad G 220), .int a0, .int a1, .int a2, .int a3] : List Value).toArray below meth c H locs 0 0 (QI below ([.ref (gad G 220), .int a0, .int a1, .int a2, .int a3] : List Value).toArray s G sz r Mf) (F0 m 225 ls []) := by
                        intro n
                        induction n with
                        | zero => intro l8_34 M35 H locs ls hM hl hF; rw [F_X5_come_l225] at hF; cases hF
                        | succ n225 ih225 =>
                          intro l8_34 M35 H locs ls hM hl hF
                          rw [F_X5_come_l225] at hF
                          refine lv_iload C0.1 C0.2.1 dX5_come_225 (lv_at hl 8 rfl) ?_
                          refine lv_iload C0.1 C0.2.1 dX5_come_227 (lv_at hl 7 rfl) ?_
                          refine lv_icmp_le (tgt := 260) C0.1 C0.2.1 dX5_come_229 (by decide) (fun c36 => ?_) (fun c36 => ?_)
                          · have hF := if_t c36 hF
                            refine lv_aload_n C0.1 C0.2.1 dX5_come_260 rfl (lv_at hl 0 rfl) ?_
                            refine gf5_1 C0 hM ok_md fl_RX5_7 dX5_come_261 ?_
                            refine lv_bipush (v := (6 : Int32)) C0.1 C0.2.1 dX5_come_264 (by decide) ?_
                            refine lv_iload C0.1 C0.2.1 dX5_come_266 (lv_at hl 7 rfl) ?_
                            refine lv_iadd C0.1 C0.2.1 dX5_come_268 ?_
                            refine lv_iload C0.1 C0.2.1 dX5_come_269 (lv_at hl 6 rfl) ?_
                            obtain ⟨g37, hF⟩ := gdb_some hF
                            refine y_iast C0 hM oka_z g37 dX5_come_271 (fun H locs hM => ?_)
                            obtain ⟨M38, eM38, hF⟩ := nm_some hF
                            have hM := y_mn eM38 hM
                            refine lv_aload_n C0.1 C0.2.1 dX5_come_272 rfl (lv_at hl 0 rfl) ?_
                            refine gf5_1 C0 hM ok_md fl_RX5_7 dX5_come_273 ?_
                            refine lv_iconst (v := (0 : Int32)) C0.1 C0.2.1 dX5_come_276 (by decide) ?_
                            refine lv_dup2_11 C0.1 C0.2.1 dX5_come_277 rfl rfl ?_
                            obtain ⟨g39, hF⟩ := gdb_some hF
                            refine y_iald C0 hM oka_z g39 dX5_come_278 ?_
                            refine lv_iconst (v := (1 : Int32)) C0.1 C0.2.1 dX5_come_279 (by decide) ?_
                            refine lv_iadd C0.1 C0.2.1 dX5_come_280 ?_
                            obtain ⟨g40, hF⟩ := gdb_some hF
                            refine y_iast C0 hM oka_z g40 dX5_come_281 (fun H locs hM => ?_)
                            obtain ⟨M41, eM41, hF⟩ := nm_some hF
                            have hM := y_mn eM41 hM
                            refine lv_iload C0.1 C0.2.1 dX5_come_282 (lv_at hl 6 rfl) ?_
                            obtain ⟨e8, e9⟩ := y_2 hF
                            subst e8
                            subst e9
                            exact y_iret C0 hM hsz dX5_come_284
                          · have hF := if_f c36 hF
                            refine lv_aload_n C0.1 C0.2.1 dX5_come_232 rfl (lv_at hl 0 rfl) ?_
                            refine gf5_1 C0 hM ok_md fl_RX5_7 dX5_come_233 ?_
                            refine lv_bipush (v := (6 : Int32)) C0.1 C0.2.1 dX5_come_236 (by decide) ?_
                            refine lv_iload C0.1 C0.2.1 dX5_come_238 (lv_at hl 8 rfl) ?_
                            refine lv_iadd C0.1 C0.2.1 dX5_come_240 ?_
                            refine lv_aload_n C0.1 C0.2.1 dX5_come_241 rfl (lv_at hl 0 rfl) ?_
                            refine gf5_1 C0 hM ok_md fl_RX5_7 dX5_come_242 ?_
                            refine lv_bipush (v := (6 : Int32)) C0.1 C0.2.1 dX5_come_245 (by decide) ?_
                            refine lv_iload C0.1 C0.2.1 dX5_come_247 (lv_at hl 8 rfl) ?_
                            refine lv_iadd C0.1 C0.2.1 dX5_come_249 ?_
                            refine lv_iconst (v := (1 : Int32)) C0.1 C0.2.1 dX5_come_250 (by decide) ?_
                            refine lv_isub C0.1 C0.2.1 dX5_come_251 ?_
                            obtain ⟨g42, hF⟩ := gdb_some hF
                            refine y_iald C0 hM oka_z g42 dX5_come_252 ?_
                            obtain ⟨g43, hF⟩ := gdb_some hF
                            refine y_iast C0 hM oka_z g43 dX5_come_253 (fun H locs hM => ?_)
                            obtain ⟨M44, eM44, hF⟩ := nm_some hF
                            have hM := y_mn eM44 hM
                            obtain ⟨x45, ex45, hF⟩ := nm_some hF
                            refine lv_iinc (v := x45) (lv' := [(8, .int x45), (0, .ref (gad G 220)), (1, .int a0), (2, .int a1), (3, .int a2), (4, .int a3), (5, .int s3), (6, .int x12), (7, .int l7_32)]) C0.1 C0.2.1 dX5_come_254 hl (k := 8) rfl (by rw [ex45]; rfl) (by decide) rfl (fun ls hl => ?_)
                            refine lv_goto (tgt := 225) C0.1 C0.2.1 dX5_come_257 (by decide) ?_
                            exact ih225 x45 M44 _ _ _ hM (lv_sub hl [1, 2, 3, 4, 5, 6, 7, 8, 0] rfl) hF
                      exact L225 FU x12 M31 _ _ _ hM (lv_sub hl [1, 2, 3, 4, 5, 6, 7, 8, 0] rfl) hF
                    refine lv_icmp_ge (tgt := 221) C0.1 C0.2.1 dX5_come_193 (by decide) (fun c46 => ?_) (fun c46 => ?_)
                    · have hF := if_t c46 hF
                      exact J221  _ _ _ hM (lv_sub hl [0, 1, 2, 3, 4, 5, 6, 7] rfl) hF
                    · have hF := if_f c46 hF
                      refine lv_aload_n C0.1 C0.2.1 dX5_come_196 rfl (lv_at hl 0 rfl) ?_
                      refine lv_aload_n C0.1 C0.2.1 dX5_come_197 rfl (lv_at hl 0 rfl) ?_
                      refine gf5_1 C0 hM ok_md fl_RX5_7 dX5_come_198 ?_
                      refine lv_bipush (v := (6 : Int32)) C0.1 C0.2.1 dX5_come_201 (by decide) ?_
                      refine lv_iload C0.1 C0.2.1 dX5_come_203 (lv_at hl 7 rfl) ?_
                      refine lv_iadd C0.1 C0.2.1 dX5_come_205 ?_
                      obtain ⟨g47, hF⟩ := gdb_some hF
                      refine y_iald C0 hM oka_z g47 dX5_come_206 ?_
                      refine lv_iconst (v := (1 : Int32)) C0.1 C0.2.1 dX5_come_207 (by decide) ?_
                      obtain ⟨r49, h48, hF⟩ := bd_some hF
                      refine y_vi (rest := []) C0 hM hl.1 ok_md (ent5 ok_md) rfl (k_X5_of l G M31 (rA M31 221 (Int32.toNatClampNeg ((6 : Int32) + l7_32))) (1 : Int32) h48) cw_RX5_32 rfl rfl ⟨Nat.le_of_ble_eq_true rfl, Nat.le_of_ble_eq_true rfl⟩ rfl (Nat.le_of_ble_eq_true rfl) ⟨Nat.le_of_ble_eq_true rfl, Nat.le_of_ble_eq_true rfl⟩ dX5_come_208 (fun H locs hM => ?_)
                      refine lv_iload_n C0.1 C0.2.1 dX5_come_211 rfl (lv_at hl 2 rfl) ?_
                      refine lv_icmp_lt (tgt := 221) C0.1 C0.2.1 dX5_come_212 (by decide) (fun c50 => ?_) (fun c50 => ?_)
                      · have hF := if_t c50 hF
                        exact J221  _ _ _ hM (lv_sub hl [0, 1, 2, 3, 4, 5, 6, 7] rfl) hF
                      · have hF := if_f c50 hF
                        obtain ⟨x51, ex51, hF⟩ := nm_some hF
                        refine lv_iinc (v := x51) (lv' := [(7, .int x51), (0, .ref (gad G 220)), (1, .int a0), (2, .int a1), (3, .int a2), (4, .int a3), (5, .int s3), (6, .int x12)]) C0.1 C0.2.1 dX5_come_215 hl (k := 7) rfl (by rw [ex51]; rfl) (by decide) rfl (fun ls hl => ?_)
                        refine lv_goto (tgt := 189) C0.1 C0.2.1 dX5_come_218 (by decide) ?_
                        exact ih189 x51 _ _ _ hM (lv_sub hl [1, 2, 3, 4, 5, 6, 7, 0] rfl) hF
                exact L189 FU (0 : Int32) _ _ _ hM (lv_sub hl [1, 2, 3, 4, 5, 6, 7, 0] rfl) hF
              refine lv_if_ne (tgt := 175) C0.1 C0.2.1 dX5_come_168 (by decide) (fun c52 => ?_) (fun c52 => ?_)
              · have hF := if_t c52 hF
                refine lv_bipush (v := (9 : Int32)) C0.1 C0.2.1 dX5_come_175 (by decide) ?_
                exact J177 (9 : Int32) _ _ _ hM (lv_sub hl [0, 1, 2, 3, 4, 5, 6, 7] rfl) hF
              · have hF := if_f (fun q => q c52) hF
                refine lv_iconst (v := (0 : Int32)) C0.1 C0.2.1 dX5_come_171 (by decide) ?_
                refine lv_goto (tgt := 177) C0.1 C0.2.1 dX5_come_172 (by decide) ?_
                exact J177 (0 : Int32) _ _ _ hM (lv_sub hl [0, 1, 2, 3, 4, 5, 6, 7] rfl) hF
            · have hF := if_f c15 hF
              refine lv_aload_n C0.1 C0.2.1 dX5_come_107 rfl (lv_at hl 0 rfl) ?_
              refine lv_iload C0.1 C0.2.1 dX5_come_108 (lv_at hl 6 rfl) ?_
              refine lv_iload C0.1 C0.2.1 dX5_come_110 (lv_at hl 7 rfl) ?_
              refine lv_iconst (v := (0 : Int32)) C0.1 C0.2.1 dX5_come_112 (by decide) ?_
              obtain ⟨M54, h53, hF⟩ := bd_some hF
              refine y_vv (rest := []) C0 hM hl.1 ok_md (ent5 ok_md) rfl (k_X5_lay l G M14 x12 l7_13 (0 : Int32) h53) cw_RX5_47 rfl rfl ⟨Nat.le_of_ble_eq_true rfl, Nat.le_of_ble_eq_true rfl⟩ rfl (Nat.le_of_ble_eq_true rfl) ⟨Nat.le_of_ble_eq_true rfl, Nat.le_of_ble_eq_true rfl⟩ dX5_come_113 (fun H locs hM => ?_)
              obtain ⟨x55, ex55, hF⟩ := nm_some hF
              refine lv_iinc (v := x55) (lv' := [(7, .int x55), (0, .ref (gad G 220)), (1, .int a0), (2, .int a1), (3, .int a2), (4, .int a3), (5, .int s3), (6, .int x12)]) C0.1 C0.2.1 dX5_come_116 hl (k := 7) rfl (by rw [ex55]; rfl) (by decide) rfl (fun ls hl => ?_)
              refine lv_goto (tgt := 100) C0.1 C0.2.1 dX5_come_119 (by decide) ?_
              exact ih100 x55 M54 _ _ _ hM (lv_sub hl [1, 2, 3, 4, 5, 6, 7, 0] rfl) hF
        exact L100 FU (0 : Int32) M10 _ _ _ hM (lv_sub hl [2, 3, 4, 5, 6, 7, 1, 0] rfl) hF
      · have hF := if_f c8 hF
        refine lv_iconst (v := (0 : Int32)) C0.1 C0.2.1 dX5_come_83 (by decide) ?_
        obtain ⟨e8, e9⟩ := y_2 hF
        subst e8
        subst e9
        exact y_iret C0 hM hsz dX5_come_84
    refine lv_if_ne (tgt := 57) C0.1 C0.2.1 dX5_come_50 (by decide) (fun c56 => ?_) (fun c56 => ?_)
    · have hF := if_t c56 hF
      refine lv_aload_n C0.1 C0.2.1 dX5_come_57 rfl (lv_at hl 1 rfl) ?_
      refine gf5_1 C0 hM ok_md fl_RX5_7 dX5_come_58 ?_
      refine lv_iconst (v := (0 : Int32)) C0.1 C0.2.1 dX5_come_61 (by decide) ?_
      obtain ⟨g57, hF⟩ := gdb_some hF
      refine y_iald C0 hM oka_z g57 dX5_come_62 ?_
      refine lv_bipush (v := (10 : Int32)) C0.1 C0.2.1 dX5_come_63 (by decide) ?_
      refine lv_icmp_ne (tgt := 72) C0.1 C0.2.1 dX5_come_65 (by decide) (fun c58 => ?_) (fun c58 => ?_)
      · have hF := if_t c58 hF
        refine lv_iconst (v := (0 : Int32)) C0.1 C0.2.1 dX5_come_72 (by decide) ?_
        exact J73 (0 : Int32) _ _ _ hM (lv_sub hl [1, 2, 3, 4, 5, 0] rfl) hF
      · have hF := if_f (fun q => q c58) hF
        refine lv_iconst (v := (2 : Int32)) C0.1 C0.2.1 dX5_come_68 (by decide) ?_
        refine lv_goto (tgt := 73) C0.1 C0.2.1 dX5_come_69 (by decide) ?_
        exact J73 (2 : Int32) _ _ _ hM (lv_sub hl [1, 2, 3, 4, 5, 0] rfl) hF
    · have hF := if_f (fun q => q c56) hF
      refine lv_iconst (v := (1 : Int32)) C0.1 C0.2.1 dX5_come_53 (by decide) ?_
      refine lv_goto (tgt := 73) C0.1 C0.2.1 dX5_come_54 (by decide) ?_
      exact J73 (1 : Int32) _ _ _ hM (lv_sub hl [1, 2, 3, 4, 5, 0] rfl) hF
  refine lv_if_eq (tgt := 44) C0.1 C0.2.1 dX5_come_6 (by decide) (fun c59 => ?_) (fun c59 => ?_)
  · have hF := if_t c59 hF
    refine lv_iconst (v := (0 : Int32)) C0.1 C0.2.1 dX5_come_44 (by decide) ?_
    exact J45 (0 : Int32) _ _ _ hM (lv_sub hl [0, 1, 2, 3, 4] rfl) hF
  · have hF := if_f c59 hF
    refine lv_iload_n C0.1 C0.2.1 dX5_come_9 rfl (lv_at hl 2 rfl) ?_
    refine lv_iconst (v := (0 : Int32)) C0.1 C0.2.1 dX5_come_10 (by decide) ?_
    refine lv_bipush (v := (40 : Int32)) C0.1 C0.2.1 dX5_come_11 (by decide) ?_
    obtain ⟨r61, h60, hF⟩ := bd_some hF
    refine y_si (rest := []) C0 hM hl.1 (k_X5_in l G M a1 (0 : Int32) (40 : Int32) h60) cw_RX5_85 rfl rfl ⟨Nat.le_of_ble_eq_true rfl, Nat.le_of_ble_eq_true rfl⟩ rfl (Nat.le_of_ble_eq_true rfl) ⟨Nat.le_of_ble_eq_true rfl, Nat.le_of_ble_eq_true rfl⟩ dX5_come_13 (fun H locs hM => ?_)
    refine lv_if_eq (tgt := 44) C0.1 C0.2.1 dX5_come_16 (by decide) (fun c62 => ?_) (fun c62 => ?_)
    · have hF := if_t c62 hF
      refine lv_iconst (v := (0 : Int32)) C0.1 C0.2.1 dX5_come_44 (by decide) ?_
      exact J45 (0 : Int32) _ _ _ hM (lv_sub hl [0, 1, 2, 3, 4] rfl) hF
    · have hF := if_f c62 hF
      refine lv_iload_n C0.1 C0.2.1 dX5_come_19 rfl (lv_at hl 3 rfl) ?_
      refine lv_iconst (v := (1 : Int32)) C0.1 C0.2.1 dX5_come_20 (by decide) ?_
      refine lv_bipush (v := (99 : Int32)) C0.1 C0.2.1 dX5_come_21 (by decide) ?_
      obtain ⟨r64, h63, hF⟩ := bd_some hF
      refine y_si (rest := []) C0 hM hl.1 (k_X5_in l G M a2 (1 : Int32) (99 : Int32) h63) cw_RX5_85 rfl rfl ⟨Nat.le_of_ble_eq_true rfl, Nat.le_of_ble_eq_true rfl⟩ rfl (Nat.le_of_ble_eq_true rfl) ⟨Nat.le_of_ble_eq_true rfl, Nat.le_of_ble_eq_true rfl⟩ dX5_come_23 (fun H locs hM => ?_)
      refine lv_if_eq (tgt := 44) C0.1 C0.2.1 dX5_come_26 (by decide) (fun c65 => ?_) (fun c65 => ?_)
      · have hF := if_t c65 hF
        refine lv_iconst (v := (0 : Int32)) C0.1 C0.2.1 dX5_come_44 (by decide) ?_
        exact J45 (0 : Int32) _ _ _ hM (lv_sub hl [0, 1, 2, 3, 4] rfl) hF
      · have hF := if_f c65 hF
        refine lv_iload C0.1 C0.2.1 dX5_come_29 (lv_at hl 4 rfl) ?_
        refine lv_iconst (v := (1 : Int32)) C0.1 C0.2.1 dX5_come_31 (by decide) ?_
        refine lv_bipush (v := (20 : Int32)) C0.1 C0.2.1 dX5_come_32 (by decide) ?_
        obtain ⟨r67, h66, hF⟩ := bd_some hF
        refine y_si (rest := []) C0 hM hl.1 (k_X5_in l G M a3 (1 : Int32) (20 : Int32) h66) cw_RX5_85 rfl rfl ⟨Nat.le_of_ble_eq_true rfl, Nat.le_of_ble_eq_true rfl⟩ rfl (Nat.le_of_ble_eq_true rfl) ⟨Nat.le_of_ble_eq_true rfl, Nat.le_of_ble_eq_true rfl⟩ dX5_come_34 (fun H locs hM => ?_)
        refine lv_if_eq (tgt := 44) C0.1 C0.2.1 dX5_come_37 (by decide) (fun c68 => ?_) (fun c68 => ?_)
        · have hF := if_t c68 hF
          refine lv_iconst (v := (0 : Int32)) C0.1 C0.2.1 dX5_come_44 (by decide) ?_
          exact J45 (0 : Int32) _ _ _ hM (lv_sub hl [0, 1, 2, 3, 4] rfl) hF
        · have hF := if_f c68 hF
          refine lv_iconst (v := (1 : Int32)) C0.1 C0.2.1 dX5_come_40 (by decide) ?_
          refine lv_goto (tgt := 45) C0.1 C0.2.1 dX5_come_41 (by decide) ?_
          exact J45 (1 : Int32) _ _ _ hM (lv_sub hl [0, 1, 2, 3, 4] rfl) hF

def F_X5_reach (M : MS) (a0 : Int32) : Option Int32 := (bd (F_X5_has M a0 (1 : Int32)) fun r2 => (if r2 = 0 then (some (3 : Int32)) else (some (1 : Int32))))

set_option maxHeartbeats 4000000 in
set_option maxRecDepth 100000 in
theorem k_X5_reach (l : Launch) (G : GG) (M : MS) (a0 : Int32) {r : Int32} (hF : F_X5_reach M a0 = some r) : KI l yX5_reach (WS yX5_reach cX5_reach 2 (some .int)) (Rm 2) G [.ref (gad G 220), .int a0] M r M := by
  intro sz
  refine y_met (by decide +kernel) (Nat.le_of_ble_eq_true rfl) rfl (fun p e s m below meth c ls hsz C0 hM hl => ?_)
  have hl : lv_has ls 2 [(0, .ref (gad G 220)), (1, .int a0)] := hl
  have C0 : CX p s m meth c ([.ref (gad G 220), .int a0] : List Value).toArray cX5_reach RX5 2 (some .int) := C0
  rw [F_X5_reach] at hF
  refine lv_aload_n C0.1 C0.2.1 dX5_reach_0 rfl (lv_at hl 0 rfl) ?_
  refine lv_iload_n C0.1 C0.2.1 dX5_reach_1 rfl (lv_at hl 1 rfl) ?_
  refine lv_iconst (v := (1 : Int32)) C0.1 C0.2.1 dX5_reach_2 (by decide) ?_
  obtain ⟨r2, h1, hF⟩ := bd_some hF
  refine y_vi (rest := []) C0 hM hl.1 ok_md (ent5 ok_md) rfl (k_X5_has l G M a0 (1 : Int32) h1) cw_RX5_55 rfl rfl ⟨Nat.le_of_ble_eq_true rfl, Nat.le_of_ble_eq_true rfl⟩ rfl (Nat.le_of_ble_eq_true rfl) ⟨Nat.le_of_ble_eq_true rfl, Nat.le_of_ble_eq_true rfl⟩ dX5_reach_3 (fun H locs hM => ?_)
  refine lv_if_eq (tgt := 13) C0.1 C0.2.1 dX5_reach_6 (by decide) (fun c3 => ?_) (fun c3 => ?_)
  · have hF := if_t c3 hF
    refine lv_iconst (v := (3 : Int32)) C0.1 C0.2.1 dX5_reach_13 (by decide) ?_
    have e8 := y_1 hF
    subst e8
    exact y_iret C0 hM hsz dX5_reach_14
  · have hF := if_f c3 hF
    refine lv_iconst (v := (1 : Int32)) C0.1 C0.2.1 dX5_reach_9 (by decide) ?_
    refine lv_goto (tgt := 14) C0.1 C0.2.1 dX5_reach_10 (by decide) ?_
    have e8 := y_1 hF
    subst e8
    exact y_iret C0 hM hsz dX5_reach_14

def F_X5_isNear (M : MS) (a0 : Int32) (a1 : Int32) : Option Int32 := (bd (F_X5_of M a0 (5 : Int32)) fun r2 => (bd (F_X5_of M a1 (5 : Int32)) fun r4 => (bd (F_X5_apart M r2 r4) fun r6 => (if (2 : Int32) < r6 then (some (0 : Int32)) else (some (1 : Int32))))))

set_option maxHeartbeats 4000000 in
set_option maxRecDepth 100000 in
theorem k_X5_isNear (l : Launch) (G : GG) (M : MS) (a0 : Int32) (a1 : Int32) {r : Int32} (hF : F_X5_isNear M a0 a1 = some r) : KI l yX5_isNear (WS yX5_isNear cX5_isNear 3 (some .boolean)) (Rm 1) G [.ref (gad G 220), .int a0, .int a1] M r M := by
  intro sz
  refine y_met (by decide +kernel) (Nat.le_of_ble_eq_true rfl) rfl (fun p e s m below meth c ls hsz C0 hM hl => ?_)
  have hl : lv_has ls 3 [(0, .ref (gad G 220)), (1, .int a0), (2, .int a1)] := hl
  have C0 : CX p s m meth c ([.ref (gad G 220), .int a0, .int a1] : List Value).toArray cX5_isNear RX5 3 (some .boolean) := C0
  rw [F_X5_isNear] at hF
  refine lv_aload_n C0.1 C0.2.1 dX5_isNear_0 rfl (lv_at hl 0 rfl) ?_
  refine lv_iload_n C0.1 C0.2.1 dX5_isNear_1 rfl (lv_at hl 1 rfl) ?_
  refine lv_iconst (v := (5 : Int32)) C0.1 C0.2.1 dX5_isNear_2 (by decide) ?_
  obtain ⟨r2, h1, hF⟩ := bd_some hF
  refine y_vi (rest := []) C0 hM hl.1 ok_md (ent5 ok_md) rfl (k_X5_of l G M a0 (5 : Int32) h1) cw_RX5_32 rfl rfl ⟨Nat.le_of_ble_eq_true rfl, Nat.le_of_ble_eq_true rfl⟩ rfl (Nat.le_of_ble_eq_true rfl) ⟨Nat.le_of_ble_eq_true rfl, Nat.le_of_ble_eq_true rfl⟩ dX5_isNear_3 (fun H locs hM => ?_)
  refine lv_aload_n C0.1 C0.2.1 dX5_isNear_6 rfl (lv_at hl 0 rfl) ?_
  refine lv_iload_n C0.1 C0.2.1 dX5_isNear_7 rfl (lv_at hl 2 rfl) ?_
  refine lv_iconst (v := (5 : Int32)) C0.1 C0.2.1 dX5_isNear_8 (by decide) ?_
  obtain ⟨r4, h3, hF⟩ := bd_some hF
  refine y_vi (rest := [.int r2]) C0 hM hl.1 ok_md (ent5 ok_md) rfl (k_X5_of l G M a1 (5 : Int32) h3) cw_RX5_32 rfl rfl ⟨Nat.le_of_ble_eq_true rfl, Nat.le_of_ble_eq_true rfl⟩ rfl (Nat.le_of_ble_eq_true rfl) ⟨Nat.le_of_ble_eq_true rfl, Nat.le_of_ble_eq_true rfl⟩ dX5_isNear_9 (fun H locs hM => ?_)
  obtain ⟨r6, h5, hF⟩ := bd_some hF
  refine y_si (rest := []) C0 hM hl.1 (k_X5_apart l G M r2 r4 h5) cw_RX5_89 rfl rfl ⟨Nat.le_of_ble_eq_true rfl, Nat.le_of_ble_eq_true rfl⟩ rfl (Nat.le_of_ble_eq_true rfl) ⟨Nat.le_of_ble_eq_true rfl, Nat.le_of_ble_eq_true rfl⟩ dX5_isNear_12 (fun H locs hM => ?_)
  refine lv_iconst (v := (2 : Int32)) C0.1 C0.2.1 dX5_isNear_15 (by decide) ?_
  refine lv_icmp_gt (tgt := 23) C0.1 C0.2.1 dX5_isNear_16 (by decide) (fun c7 => ?_) (fun c7 => ?_)
  · have hF := if_t c7 hF
    refine lv_iconst (v := (0 : Int32)) C0.1 C0.2.1 dX5_isNear_23 (by decide) ?_
    have e8 := y_1 hF
    subst e8
    exact y_zret C0 hM hsz rfl dX5_isNear_24
  · have hF := if_f c7 hF
    refine lv_iconst (v := (1 : Int32)) C0.1 C0.2.1 dX5_isNear_19 (by decide) ?_
    refine lv_goto (tgt := 24) C0.1 C0.2.1 dX5_isNear_20 (by decide) ?_
    have e8 := y_1 hF
    subst e8
    exact y_zret C0 hM hsz rfl dX5_isNear_24

def F_X5_isPossible (M : MS) (a0 : Int32) (a1 : Int32) (a2 : Int32) : Option Int32 := (if ¬ a1 = (1 : Int32) then (if a2 = a0 then (some (0 : Int32)) else (bd (F_X5_hasFallen M a2) fun r4 => (if r4 = 0 then (bd (F_X5_of M a0 (0 : Int32)) fun r7 => (bd (F_X5_of M a2 (0 : Int32)) fun r9 => (nm (fun (s10 : Int32) => (if ¬ a1 = 0 then (if ¬ a1 = (2 : Int32) then (if ¬ s10 = 0 then (some (0 : Int32)) else (some (1 : Int32))) else (if s10 = 0 then (some (0 : Int32)) else (bd (F_X5_isNear M a0 a2) fun r17 => (if r17 = 0 then (some (0 : Int32)) else (some (1 : Int32)))))) else (bd (F_X5_isNear M a0 a2) fun r20 => (gdb (r20 == 0 || r20 == 1) (some r20))))) fun j64_10 => (if ¬ r7 = r9 then (j64_10 (0 : Int32)) else (j64_10 (1 : Int32)))))) else (some (0 : Int32))))) else (bd (F_X5_of M a0 (5 : Int32)) fun r24 => (bd (F_X5_apart M r24 a2) fun r26 => (bd (F_X5_reach M a0) fun r28 => (if r28 < r26 then (some (0 : Int32)) else (some (1 : Int32)))))))

set_option maxHeartbeats 4000000 in
set_option maxRecDepth 100000 in
theorem k_X5_isPossible (l : Launch) (G : GG) (M : MS) (a0 : Int32) (a1 : Int32) (a2 : Int32) {r : Int32} (hF : F_X5_isPossible M a0 a1 a2 = some r) : KI l yX5_isPossible (WS yX5_isPossible cX5_isPossible 5 (some .boolean)) (Rm 3) G [.ref (gad G 220), .int a0, .int a1, .int a2] M r M := by
  intro sz
  refine y_met (by decide +kernel) (Nat.le_of_ble_eq_true rfl) rfl (fun p e s m below meth c ls hsz C0 hM hl => ?_)
  have hl : lv_has ls 5 [(0, .ref (gad G 220)), (1, .int a0), (2, .int a1), (3, .int a2)] := hl
  have C0 : CX p s m meth c ([.ref (gad G 220), .int a0, .int a1, .int a2] : List Value).toArray cX5_isPossible RX5 5 (some .boolean) := C0
  rw [F_X5_isPossible] at hF
  refine lv_iload_n C0.1 C0.2.1 dX5_isPossible_0 rfl (lv_at hl 2 rfl) ?_
  refine lv_iconst (v := (1 : Int32)) C0.1 C0.2.1 dX5_isPossible_1 (by decide) ?_
  refine lv_icmp_ne (tgt := 29) C0.1 C0.2.1 dX5_isPossible_2 (by decide) (fun c1 => ?_) (fun c1 => ?_)
  · have hF := if_t c1 hF
    refine lv_iload_n C0.1 C0.2.1 dX5_isPossible_29 rfl (lv_at hl 3 rfl) ?_
    refine lv_iload_n C0.1 C0.2.1 dX5_isPossible_30 rfl (lv_at hl 1 rfl) ?_
    refine lv_icmp_eq (tgt := 42) C0.1 C0.2.1 dX5_isPossible_31 (by decide) (fun c2 => ?_) (fun c2 => ?_)
    · have hF := if_t c2 hF
      refine lv_iconst (v := (0 : Int32)) C0.1 C0.2.1 dX5_isPossible_42 (by decide) ?_
      have e8 := y_1 hF
      subst e8
      exact y_zret C0 hM hsz rfl dX5_isPossible_43
    · have hF := if_f c2 hF
      refine lv_aload_n C0.1 C0.2.1 dX5_isPossible_34 rfl (lv_at hl 0 rfl) ?_
      refine lv_iload_n C0.1 C0.2.1 dX5_isPossible_35 rfl (lv_at hl 3 rfl) ?_
      obtain ⟨r4, h3, hF⟩ := bd_some hF
      refine y_vi (rest := []) C0 hM hl.1 ok_md (ent5 ok_md) rfl (k_X5_hasFallen l G M a2 h3) cw_RX5_51 rfl rfl ⟨Nat.le_of_ble_eq_true rfl, Nat.le_of_ble_eq_true rfl⟩ rfl (Nat.le_of_ble_eq_true rfl) ⟨Nat.le_of_ble_eq_true rfl, Nat.le_of_ble_eq_true rfl⟩ dX5_isPossible_36 (fun H locs hM => ?_)
      refine lv_if_eq (tgt := 44) C0.1 C0.2.1 dX5_isPossible_39 (by decide) (fun c5 => ?_) (fun c5 => ?_)
      · have hF := if_t c5 hF
        refine lv_aload_n C0.1 C0.2.1 dX5_isPossible_44 rfl (lv_at hl 0 rfl) ?_
        refine lv_iload_n C0.1 C0.2.1 dX5_isPossible_45 rfl (lv_at hl 1 rfl) ?_
        refine lv_iconst (v := (0 : Int32)) C0.1 C0.2.1 dX5_isPossible_46 (by decide) ?_
        obtain ⟨r7, h6, hF⟩ := bd_some hF
        refine y_vi (rest := []) C0 hM hl.1 ok_md (ent5 ok_md) rfl (k_X5_of l G M a0 (0 : Int32) h6) cw_RX5_32 rfl rfl ⟨Nat.le_of_ble_eq_true rfl, Nat.le_of_ble_eq_true rfl⟩ rfl (Nat.le_of_ble_eq_true rfl) ⟨Nat.le_of_ble_eq_true rfl, Nat.le_of_ble_eq_true rfl⟩ dX5_isPossible_47 (fun H locs hM => ?_)
        refine lv_aload_n C0.1 C0.2.1 dX5_isPossible_50 rfl (lv_at hl 0 rfl) ?_
        refine lv_iload_n C0.1 C0.2.1 dX5_isPossible_51 rfl (lv_at hl 3 rfl) ?_
        refine lv_iconst (v := (0 : Int32)) C0.1 C0.2.1 dX5_isPossible_52 (by decide) ?_
        obtain ⟨r9, h8, hF⟩ := bd_some hF
        refine y_vi (rest := [.int r7]) C0 hM hl.1 ok_md (ent5 ok_md) rfl (k_X5_of l G M a2 (0 : Int32) h8) cw_RX5_32 rfl rfl ⟨Nat.le_of_ble_eq_true rfl, Nat.le_of_ble_eq_true rfl⟩ rfl (Nat.le_of_ble_eq_true rfl) ⟨Nat.le_of_ble_eq_true rfl, Nat.le_of_ble_eq_true rfl⟩ dX5_isPossible_53 (fun H locs hM => ?_)
        obtain ⟨j64_10, ej64_10, hF⟩ := nm_some hF
        have J64 : ∀ (s10 : Int32) (H : Heap) (locs : List Loc) (ls : Array Slot), MX G M s H locs → lv_has ls 5 [(0, .ref (gad G 220)), (1, .int a0), (2, .int a1), (3, .int a2)] → j64_10 s10 = some r → W p l e (Rm 3) s m ([.ref (gad G 220), .int a0, .int a1, .int a2] : List Value).toArray below meth c H locs 0 0 (QI below ([.ref (gad G 220), .int a0, .int a1, .int a2] : List Value).toArray s G sz r M) (F0 m 64 ls [.int s10]) := by
          intro s10 H locs ls hM hl hF
          rw [ej64_10] at hF
          refine lv_istore (lv' := [(4, .int s10), (0, .ref (gad G 220)), (1, .int a0), (2, .int a1), (3, .int a2)]) C0.1 C0.2.1 dX5_isPossible_64 hl (by decide) rfl (fun ls hl => ?_)
          refine lv_iload_n C0.1 C0.2.1 dX5_isPossible_66 rfl (lv_at hl 3 rfl) ?_
          refine lv_if_ne (tgt := 79) C0.1 C0.2.1 dX5_isPossible_67 (by decide) (fun c12 => ?_) (fun c12 => ?_)
          · have hF := if_t c12 hF
            refine lv_iload_n C0.1 C0.2.1 dX5_isPossible_79 rfl (lv_at hl 3 rfl) ?_
            refine lv_iconst (v := (2 : Int32)) C0.1 C0.2.1 dX5_isPossible_80 (by decide) ?_
            refine lv_icmp_ne (tgt := 106) C0.1 C0.2.1 dX5_isPossible_81 (by decide) (fun c13 => ?_) (fun c13 => ?_)
            · have hF := if_t c13 hF
              refine lv_iload C0.1 C0.2.1 dX5_isPossible_106 (lv_at hl 0 rfl) ?_
              refine lv_if_ne (tgt := 115) C0.1 C0.2.1 dX5_isPossible_108 (by decide) (fun c14 => ?_) (fun c14 => ?_)
              · have hF := if_t c14 hF
                refine lv_iconst (v := (0 : Int32)) C0.1 C0.2.1 dX5_isPossible_115 (by decide) ?_
                have e8 := y_1 hF
                subst e8
                exact y_zret C0 hM hsz rfl dX5_isPossible_116
              · have hF := if_f (fun q => q c14) hF
                refine lv_iconst (v := (1 : Int32)) C0.1 C0.2.1 dX5_isPossible_111 (by decide) ?_
                refine lv_goto (tgt := 116) C0.1 C0.2.1 dX5_isPossible_112 (by decide) ?_
                have e8 := y_1 hF
                subst e8
                exact y_zret C0 hM hsz rfl dX5_isPossible_116
            · have hF := if_f (fun q => q c13) hF
              refine lv_iload C0.1 C0.2.1 dX5_isPossible_84 (lv_at hl 0 rfl) ?_
              refine lv_if_eq (tgt := 102) C0.1 C0.2.1 dX5_isPossible_86 (by decide) (fun c15 => ?_) (fun c15 => ?_)
              · have hF := if_t c15 hF
                refine lv_iconst (v := (0 : Int32)) C0.1 C0.2.1 dX5_isPossible_102 (by decide) ?_
                refine lv_goto (tgt := 116) C0.1 C0.2.1 dX5_isPossible_103 (by decide) ?_
                have e8 := y_1 hF
                subst e8
                exact y_zret C0 hM hsz rfl dX5_isPossible_116
              · have hF := if_f c15 hF
                refine lv_aload_n C0.1 C0.2.1 dX5_isPossible_89 rfl (lv_at hl 1 rfl) ?_
                refine lv_iload_n C0.1 C0.2.1 dX5_isPossible_90 rfl (lv_at hl 2 rfl) ?_
                refine lv_iload_n C0.1 C0.2.1 dX5_isPossible_91 rfl (lv_at hl 4 rfl) ?_
                obtain ⟨r17, h16, hF⟩ := bd_some hF
                refine y_vi (rest := []) C0 hM hl.1 ok_md (ent5 ok_md) rfl (k_X5_isNear l G M a0 a2 h16) cw_RX5_95 rfl rfl ⟨Nat.le_of_ble_eq_true rfl, Nat.le_of_ble_eq_true rfl⟩ rfl (Nat.le_of_ble_eq_true rfl) ⟨Nat.le_of_ble_eq_true rfl, Nat.le_of_ble_eq_true rfl⟩ dX5_isPossible_92 (fun H locs hM => ?_)
                refine lv_if_eq (tgt := 102) C0.1 C0.2.1 dX5_isPossible_95 (by decide) (fun c18 => ?_) (fun c18 => ?_)
                · have hF := if_t c18 hF
                  refine lv_iconst (v := (0 : Int32)) C0.1 C0.2.1 dX5_isPossible_102 (by decide) ?_
                  refine lv_goto (tgt := 116) C0.1 C0.2.1 dX5_isPossible_103 (by decide) ?_
                  have e8 := y_1 hF
                  subst e8
                  exact y_zret C0 hM hsz rfl dX5_isPossible_116
                · have hF := if_f c18 hF
                  refine lv_iconst (v := (1 : Int32)) C0.1 C0.2.1 dX5_isPossible_98 (by decide) ?_
                  refine lv_goto (tgt := 116) C0.1 C0.2.1 dX5_isPossible_99 (by decide) ?_
                  have e8 := y_1 hF
                  subst e8
                  exact y_zret C0 hM hsz rfl dX5_isPossible_116
          · have hF := if_f (fun q => q c12) hF
            refine lv_aload_n C0.1 C0.2.1 dX5_isPossible_70 rfl (lv_at hl 1 rfl) ?_
            refine lv_iload_n C0.1 C0.2.1 dX5_isPossible_71 rfl (lv_at hl 2 rfl) ?_
            refine lv_iload_n C0.1 C0.2.1 dX5_isPossible_72 rfl (lv_at hl 4 rfl) ?_
            obtain ⟨r20, h19, hF⟩ := bd_some hF
            refine y_vi (rest := []) C0 hM hl.1 ok_md (ent5 ok_md) rfl (k_X5_isNear l G M a0 a2 h19) cw_RX5_95 rfl rfl ⟨Nat.le_of_ble_eq_true rfl, Nat.le_of_ble_eq_true rfl⟩ rfl (Nat.le_of_ble_eq_true rfl) ⟨Nat.le_of_ble_eq_true rfl, Nat.le_of_ble_eq_true rfl⟩ dX5_isPossible_73 (fun H locs hM => ?_)
            refine lv_goto (tgt := 116) C0.1 C0.2.1 dX5_isPossible_76 (by decide) ?_
            obtain ⟨g21, hF⟩ := gdb_some hF
            have e8 := y_1 hF
            subst e8
            exact y_zret C0 hM hsz (zob_n g21) dX5_isPossible_116
        refine lv_icmp_ne (tgt := 63) C0.1 C0.2.1 dX5_isPossible_56 (by decide) (fun c22 => ?_) (fun c22 => ?_)
        · have hF := if_t c22 hF
          refine lv_iconst (v := (0 : Int32)) C0.1 C0.2.1 dX5_isPossible_63 (by decide) ?_
          exact J64 (0 : Int32) _ _ _ hM (lv_sub hl [0, 1, 2, 3] rfl) hF
        · have hF := if_f (fun q => q c22) hF
          refine lv_iconst (v := (1 : Int32)) C0.1 C0.2.1 dX5_isPossible_59 (by decide) ?_
          refine lv_goto (tgt := 64) C0.1 C0.2.1 dX5_isPossible_60 (by decide) ?_
          exact J64 (1 : Int32) _ _ _ hM (lv_sub hl [0, 1, 2, 3] rfl) hF
      · have hF := if_f c5 hF
        refine lv_iconst (v := (0 : Int32)) C0.1 C0.2.1 dX5_isPossible_42 (by decide) ?_
        have e8 := y_1 hF
        subst e8
        exact y_zret C0 hM hsz rfl dX5_isPossible_43
  · have hF := if_f (fun q => q c1) hF
    refine lv_aload_n C0.1 C0.2.1 dX5_isPossible_5 rfl (lv_at hl 0 rfl) ?_
    refine lv_iload_n C0.1 C0.2.1 dX5_isPossible_6 rfl (lv_at hl 1 rfl) ?_
    refine lv_iconst (v := (5 : Int32)) C0.1 C0.2.1 dX5_isPossible_7 (by decide) ?_
    obtain ⟨r24, h23, hF⟩ := bd_some hF
    refine y_vi (rest := []) C0 hM hl.1 ok_md (ent5 ok_md) rfl (k_X5_of l G M a0 (5 : Int32) h23) cw_RX5_32 rfl rfl ⟨Nat.le_of_ble_eq_true rfl, Nat.le_of_ble_eq_true rfl⟩ rfl (Nat.le_of_ble_eq_true rfl) ⟨Nat.le_of_ble_eq_true rfl, Nat.le_of_ble_eq_true rfl⟩ dX5_isPossible_8 (fun H locs hM => ?_)
    refine lv_iload_n C0.1 C0.2.1 dX5_isPossible_11 rfl (lv_at hl 3 rfl) ?_
    obtain ⟨r26, h25, hF⟩ := bd_some hF
    refine y_si (rest := []) C0 hM hl.1 (k_X5_apart l G M r24 a2 h25) cw_RX5_89 rfl rfl ⟨Nat.le_of_ble_eq_true rfl, Nat.le_of_ble_eq_true rfl⟩ rfl (Nat.le_of_ble_eq_true rfl) ⟨Nat.le_of_ble_eq_true rfl, Nat.le_of_ble_eq_true rfl⟩ dX5_isPossible_12 (fun H locs hM => ?_)
    refine lv_aload_n C0.1 C0.2.1 dX5_isPossible_15 rfl (lv_at hl 0 rfl) ?_
    refine lv_iload_n C0.1 C0.2.1 dX5_isPossible_16 rfl (lv_at hl 1 rfl) ?_
    obtain ⟨r28, h27, hF⟩ := bd_some hF
    refine y_vi (rest := [.int r26]) C0 hM hl.1 ok_md (ent5 ok_md) rfl (k_X5_reach l G M a0 h27) cw_RX5_92 rfl rfl ⟨Nat.le_of_ble_eq_true rfl, Nat.le_of_ble_eq_true rfl⟩ rfl (Nat.le_of_ble_eq_true rfl) ⟨Nat.le_of_ble_eq_true rfl, Nat.le_of_ble_eq_true rfl⟩ dX5_isPossible_17 (fun H locs hM => ?_)
    refine lv_icmp_gt (tgt := 27) C0.1 C0.2.1 dX5_isPossible_20 (by decide) (fun c29 => ?_) (fun c29 => ?_)
    · have hF := if_t c29 hF
      refine lv_iconst (v := (0 : Int32)) C0.1 C0.2.1 dX5_isPossible_27 (by decide) ?_
      have e8 := y_1 hF
      subst e8
      exact y_zret C0 hM hsz rfl dX5_isPossible_28
    · have hF := if_f c29 hF
      refine lv_iconst (v := (1 : Int32)) C0.1 C0.2.1 dX5_isPossible_23 (by decide) ?_
      refine lv_goto (tgt := 28) C0.1 C0.2.1 dX5_isPossible_24 (by decide) ?_
      have e8 := y_1 hF
      subst e8
      exact y_zret C0 hM hsz rfl dX5_isPossible_28

def F_X5_strikeIt (M : MS) (a0 : Int32) (a1 : Int32) : Option (Int32 × MS) := (bd (F_X5_of M a0 (4 : Int32)) fun r2 => (bd (F_X5_has M a0 (2 : Int32)) fun r4 => (nm (fun (s5 : Int32) => (nm (r2 + s5) fun x7 => (bd (F_X5_has M a0 (1 : Int32)) fun r9 => (nm (fun (s10 : Int32) => (bd (F_X5_of M a1 (2 : Int32)) fun r13 => (nm (fun (s14 : Int32) => (bd (F_X5_of M a1 (2 : Int32)) fun r17 => (bd (F_X5_lay M a1 (2 : Int32) (r17 - s14)) fun M19 => (bd (F_X5_of M19 a0 (16 : Int32)) fun r21 => (bd (F_X5_lay M19 a0 (16 : Int32) (r21 + s14)) fun M23 => (some (s14, M23))))))) fun j59_14 => (if r13 ≤ s10 then (bd (F_X5_of M a1 (2 : Int32)) fun r26 => (j59_14 r26)) else (j59_14 s10))))) fun j38_10 => (if r9 = 0 then (j38_10 x7) else (j38_10 (x7 / (2 : Int32)))))))) fun j20_5 => (if r4 = 0 then (j20_5 (0 : Int32)) else (j20_5 (3 : Int32))))))

set_option maxHeartbeats 4000000 in
set_option maxRecDepth 100000 in
theorem k_X5_strikeIt (l : Launch) (G : GG) (M : MS) (a0 : Int32) (a1 : Int32) {r : Int32} {Mf : MS} (hF : F_X5_strikeIt M a0 a1 = some (r, Mf)) : KI l yX5_strikeIt (WS yX5_strikeIt cX5_strikeIt 5 (some .int)) (Rm 2) G [.ref (gad G 220), .int a0, .int a1] M r Mf := by
  intro sz
  refine y_met (by decide +kernel) (Nat.le_of_ble_eq_true rfl) rfl (fun p e s m below meth c ls hsz C0 hM hl => ?_)
  have hl : lv_has ls 5 [(0, .ref (gad G 220)), (1, .int a0), (2, .int a1)] := hl
  have C0 : CX p s m meth c ([.ref (gad G 220), .int a0, .int a1] : List Value).toArray cX5_strikeIt RX5 5 (some .int) := C0
  rw [F_X5_strikeIt] at hF
  refine lv_aload_n C0.1 C0.2.1 dX5_strikeIt_0 rfl (lv_at hl 0 rfl) ?_
  refine lv_iload_n C0.1 C0.2.1 dX5_strikeIt_1 rfl (lv_at hl 1 rfl) ?_
  refine lv_iconst (v := (4 : Int32)) C0.1 C0.2.1 dX5_strikeIt_2 (by decide) ?_
  obtain ⟨r2, h1, hF⟩ := bd_some hF
  refine y_vi (rest := []) C0 hM hl.1 ok_md (ent5 ok_md) rfl (k_X5_of l G M a0 (4 : Int32) h1) cw_RX5_32 rfl rfl ⟨Nat.le_of_ble_eq_true rfl, Nat.le_of_ble_eq_true rfl⟩ rfl (Nat.le_of_ble_eq_true rfl) ⟨Nat.le_of_ble_eq_true rfl, Nat.le_of_ble_eq_true rfl⟩ dX5_strikeIt_3 (fun H locs hM => ?_)
  refine lv_aload_n C0.1 C0.2.1 dX5_strikeIt_6 rfl (lv_at hl 0 rfl) ?_
  refine lv_iload_n C0.1 C0.2.1 dX5_strikeIt_7 rfl (lv_at hl 1 rfl) ?_
  refine lv_iconst (v := (2 : Int32)) C0.1 C0.2.1 dX5_strikeIt_8 (by decide) ?_
  obtain ⟨r4, h3, hF⟩ := bd_some hF
  refine y_vi (rest := [.int r2]) C0 hM hl.1 ok_md (ent5 ok_md) rfl (k_X5_has l G M a0 (2 : Int32) h3) cw_RX5_55 rfl rfl ⟨Nat.le_of_ble_eq_true rfl, Nat.le_of_ble_eq_true rfl⟩ rfl (Nat.le_of_ble_eq_true rfl) ⟨Nat.le_of_ble_eq_true rfl, Nat.le_of_ble_eq_true rfl⟩ dX5_strikeIt_9 (fun H locs hM => ?_)
  obtain ⟨j20_5, ej20_5, hF⟩ := nm_some hF
  have J20 : ∀ (s5 : Int32) (H : Heap) (locs : List Loc) (ls : Array Slot), MX G M s H locs → lv_has ls 5 [(0, .ref (gad G 220)), (1, .int a0), (2, .int a1)] → j20_5 s5 = some (r, Mf) → W p l e (Rm 2) s m ([.ref (gad G 220), .int a0, .int a1] : List Value).toArray below meth c H locs 0 0 (QI below ([.ref (gad G 220), .int a0, .int a1] : List Value).toArray s G sz r Mf) (F0 m 20 ls [.int s5, .int r2]) := by
    intro s5 H locs ls hM hl hF
    rw [ej20_5] at hF
    refine lv_iadd C0.1 C0.2.1 dX5_strikeIt_20 ?_
    obtain ⟨x7, ex7, hF⟩ := nm_some hF
    refine y_topi ex7 ?_
    refine lv_istore_n (lv' := [(3, .int x7), (0, .ref (gad G 220)), (1, .int a0), (2, .int a1)]) C0.1 C0.2.1 dX5_strikeIt_21 rfl hl (by decide) rfl (fun ls hl => ?_)
    refine lv_aload_n C0.1 C0.2.1 dX5_strikeIt_22 rfl (lv_at hl 1 rfl) ?_
    refine lv_iload_n C0.1 C0.2.1 dX5_strikeIt_23 rfl (lv_at hl 2 rfl) ?_
    refine lv_iconst (v := (1 : Int32)) C0.1 C0.2.1 dX5_strikeIt_24 (by decide) ?_
    obtain ⟨r9, h8, hF⟩ := bd_some hF
    refine y_vi (rest := []) C0 hM hl.1 ok_md (ent5 ok_md) rfl (k_X5_has l G M a0 (1 : Int32) h8) cw_RX5_55 rfl rfl ⟨Nat.le_of_ble_eq_true rfl, Nat.le_of_ble_eq_true rfl⟩ rfl (Nat.le_of_ble_eq_true rfl) ⟨Nat.le_of_ble_eq_true rfl, Nat.le_of_ble_eq_true rfl⟩ dX5_strikeIt_25 (fun H locs hM => ?_)
    obtain ⟨j38_10, ej38_10, hF⟩ := nm_some hF
    have J38 : ∀ (s10 : Int32) (H : Heap) (locs : List Loc) (ls : Array Slot), MX G M s H locs → lv_has ls 5 [(0, .ref (gad G 220)), (1, .int a0), (2, .int a1), (3, .int x7)] → j38_10 s10 = some (r, Mf) → W p l e (Rm 2) s m ([.ref (gad G 220), .int a0, .int a1] : List Value).toArray below meth c H locs 0 0 (QI below ([.ref (gad G 220), .int a0, .int a1] : List Value).toArray s G sz r Mf) (F0 m 38 ls [.int s10]) := by
      intro s10 H locs ls hM hl hF
      rw [ej38_10] at hF
      refine lv_istore_n (lv' := [(3, .int s10), (0, .ref (gad G 220)), (1, .int a0), (2, .int a1)]) C0.1 C0.2.1 dX5_strikeIt_38 rfl hl (by decide) rfl (fun ls hl => ?_)
      refine lv_iload_n C0.1 C0.2.1 dX5_strikeIt_39 rfl (lv_at hl 0 rfl) ?_
      refine lv_aload_n C0.1 C0.2.1 dX5_strikeIt_40 rfl (lv_at hl 1 rfl) ?_
      refine lv_iload_n C0.1 C0.2.1 dX5_strikeIt_41 rfl (lv_at hl 3 rfl) ?_
      refine lv_iconst (v := (2 : Int32)) C0.1 C0.2.1 dX5_strikeIt_42 (by decide) ?_
      obtain ⟨r13, h12, hF⟩ := bd_some hF
      refine y_vi (rest := [.int s10]) C0 hM hl.1 ok_md (ent5 ok_md) rfl (k_X5_of l G M a1 (2 : Int32) h12) cw_RX5_32 rfl rfl ⟨Nat.le_of_ble_eq_true rfl, Nat.le_of_ble_eq_true rfl⟩ rfl (Nat.le_of_ble_eq_true rfl) ⟨Nat.le_of_ble_eq_true rfl, Nat.le_of_ble_eq_true rfl⟩ dX5_strikeIt_43 (fun H locs hM => ?_)
      obtain ⟨j59_14, ej59_14, hF⟩ := nm_some hF
      have J59 : ∀ (s14 : Int32) (H : Heap) (locs : List Loc) (ls : Array Slot), MX G M s H locs → lv_has ls 5 [(0, .ref (gad G 220)), (1, .int a0), (2, .int a1), (3, .int s10)] → j59_14 s14 = some (r, Mf) → W p l e (Rm 2) s m ([.ref (gad G 220), .int a0, .int a1] : List Value).toArray below meth c H locs 0 0 (QI below ([.ref (gad G 220), .int a0, .int a1] : List Value).toArray s G sz r Mf) (F0 m 59 ls [.int s14]) := by
        intro s14 H locs ls hM hl hF
        rw [ej59_14] at hF
        refine lv_istore (lv' := [(4, .int s14), (0, .ref (gad G 220)), (1, .int a0), (2, .int a1), (3, .int s10)]) C0.1 C0.2.1 dX5_strikeIt_59 hl (by decide) rfl (fun ls hl => ?_)
        refine lv_aload_n C0.1 C0.2.1 dX5_strikeIt_61 rfl (lv_at hl 1 rfl) ?_
        refine lv_iload_n C0.1 C0.2.1 dX5_strikeIt_62 rfl (lv_at hl 3 rfl) ?_
        refine lv_iconst (v := (2 : Int32)) C0.1 C0.2.1 dX5_strikeIt_63 (by decide) ?_
        refine lv_aload_n C0.1 C0.2.1 dX5_strikeIt_64 rfl (lv_at hl 1 rfl) ?_
        refine lv_iload_n C0.1 C0.2.1 dX5_strikeIt_65 rfl (lv_at hl 3 rfl) ?_
        refine lv_iconst (v := (2 : Int32)) C0.1 C0.2.1 dX5_strikeIt_66 (by decide) ?_
        obtain ⟨r17, h16, hF⟩ := bd_some hF
        refine y_vi (rest := [.int (2 : Int32), .int a1, .ref (gad G 220)]) C0 hM hl.1 ok_md (ent5 ok_md) rfl (k_X5_of l G M a1 (2 : Int32) h16) cw_RX5_32 rfl rfl ⟨Nat.le_of_ble_eq_true rfl, Nat.le_of_ble_eq_true rfl⟩ rfl (Nat.le_of_ble_eq_true rfl) ⟨Nat.le_of_ble_eq_true rfl, Nat.le_of_ble_eq_true rfl⟩ dX5_strikeIt_67 (fun H locs hM => ?_)
        refine lv_iload C0.1 C0.2.1 dX5_strikeIt_70 (lv_at hl 0 rfl) ?_
        refine lv_isub C0.1 C0.2.1 dX5_strikeIt_72 ?_
        obtain ⟨M19, h18, hF⟩ := bd_some hF
        refine y_vv (rest := []) C0 hM hl.1 ok_md (ent5 ok_md) rfl (k_X5_lay l G M a1 (2 : Int32) (r17 - s14) h18) cw_RX5_47 rfl rfl ⟨Nat.le_of_ble_eq_true rfl, Nat.le_of_ble_eq_true rfl⟩ rfl (Nat.le_of_ble_eq_true rfl) ⟨Nat.le_of_ble_eq_true rfl, Nat.le_of_ble_eq_true rfl⟩ dX5_strikeIt_73 (fun H locs hM => ?_)
        refine lv_aload_n C0.1 C0.2.1 dX5_strikeIt_76 rfl (lv_at hl 1 rfl) ?_
        refine lv_iload_n C0.1 C0.2.1 dX5_strikeIt_77 rfl (lv_at hl 2 rfl) ?_
        refine lv_bipush (v := (16 : Int32)) C0.1 C0.2.1 dX5_strikeIt_78 (by decide) ?_
        refine lv_aload_n C0.1 C0.2.1 dX5_strikeIt_80 rfl (lv_at hl 1 rfl) ?_
        refine lv_iload_n C0.1 C0.2.1 dX5_strikeIt_81 rfl (lv_at hl 2 rfl) ?_
        refine lv_bipush (v := (16 : Int32)) C0.1 C0.2.1 dX5_strikeIt_82 (by decide) ?_
        obtain ⟨r21, h20, hF⟩ := bd_some hF
        refine y_vi (rest := [.int (16 : Int32), .int a0, .ref (gad G 220)]) C0 hM hl.1 ok_md (ent5 ok_md) rfl (k_X5_of l G M19 a0 (16 : Int32) h20) cw_RX5_32 rfl rfl ⟨Nat.le_of_ble_eq_true rfl, Nat.le_of_ble_eq_true rfl⟩ rfl (Nat.le_of_ble_eq_true rfl) ⟨Nat.le_of_ble_eq_true rfl, Nat.le_of_ble_eq_true rfl⟩ dX5_strikeIt_84 (fun H locs hM => ?_)
        refine lv_iload C0.1 C0.2.1 dX5_strikeIt_87 (lv_at hl 0 rfl) ?_
        refine lv_iadd C0.1 C0.2.1 dX5_strikeIt_89 ?_
        obtain ⟨M23, h22, hF⟩ := bd_some hF
        refine y_vv (rest := []) C0 hM hl.1 ok_md (ent5 ok_md) rfl (k_X5_lay l G M19 a0 (16 : Int32) (r21 + s14) h22) cw_RX5_47 rfl rfl ⟨Nat.le_of_ble_eq_true rfl, Nat.le_of_ble_eq_true rfl⟩ rfl (Nat.le_of_ble_eq_true rfl) ⟨Nat.le_of_ble_eq_true rfl, Nat.le_of_ble_eq_true rfl⟩ dX5_strikeIt_90 (fun H locs hM => ?_)
        refine lv_iload C0.1 C0.2.1 dX5_strikeIt_93 (lv_at hl 0 rfl) ?_
        obtain ⟨e8, e9⟩ := y_2 hF
        subst e8
        subst e9
        exact y_iret C0 hM hsz dX5_strikeIt_95
      refine lv_icmp_ge (tgt := 53) C0.1 C0.2.1 dX5_strikeIt_46 (by decide) (fun c24 => ?_) (fun c24 => ?_)
      · have hF := if_t c24 hF
        refine lv_aload_n C0.1 C0.2.1 dX5_strikeIt_53 rfl (lv_at hl 1 rfl) ?_
        refine lv_iload_n C0.1 C0.2.1 dX5_strikeIt_54 rfl (lv_at hl 3 rfl) ?_
        refine lv_iconst (v := (2 : Int32)) C0.1 C0.2.1 dX5_strikeIt_55 (by decide) ?_
        obtain ⟨r26, h25, hF⟩ := bd_some hF
        refine y_vi (rest := []) C0 hM hl.1 ok_md (ent5 ok_md) rfl (k_X5_of l G M a1 (2 : Int32) h25) cw_RX5_32 rfl rfl ⟨Nat.le_of_ble_eq_true rfl, Nat.le_of_ble_eq_true rfl⟩ rfl (Nat.le_of_ble_eq_true rfl) ⟨Nat.le_of_ble_eq_true rfl, Nat.le_of_ble_eq_true rfl⟩ dX5_strikeIt_56 (fun H locs hM => ?_)
        exact J59 r26 _ _ _ hM (lv_sub hl [1, 2, 3, 0] rfl) hF
      · have hF := if_f c24 hF
        refine lv_iload_n C0.1 C0.2.1 dX5_strikeIt_49 rfl (lv_at hl 0 rfl) ?_
        refine lv_goto (tgt := 59) C0.1 C0.2.1 dX5_strikeIt_50 (by decide) ?_
        exact J59 s10 _ _ _ hM (lv_sub hl [1, 2, 3, 0] rfl) hF
    refine lv_if_eq (tgt := 37) C0.1 C0.2.1 dX5_strikeIt_28 (by decide) (fun c27 => ?_) (fun c27 => ?_)
    · have hF := if_t c27 hF
      refine lv_iload_n C0.1 C0.2.1 dX5_strikeIt_37 rfl (lv_at hl 0 rfl) ?_
      exact J38 x7 _ _ _ hM (lv_sub hl [1, 2, 3, 0] rfl) hF
    · have hF := if_f c27 hF
      refine lv_iload_n C0.1 C0.2.1 dX5_strikeIt_31 rfl (lv_at hl 0 rfl) ?_
      refine lv_iconst (v := (2 : Int32)) C0.1 C0.2.1 dX5_strikeIt_32 (by decide) ?_
      refine lv_idiv C0.1 C0.2.1 dX5_strikeIt_33 (by decide) ?_
      refine lv_goto (tgt := 38) C0.1 C0.2.1 dX5_strikeIt_34 (by decide) ?_
      exact J38 (x7 / (2 : Int32)) _ _ _ hM (lv_sub hl [1, 2, 3, 0] rfl) hF
  refine lv_if_eq (tgt := 19) C0.1 C0.2.1 dX5_strikeIt_12 (by decide) (fun c28 => ?_) (fun c28 => ?_)
  · have hF := if_t c28 hF
    refine lv_iconst (v := (0 : Int32)) C0.1 C0.2.1 dX5_strikeIt_19 (by decide) ?_
    exact J20 (0 : Int32) _ _ _ hM (lv_sub hl [0, 1, 2] rfl) hF
  · have hF := if_f c28 hF
    refine lv_iconst (v := (3 : Int32)) C0.1 C0.2.1 dX5_strikeIt_15 (by decide) ?_
    refine lv_goto (tgt := 20) C0.1 C0.2.1 dX5_strikeIt_16 (by decide) ?_
    exact J20 (3 : Int32) _ _ _ hM (lv_sub hl [0, 1, 2] rfl) hF

def F_X5_helpIt (M : MS) (a0 : Int32) : Option (Int32 × MS) := (bd (F_X5_of M a0 (2 : Int32)) fun r2 => (nm (r2 + (4 : Int32)) fun x3 => (bd (F_X5_of M a0 (3 : Int32)) fun r5 => (nm (fun (s6 : Int32) => (bd (F_X5_lay M a0 (2 : Int32) s6) fun M9 => (bd (F_X5_lay M9 a0 (14 : Int32) (0 : Int32)) fun M11 => (bd (F_X5_of M11 a0 (2 : Int32)) fun r13 => (some (r13, M11)))))) fun j32_6 => (if r5 ≤ x3 then (bd (F_X5_of M a0 (3 : Int32)) fun r16 => (j32_6 r16)) else (j32_6 x3))))))

set_option maxHeartbeats 4000000 in
set_option maxRecDepth 100000 in
theorem k_X5_helpIt (l : Launch) (G : GG) (M : MS) (a0 : Int32) {r : Int32} {Mf : MS} (hF : F_X5_helpIt M a0 = some (r, Mf)) : KI l yX5_helpIt (WS yX5_helpIt cX5_helpIt 3 (some .int)) (Rm 1) G [.ref (gad G 220), .int a0] M r Mf := by
  intro sz
  refine y_met (by decide +kernel) (Nat.le_of_ble_eq_true rfl) rfl (fun p e s m below meth c ls hsz C0 hM hl => ?_)
  have hl : lv_has ls 3 [(0, .ref (gad G 220)), (1, .int a0)] := hl
  have C0 : CX p s m meth c ([.ref (gad G 220), .int a0] : List Value).toArray cX5_helpIt RX5 3 (some .int) := C0
  rw [F_X5_helpIt] at hF
  refine lv_aload_n C0.1 C0.2.1 dX5_helpIt_0 rfl (lv_at hl 0 rfl) ?_
  refine lv_iload_n C0.1 C0.2.1 dX5_helpIt_1 rfl (lv_at hl 1 rfl) ?_
  refine lv_iconst (v := (2 : Int32)) C0.1 C0.2.1 dX5_helpIt_2 (by decide) ?_
  obtain ⟨r2, h1, hF⟩ := bd_some hF
  refine y_vi (rest := []) C0 hM hl.1 ok_md (ent5 ok_md) rfl (k_X5_of l G M a0 (2 : Int32) h1) cw_RX5_32 rfl rfl ⟨Nat.le_of_ble_eq_true rfl, Nat.le_of_ble_eq_true rfl⟩ rfl (Nat.le_of_ble_eq_true rfl) ⟨Nat.le_of_ble_eq_true rfl, Nat.le_of_ble_eq_true rfl⟩ dX5_helpIt_3 (fun H locs hM => ?_)
  refine lv_iconst (v := (4 : Int32)) C0.1 C0.2.1 dX5_helpIt_6 (by decide) ?_
  refine lv_iadd C0.1 C0.2.1 dX5_helpIt_7 ?_
  obtain ⟨x3, ex3, hF⟩ := nm_some hF
  refine y_topi ex3 ?_
  refine lv_istore_n (lv' := [(2, .int x3), (0, .ref (gad G 220)), (1, .int a0)]) C0.1 C0.2.1 dX5_helpIt_8 rfl hl (by decide) rfl (fun ls hl => ?_)
  refine lv_aload_n C0.1 C0.2.1 dX5_helpIt_9 rfl (lv_at hl 1 rfl) ?_
  refine lv_iload_n C0.1 C0.2.1 dX5_helpIt_10 rfl (lv_at hl 2 rfl) ?_
  refine lv_iconst (v := (2 : Int32)) C0.1 C0.2.1 dX5_helpIt_11 (by decide) ?_
  refine lv_iload_n C0.1 C0.2.1 dX5_helpIt_12 rfl (lv_at hl 0 rfl) ?_
  refine lv_aload_n C0.1 C0.2.1 dX5_helpIt_13 rfl (lv_at hl 1 rfl) ?_
  refine lv_iload_n C0.1 C0.2.1 dX5_helpIt_14 rfl (lv_at hl 2 rfl) ?_
  refine lv_iconst (v := (3 : Int32)) C0.1 C0.2.1 dX5_helpIt_15 (by decide) ?_
  obtain ⟨r5, h4, hF⟩ := bd_some hF
  refine y_vi (rest := [.int x3, .int (2 : Int32), .int a0, .ref (gad G 220)]) C0 hM hl.1 ok_md (ent5 ok_md) rfl (k_X5_of l G M a0 (3 : Int32) h4) cw_RX5_32 rfl rfl ⟨Nat.le_of_ble_eq_true rfl, Nat.le_of_ble_eq_true rfl⟩ rfl (Nat.le_of_ble_eq_true rfl) ⟨Nat.le_of_ble_eq_true rfl, Nat.le_of_ble_eq_true rfl⟩ dX5_helpIt_16 (fun H locs hM => ?_)
  obtain ⟨j32_6, ej32_6, hF⟩ := nm_some hF
  have J32 : ∀ (s6 : Int32) (H : Heap) (locs : List Loc) (ls : Array Slot), MX G M s H locs → lv_has ls 3 [(0, .ref (gad G 220)), (1, .int a0), (2, .int x3)] → j32_6 s6 = some (r, Mf) → W p l e (Rm 1) s m ([.ref (gad G 220), .int a0] : List Value).toArray below meth c H locs 0 0 (QI below ([.ref (gad G 220), .int a0] : List Value).toArray s G sz r Mf) (F0 m 32 ls [.int s6, .int (2 : Int32), .int a0, .ref (gad G 220)]) := by
    intro s6 H locs ls hM hl hF
    rw [ej32_6] at hF
    obtain ⟨M9, h8, hF⟩ := bd_some hF
    refine y_vv (rest := []) C0 hM hl.1 ok_md (ent5 ok_md) rfl (k_X5_lay l G M a0 (2 : Int32) s6 h8) cw_RX5_47 rfl rfl ⟨Nat.le_of_ble_eq_true rfl, Nat.le_of_ble_eq_true rfl⟩ rfl (Nat.le_of_ble_eq_true rfl) ⟨Nat.le_of_ble_eq_true rfl, Nat.le_of_ble_eq_true rfl⟩ dX5_helpIt_32 (fun H locs hM => ?_)
    refine lv_aload_n C0.1 C0.2.1 dX5_helpIt_35 rfl (lv_at hl 0 rfl) ?_
    refine lv_iload_n C0.1 C0.2.1 dX5_helpIt_36 rfl (lv_at hl 1 rfl) ?_
    refine lv_bipush (v := (14 : Int32)) C0.1 C0.2.1 dX5_helpIt_37 (by decide) ?_
    refine lv_iconst (v := (0 : Int32)) C0.1 C0.2.1 dX5_helpIt_39 (by decide) ?_
    obtain ⟨M11, h10, hF⟩ := bd_some hF
    refine y_vv (rest := []) C0 hM hl.1 ok_md (ent5 ok_md) rfl (k_X5_lay l G M9 a0 (14 : Int32) (0 : Int32) h10) cw_RX5_47 rfl rfl ⟨Nat.le_of_ble_eq_true rfl, Nat.le_of_ble_eq_true rfl⟩ rfl (Nat.le_of_ble_eq_true rfl) ⟨Nat.le_of_ble_eq_true rfl, Nat.le_of_ble_eq_true rfl⟩ dX5_helpIt_40 (fun H locs hM => ?_)
    refine lv_aload_n C0.1 C0.2.1 dX5_helpIt_43 rfl (lv_at hl 0 rfl) ?_
    refine lv_iload_n C0.1 C0.2.1 dX5_helpIt_44 rfl (lv_at hl 1 rfl) ?_
    refine lv_iconst (v := (2 : Int32)) C0.1 C0.2.1 dX5_helpIt_45 (by decide) ?_
    obtain ⟨r13, h12, hF⟩ := bd_some hF
    refine y_vi (rest := []) C0 hM hl.1 ok_md (ent5 ok_md) rfl (k_X5_of l G M11 a0 (2 : Int32) h12) cw_RX5_32 rfl rfl ⟨Nat.le_of_ble_eq_true rfl, Nat.le_of_ble_eq_true rfl⟩ rfl (Nat.le_of_ble_eq_true rfl) ⟨Nat.le_of_ble_eq_true rfl, Nat.le_of_ble_eq_true rfl⟩ dX5_helpIt_46 (fun H locs hM => ?_)
    obtain ⟨e8, e9⟩ := y_2 hF
    subst e8
    subst e9
    exact y_iret C0 hM hsz dX5_helpIt_49
  refine lv_icmp_ge (tgt := 26) C0.1 C0.2.1 dX5_helpIt_19 (by decide) (fun c14 => ?_) (fun c14 => ?_)
  · have hF := if_t c14 hF
    refine lv_aload_n C0.1 C0.2.1 dX5_helpIt_26 rfl (lv_at hl 1 rfl) ?_
    refine lv_iload_n C0.1 C0.2.1 dX5_helpIt_27 rfl (lv_at hl 2 rfl) ?_
    refine lv_iconst (v := (3 : Int32)) C0.1 C0.2.1 dX5_helpIt_28 (by decide) ?_
    obtain ⟨r16, h15, hF⟩ := bd_some hF
    refine y_vi (rest := [.int (2 : Int32), .int a0, .ref (gad G 220)]) C0 hM hl.1 ok_md (ent5 ok_md) rfl (k_X5_of l G M a0 (3 : Int32) h15) cw_RX5_32 rfl rfl ⟨Nat.le_of_ble_eq_true rfl, Nat.le_of_ble_eq_true rfl⟩ rfl (Nat.le_of_ble_eq_true rfl) ⟨Nat.le_of_ble_eq_true rfl, Nat.le_of_ble_eq_true rfl⟩ dX5_helpIt_29 (fun H locs hM => ?_)
    exact J32 r16 _ _ _ hM (lv_sub hl [1, 2, 0] rfl) hF
  · have hF := if_f c14 hF
    refine lv_iload_n C0.1 C0.2.1 dX5_helpIt_22 rfl (lv_at hl 0 rfl) ?_
    refine lv_goto (tgt := 32) C0.1 C0.2.1 dX5_helpIt_23 (by decide) ?_
    exact J32 x3 _ _ _ hM (lv_sub hl [1, 2, 0] rfl) hF

def F_X5_doIt (M : MS) (a0 : Int32) (a1 : Int32) (a2 : Int32) (a3 : Int32) (a4 : Int32) : Option (Int32 × MS) := (gdb (inb (3 : Int32) 186) (gdb (inb (3 : Int32) 186) (nm (wA M 221 (Int32.toNatClampNeg (3 : Int32)) ((rA M 221 (Int32.toNatClampNeg (3 : Int32))) + (1 : Int32))) fun M3 => (bd (F_X5_of M3 a0 (15 : Int32)) fun r5 => (bd (F_X5_lay M3 a0 (15 : Int32) (r5 + (1 : Int32))) fun M7 => (if ¬ a1 = 0 then (if ¬ a1 = (2 : Int32) then (if ¬ a1 = (1 : Int32) then (bd (F_X5_of M7 a2 ((11 : Int32) + a3)) fun r12 => (nm (fun (s13 : Int32) => (bd (F_X5_lay M7 a2 ((11 : Int32) + a3) s13) fun M16 => (bd (F_X5_of M16 a2 ((11 : Int32) + a3)) fun r18 => (some (r18, M16))))) fun j108_13 => (if r12 ≤ a4 then (j108_13 a4) else (j108_13 r12)))) else (bd (F_X5_of M7 a0 (5 : Int32)) fun r21 => (bd (F_X5_apart M7 r21 a2) fun r23 => (bd (F_X5_lay M7 a0 (5 : Int32) a2) fun M25 => (some (r23, M25)))))) else (bd2 (F_X5_helpIt M7 a2) fun r28 M27 => (some (r28, M27)))) else (bd2 (F_X5_strikeIt M7 a0 a2) fun r31 M30 => (some (r31, M30)))))))))

set_option maxHeartbeats 4000000 in
set_option maxRecDepth 100000 in
theorem k_X5_doIt (l : Launch) (G : GG) (M : MS) (a0 : Int32) (a1 : Int32) (a2 : Int32) (a3 : Int32) (a4 : Int32) {r : Int32} {Mf : MS} (hF : F_X5_doIt M a0 a1 a2 a3 a4 = some (r, Mf)) : KI l yX5_doIt (WS yX5_doIt cX5_doIt 7 (some .int)) (Rm 3) G [.ref (gad G 220), .int a0, .int a1, .int a2, .int a3, .int a4] M r Mf := by
  intro sz
  refine y_met (by decide +kernel) (Nat.le_of_ble_eq_true rfl) rfl (fun p e s m below meth c ls hsz C0 hM hl => ?_)
  have hl : lv_has ls 7 [(0, .ref (gad G 220)), (1, .int a0), (2, .int a1), (3, .int a2), (4, .int a3), (5, .int a4)] := hl
  have C0 : CX p s m meth c ([.ref (gad G 220), .int a0, .int a1, .int a2, .int a3, .int a4] : List Value).toArray cX5_doIt RX5 7 (some .int) := C0
  rw [F_X5_doIt] at hF
  refine lv_aload_n C0.1 C0.2.1 dX5_doIt_0 rfl (lv_at hl 0 rfl) ?_
  refine gf5_1 C0 hM ok_md fl_RX5_7 dX5_doIt_1 ?_
  refine lv_iconst (v := (3 : Int32)) C0.1 C0.2.1 dX5_doIt_4 (by decide) ?_
  refine lv_dup2_11 C0.1 C0.2.1 dX5_doIt_5 rfl rfl ?_
  obtain ⟨g1, hF⟩ := gdb_some hF
  refine y_iald C0 hM oka_z g1 dX5_doIt_6 ?_
  refine lv_iconst (v := (1 : Int32)) C0.1 C0.2.1 dX5_doIt_7 (by decide) ?_
  refine lv_iadd C0.1 C0.2.1 dX5_doIt_8 ?_
  obtain ⟨g2, hF⟩ := gdb_some hF
  refine y_iast C0 hM oka_z g2 dX5_doIt_9 (fun H locs hM => ?_)
  obtain ⟨M3, eM3, hF⟩ := nm_some hF
  have hM := y_mn eM3 hM
  refine lv_aload_n C0.1 C0.2.1 dX5_doIt_10 rfl (lv_at hl 0 rfl) ?_
  refine lv_iload_n C0.1 C0.2.1 dX5_doIt_11 rfl (lv_at hl 1 rfl) ?_
  refine lv_bipush (v := (15 : Int32)) C0.1 C0.2.1 dX5_doIt_12 (by decide) ?_
  refine lv_aload_n C0.1 C0.2.1 dX5_doIt_14 rfl (lv_at hl 0 rfl) ?_
  refine lv_iload_n C0.1 C0.2.1 dX5_doIt_15 rfl (lv_at hl 1 rfl) ?_
  refine lv_bipush (v := (15 : Int32)) C0.1 C0.2.1 dX5_doIt_16 (by decide) ?_
  obtain ⟨r5, h4, hF⟩ := bd_some hF
  refine y_vi (rest := [.int (15 : Int32), .int a0, .ref (gad G 220)]) C0 hM hl.1 ok_md (ent5 ok_md) rfl (k_X5_of l G M3 a0 (15 : Int32) h4) cw_RX5_32 rfl rfl ⟨Nat.le_of_ble_eq_true rfl, Nat.le_of_ble_eq_true rfl⟩ rfl (Nat.le_of_ble_eq_true rfl) ⟨Nat.le_of_ble_eq_true rfl, Nat.le_of_ble_eq_true rfl⟩ dX5_doIt_18 (fun H locs hM => ?_)
  refine lv_iconst (v := (1 : Int32)) C0.1 C0.2.1 dX5_doIt_21 (by decide) ?_
  refine lv_iadd C0.1 C0.2.1 dX5_doIt_22 ?_
  obtain ⟨M7, h6, hF⟩ := bd_some hF
  refine y_vv (rest := []) C0 hM hl.1 ok_md (ent5 ok_md) rfl (k_X5_lay l G M3 a0 (15 : Int32) (r5 + (1 : Int32)) h6) cw_RX5_47 rfl rfl ⟨Nat.le_of_ble_eq_true rfl, Nat.le_of_ble_eq_true rfl⟩ rfl (Nat.le_of_ble_eq_true rfl) ⟨Nat.le_of_ble_eq_true rfl, Nat.le_of_ble_eq_true rfl⟩ dX5_doIt_23 (fun H locs hM => ?_)
  refine lv_iload_n C0.1 C0.2.1 dX5_doIt_26 rfl (lv_at hl 2 rfl) ?_
  refine lv_if_ne (tgt := 37) C0.1 C0.2.1 dX5_doIt_27 (by decide) (fun c8 => ?_) (fun c8 => ?_)
  · have hF := if_t c8 hF
    refine lv_iload_n C0.1 C0.2.1 dX5_doIt_37 rfl (lv_at hl 2 rfl) ?_
    refine lv_iconst (v := (2 : Int32)) C0.1 C0.2.1 dX5_doIt_38 (by decide) ?_
    refine lv_icmp_ne (tgt := 48) C0.1 C0.2.1 dX5_doIt_39 (by decide) (fun c9 => ?_) (fun c9 => ?_)
    · have hF := if_t c9 hF
      refine lv_iload_n C0.1 C0.2.1 dX5_doIt_48 rfl (lv_at hl 2 rfl) ?_
      refine lv_iconst (v := (1 : Int32)) C0.1 C0.2.1 dX5_doIt_49 (by decide) ?_
      refine lv_icmp_ne (tgt := 75) C0.1 C0.2.1 dX5_doIt_50 (by decide) (fun c10 => ?_) (fun c10 => ?_)
      · have hF := if_t c10 hF
        refine lv_aload_n C0.1 C0.2.1 dX5_doIt_75 rfl (lv_at hl 0 rfl) ?_
        refine lv_iload_n C0.1 C0.2.1 dX5_doIt_76 rfl (lv_at hl 3 rfl) ?_
        refine lv_bipush (v := (11 : Int32)) C0.1 C0.2.1 dX5_doIt_77 (by decide) ?_
        refine lv_iload C0.1 C0.2.1 dX5_doIt_79 (lv_at hl 4 rfl) ?_
        refine lv_iadd C0.1 C0.2.1 dX5_doIt_81 ?_
        obtain ⟨r12, h11, hF⟩ := bd_some hF
        refine y_vi (rest := []) C0 hM hl.1 ok_md (ent5 ok_md) rfl (k_X5_of l G M7 a2 ((11 : Int32) + a3) h11) cw_RX5_32 rfl rfl ⟨Nat.le_of_ble_eq_true rfl, Nat.le_of_ble_eq_true rfl⟩ rfl (Nat.le_of_ble_eq_true rfl) ⟨Nat.le_of_ble_eq_true rfl, Nat.le_of_ble_eq_true rfl⟩ dX5_doIt_82 (fun H locs hM => ?_)
        refine lv_istore (lv' := [(6, .int r12), (0, .ref (gad G 220)), (1, .int a0), (2, .int a1), (3, .int a2), (4, .int a3), (5, .int a4)]) C0.1 C0.2.1 dX5_doIt_85 hl (by decide) rfl (fun ls hl => ?_)
        refine lv_aload_n C0.1 C0.2.1 dX5_doIt_87 rfl (lv_at hl 1 rfl) ?_
        refine lv_iload_n C0.1 C0.2.1 dX5_doIt_88 rfl (lv_at hl 4 rfl) ?_
        refine lv_bipush (v := (11 : Int32)) C0.1 C0.2.1 dX5_doIt_89 (by decide) ?_
        refine lv_iload C0.1 C0.2.1 dX5_doIt_91 (lv_at hl 5 rfl) ?_
        refine lv_iadd C0.1 C0.2.1 dX5_doIt_93 ?_
        refine lv_iload C0.1 C0.2.1 dX5_doIt_94 (lv_at hl 0 rfl) ?_
        refine lv_iload C0.1 C0.2.1 dX5_doIt_96 (lv_at hl 6 rfl) ?_
        obtain ⟨j108_13, ej108_13, hF⟩ := nm_some hF
        have J108 : ∀ (s13 : Int32) (H : Heap) (locs : List Loc) (ls : Array Slot), MX G M7 s H locs → lv_has ls 7 [(0, .ref (gad G 220)), (1, .int a0), (2, .int a1), (3, .int a2), (4, .int a3), (5, .int a4), (6, .int r12)] → j108_13 s13 = some (r, Mf) → W p l e (Rm 3) s m ([.ref (gad G 220), .int a0, .int a1, .int a2, .int a3, .int a4] : List Value).toArray below meth c H locs 0 0 (QI below ([.ref (gad G 220), .int a0, .int a1, .int a2, .int a3, .int a4] : List Value).toArray s G sz r Mf) (F0 m 108 ls [.int s13, .int ((11 : Int32) + a3), .int a2, .ref (gad G 220)]) := by
          intro s13 H locs ls hM hl hF
          rw [ej108_13] at hF
          obtain ⟨M16, h15, hF⟩ := bd_some hF
          refine y_vv (rest := []) C0 hM hl.1 ok_md (ent5 ok_md) rfl (k_X5_lay l G M7 a2 ((11 : Int32) + a3) s13 h15) cw_RX5_47 rfl rfl ⟨Nat.le_of_ble_eq_true rfl, Nat.le_of_ble_eq_true rfl⟩ rfl (Nat.le_of_ble_eq_true rfl) ⟨Nat.le_of_ble_eq_true rfl, Nat.le_of_ble_eq_true rfl⟩ dX5_doIt_108 (fun H locs hM => ?_)
          refine lv_aload_n C0.1 C0.2.1 dX5_doIt_111 rfl (lv_at hl 0 rfl) ?_
          refine lv_iload_n C0.1 C0.2.1 dX5_doIt_112 rfl (lv_at hl 3 rfl) ?_
          refine lv_bipush (v := (11 : Int32)) C0.1 C0.2.1 dX5_doIt_113 (by decide) ?_
          refine lv_iload C0.1 C0.2.1 dX5_doIt_115 (lv_at hl 4 rfl) ?_
          refine lv_iadd C0.1 C0.2.1 dX5_doIt_117 ?_
          obtain ⟨r18, h17, hF⟩ := bd_some hF
          refine y_vi (rest := []) C0 hM hl.1 ok_md (ent5 ok_md) rfl (k_X5_of l G M16 a2 ((11 : Int32) + a3) h17) cw_RX5_32 rfl rfl ⟨Nat.le_of_ble_eq_true rfl, Nat.le_of_ble_eq_true rfl⟩ rfl (Nat.le_of_ble_eq_true rfl) ⟨Nat.le_of_ble_eq_true rfl, Nat.le_of_ble_eq_true rfl⟩ dX5_doIt_118 (fun H locs hM => ?_)
          obtain ⟨e8, e9⟩ := y_2 hF
          subst e8
          subst e9
          exact y_iret C0 hM hsz dX5_doIt_121
        refine lv_icmp_le (tgt := 106) C0.1 C0.2.1 dX5_doIt_98 (by decide) (fun c19 => ?_) (fun c19 => ?_)
        · have hF := if_t c19 hF
          refine lv_iload C0.1 C0.2.1 dX5_doIt_106 (lv_at hl 6 rfl) ?_
          exact J108 a4 _ _ _ hM (lv_sub hl [1, 2, 3, 4, 5, 6, 0] rfl) hF
        · have hF := if_f c19 hF
          refine lv_iload C0.1 C0.2.1 dX5_doIt_101 (lv_at hl 0 rfl) ?_
          refine lv_goto (tgt := 108) C0.1 C0.2.1 dX5_doIt_103 (by decide) ?_
          exact J108 r12 _ _ _ hM (lv_sub hl [1, 2, 3, 4, 5, 6, 0] rfl) hF
      · have hF := if_f (fun q => q c10) hF
        refine lv_aload_n C0.1 C0.2.1 dX5_doIt_53 rfl (lv_at hl 0 rfl) ?_
        refine lv_iload_n C0.1 C0.2.1 dX5_doIt_54 rfl (lv_at hl 1 rfl) ?_
        refine lv_iconst (v := (5 : Int32)) C0.1 C0.2.1 dX5_doIt_55 (by decide) ?_
        obtain ⟨r21, h20, hF⟩ := bd_some hF
        refine y_vi (rest := []) C0 hM hl.1 ok_md (ent5 ok_md) rfl (k_X5_of l G M7 a0 (5 : Int32) h20) cw_RX5_32 rfl rfl ⟨Nat.le_of_ble_eq_true rfl, Nat.le_of_ble_eq_true rfl⟩ rfl (Nat.le_of_ble_eq_true rfl) ⟨Nat.le_of_ble_eq_true rfl, Nat.le_of_ble_eq_true rfl⟩ dX5_doIt_56 (fun H locs hM => ?_)
        refine lv_iload_n C0.1 C0.2.1 dX5_doIt_59 rfl (lv_at hl 3 rfl) ?_
        obtain ⟨r23, h22, hF⟩ := bd_some hF
        refine y_si (rest := []) C0 hM hl.1 (k_X5_apart l G M7 r21 a2 h22) cw_RX5_89 rfl rfl ⟨Nat.le_of_ble_eq_true rfl, Nat.le_of_ble_eq_true rfl⟩ rfl (Nat.le_of_ble_eq_true rfl) ⟨Nat.le_of_ble_eq_true rfl, Nat.le_of_ble_eq_true rfl⟩ dX5_doIt_60 (fun H locs hM => ?_)
        refine lv_istore (lv' := [(6, .int r23), (0, .ref (gad G 220)), (1, .int a0), (2, .int a1), (3, .int a2), (4, .int a3), (5, .int a4)]) C0.1 C0.2.1 dX5_doIt_63 hl (by decide) rfl (fun ls hl => ?_)
        refine lv_aload_n C0.1 C0.2.1 dX5_doIt_65 rfl (lv_at hl 1 rfl) ?_
        refine lv_iload_n C0.1 C0.2.1 dX5_doIt_66 rfl (lv_at hl 2 rfl) ?_
        refine lv_iconst (v := (5 : Int32)) C0.1 C0.2.1 dX5_doIt_67 (by decide) ?_
        refine lv_iload_n C0.1 C0.2.1 dX5_doIt_68 rfl (lv_at hl 4 rfl) ?_
        obtain ⟨M25, h24, hF⟩ := bd_some hF
        refine y_vv (rest := []) C0 hM hl.1 ok_md (ent5 ok_md) rfl (k_X5_lay l G M7 a0 (5 : Int32) a2 h24) cw_RX5_47 rfl rfl ⟨Nat.le_of_ble_eq_true rfl, Nat.le_of_ble_eq_true rfl⟩ rfl (Nat.le_of_ble_eq_true rfl) ⟨Nat.le_of_ble_eq_true rfl, Nat.le_of_ble_eq_true rfl⟩ dX5_doIt_69 (fun H locs hM => ?_)
        refine lv_iload C0.1 C0.2.1 dX5_doIt_72 (lv_at hl 0 rfl) ?_
        obtain ⟨e8, e9⟩ := y_2 hF
        subst e8
        subst e9
        exact y_iret C0 hM hsz dX5_doIt_74
    · have hF := if_f (fun q => q c9) hF
      refine lv_aload_n C0.1 C0.2.1 dX5_doIt_42 rfl (lv_at hl 0 rfl) ?_
      refine lv_iload_n C0.1 C0.2.1 dX5_doIt_43 rfl (lv_at hl 3 rfl) ?_
      obtain ⟨r28, M27, h26, hF⟩ := bd2_some hF
      refine y_vi (rest := []) C0 hM hl.1 ok_md (ent5 ok_md) rfl (k_X5_helpIt l G M7 a2 h26) cw_RX5_101 rfl rfl ⟨Nat.le_of_ble_eq_true rfl, Nat.le_of_ble_eq_true rfl⟩ rfl (Nat.le_of_ble_eq_true rfl) ⟨Nat.le_of_ble_eq_true rfl, Nat.le_of_ble_eq_true rfl⟩ dX5_doIt_44 (fun H locs hM => ?_)
      obtain ⟨e8, e9⟩ := y_2 hF
      subst e8
      subst e9
      exact y_iret C0 hM hsz dX5_doIt_47
  · have hF := if_f (fun q => q c8) hF
    refine lv_aload_n C0.1 C0.2.1 dX5_doIt_30 rfl (lv_at hl 0 rfl) ?_
    refine lv_iload_n C0.1 C0.2.1 dX5_doIt_31 rfl (lv_at hl 1 rfl) ?_
    refine lv_iload_n C0.1 C0.2.1 dX5_doIt_32 rfl (lv_at hl 3 rfl) ?_
    obtain ⟨r31, M30, h29, hF⟩ := bd2_some hF
    refine y_vi (rest := []) C0 hM hl.1 ok_md (ent5 ok_md) rfl (k_X5_strikeIt l G M7 a0 a2 h29) cw_RX5_98 rfl rfl ⟨Nat.le_of_ble_eq_true rfl, Nat.le_of_ble_eq_true rfl⟩ rfl (Nat.le_of_ble_eq_true rfl) ⟨Nat.le_of_ble_eq_true rfl, Nat.le_of_ble_eq_true rfl⟩ dX5_doIt_33 (fun H locs hM => ?_)
    obtain ⟨e8, e9⟩ := y_2 hF
    subst e8
    subst e9
    exact y_iret C0 hM hsz dX5_doIt_36

def F_X5_isSetOff (M : MS) (a0 : Int32) (a1 : Int32) (a2 : Int32) : Option Int32 := (bd (F_X5_of M a0 (9 : Int32)) fun r2 => (nm (fun (s3 : Int32) => (bd (F_X5_of M a0 (7 : Int32)) fun r6 => (if r6 = (-1 : Int32) then (some (0 : Int32)) else (bd (F_X5_hasFallen M a0) fun r9 => (if ¬ r9 = 0 then (some (0 : Int32)) else (bd (F_X5_of M a0 (10 : Int32)) fun r12 => (if ¬ r12 = a2 then (some (0 : Int32)) else (if s3 = 0 then (some (0 : Int32)) else (some (1 : Int32)))))))))) fun j42_3 => (if r2 = a1 then (j42_3 (1 : Int32)) else (bd (F_X5_of M a0 (9 : Int32)) fun r17 => (if ¬ r17 = (-1 : Int32) then (j42_3 (0 : Int32)) else (bd (F_X5_of M a0 (0 : Int32)) fun r20 => (bd (F_X5_of M a1 (0 : Int32)) fun r22 => (if r20 = r22 then (j42_3 (0 : Int32)) else (j42_3 (1 : Int32))))))))))

set_option maxHeartbeats 4000000 in
set_option maxRecDepth 100000 in
theorem k_X5_isSetOff (l : Launch) (G : GG) (M : MS) (a0 : Int32) (a1 : Int32) (a2 : Int32) {r : Int32} (hF : F_X5_isSetOff M a0 a1 a2 = some r) : KI l yX5_isSetOff (WS yX5_isSetOff cX5_isSetOff 5 (some .boolean)) (Rm 2) G [.ref (gad G 220), .int a0, .int a1, .int a2] M r M := by
  intro sz
  refine y_met (by decide +kernel) (Nat.le_of_ble_eq_true rfl) rfl (fun p e s m below meth c ls hsz C0 hM hl => ?_)
  have hl : lv_has ls 5 [(0, .ref (gad G 220)), (1, .int a0), (2, .int a1), (3, .int a2)] := hl
  have C0 : CX p s m meth c ([.ref (gad G 220), .int a0, .int a1, .int a2] : List Value).toArray cX5_isSetOff RX5 5 (some .boolean) := C0
  rw [F_X5_isSetOff] at hF
  refine lv_aload_n C0.1 C0.2.1 dX5_isSetOff_0 rfl (lv_at hl 0 rfl) ?_
  refine lv_iload_n C0.1 C0.2.1 dX5_isSetOff_1 rfl (lv_at hl 1 rfl) ?_
  refine lv_bipush (v := (9 : Int32)) C0.1 C0.2.1 dX5_isSetOff_2 (by decide) ?_
  obtain ⟨r2, h1, hF⟩ := bd_some hF
  refine y_vi (rest := []) C0 hM hl.1 ok_md (ent5 ok_md) rfl (k_X5_of l G M a0 (9 : Int32) h1) cw_RX5_32 rfl rfl ⟨Nat.le_of_ble_eq_true rfl, Nat.le_of_ble_eq_true rfl⟩ rfl (Nat.le_of_ble_eq_true rfl) ⟨Nat.le_of_ble_eq_true rfl, Nat.le_of_ble_eq_true rfl⟩ dX5_isSetOff_4 (fun H locs hM => ?_)
  refine lv_iload_n C0.1 C0.2.1 dX5_isSetOff_7 rfl (lv_at hl 2 rfl) ?_
  obtain ⟨j42_3, ej42_3, hF⟩ := nm_some hF
  have J42 : ∀ (s3 : Int32) (H : Heap) (locs : List Loc) (ls : Array Slot), MX G M s H locs → lv_has ls 5 [(0, .ref (gad G 220)), (1, .int a0), (2, .int a1), (3, .int a2)] → j42_3 s3 = some r → W p l e (Rm 2) s m ([.ref (gad G 220), .int a0, .int a1, .int a2] : List Value).toArray below meth c H locs 0 0 (QI below ([.ref (gad G 220), .int a0, .int a1, .int a2] : List Value).toArray s G sz r M) (F0 m 42 ls [.int s3]) := by
    intro s3 H locs ls hM hl hF
    rw [ej42_3] at hF
    refine lv_istore (lv' := [(4, .int s3), (0, .ref (gad G 220)), (1, .int a0), (2, .int a1), (3, .int a2)]) C0.1 C0.2.1 dX5_isSetOff_42 hl (by decide) rfl (fun ls hl => ?_)
    refine lv_aload_n C0.1 C0.2.1 dX5_isSetOff_44 rfl (lv_at hl 1 rfl) ?_
    refine lv_iload_n C0.1 C0.2.1 dX5_isSetOff_45 rfl (lv_at hl 2 rfl) ?_
    refine lv_bipush (v := (7 : Int32)) C0.1 C0.2.1 dX5_isSetOff_46 (by decide) ?_
    obtain ⟨r6, h5, hF⟩ := bd_some hF
    refine y_vi (rest := []) C0 hM hl.1 ok_md (ent5 ok_md) rfl (k_X5_of l G M a0 (7 : Int32) h5) cw_RX5_32 rfl rfl ⟨Nat.le_of_ble_eq_true rfl, Nat.le_of_ble_eq_true rfl⟩ rfl (Nat.le_of_ble_eq_true rfl) ⟨Nat.le_of_ble_eq_true rfl, Nat.le_of_ble_eq_true rfl⟩ dX5_isSetOff_48 (fun H locs hM => ?_)
    refine lv_iconst (v := (-1 : Int32)) C0.1 C0.2.1 dX5_isSetOff_51 (by decide) ?_
    refine lv_icmp_eq (tgt := 83) C0.1 C0.2.1 dX5_isSetOff_52 (by decide) (fun c7 => ?_) (fun c7 => ?_)
    · have hF := if_t c7 hF
      refine lv_iconst (v := (0 : Int32)) C0.1 C0.2.1 dX5_isSetOff_83 (by decide) ?_
      have e8 := y_1 hF
      subst e8
      exact y_zret C0 hM hsz rfl dX5_isSetOff_84
    · have hF := if_f c7 hF
      refine lv_aload_n C0.1 C0.2.1 dX5_isSetOff_55 rfl (lv_at hl 1 rfl) ?_
      refine lv_iload_n C0.1 C0.2.1 dX5_isSetOff_56 rfl (lv_at hl 2 rfl) ?_
      obtain ⟨r9, h8, hF⟩ := bd_some hF
      refine y_vi (rest := []) C0 hM hl.1 ok_md (ent5 ok_md) rfl (k_X5_hasFallen l G M a0 h8) cw_RX5_51 rfl rfl ⟨Nat.le_of_ble_eq_true rfl, Nat.le_of_ble_eq_true rfl⟩ rfl (Nat.le_of_ble_eq_true rfl) ⟨Nat.le_of_ble_eq_true rfl, Nat.le_of_ble_eq_true rfl⟩ dX5_isSetOff_57 (fun H locs hM => ?_)
      refine lv_if_ne (tgt := 83) C0.1 C0.2.1 dX5_isSetOff_60 (by decide) (fun c10 => ?_) (fun c10 => ?_)
      · have hF := if_t c10 hF
        refine lv_iconst (v := (0 : Int32)) C0.1 C0.2.1 dX5_isSetOff_83 (by decide) ?_
        have e8 := y_1 hF
        subst e8
        exact y_zret C0 hM hsz rfl dX5_isSetOff_84
      · have hF := if_f (fun q => q c10) hF
        refine lv_aload_n C0.1 C0.2.1 dX5_isSetOff_63 rfl (lv_at hl 1 rfl) ?_
        refine lv_iload_n C0.1 C0.2.1 dX5_isSetOff_64 rfl (lv_at hl 2 rfl) ?_
        refine lv_bipush (v := (10 : Int32)) C0.1 C0.2.1 dX5_isSetOff_65 (by decide) ?_
        obtain ⟨r12, h11, hF⟩ := bd_some hF
        refine y_vi (rest := []) C0 hM hl.1 ok_md (ent5 ok_md) rfl (k_X5_of l G M a0 (10 : Int32) h11) cw_RX5_32 rfl rfl ⟨Nat.le_of_ble_eq_true rfl, Nat.le_of_ble_eq_true rfl⟩ rfl (Nat.le_of_ble_eq_true rfl) ⟨Nat.le_of_ble_eq_true rfl, Nat.le_of_ble_eq_true rfl⟩ dX5_isSetOff_67 (fun H locs hM => ?_)
        refine lv_iload_n C0.1 C0.2.1 dX5_isSetOff_70 rfl (lv_at hl 4 rfl) ?_
        refine lv_icmp_ne (tgt := 83) C0.1 C0.2.1 dX5_isSetOff_71 (by decide) (fun c13 => ?_) (fun c13 => ?_)
        · have hF := if_t c13 hF
          refine lv_iconst (v := (0 : Int32)) C0.1 C0.2.1 dX5_isSetOff_83 (by decide) ?_
          have e8 := y_1 hF
          subst e8
          exact y_zret C0 hM hsz rfl dX5_isSetOff_84
        · have hF := if_f (fun q => q c13) hF
          refine lv_iload C0.1 C0.2.1 dX5_isSetOff_74 (lv_at hl 0 rfl) ?_
          refine lv_if_eq (tgt := 83) C0.1 C0.2.1 dX5_isSetOff_76 (by decide) (fun c14 => ?_) (fun c14 => ?_)
          · have hF := if_t c14 hF
            refine lv_iconst (v := (0 : Int32)) C0.1 C0.2.1 dX5_isSetOff_83 (by decide) ?_
            have e8 := y_1 hF
            subst e8
            exact y_zret C0 hM hsz rfl dX5_isSetOff_84
          · have hF := if_f c14 hF
            refine lv_iconst (v := (1 : Int32)) C0.1 C0.2.1 dX5_isSetOff_79 (by decide) ?_
            refine lv_goto (tgt := 84) C0.1 C0.2.1 dX5_isSetOff_80 (by decide) ?_
            have e8 := y_1 hF
            subst e8
            exact y_zret C0 hM hsz rfl dX5_isSetOff_84
  refine lv_icmp_eq (tgt := 37) C0.1 C0.2.1 dX5_isSetOff_8 (by decide) (fun c15 => ?_) (fun c15 => ?_)
  · have hF := if_t c15 hF
    refine lv_iconst (v := (1 : Int32)) C0.1 C0.2.1 dX5_isSetOff_37 (by decide) ?_
    refine lv_goto (tgt := 42) C0.1 C0.2.1 dX5_isSetOff_38 (by decide) ?_
    exact J42 (1 : Int32) _ _ _ hM (lv_sub hl [0, 1, 2, 3] rfl) hF
  · have hF := if_f c15 hF
    refine lv_aload_n C0.1 C0.2.1 dX5_isSetOff_11 rfl (lv_at hl 0 rfl) ?_
    refine lv_iload_n C0.1 C0.2.1 dX5_isSetOff_12 rfl (lv_at hl 1 rfl) ?_
    refine lv_bipush (v := (9 : Int32)) C0.1 C0.2.1 dX5_isSetOff_13 (by decide) ?_
    obtain ⟨r17, h16, hF⟩ := bd_some hF
    refine y_vi (rest := []) C0 hM hl.1 ok_md (ent5 ok_md) rfl (k_X5_of l G M a0 (9 : Int32) h16) cw_RX5_32 rfl rfl ⟨Nat.le_of_ble_eq_true rfl, Nat.le_of_ble_eq_true rfl⟩ rfl (Nat.le_of_ble_eq_true rfl) ⟨Nat.le_of_ble_eq_true rfl, Nat.le_of_ble_eq_true rfl⟩ dX5_isSetOff_15 (fun H locs hM => ?_)
    refine lv_iconst (v := (-1 : Int32)) C0.1 C0.2.1 dX5_isSetOff_18 (by decide) ?_
    refine lv_icmp_ne (tgt := 41) C0.1 C0.2.1 dX5_isSetOff_19 (by decide) (fun c18 => ?_) (fun c18 => ?_)
    · have hF := if_t c18 hF
      refine lv_iconst (v := (0 : Int32)) C0.1 C0.2.1 dX5_isSetOff_41 (by decide) ?_
      exact J42 (0 : Int32) _ _ _ hM (lv_sub hl [0, 1, 2, 3] rfl) hF
    · have hF := if_f (fun q => q c18) hF
      refine lv_aload_n C0.1 C0.2.1 dX5_isSetOff_22 rfl (lv_at hl 0 rfl) ?_
      refine lv_iload_n C0.1 C0.2.1 dX5_isSetOff_23 rfl (lv_at hl 1 rfl) ?_
      refine lv_iconst (v := (0 : Int32)) C0.1 C0.2.1 dX5_isSetOff_24 (by decide) ?_
      obtain ⟨r20, h19, hF⟩ := bd_some hF
      refine y_vi (rest := []) C0 hM hl.1 ok_md (ent5 ok_md) rfl (k_X5_of l G M a0 (0 : Int32) h19) cw_RX5_32 rfl rfl ⟨Nat.le_of_ble_eq_true rfl, Nat.le_of_ble_eq_true rfl⟩ rfl (Nat.le_of_ble_eq_true rfl) ⟨Nat.le_of_ble_eq_true rfl, Nat.le_of_ble_eq_true rfl⟩ dX5_isSetOff_25 (fun H locs hM => ?_)
      refine lv_aload_n C0.1 C0.2.1 dX5_isSetOff_28 rfl (lv_at hl 0 rfl) ?_
      refine lv_iload_n C0.1 C0.2.1 dX5_isSetOff_29 rfl (lv_at hl 2 rfl) ?_
      refine lv_iconst (v := (0 : Int32)) C0.1 C0.2.1 dX5_isSetOff_30 (by decide) ?_
      obtain ⟨r22, h21, hF⟩ := bd_some hF
      refine y_vi (rest := [.int r20]) C0 hM hl.1 ok_md (ent5 ok_md) rfl (k_X5_of l G M a1 (0 : Int32) h21) cw_RX5_32 rfl rfl ⟨Nat.le_of_ble_eq_true rfl, Nat.le_of_ble_eq_true rfl⟩ rfl (Nat.le_of_ble_eq_true rfl) ⟨Nat.le_of_ble_eq_true rfl, Nat.le_of_ble_eq_true rfl⟩ dX5_isSetOff_31 (fun H locs hM => ?_)
      refine lv_icmp_eq (tgt := 41) C0.1 C0.2.1 dX5_isSetOff_34 (by decide) (fun c23 => ?_) (fun c23 => ?_)
      · have hF := if_t c23 hF
        refine lv_iconst (v := (0 : Int32)) C0.1 C0.2.1 dX5_isSetOff_41 (by decide) ?_
        exact J42 (0 : Int32) _ _ _ hM (lv_sub hl [0, 1, 2, 3] rfl) hF
      · have hF := if_f c23 hF
        refine lv_iconst (v := (1 : Int32)) C0.1 C0.2.1 dX5_isSetOff_37 (by decide) ?_
        refine lv_goto (tgt := 42) C0.1 C0.2.1 dX5_isSetOff_38 (by decide) ?_
        exact J42 (1 : Int32) _ _ _ hM (lv_sub hl [0, 1, 2, 3] rfl) hF

def F_X5_setOff_l63 (a0 : Int32) (l3_1 : Int32) : Nat → Int32 → MS → Option (Int32 × MS)
  | 0, _, _ => none
  | n63 + 1, l4_6, M7 => (if l3_1 ≤ l4_6 then (some (l3_1, M7)) else (gdb (inb l4_6 10) (nm (rA M7 225 (Int32.toNatClampNeg l4_6)) fun x10 => (bd (F_X5_of M7 x10 (7 : Int32)) fun r12 => (bd (F_X5_of M7 x10 (8 : Int32)) fun r14 => (bd (F_X5_loseReadied M7 x10) fun M16 => (bd (F_X5_hasFallen M16 x10) fun r18 => (nm (fun (M19 : MS) => (bd (F_X5_standAhead M19 x10 a0) fun M22 => (nm (l4_6 + (1 : Int32)) fun x23 => (F_X5_setOff_l63 a0 l3_1 n63 x23 M22)))) fun j162_19 => (nm (gdb (inb (4 : Int32) 186) (gdb (inb (4 : Int32) 186) (nm (wA M16 221 (Int32.toNatClampNeg (4 : Int32)) ((rA M16 221 (Int32.toNatClampNeg (4 : Int32))) + (1 : Int32))) fun M27 => (j162_19 M27)))) fun j152_23 => (if ¬ r18 = 0 then j152_23 else (bd (F_X5_has M16 x10 (0 : Int32)) fun r30 => (if ¬ r30 = 0 then j152_23 else (bd (F_X5_isPossible M16 x10 r12 r14) fun r33 => (if r33 = 0 then j152_23 else (bd2 (F_X5_doIt M16 x10 r12 r14 (0 : Int32) (0 : Int32)) fun r37 M36 => (j162_19 M36))))))))))))))))

def F_X5_setOff_l5 (a0 : Int32) (a1 : Int32) : Nat → Int32 → Int32 → MS → Option (Int32 × MS)
  | 0, _, _, _ => none
  | n5 + 1, l3_1, l4_2, M3 => (gdb (inb (0 : Int32) 186) (if (rA M3 221 (Int32.toNatClampNeg (0 : Int32))) ≤ l4_2 then (F_X5_setOff_l63 a0 l3_1 FU (0 : Int32) M3) else (gdb (inb ((6 : Int32) + l4_2) 186) (bd (F_X5_isSetOff M3 (rA M3 221 (Int32.toNatClampNeg ((6 : Int32) + l4_2))) a0 a1) fun r40 => (if r40 = 0 then (nm (l4_2 + (1 : Int32)) fun x42 => (F_X5_setOff_l5 a0 a1 n5 l3_1 x42 M3)) else (gdb (inb ((6 : Int32) + l4_2) 186) (gdb (inb l3_1 10) (nm (wA M3 225 (Int32.toNatClampNeg l3_1) (rA M3 221 (Int32.toNatClampNeg ((6 : Int32) + l4_2)))) fun M45 => (nm (l3_1 + (1 : Int32)) fun x46 => (nm (l4_2 + (1 : Int32)) fun x47 => (F_X5_setOff_l5 a0 a1 n5 x46 x47 M45)))))))))))

def F_X5_setOff (M : MS) (a0 : Int32) (a1 : Int32) : Option (Int32 × MS) := (F_X5_setOff_l5 a0 a1 FU (0 : Int32) (0 : Int32) M)

set_option maxHeartbeats 4000000 in
set_option maxRecDepth 100000 in
theorem k_X5_setOff (l : Launch) (G : GG) (M : MS) (a0 : Int32) (a1 : Int32) {r : Int32} {Mf : MS} (hF : F_X5_setOff M a0 a1 = some (r, Mf)) : KI l yX5_setOff (WS yX5_setOff cX5_setOff 8 (some .int)) (Rm 4) G [.ref (gad G 220), .int a0, .int a1] M r Mf := by
  intro sz
  refine y_met (by decide +kernel) (Nat.le_of_ble_eq_true rfl) rfl (fun p e s m below meth c ls hsz C0 hM hl => ?_)
  have hl : lv_has ls 8 [(0, .ref (gad G 220)), (1, .int a0), (2, .int a1)] := hl
  have C0 : CX p s m meth c ([.ref (gad G 220), .int a0, .int a1] : List Value).toArray cX5_setOff RX5 8 (some .int) := C0
  rw [F_X5_setOff] at hF
  refine lv_iconst (v := (0 : Int32)) C0.1 C0.2.1 dX5_setOff_0 (by decide) ?_
  refine lv_istore_n (lv' := [(3, .int (0 : Int32)), (0, .ref (gad G 220)), (1, .int a0), (2, .int a1)]) C0.1 C0.2.1 dX5_setOff_1 rfl hl (by decide) rfl (fun ls hl => ?_)
  refine lv_iconst (v := (0 : Int32)) C0.1 C0.2.1 dX5_setOff_2 (by decide) ?_
  refine lv_istore (lv' := [(4, .int (0 : Int32)), (3, .int (0 : Int32)), (0, .ref (gad G 220)), (1, .int a0), (2, .int a1)]) C0.1 C0.2.1 dX5_setOff_3 hl (by decide) rfl (fun ls hl => ?_)
  have L5 : ∀ (n : Nat) (l3_1 : Int32) (l4_2 : Int32) (M3 : MS) (H : Heap) (locs : List Loc) (ls : Array Slot), MX G M3 s H locs → lv_has ls 8 [(0, .ref (gad G 220)), (1, .int a0), (2, .int a1), (3, .int l3_1), (4, .int l4_2)] → F_X5_setOff_l5 a0 a1 n l3_1 l4_2 M3 = some (r, Mf) → W p l e (Rm 4) s m ([.ref (gad G 220), .int a0, .int a1] : List Value).toArray below meth c H locs 0 0 (QI below ([.ref (gad G 220), .int a0, .int a1] : List Value).toArray s G sz r Mf) (F0 m 5 ls []) := by
    intro n
    induction n with
    | zero => intro l3_1 l4_2 M3 H locs ls hM hl hF; rw [F_X5_setOff_l5] at hF; cases hF
    | succ n5 ih5 =>
      intro l3_1 l4_2 M3 H locs ls hM hl hF
      rw [F_X5_setOff_l5] at hF
      refine lv_iload C0.1 C0.2.1 dX5_setOff_5 (lv_at hl 4 rfl) ?_
      refine lv_aload_n C0.1 C0.2.1 dX5_setOff_7 rfl (lv_at hl 0 rfl) ?_
      refine gf5_1 C0 hM ok_md fl_RX5_7 dX5_setOff_8 ?_
      refine lv_iconst (v := (0 : Int32)) C0.1 C0.2.1 dX5_setOff_11 (by decide) ?_
      obtain ⟨g4, hF⟩ := gdb_some hF
      refine y_iald C0 hM oka_z g4 dX5_setOff_12 ?_
      refine lv_icmp_ge (tgt := 60) C0.1 C0.2.1 dX5_setOff_13 (by decide) (fun c5 => ?_) (fun c5 => ?_)
      · have hF := if_t c5 hF
        refine lv_iconst (v := (0 : Int32)) C0.1 C0.2.1 dX5_setOff_60 (by decide) ?_
        refine lv_istore (lv' := [(4, .int (0 : Int32)), (0, .ref (gad G 220)), (1, .int a0), (2, .int a1), (3, .int l3_1)]) C0.1 C0.2.1 dX5_setOff_61 hl (by decide) rfl (fun ls hl => ?_)
        have L63 : ∀ (n : Nat) (l4_6 : Int32) (M7 : MS) (H : Heap) (locs : List Loc) (ls : Array Slot), MX G M7 s H locs → lv_has ls 8 [(0, .ref (gad G 220)), (1, .int a0), (2, .int a1), (3, .int l3_1), (4, .int l4_6)] → F_X5_setOff_l63 a0 l3_1 n l4_6 M7 = some (r, Mf) → W p l e (Rm 4) s m ([.ref (gad G 220), .int a0, .int a1] : List Value).toArray below meth c H locs 0 0 (QI below ([.ref (gad G 220), .int a0, .int a1] : List Value).toArray s G sz r Mf) (F0 m 63 ls []) := by
          intro n
          induction n with
          | zero => intro l4_6 M7 H locs ls hM hl hF; rw [F_X5_setOff_l63] at hF; cases hF
          | succ n63 ih63 =>
            intro l4_6 M7 H locs ls hM hl hF
            rw [F_X5_setOff_l63] at hF
            refine lv_iload C0.1 C0.2.1 dX5_setOff_63 (lv_at hl 4 rfl) ?_
            refine lv_iload_n C0.1 C0.2.1 dX5_setOff_65 rfl (lv_at hl 3 rfl) ?_
            refine lv_icmp_ge (tgt := 175) C0.1 C0.2.1 dX5_setOff_66 (by decide) (fun c8 => ?_) (fun c8 => ?_)
            · have hF := if_t c8 hF
              refine lv_iload_n C0.1 C0.2.1 dX5_setOff_175 rfl (lv_at hl 3 rfl) ?_
              obtain ⟨e8, e9⟩ := y_2 hF
              subst e8
              subst e9
              exact y_iret C0 hM hsz dX5_setOff_176
            · have hF := if_f c8 hF
              refine lv_aload_n C0.1 C0.2.1 dX5_setOff_69 rfl (lv_at hl 0 rfl) ?_
              refine gf5_7 C0 hM ok_md fl_RX5_22 dX5_setOff_70 ?_
              refine lv_iload C0.1 C0.2.1 dX5_setOff_73 (lv_at hl 4 rfl) ?_
              obtain ⟨g9, hF⟩ := gdb_some hF
              refine y_iald C0 hM oka_ready g9 dX5_setOff_75 ?_
              obtain ⟨x10, ex10, hF⟩ := nm_some hF
              refine y_topi ex10 ?_
              refine lv_istore (lv' := [(5, .int x10), (0, .ref (gad G 220)), (1, .int a0), (2, .int a1), (3, .int l3_1), (4, .int l4_6)]) C0.1 C0.2.1 dX5_setOff_76 hl (by decide) rfl (fun ls hl => ?_)
              refine lv_aload_n C0.1 C0.2.1 dX5_setOff_78 rfl (lv_at hl 1 rfl) ?_
              refine lv_iload C0.1 C0.2.1 dX5_setOff_79 (lv_at hl 0 rfl) ?_
              refine lv_bipush (v := (7 : Int32)) C0.1 C0.2.1 dX5_setOff_81 (by decide) ?_
              obtain ⟨r12, h11, hF⟩ := bd_some hF
              refine y_vi (rest := []) C0 hM hl.1 ok_md (ent5 ok_md) rfl (k_X5_of l G M7 x10 (7 : Int32) h11) cw_RX5_32 rfl rfl ⟨Nat.le_of_ble_eq_true rfl, Nat.le_of_ble_eq_true rfl⟩ rfl (Nat.le_of_ble_eq_true rfl) ⟨Nat.le_of_ble_eq_true rfl, Nat.le_of_ble_eq_true rfl⟩ dX5_setOff_83 (fun H locs hM => ?_)
              refine lv_istore (lv' := [(6, .int r12), (5, .int x10), (0, .ref (gad G 220)), (1, .int a0), (2, .int a1), (3, .int l3_1), (4, .int l4_6)]) C0.1 C0.2.1 dX5_setOff_86 hl (by decide) rfl (fun ls hl => ?_)
              refine lv_aload_n C0.1 C0.2.1 dX5_setOff_88 rfl (lv_at hl 2 rfl) ?_
              refine lv_iload C0.1 C0.2.1 dX5_setOff_89 (lv_at hl 1 rfl) ?_
              refine lv_bipush (v := (8 : Int32)) C0.1 C0.2.1 dX5_setOff_91 (by decide) ?_
              obtain ⟨r14, h13, hF⟩ := bd_some hF
              refine y_vi (rest := []) C0 hM hl.1 ok_md (ent5 ok_md) rfl (k_X5_of l G M7 x10 (8 : Int32) h13) cw_RX5_32 rfl rfl ⟨Nat.le_of_ble_eq_true rfl, Nat.le_of_ble_eq_true rfl⟩ rfl (Nat.le_of_ble_eq_true rfl) ⟨Nat.le_of_ble_eq_true rfl, Nat.le_of_ble_eq_true rfl⟩ dX5_setOff_93 (fun H locs hM => ?_)
              refine lv_istore (lv' := [(7, .int r14), (6, .int r12), (5, .int x10), (0, .ref (gad G 220)), (1, .int a0), (2, .int a1), (3, .int l3_1), (4, .int l4_6)]) C0.1 C0.2.1 dX5_setOff_96 hl (by decide) rfl (fun ls hl => ?_)
              refine lv_aload_n C0.1 C0.2.1 dX5_setOff_98 rfl (lv_at hl 3 rfl) ?_
              refine lv_iload C0.1 C0.2.1 dX5_setOff_99 (lv_at hl 2 rfl) ?_
              obtain ⟨M16, h15, hF⟩ := bd_some hF
              refine y_vv (rest := []) C0 hM hl.1 ok_md (ent5 ok_md) rfl (k_X5_loseReadied l G M7 x10 h15) cw_RX5_59 rfl rfl ⟨Nat.le_of_ble_eq_true rfl, Nat.le_of_ble_eq_true rfl⟩ rfl (Nat.le_of_ble_eq_true rfl) ⟨Nat.le_of_ble_eq_true rfl, Nat.le_of_ble_eq_true rfl⟩ dX5_setOff_101 (fun H locs hM => ?_)
              refine lv_aload_n C0.1 C0.2.1 dX5_setOff_104 rfl (lv_at hl 3 rfl) ?_
              refine lv_iload C0.1 C0.2.1 dX5_setOff_105 (lv_at hl 2 rfl) ?_
              obtain ⟨r18, h17, hF⟩ := bd_some hF
              refine y_vi (rest := []) C0 hM hl.1 ok_md (ent5 ok_md) rfl (k_X5_hasFallen l G M16 x10 h17) cw_RX5_51 rfl rfl ⟨Nat.le_of_ble_eq_true rfl, Nat.le_of_ble_eq_true rfl⟩ rfl (Nat.le_of_ble_eq_true rfl) ⟨Nat.le_of_ble_eq_true rfl, Nat.le_of_ble_eq_true rfl⟩ dX5_setOff_107 (fun H locs hM => ?_)
              obtain ⟨j162_19, ej162_19, hF⟩ := nm_some hF
              have J162 : ∀ (M19 : MS) (H : Heap) (locs : List Loc) (ls : Array Slot), MX G M19 s H locs → lv_has ls 8 [(0, .ref (gad G 220)), (1, .int a0), (2, .int a1), (3, .int l3_1), (4, .int l4_6), (5, .int x10), (6, .int r12), (7, .int r14)] → j162_19 M19 = some (r, Mf) → W p l e (Rm 4) s m ([.ref (gad G 220), .int a0, .int a1] : List Value).toArray below meth c H locs 0 0 (QI below ([.ref (gad G 220), .int a0, .int a1] : List Value).toArray s G sz r Mf) (F0 m 162 ls []) := by
                intro M19 H locs ls hM hl hF
                rw [ej162_19] at hF
                refine lv_aload_n C0.1 C0.2.1 dX5_setOff_162 rfl (lv_at hl 0 rfl) ?_
                refine lv_iload C0.1 C0.2.1 dX5_setOff_163 (lv_at hl 5 rfl) ?_
                refine lv_iload_n C0.1 C0.2.1 dX5_setOff_165 rfl (lv_at hl 1 rfl) ?_
                obtain ⟨M22, h21, hF⟩ := bd_some hF
                refine y_vv (rest := []) C0 hM hl.1 ok_md (ent5 ok_md) rfl (k_X5_standAhead l G M19 x10 a0 h21) cw_RX5_114 rfl rfl ⟨Nat.le_of_ble_eq_true rfl, Nat.le_of_ble_eq_true rfl⟩ rfl (Nat.le_of_ble_eq_true rfl) ⟨Nat.le_of_ble_eq_true rfl, Nat.le_of_ble_eq_true rfl⟩ dX5_setOff_166 (fun H locs hM => ?_)
                obtain ⟨x23, ex23, hF⟩ := nm_some hF
                refine lv_iinc (v := x23) (lv' := [(4, .int x23), (0, .ref (gad G 220)), (1, .int a0), (2, .int a1), (3, .int l3_1), (5, .int x10), (6, .int r12), (7, .int r14)]) C0.1 C0.2.1 dX5_setOff_169 hl (k := 4) rfl (by rw [ex23]; rfl) (by decide) rfl (fun ls hl => ?_)
                refine lv_goto (tgt := 63) C0.1 C0.2.1 dX5_setOff_172 (by decide) ?_
                exact ih63 x23 M22 _ _ _ hM (lv_sub hl [1, 2, 3, 4, 0] rfl) hF
              obtain ⟨j152_23, ej152_23, hF⟩ := nm_some hF
              have J152 : ∀ (H : Heap) (locs : List Loc) (ls : Array Slot), MX G M16 s H locs → lv_has ls 8 [(0, .ref (gad G 220)), (1, .int a0), (2, .int a1), (3, .int l3_1), (4, .int l4_6), (5, .int x10), (6, .int r12), (7, .int r14)] → j152_23 = some (r, Mf) → W p l e (Rm 4) s m ([.ref (gad G 220), .int a0, .int a1] : List Value).toArray below meth c H locs 0 0 (QI below ([.ref (gad G 220), .int a0, .int a1] : List Value).toArray s G sz r Mf) (F0 m 152 ls []) := by
                intro H locs ls hM hl hF
                rw [ej152_23] at hF
                refine lv_aload_n C0.1 C0.2.1 dX5_setOff_152 rfl (lv_at hl 0 rfl) ?_
                refine gf5_1 C0 hM ok_md fl_RX5_7 dX5_setOff_153 ?_
                refine lv_iconst (v := (4 : Int32)) C0.1 C0.2.1 dX5_setOff_156 (by decide) ?_
                refine lv_dup2_11 C0.1 C0.2.1 dX5_setOff_157 rfl rfl ?_
                obtain ⟨g25, hF⟩ := gdb_some hF
                refine y_iald C0 hM oka_z g25 dX5_setOff_158 ?_
                refine lv_iconst (v := (1 : Int32)) C0.1 C0.2.1 dX5_setOff_159 (by decide) ?_
                refine lv_iadd C0.1 C0.2.1 dX5_setOff_160 ?_
                obtain ⟨g26, hF⟩ := gdb_some hF
                refine y_iast C0 hM oka_z g26 dX5_setOff_161 (fun H locs hM => ?_)
                obtain ⟨M27, eM27, hF⟩ := nm_some hF
                have hM := y_mn eM27 hM
                exact J162 M27 _ _ _ hM (lv_sub hl [0, 1, 2, 3, 4, 5, 6, 7] rfl) hF
              refine lv_if_ne (tgt := 152) C0.1 C0.2.1 dX5_setOff_110 (by decide) (fun c28 => ?_) (fun c28 => ?_)
              · have hF := if_t c28 hF
                exact J152  _ _ _ hM (lv_sub hl [3, 4, 5, 6, 7, 2, 1, 0] rfl) hF
              · have hF := if_f (fun q => q c28) hF
                refine lv_aload_n C0.1 C0.2.1 dX5_setOff_113 rfl (lv_at hl 3 rfl) ?_
                refine lv_iload C0.1 C0.2.1 dX5_setOff_114 (lv_at hl 2 rfl) ?_
                refine lv_iconst (v := (0 : Int32)) C0.1 C0.2.1 dX5_setOff_116 (by decide) ?_
                obtain ⟨r30, h29, hF⟩ := bd_some hF
                refine y_vi (rest := []) C0 hM hl.1 ok_md (ent5 ok_md) rfl (k_X5_has l G M16 x10 (0 : Int32) h29) cw_RX5_55 rfl rfl ⟨Nat.le_of_ble_eq_true rfl, Nat.le_of_ble_eq_true rfl⟩ rfl (Nat.le_of_ble_eq_true rfl) ⟨Nat.le_of_ble_eq_true rfl, Nat.le_of_ble_eq_true rfl⟩ dX5_setOff_117 (fun H locs hM => ?_)
                refine lv_if_ne (tgt := 152) C0.1 C0.2.1 dX5_setOff_120 (by decide) (fun c31 => ?_) (fun c31 => ?_)
                · have hF := if_t c31 hF
                  exact J152  _ _ _ hM (lv_sub hl [3, 4, 5, 6, 7, 2, 1, 0] rfl) hF
                · have hF := if_f (fun q => q c31) hF
                  refine lv_aload_n C0.1 C0.2.1 dX5_setOff_123 rfl (lv_at hl 3 rfl) ?_
                  refine lv_iload C0.1 C0.2.1 dX5_setOff_124 (lv_at hl 2 rfl) ?_
                  refine lv_iload C0.1 C0.2.1 dX5_setOff_126 (lv_at hl 1 rfl) ?_
                  refine lv_iload C0.1 C0.2.1 dX5_setOff_128 (lv_at hl 0 rfl) ?_
                  obtain ⟨r33, h32, hF⟩ := bd_some hF
                  refine y_vi (rest := []) C0 hM hl.1 ok_md (ent5 ok_md) rfl (k_X5_isPossible l G M16 x10 r12 r14 h32) cw_RX5_107 rfl rfl ⟨Nat.le_of_ble_eq_true rfl, Nat.le_of_ble_eq_true rfl⟩ rfl (Nat.le_of_ble_eq_true rfl) ⟨Nat.le_of_ble_eq_true rfl, Nat.le_of_ble_eq_true rfl⟩ dX5_setOff_130 (fun H locs hM => ?_)
                  refine lv_if_eq (tgt := 152) C0.1 C0.2.1 dX5_setOff_133 (by decide) (fun c34 => ?_) (fun c34 => ?_)
                  · have hF := if_t c34 hF
                    exact J152  _ _ _ hM (lv_sub hl [3, 4, 5, 6, 7, 2, 1, 0] rfl) hF
                  · have hF := if_f c34 hF
                    refine lv_aload_n C0.1 C0.2.1 dX5_setOff_136 rfl (lv_at hl 3 rfl) ?_
                    refine lv_iload C0.1 C0.2.1 dX5_setOff_137 (lv_at hl 2 rfl) ?_
                    refine lv_iload C0.1 C0.2.1 dX5_setOff_139 (lv_at hl 1 rfl) ?_
                    refine lv_iload C0.1 C0.2.1 dX5_setOff_141 (lv_at hl 0 rfl) ?_
                    refine lv_iconst (v := (0 : Int32)) C0.1 C0.2.1 dX5_setOff_143 (by decide) ?_
                    refine lv_iconst (v := (0 : Int32)) C0.1 C0.2.1 dX5_setOff_144 (by decide) ?_
                    obtain ⟨r37, M36, h35, hF⟩ := bd2_some hF
                    refine y_vi (rest := []) C0 hM hl.1 ok_md (ent5 ok_md) rfl (k_X5_doIt l G M16 x10 r12 r14 (0 : Int32) (0 : Int32) h35) cw_RX5_110 rfl rfl ⟨Nat.le_of_ble_eq_true rfl, Nat.le_of_ble_eq_true rfl⟩ rfl (Nat.le_of_ble_eq_true rfl) ⟨Nat.le_of_ble_eq_true rfl, Nat.le_of_ble_eq_true rfl⟩ dX5_setOff_145 (fun H locs hM => ?_)
                    refine lv_pop C0.1 C0.2.1 dX5_setOff_148 rfl ?_
                    refine lv_goto (tgt := 162) C0.1 C0.2.1 dX5_setOff_149 (by decide) ?_
                    exact J162 M36 _ _ _ hM (lv_sub hl [3, 4, 5, 6, 7, 2, 1, 0] rfl) hF
        exact L63 FU (0 : Int32) M3 _ _ _ hM (lv_sub hl [1, 2, 3, 4, 0] rfl) hF
      · have hF := if_f c5 hF
        refine lv_aload_n C0.1 C0.2.1 dX5_setOff_16 rfl (lv_at hl 0 rfl) ?_
        refine lv_aload_n C0.1 C0.2.1 dX5_setOff_17 rfl (lv_at hl 0 rfl) ?_
        refine gf5_1 C0 hM ok_md fl_RX5_7 dX5_setOff_18 ?_
        refine lv_bipush (v := (6 : Int32)) C0.1 C0.2.1 dX5_setOff_21 (by decide) ?_
        refine lv_iload C0.1 C0.2.1 dX5_setOff_23 (lv_at hl 4 rfl) ?_
        refine lv_iadd C0.1 C0.2.1 dX5_setOff_25 ?_
        obtain ⟨g38, hF⟩ := gdb_some hF
        refine y_iald C0 hM oka_z g38 dX5_setOff_26 ?_
        refine lv_iload_n C0.1 C0.2.1 dX5_setOff_27 rfl (lv_at hl 1 rfl) ?_
        refine lv_iload_n C0.1 C0.2.1 dX5_setOff_28 rfl (lv_at hl 2 rfl) ?_
        obtain ⟨r40, h39, hF⟩ := bd_some hF
        refine y_vi (rest := []) C0 hM hl.1 ok_md (ent5 ok_md) rfl (k_X5_isSetOff l G M3 (rA M3 221 (Int32.toNatClampNeg ((6 : Int32) + l4_2))) a0 a1 h39) cw_RX5_104 rfl rfl ⟨Nat.le_of_ble_eq_true rfl, Nat.le_of_ble_eq_true rfl⟩ rfl (Nat.le_of_ble_eq_true rfl) ⟨Nat.le_of_ble_eq_true rfl, Nat.le_of_ble_eq_true rfl⟩ dX5_setOff_29 (fun H locs hM => ?_)
        refine lv_if_eq (tgt := 54) C0.1 C0.2.1 dX5_setOff_32 (by decide) (fun c41 => ?_) (fun c41 => ?_)
        · have hF := if_t c41 hF
          obtain ⟨x42, ex42, hF⟩ := nm_some hF
          refine lv_iinc (v := x42) (lv' := [(4, .int x42), (0, .ref (gad G 220)), (1, .int a0), (2, .int a1), (3, .int l3_1)]) C0.1 C0.2.1 dX5_setOff_54 hl (k := 4) rfl (by rw [ex42]; rfl) (by decide) rfl (fun ls hl => ?_)
          refine lv_goto (tgt := 5) C0.1 C0.2.1 dX5_setOff_57 (by decide) ?_
          exact ih5 l3_1 x42 M3 _ _ _ hM (lv_sub hl [1, 2, 3, 4, 0] rfl) hF
        · have hF := if_f c41 hF
          refine lv_aload_n C0.1 C0.2.1 dX5_setOff_35 rfl (lv_at hl 0 rfl) ?_
          refine gf5_7 C0 hM ok_md fl_RX5_22 dX5_setOff_36 ?_
          refine lv_iload_n C0.1 C0.2.1 dX5_setOff_39 rfl (lv_at hl 3 rfl) ?_
          refine lv_aload_n C0.1 C0.2.1 dX5_setOff_40 rfl (lv_at hl 0 rfl) ?_
          refine gf5_1 C0 hM ok_md fl_RX5_7 dX5_setOff_41 ?_
          refine lv_bipush (v := (6 : Int32)) C0.1 C0.2.1 dX5_setOff_44 (by decide) ?_
          refine lv_iload C0.1 C0.2.1 dX5_setOff_46 (lv_at hl 4 rfl) ?_
          refine lv_iadd C0.1 C0.2.1 dX5_setOff_48 ?_
          obtain ⟨g43, hF⟩ := gdb_some hF
          refine y_iald C0 hM oka_z g43 dX5_setOff_49 ?_
          obtain ⟨g44, hF⟩ := gdb_some hF
          refine y_iast C0 hM oka_ready g44 dX5_setOff_50 (fun H locs hM => ?_)
          obtain ⟨M45, eM45, hF⟩ := nm_some hF
          have hM := y_mn eM45 hM
          obtain ⟨x46, ex46, hF⟩ := nm_some hF
          refine lv_iinc (v := x46) (lv' := [(3, .int x46), (0, .ref (gad G 220)), (1, .int a0), (2, .int a1), (4, .int l4_2)]) C0.1 C0.2.1 dX5_setOff_51 hl (k := 3) rfl (by rw [ex46]; rfl) (by decide) rfl (fun ls hl => ?_)
          obtain ⟨x47, ex47, hF⟩ := nm_some hF
          refine lv_iinc (v := x47) (lv' := [(4, .int x47), (3, .int x46), (0, .ref (gad G 220)), (1, .int a0), (2, .int a1)]) C0.1 C0.2.1 dX5_setOff_54 hl (k := 4) rfl (by rw [ex47]; rfl) (by decide) rfl (fun ls hl => ?_)
          refine lv_goto (tgt := 5) C0.1 C0.2.1 dX5_setOff_57 (by decide) ?_
          exact ih5 x46 x47 M45 _ _ _ hM (lv_sub hl [2, 3, 4, 1, 0] rfl) hF
  exact L5 FU (0 : Int32) (0 : Int32) M _ _ _ hM (lv_sub hl [2, 3, 4, 1, 0] rfl) hF

def F_X5_act (M : MS) (a0 : Int32) (a1 : Int32) (a2 : Int32) (a3 : Int32) : Option (Int32 × MS) := (gdb (inb (2 : Int32) 186) (nm (rA M 221 (Int32.toNatClampNeg (2 : Int32))) fun x2 => (bd2 (F_X5_setOff M x2 a0) fun r5 M4 => (nm (wF M4 88 220 r5) fun M6 => (bd (F_X5_hasFallen M6 x2) fun r8 => (nm (fun (l6_9 : Int32) (M10 : MS) => (bd (F_X5_endTurn M10) fun M13 => (some (l6_9, M13)))) fun j68_10 => (nm (gdb (inb (4 : Int32) 186) (gdb (inb (4 : Int32) 186) (nm (wA M6 221 (Int32.toNatClampNeg (4 : Int32)) ((rA M6 221 (Int32.toNatClampNeg (4 : Int32))) + (1 : Int32))) fun M17 => (j68_10 (-1 : Int32) M17)))) fun j58_13 => (if ¬ r8 = 0 then j58_13 else (bd (F_X5_isPossible M6 x2 a0 a1) fun r20 => (if r20 = 0 then j58_13 else (bd2 (F_X5_doIt M6 x2 a0 a1 a2 a3) fun r24 M23 => (j68_10 r24 M23))))))))))))

set_option maxHeartbeats 4000000 in
set_option maxRecDepth 100000 in
theorem k_X5_act (l : Launch) (G : GG) (M : MS) (a0 : Int32) (a1 : Int32) (a2 : Int32) (a3 : Int32) {r : Int32} {Mf : MS} (hF : F_X5_act M a0 a1 a2 a3 = some (r, Mf)) : KI l yX5_act (WS yX5_act cX5_act 7 (some .int)) (Rm 5) G [.ref (gad G 220), .int a0, .int a1, .int a2, .int a3] M r Mf := by
  intro sz
  refine y_met (by decide +kernel) (Nat.le_of_ble_eq_true rfl) rfl (fun p e s m below meth c ls hsz C0 hM hl => ?_)
  have hl : lv_has ls 7 [(0, .ref (gad G 220)), (1, .int a0), (2, .int a1), (3, .int a2), (4, .int a3)] := hl
  have C0 : CX p s m meth c ([.ref (gad G 220), .int a0, .int a1, .int a2, .int a3] : List Value).toArray cX5_act RX5 7 (some .int) := C0
  rw [F_X5_act] at hF
  refine lv_aload_n C0.1 C0.2.1 dX5_act_0 rfl (lv_at hl 0 rfl) ?_
  refine gf5_1 C0 hM ok_md fl_RX5_7 dX5_act_1 ?_
  refine lv_iconst (v := (2 : Int32)) C0.1 C0.2.1 dX5_act_4 (by decide) ?_
  obtain ⟨g1, hF⟩ := gdb_some hF
  refine y_iald C0 hM oka_z g1 dX5_act_5 ?_
  obtain ⟨x2, ex2, hF⟩ := nm_some hF
  refine y_topi ex2 ?_
  refine lv_istore (lv' := [(5, .int x2), (0, .ref (gad G 220)), (1, .int a0), (2, .int a1), (3, .int a2), (4, .int a3)]) C0.1 C0.2.1 dX5_act_6 hl (by decide) rfl (fun ls hl => ?_)
  refine lv_aload_n C0.1 C0.2.1 dX5_act_8 rfl (lv_at hl 1 rfl) ?_
  refine lv_aload_n C0.1 C0.2.1 dX5_act_9 rfl (lv_at hl 1 rfl) ?_
  refine lv_iload C0.1 C0.2.1 dX5_act_10 (lv_at hl 0 rfl) ?_
  refine lv_iload_n C0.1 C0.2.1 dX5_act_12 rfl (lv_at hl 2 rfl) ?_
  obtain ⟨r5, M4, h3, hF⟩ := bd2_some hF
  refine y_vi (rest := [.ref (gad G 220)]) C0 hM hl.1 ok_md (ent5 ok_md) rfl (k_X5_setOff l G M x2 a0 h3) cw_RX5_117 rfl rfl ⟨Nat.le_of_ble_eq_true rfl, Nat.le_of_ble_eq_true rfl⟩ rfl (Nat.le_of_ble_eq_true rfl) ⟨Nat.le_of_ble_eq_true rfl, Nat.le_of_ble_eq_true rfl⟩ dX5_act_13 (fun H locs hM => ?_)
  refine pf5_8 C0 hM ok_md fl_RX5_120 dX5_act_16 (fun H locs hM => ?_)
  obtain ⟨M6, eM6, hF⟩ := nm_some hF
  have hM := y_mn eM6 hM
  refine lv_iconst (v := (-1 : Int32)) C0.1 C0.2.1 dX5_act_19 (by decide) ?_
  refine lv_istore (lv' := [(6, .int (-1 : Int32)), (5, .int x2), (0, .ref (gad G 220)), (1, .int a0), (2, .int a1), (3, .int a2), (4, .int a3)]) C0.1 C0.2.1 dX5_act_20 hl (by decide) rfl (fun ls hl => ?_)
  refine lv_aload_n C0.1 C0.2.1 dX5_act_22 rfl (lv_at hl 2 rfl) ?_
  refine lv_iload C0.1 C0.2.1 dX5_act_23 (lv_at hl 1 rfl) ?_
  obtain ⟨r8, h7, hF⟩ := bd_some hF
  refine y_vi (rest := []) C0 hM hl.1 ok_md (ent5 ok_md) rfl (k_X5_hasFallen l G M6 x2 h7) cw_RX5_51 rfl rfl ⟨Nat.le_of_ble_eq_true rfl, Nat.le_of_ble_eq_true rfl⟩ rfl (Nat.le_of_ble_eq_true rfl) ⟨Nat.le_of_ble_eq_true rfl, Nat.le_of_ble_eq_true rfl⟩ dX5_act_25 (fun H locs hM => ?_)
  obtain ⟨j68_10, ej68_10, hF⟩ := nm_some hF
  have J68 : ∀ (l6_9 : Int32) (M10 : MS) (H : Heap) (locs : List Loc) (ls : Array Slot), MX G M10 s H locs → lv_has ls 7 [(0, .ref (gad G 220)), (1, .int a0), (2, .int a1), (3, .int a2), (4, .int a3), (5, .int x2), (6, .int l6_9)] → j68_10 l6_9 M10 = some (r, Mf) → W p l e (Rm 5) s m ([.ref (gad G 220), .int a0, .int a1, .int a2, .int a3] : List Value).toArray below meth c H locs 0 0 (QI below ([.ref (gad G 220), .int a0, .int a1, .int a2, .int a3] : List Value).toArray s G sz r Mf) (F0 m 68 ls []) := by
    intro l6_9 M10 H locs ls hM hl hF
    rw [ej68_10] at hF
    refine lv_aload_n C0.1 C0.2.1 dX5_act_68 rfl (lv_at hl 0 rfl) ?_
    obtain ⟨M13, h12, hF⟩ := bd_some hF
    refine y_vv (rest := []) C0 hM hl.1 ok_md (ent5 ok_md) rfl (k_X5_endTurn l G M10 h12) cw_RX5_123 rfl rfl ⟨Nat.le_of_ble_eq_true rfl, Nat.le_of_ble_eq_true rfl⟩ rfl (Nat.le_of_ble_eq_true rfl) ⟨Nat.le_of_ble_eq_true rfl, Nat.le_of_ble_eq_true rfl⟩ dX5_act_69 (fun H locs hM => ?_)
    refine lv_iload C0.1 C0.2.1 dX5_act_72 (lv_at hl 6 rfl) ?_
    obtain ⟨e8, e9⟩ := y_2 hF
    subst e8
    subst e9
    exact y_iret C0 hM hsz dX5_act_74
  obtain ⟨j58_13, ej58_13, hF⟩ := nm_some hF
  have J58 : ∀ (H : Heap) (locs : List Loc) (ls : Array Slot), MX G M6 s H locs → lv_has ls 7 [(0, .ref (gad G 220)), (1, .int a0), (2, .int a1), (3, .int a2), (4, .int a3), (5, .int x2), (6, .int (-1 : Int32))] → j58_13 = some (r, Mf) → W p l e (Rm 5) s m ([.ref (gad G 220), .int a0, .int a1, .int a2, .int a3] : List Value).toArray below meth c H locs 0 0 (QI below ([.ref (gad G 220), .int a0, .int a1, .int a2, .int a3] : List Value).toArray s G sz r Mf) (F0 m 58 ls []) := by
    intro H locs ls hM hl hF
    rw [ej58_13] at hF
    refine lv_aload_n C0.1 C0.2.1 dX5_act_58 rfl (lv_at hl 0 rfl) ?_
    refine gf5_1 C0 hM ok_md fl_RX5_7 dX5_act_59 ?_
    refine lv_iconst (v := (4 : Int32)) C0.1 C0.2.1 dX5_act_62 (by decide) ?_
    refine lv_dup2_11 C0.1 C0.2.1 dX5_act_63 rfl rfl ?_
    obtain ⟨g15, hF⟩ := gdb_some hF
    refine y_iald C0 hM oka_z g15 dX5_act_64 ?_
    refine lv_iconst (v := (1 : Int32)) C0.1 C0.2.1 dX5_act_65 (by decide) ?_
    refine lv_iadd C0.1 C0.2.1 dX5_act_66 ?_
    obtain ⟨g16, hF⟩ := gdb_some hF
    refine y_iast C0 hM oka_z g16 dX5_act_67 (fun H locs hM => ?_)
    obtain ⟨M17, eM17, hF⟩ := nm_some hF
    have hM := y_mn eM17 hM
    exact J68 (-1 : Int32) M17 _ _ _ hM (lv_sub hl [0, 1, 2, 3, 4, 5, 6] rfl) hF
  refine lv_if_ne (tgt := 58) C0.1 C0.2.1 dX5_act_28 (by decide) (fun c18 => ?_) (fun c18 => ?_)
  · have hF := if_t c18 hF
    exact J58  _ _ _ hM (lv_sub hl [2, 3, 4, 5, 6, 1, 0] rfl) hF
  · have hF := if_f (fun q => q c18) hF
    refine lv_aload_n C0.1 C0.2.1 dX5_act_31 rfl (lv_at hl 2 rfl) ?_
    refine lv_iload C0.1 C0.2.1 dX5_act_32 (lv_at hl 1 rfl) ?_
    refine lv_iload_n C0.1 C0.2.1 dX5_act_34 rfl (lv_at hl 3 rfl) ?_
    refine lv_iload_n C0.1 C0.2.1 dX5_act_35 rfl (lv_at hl 4 rfl) ?_
    obtain ⟨r20, h19, hF⟩ := bd_some hF
    refine y_vi (rest := []) C0 hM hl.1 ok_md (ent5 ok_md) rfl (k_X5_isPossible l G M6 x2 a0 a1 h19) cw_RX5_107 rfl rfl ⟨Nat.le_of_ble_eq_true rfl, Nat.le_of_ble_eq_true rfl⟩ rfl (Nat.le_of_ble_eq_true rfl) ⟨Nat.le_of_ble_eq_true rfl, Nat.le_of_ble_eq_true rfl⟩ dX5_act_36 (fun H locs hM => ?_)
    refine lv_if_eq (tgt := 58) C0.1 C0.2.1 dX5_act_39 (by decide) (fun c21 => ?_) (fun c21 => ?_)
    · have hF := if_t c21 hF
      exact J58  _ _ _ hM (lv_sub hl [2, 3, 4, 5, 6, 1, 0] rfl) hF
    · have hF := if_f c21 hF
      refine lv_aload_n C0.1 C0.2.1 dX5_act_42 rfl (lv_at hl 2 rfl) ?_
      refine lv_iload C0.1 C0.2.1 dX5_act_43 (lv_at hl 1 rfl) ?_
      refine lv_iload_n C0.1 C0.2.1 dX5_act_45 rfl (lv_at hl 3 rfl) ?_
      refine lv_iload_n C0.1 C0.2.1 dX5_act_46 rfl (lv_at hl 4 rfl) ?_
      refine lv_iload_n C0.1 C0.2.1 dX5_act_47 rfl (lv_at hl 5 rfl) ?_
      refine lv_iload C0.1 C0.2.1 dX5_act_48 (lv_at hl 6 rfl) ?_
      obtain ⟨r24, M23, h22, hF⟩ := bd2_some hF
      refine y_vi (rest := []) C0 hM hl.1 ok_md (ent5 ok_md) rfl (k_X5_doIt l G M6 x2 a0 a1 a2 a3 h22) cw_RX5_110 rfl rfl ⟨Nat.le_of_ble_eq_true rfl, Nat.le_of_ble_eq_true rfl⟩ rfl (Nat.le_of_ble_eq_true rfl) ⟨Nat.le_of_ble_eq_true rfl, Nat.le_of_ble_eq_true rfl⟩ dX5_act_50 (fun H locs hM => ?_)
      refine lv_istore (lv' := [(6, .int r24), (5, .int x2), (0, .ref (gad G 220)), (1, .int a0), (2, .int a1), (3, .int a2), (4, .int a3)]) C0.1 C0.2.1 dX5_act_53 hl (by decide) rfl (fun ls hl => ?_)
      refine lv_goto (tgt := 68) C0.1 C0.2.1 dX5_act_55 (by decide) ?_
      exact J68 r24 M23 _ _ _ hM (lv_sub hl [2, 3, 4, 5, 6, 1, 0] rfl) hF

def F_X5_canAct (M : MS) (a0 : Int32) (a1 : Int32) : Option Int32 := (gdb (inb (2 : Int32) 186) (if (rA M 221 (Int32.toNatClampNeg (2 : Int32))) = (-1 : Int32) then (some (0 : Int32)) else (gdb (inb (2 : Int32) 186) (bd (F_X5_isPossible M (rA M 221 (Int32.toNatClampNeg (2 : Int32))) a0 a1) fun r5 => (if r5 = 0 then (some (0 : Int32)) else (some (1 : Int32)))))))

set_option maxHeartbeats 4000000 in
set_option maxRecDepth 100000 in
theorem k_X5_canAct (l : Launch) (G : GG) (M : MS) (a0 : Int32) (a1 : Int32) {r : Int32} (hF : F_X5_canAct M a0 a1 = some r) : KI l yX5_canAct (WS yX5_canAct cX5_canAct 3 (some .boolean)) (Rm 4) G [.ref (gad G 220), .int a0, .int a1] M r M := by
  intro sz
  refine y_met (by decide +kernel) (Nat.le_of_ble_eq_true rfl) rfl (fun p e s m below meth c ls hsz C0 hM hl => ?_)
  have hl : lv_has ls 3 [(0, .ref (gad G 220)), (1, .int a0), (2, .int a1)] := hl
  have C0 : CX p s m meth c ([.ref (gad G 220), .int a0, .int a1] : List Value).toArray cX5_canAct RX5 3 (some .boolean) := C0
  rw [F_X5_canAct] at hF
  refine lv_aload_n C0.1 C0.2.1 dX5_canAct_0 rfl (lv_at hl 0 rfl) ?_
  refine gf5_1 C0 hM ok_md fl_RX5_7 dX5_canAct_1 ?_
  refine lv_iconst (v := (2 : Int32)) C0.1 C0.2.1 dX5_canAct_4 (by decide) ?_
  obtain ⟨g1, hF⟩ := gdb_some hF
  refine y_iald C0 hM oka_z g1 dX5_canAct_5 ?_
  refine lv_iconst (v := (-1 : Int32)) C0.1 C0.2.1 dX5_canAct_6 (by decide) ?_
  refine lv_icmp_eq (tgt := 29) C0.1 C0.2.1 dX5_canAct_7 (by decide) (fun c2 => ?_) (fun c2 => ?_)
  · have hF := if_t c2 hF
    refine lv_iconst (v := (0 : Int32)) C0.1 C0.2.1 dX5_canAct_29 (by decide) ?_
    have e8 := y_1 hF
    subst e8
    exact y_zret C0 hM hsz rfl dX5_canAct_30
  · have hF := if_f c2 hF
    refine lv_aload_n C0.1 C0.2.1 dX5_canAct_10 rfl (lv_at hl 0 rfl) ?_
    refine lv_aload_n C0.1 C0.2.1 dX5_canAct_11 rfl (lv_at hl 0 rfl) ?_
    refine gf5_1 C0 hM ok_md fl_RX5_7 dX5_canAct_12 ?_
    refine lv_iconst (v := (2 : Int32)) C0.1 C0.2.1 dX5_canAct_15 (by decide) ?_
    obtain ⟨g3, hF⟩ := gdb_some hF
    refine y_iald C0 hM oka_z g3 dX5_canAct_16 ?_
    refine lv_iload_n C0.1 C0.2.1 dX5_canAct_17 rfl (lv_at hl 1 rfl) ?_
    refine lv_iload_n C0.1 C0.2.1 dX5_canAct_18 rfl (lv_at hl 2 rfl) ?_
    obtain ⟨r5, h4, hF⟩ := bd_some hF
    refine y_vi (rest := []) C0 hM hl.1 ok_md (ent5 ok_md) rfl (k_X5_isPossible l G M (rA M 221 (Int32.toNatClampNeg (2 : Int32))) a0 a1 h4) cw_RX5_107 rfl rfl ⟨Nat.le_of_ble_eq_true rfl, Nat.le_of_ble_eq_true rfl⟩ rfl (Nat.le_of_ble_eq_true rfl) ⟨Nat.le_of_ble_eq_true rfl, Nat.le_of_ble_eq_true rfl⟩ dX5_canAct_19 (fun H locs hM => ?_)
    refine lv_if_eq (tgt := 29) C0.1 C0.2.1 dX5_canAct_22 (by decide) (fun c6 => ?_) (fun c6 => ?_)
    · have hF := if_t c6 hF
      refine lv_iconst (v := (0 : Int32)) C0.1 C0.2.1 dX5_canAct_29 (by decide) ?_
      have e8 := y_1 hF
      subst e8
      exact y_zret C0 hM hsz rfl dX5_canAct_30
    · have hF := if_f c6 hF
      refine lv_iconst (v := (1 : Int32)) C0.1 C0.2.1 dX5_canAct_25 (by decide) ?_
      refine lv_goto (tgt := 30) C0.1 C0.2.1 dX5_canAct_26 (by decide) ?_
      have e8 := y_1 hF
      subst e8
      exact y_zret C0 hM hsz rfl dX5_canAct_30

def F_X5_whyNotAct (M : MS) (a0 : Int32) (a1 : Int32) : Option Int32 := (bd (F_X5_isFighter M a1) fun r2 => (if ¬ r2 = 0 then (bd (F_X5_canAct M a0 a1) fun r5 => (if r5 = 0 then (some (2 : Int32)) else (some (0 : Int32)))) else (some (1 : Int32))))

set_option maxHeartbeats 4000000 in
set_option maxRecDepth 100000 in
theorem k_X5_whyNotAct (l : Launch) (G : GG) (M : MS) (a0 : Int32) (a1 : Int32) {r : Int32} (hF : F_X5_whyNotAct M a0 a1 = some r) : KI l yX5_whyNotAct (WS yX5_whyNotAct cX5_whyNotAct 3 (some .int)) (Rm 5) G [.ref (gad G 220), .int a0, .int a1] M r M := by
  intro sz
  refine y_met (by decide +kernel) (Nat.le_of_ble_eq_true rfl) rfl (fun p e s m below meth c ls hsz C0 hM hl => ?_)
  have hl : lv_has ls 3 [(0, .ref (gad G 220)), (1, .int a0), (2, .int a1)] := hl
  have C0 : CX p s m meth c ([.ref (gad G 220), .int a0, .int a1] : List Value).toArray cX5_whyNotAct RX5 3 (some .int) := C0
  rw [F_X5_whyNotAct] at hF
  refine lv_aload_n C0.1 C0.2.1 dX5_whyNotAct_0 rfl (lv_at hl 0 rfl) ?_
  refine lv_iload_n C0.1 C0.2.1 dX5_whyNotAct_1 rfl (lv_at hl 2 rfl) ?_
  obtain ⟨r2, h1, hF⟩ := bd_some hF
  refine y_vi (rest := []) C0 hM hl.1 ok_md (ent5 ok_md) rfl (k_X5_isFighter l G M a1 h1) cw_RX5_126 rfl rfl ⟨Nat.le_of_ble_eq_true rfl, Nat.le_of_ble_eq_true rfl⟩ rfl (Nat.le_of_ble_eq_true rfl) ⟨Nat.le_of_ble_eq_true rfl, Nat.le_of_ble_eq_true rfl⟩ dX5_whyNotAct_2 (fun H locs hM => ?_)
  refine lv_if_ne (tgt := 12) C0.1 C0.2.1 dX5_whyNotAct_5 (by decide) (fun c3 => ?_) (fun c3 => ?_)
  · have hF := if_t c3 hF
    refine lv_aload_n C0.1 C0.2.1 dX5_whyNotAct_12 rfl (lv_at hl 0 rfl) ?_
    refine lv_iload_n C0.1 C0.2.1 dX5_whyNotAct_13 rfl (lv_at hl 1 rfl) ?_
    refine lv_iload_n C0.1 C0.2.1 dX5_whyNotAct_14 rfl (lv_at hl 2 rfl) ?_
    obtain ⟨r5, h4, hF⟩ := bd_some hF
    refine y_vi (rest := []) C0 hM hl.1 ok_md (ent5 ok_md) rfl (k_X5_canAct l G M a0 a1 h4) cw_RX5_129 rfl rfl ⟨Nat.le_of_ble_eq_true rfl, Nat.le_of_ble_eq_true rfl⟩ rfl (Nat.le_of_ble_eq_true rfl) ⟨Nat.le_of_ble_eq_true rfl, Nat.le_of_ble_eq_true rfl⟩ dX5_whyNotAct_15 (fun H locs hM => ?_)
    refine lv_if_eq (tgt := 25) C0.1 C0.2.1 dX5_whyNotAct_18 (by decide) (fun c6 => ?_) (fun c6 => ?_)
    · have hF := if_t c6 hF
      refine lv_iconst (v := (2 : Int32)) C0.1 C0.2.1 dX5_whyNotAct_25 (by decide) ?_
      have e8 := y_1 hF
      subst e8
      exact y_iret C0 hM hsz dX5_whyNotAct_26
    · have hF := if_f c6 hF
      refine lv_iconst (v := (0 : Int32)) C0.1 C0.2.1 dX5_whyNotAct_21 (by decide) ?_
      refine lv_goto (tgt := 26) C0.1 C0.2.1 dX5_whyNotAct_22 (by decide) ?_
      have e8 := y_1 hF
      subst e8
      exact y_iret C0 hM hsz dX5_whyNotAct_26
  · have hF := if_f (fun q => q c3) hF
    refine lv_iconst (v := (1 : Int32)) C0.1 C0.2.1 dX5_whyNotAct_8 (by decide) ?_
    refine lv_goto (tgt := 26) C0.1 C0.2.1 dX5_whyNotAct_9 (by decide) ?_
    have e8 := y_1 hF
    subst e8
    exact y_iret C0 hM hsz dX5_whyNotAct_26

def F_X5_strike (M : MS) (a0 : Int32) : Option (Int32 × MS) := (bd (F_X5_whyNotAct M (0 : Int32) a0) fun r2 => (nm (wF M 80 220 r2) fun M3 => (if (rF M3 80 220) ≤ 0 then (bd (F_X5_save M3) fun M6 => (bd2 (F_X5_act M6 (0 : Int32) a0 (0 : Int32) (0 : Int32)) fun r9 M8 => (some (r9, M8)))) else (some ((0 : Int32), M3)))))

set_option maxHeartbeats 4000000 in
set_option maxRecDepth 100000 in
theorem k_X5_strike (l : Launch) (G : GG) (M : MS) (a0 : Int32) {r : Int32} {Mf : MS} (hF : F_X5_strike M a0 = some (r, Mf)) : KI l yX5_strike (WS yX5_strike cX5_strike 2 (some .int)) (Rm 6) G [.ref (gad G 220), .int a0] M r Mf := by
  intro sz
  refine y_met (by decide +kernel) (Nat.le_of_ble_eq_true rfl) rfl (fun p e s m below meth c ls hsz C0 hM hl => ?_)
  have hl : lv_has ls 2 [(0, .ref (gad G 220)), (1, .int a0)] := hl
  have C0 : CX p s m meth c ([.ref (gad G 220), .int a0] : List Value).toArray cX5_strike RX5 2 (some .int) := C0
  rw [F_X5_strike] at hF
  refine lv_aload_n C0.1 C0.2.1 dX5_strike_0 rfl (lv_at hl 0 rfl) ?_
  refine lv_aload_n C0.1 C0.2.1 dX5_strike_1 rfl (lv_at hl 0 rfl) ?_
  refine lv_iconst (v := (0 : Int32)) C0.1 C0.2.1 dX5_strike_2 (by decide) ?_
  refine lv_iload_n C0.1 C0.2.1 dX5_strike_3 rfl (lv_at hl 1 rfl) ?_
  obtain ⟨r2, h1, hF⟩ := bd_some hF
  refine y_vi (rest := [.ref (gad G 220)]) C0 hM hl.1 ok_md (ent5 ok_md) rfl (k_X5_whyNotAct l G M (0 : Int32) a0 h1) cw_RX5_132 rfl rfl ⟨Nat.le_of_ble_eq_true rfl, Nat.le_of_ble_eq_true rfl⟩ rfl (Nat.le_of_ble_eq_true rfl) ⟨Nat.le_of_ble_eq_true rfl, Nat.le_of_ble_eq_true rfl⟩ dX5_strike_4 (fun H locs hM => ?_)
  refine pf5_0 C0 hM ok_md fl_RX5_28 dX5_strike_7 (fun H locs hM => ?_)
  obtain ⟨M3, eM3, hF⟩ := nm_some hF
  have hM := y_mn eM3 hM
  refine lv_aload_n C0.1 C0.2.1 dX5_strike_10 rfl (lv_at hl 0 rfl) ?_
  refine gf5_0 C0 hM ok_md fl_RX5_28 dX5_strike_11 ?_
  refine lv_if_le (tgt := 19) C0.1 C0.2.1 dX5_strike_14 (by decide) (fun c4 => ?_) (fun c4 => ?_)
  · have hF := if_t c4 hF
    refine lv_aload_n C0.1 C0.2.1 dX5_strike_19 rfl (lv_at hl 0 rfl) ?_
    obtain ⟨M6, h5, hF⟩ := bd_some hF
    refine y_vv (rest := []) C0 hM hl.1 ok_md (ent5 ok_md) rfl (k_X5_save l G M3 h5) cw_RX5_82 rfl rfl ⟨Nat.le_of_ble_eq_true rfl, Nat.le_of_ble_eq_true rfl⟩ rfl (Nat.le_of_ble_eq_true rfl) ⟨Nat.le_of_ble_eq_true rfl, Nat.le_of_ble_eq_true rfl⟩ dX5_strike_20 (fun H locs hM => ?_)
    refine lv_aload_n C0.1 C0.2.1 dX5_strike_23 rfl (lv_at hl 0 rfl) ?_
    refine lv_iconst (v := (0 : Int32)) C0.1 C0.2.1 dX5_strike_24 (by decide) ?_
    refine lv_iload_n C0.1 C0.2.1 dX5_strike_25 rfl (lv_at hl 1 rfl) ?_
    refine lv_iconst (v := (0 : Int32)) C0.1 C0.2.1 dX5_strike_26 (by decide) ?_
    refine lv_iconst (v := (0 : Int32)) C0.1 C0.2.1 dX5_strike_27 (by decide) ?_
    obtain ⟨r9, M8, h7, hF⟩ := bd2_some hF
    refine y_vi (rest := []) C0 hM hl.1 ok_md (ent5 ok_md) rfl (k_X5_act l G M6 (0 : Int32) a0 (0 : Int32) (0 : Int32) h7) cw_RX5_135 rfl rfl ⟨Nat.le_of_ble_eq_true rfl, Nat.le_of_ble_eq_true rfl⟩ rfl (Nat.le_of_ble_eq_true rfl) ⟨Nat.le_of_ble_eq_true rfl, Nat.le_of_ble_eq_true rfl⟩ dX5_strike_28 (fun H locs hM => ?_)
    obtain ⟨e8, e9⟩ := y_2 hF
    subst e8
    subst e9
    exact y_iret C0 hM hsz dX5_strike_31
  · have hF := if_f c4 hF
    refine lv_iconst (v := (0 : Int32)) C0.1 C0.2.1 dX5_strike_17 (by decide) ?_
    obtain ⟨e8, e9⟩ := y_2 hF
    subst e8
    subst e9
    exact y_iret C0 hM hsz dX5_strike_18

def F_X5_step (M : MS) (a0 : Int32) : Option (Int32 × MS) := (bd (F_X5_in M a0 (0 : Int32) (9 : Int32)) fun r2 => (nm (fun (s3 : Int32) => (nm (wF M 80 220 s3) fun M5 => (if (rF M5 80 220) ≤ 0 then (bd (F_X5_save M5) fun M8 => (bd2 (F_X5_act M8 (1 : Int32) a0 (0 : Int32) (0 : Int32)) fun r11 M10 => (some (r11, M10)))) else (some ((0 : Int32), M5))))) fun j29_3 => (if ¬ r2 = 0 then (bd (F_X5_canAct M (1 : Int32) a0) fun r14 => (if r14 = 0 then (j29_3 (2 : Int32)) else (j29_3 (0 : Int32)))) else (j29_3 (1 : Int32)))))

set_option maxHeartbeats 4000000 in
set_option maxRecDepth 100000 in
theorem k_X5_step (l : Launch) (G : GG) (M : MS) (a0 : Int32) {r : Int32} {Mf : MS} (hF : F_X5_step M a0 = some (r, Mf)) : KI l yX5_step (WS yX5_step cX5_step 2 (some .int)) (Rm 6) G [.ref (gad G 220), .int a0] M r Mf := by
  intro sz
  refine y_met (by decide +kernel) (Nat.le_of_ble_eq_true rfl) rfl (fun p e s m below meth c ls hsz C0 hM hl => ?_)
  have hl : lv_has ls 2 [(0, .ref (gad G 220)), (1, .int a0)] := hl
  have C0 : CX p s m meth c ([.ref (gad G 220), .int a0] : List Value).toArray cX5_step RX5 2 (some .int) := C0
  rw [F_X5_step] at hF
  refine lv_aload_n C0.1 C0.2.1 dX5_step_0 rfl (lv_at hl 0 rfl) ?_
  refine lv_iload_n C0.1 C0.2.1 dX5_step_1 rfl (lv_at hl 1 rfl) ?_
  refine lv_iconst (v := (0 : Int32)) C0.1 C0.2.1 dX5_step_2 (by decide) ?_
  refine lv_bipush (v := (9 : Int32)) C0.1 C0.2.1 dX5_step_3 (by decide) ?_
  obtain ⟨r2, h1, hF⟩ := bd_some hF
  refine y_si (rest := [.ref (gad G 220)]) C0 hM hl.1 (k_X5_in l G M a0 (0 : Int32) (9 : Int32) h1) cw_RX5_85 rfl rfl ⟨Nat.le_of_ble_eq_true rfl, Nat.le_of_ble_eq_true rfl⟩ rfl (Nat.le_of_ble_eq_true rfl) ⟨Nat.le_of_ble_eq_true rfl, Nat.le_of_ble_eq_true rfl⟩ dX5_step_5 (fun H locs hM => ?_)
  obtain ⟨j29_3, ej29_3, hF⟩ := nm_some hF
  have J29 : ∀ (s3 : Int32) (H : Heap) (locs : List Loc) (ls : Array Slot), MX G M s H locs → lv_has ls 2 [(0, .ref (gad G 220)), (1, .int a0)] → j29_3 s3 = some (r, Mf) → W p l e (Rm 6) s m ([.ref (gad G 220), .int a0] : List Value).toArray below meth c H locs 0 0 (QI below ([.ref (gad G 220), .int a0] : List Value).toArray s G sz r Mf) (F0 m 29 ls [.int s3, .ref (gad G 220)]) := by
    intro s3 H locs ls hM hl hF
    rw [ej29_3] at hF
    refine pf5_0 C0 hM ok_md fl_RX5_28 dX5_step_29 (fun H locs hM => ?_)
    obtain ⟨M5, eM5, hF⟩ := nm_some hF
    have hM := y_mn eM5 hM
    refine lv_aload_n C0.1 C0.2.1 dX5_step_32 rfl (lv_at hl 0 rfl) ?_
    refine gf5_0 C0 hM ok_md fl_RX5_28 dX5_step_33 ?_
    refine lv_if_le (tgt := 41) C0.1 C0.2.1 dX5_step_36 (by decide) (fun c6 => ?_) (fun c6 => ?_)
    · have hF := if_t c6 hF
      refine lv_aload_n C0.1 C0.2.1 dX5_step_41 rfl (lv_at hl 0 rfl) ?_
      obtain ⟨M8, h7, hF⟩ := bd_some hF
      refine y_vv (rest := []) C0 hM hl.1 ok_md (ent5 ok_md) rfl (k_X5_save l G M5 h7) cw_RX5_82 rfl rfl ⟨Nat.le_of_ble_eq_true rfl, Nat.le_of_ble_eq_true rfl⟩ rfl (Nat.le_of_ble_eq_true rfl) ⟨Nat.le_of_ble_eq_true rfl, Nat.le_of_ble_eq_true rfl⟩ dX5_step_42 (fun H locs hM => ?_)
      refine lv_aload_n C0.1 C0.2.1 dX5_step_45 rfl (lv_at hl 0 rfl) ?_
      refine lv_iconst (v := (1 : Int32)) C0.1 C0.2.1 dX5_step_46 (by decide) ?_
      refine lv_iload_n C0.1 C0.2.1 dX5_step_47 rfl (lv_at hl 1 rfl) ?_
      refine lv_iconst (v := (0 : Int32)) C0.1 C0.2.1 dX5_step_48 (by decide) ?_
      refine lv_iconst (v := (0 : Int32)) C0.1 C0.2.1 dX5_step_49 (by decide) ?_
      obtain ⟨r11, M10, h9, hF⟩ := bd2_some hF
      refine y_vi (rest := []) C0 hM hl.1 ok_md (ent5 ok_md) rfl (k_X5_act l G M8 (1 : Int32) a0 (0 : Int32) (0 : Int32) h9) cw_RX5_135 rfl rfl ⟨Nat.le_of_ble_eq_true rfl, Nat.le_of_ble_eq_true rfl⟩ rfl (Nat.le_of_ble_eq_true rfl) ⟨Nat.le_of_ble_eq_true rfl, Nat.le_of_ble_eq_true rfl⟩ dX5_step_50 (fun H locs hM => ?_)
      obtain ⟨e8, e9⟩ := y_2 hF
      subst e8
      subst e9
      exact y_iret C0 hM hsz dX5_step_53
    · have hF := if_f c6 hF
      refine lv_iconst (v := (0 : Int32)) C0.1 C0.2.1 dX5_step_39 (by decide) ?_
      obtain ⟨e8, e9⟩ := y_2 hF
      subst e8
      subst e9
      exact y_iret C0 hM hsz dX5_step_40
  refine lv_if_ne (tgt := 15) C0.1 C0.2.1 dX5_step_8 (by decide) (fun c12 => ?_) (fun c12 => ?_)
  · have hF := if_t c12 hF
    refine lv_aload_n C0.1 C0.2.1 dX5_step_15 rfl (lv_at hl 0 rfl) ?_
    refine lv_iconst (v := (1 : Int32)) C0.1 C0.2.1 dX5_step_16 (by decide) ?_
    refine lv_iload_n C0.1 C0.2.1 dX5_step_17 rfl (lv_at hl 1 rfl) ?_
    obtain ⟨r14, h13, hF⟩ := bd_some hF
    refine y_vi (rest := [.ref (gad G 220)]) C0 hM hl.1 ok_md (ent5 ok_md) rfl (k_X5_canAct l G M (1 : Int32) a0 h13) cw_RX5_129 rfl rfl ⟨Nat.le_of_ble_eq_true rfl, Nat.le_of_ble_eq_true rfl⟩ rfl (Nat.le_of_ble_eq_true rfl) ⟨Nat.le_of_ble_eq_true rfl, Nat.le_of_ble_eq_true rfl⟩ dX5_step_18 (fun H locs hM => ?_)
    refine lv_if_eq (tgt := 28) C0.1 C0.2.1 dX5_step_21 (by decide) (fun c15 => ?_) (fun c15 => ?_)
    · have hF := if_t c15 hF
      refine lv_iconst (v := (2 : Int32)) C0.1 C0.2.1 dX5_step_28 (by decide) ?_
      exact J29 (2 : Int32) _ _ _ hM (lv_sub hl [0, 1] rfl) hF
    · have hF := if_f c15 hF
      refine lv_iconst (v := (0 : Int32)) C0.1 C0.2.1 dX5_step_24 (by decide) ?_
      refine lv_goto (tgt := 29) C0.1 C0.2.1 dX5_step_25 (by decide) ?_
      exact J29 (0 : Int32) _ _ _ hM (lv_sub hl [0, 1] rfl) hF
  · have hF := if_f (fun q => q c12) hF
    refine lv_iconst (v := (1 : Int32)) C0.1 C0.2.1 dX5_step_11 (by decide) ?_
    refine lv_goto (tgt := 29) C0.1 C0.2.1 dX5_step_12 (by decide) ?_
    exact J29 (1 : Int32) _ _ _ hM (lv_sub hl [0, 1] rfl) hF

def F_X5_help (M : MS) (a0 : Int32) : Option (Int32 × MS) := (bd (F_X5_whyNotAct M (2 : Int32) a0) fun r2 => (nm (wF M 80 220 r2) fun M3 => (if (rF M3 80 220) ≤ 0 then (bd (F_X5_save M3) fun M6 => (bd2 (F_X5_act M6 (2 : Int32) a0 (0 : Int32) (0 : Int32)) fun r9 M8 => (some (r9, M8)))) else (some ((0 : Int32), M3)))))

set_option maxHeartbeats 4000000 in
set_option maxRecDepth 100000 in
theorem k_X5_help (l : Launch) (G : GG) (M : MS) (a0 : Int32) {r : Int32} {Mf : MS} (hF : F_X5_help M a0 = some (r, Mf)) : KI l yX5_help (WS yX5_help cX5_help 2 (some .int)) (Rm 6) G [.ref (gad G 220), .int a0] M r Mf := by
  intro sz
  refine y_met (by decide +kernel) (Nat.le_of_ble_eq_true rfl) rfl (fun p e s m below meth c ls hsz C0 hM hl => ?_)
  have hl : lv_has ls 2 [(0, .ref (gad G 220)), (1, .int a0)] := hl
  have C0 : CX p s m meth c ([.ref (gad G 220), .int a0] : List Value).toArray cX5_help RX5 2 (some .int) := C0
  rw [F_X5_help] at hF
  refine lv_aload_n C0.1 C0.2.1 dX5_help_0 rfl (lv_at hl 0 rfl) ?_
  refine lv_aload_n C0.1 C0.2.1 dX5_help_1 rfl (lv_at hl 0 rfl) ?_
  refine lv_iconst (v := (2 : Int32)) C0.1 C0.2.1 dX5_help_2 (by decide) ?_
  refine lv_iload_n C0.1 C0.2.1 dX5_help_3 rfl (lv_at hl 1 rfl) ?_
  obtain ⟨r2, h1, hF⟩ := bd_some hF
  refine y_vi (rest := [.ref (gad G 220)]) C0 hM hl.1 ok_md (ent5 ok_md) rfl (k_X5_whyNotAct l G M (2 : Int32) a0 h1) cw_RX5_132 rfl rfl ⟨Nat.le_of_ble_eq_true rfl, Nat.le_of_ble_eq_true rfl⟩ rfl (Nat.le_of_ble_eq_true rfl) ⟨Nat.le_of_ble_eq_true rfl, Nat.le_of_ble_eq_true rfl⟩ dX5_help_4 (fun H locs hM => ?_)
  refine pf5_0 C0 hM ok_md fl_RX5_28 dX5_help_7 (fun H locs hM => ?_)
  obtain ⟨M3, eM3, hF⟩ := nm_some hF
  have hM := y_mn eM3 hM
  refine lv_aload_n C0.1 C0.2.1 dX5_help_10 rfl (lv_at hl 0 rfl) ?_
  refine gf5_0 C0 hM ok_md fl_RX5_28 dX5_help_11 ?_
  refine lv_if_le (tgt := 19) C0.1 C0.2.1 dX5_help_14 (by decide) (fun c4 => ?_) (fun c4 => ?_)
  · have hF := if_t c4 hF
    refine lv_aload_n C0.1 C0.2.1 dX5_help_19 rfl (lv_at hl 0 rfl) ?_
    obtain ⟨M6, h5, hF⟩ := bd_some hF
    refine y_vv (rest := []) C0 hM hl.1 ok_md (ent5 ok_md) rfl (k_X5_save l G M3 h5) cw_RX5_82 rfl rfl ⟨Nat.le_of_ble_eq_true rfl, Nat.le_of_ble_eq_true rfl⟩ rfl (Nat.le_of_ble_eq_true rfl) ⟨Nat.le_of_ble_eq_true rfl, Nat.le_of_ble_eq_true rfl⟩ dX5_help_20 (fun H locs hM => ?_)
    refine lv_aload_n C0.1 C0.2.1 dX5_help_23 rfl (lv_at hl 0 rfl) ?_
    refine lv_iconst (v := (2 : Int32)) C0.1 C0.2.1 dX5_help_24 (by decide) ?_
    refine lv_iload_n C0.1 C0.2.1 dX5_help_25 rfl (lv_at hl 1 rfl) ?_
    refine lv_iconst (v := (0 : Int32)) C0.1 C0.2.1 dX5_help_26 (by decide) ?_
    refine lv_iconst (v := (0 : Int32)) C0.1 C0.2.1 dX5_help_27 (by decide) ?_
    obtain ⟨r9, M8, h7, hF⟩ := bd2_some hF
    refine y_vi (rest := []) C0 hM hl.1 ok_md (ent5 ok_md) rfl (k_X5_act l G M6 (2 : Int32) a0 (0 : Int32) (0 : Int32) h7) cw_RX5_135 rfl rfl ⟨Nat.le_of_ble_eq_true rfl, Nat.le_of_ble_eq_true rfl⟩ rfl (Nat.le_of_ble_eq_true rfl) ⟨Nat.le_of_ble_eq_true rfl, Nat.le_of_ble_eq_true rfl⟩ dX5_help_28 (fun H locs hM => ?_)
    obtain ⟨e8, e9⟩ := y_2 hF
    subst e8
    subst e9
    exact y_iret C0 hM hsz dX5_help_31
  · have hF := if_f c4 hF
    refine lv_iconst (v := (0 : Int32)) C0.1 C0.2.1 dX5_help_17 (by decide) ?_
    obtain ⟨e8, e9⟩ := y_2 hF
    subst e8
    subst e9
    exact y_iret C0 hM hsz dX5_help_18

def F_X5_isCurse (M : MS) (a0 : Int32) (a1 : Int32) : Option Int32 := (bd (F_X5_in M a0 (0 : Int32) (3 : Int32)) fun r2 => (if r2 = 0 then (some (0 : Int32)) else (bd (F_X5_in M a1 (1 : Int32) (5 : Int32)) fun r5 => (if r5 = 0 then (some (0 : Int32)) else (some (1 : Int32))))))

set_option maxHeartbeats 4000000 in
set_option maxRecDepth 100000 in
theorem k_X5_isCurse (l : Launch) (G : GG) (M : MS) (a0 : Int32) (a1 : Int32) {r : Int32} (hF : F_X5_isCurse M a0 a1 = some r) : KI l yX5_isCurse (WS yX5_isCurse cX5_isCurse 2 (some .boolean)) (Rm 1) G [.int a0, .int a1] M r M := by
  intro sz
  refine y_met (by decide +kernel) (Nat.le_of_ble_eq_true rfl) rfl (fun p e s m below meth c ls hsz C0 hM hl => ?_)
  have hl : lv_has ls 2 [(0, .int a0), (1, .int a1)] := hl
  have C0 : CX p s m meth c ([.int a0, .int a1] : List Value).toArray cX5_isCurse RX5 2 (some .boolean) := C0
  rw [F_X5_isCurse] at hF
  refine lv_iload_n C0.1 C0.2.1 dX5_isCurse_0 rfl (lv_at hl 0 rfl) ?_
  refine lv_iconst (v := (0 : Int32)) C0.1 C0.2.1 dX5_isCurse_1 (by decide) ?_
  refine lv_iconst (v := (3 : Int32)) C0.1 C0.2.1 dX5_isCurse_2 (by decide) ?_
  obtain ⟨r2, h1, hF⟩ := bd_some hF
  refine y_si (rest := []) C0 hM hl.1 (k_X5_in l G M a0 (0 : Int32) (3 : Int32) h1) cw_RX5_85 rfl rfl ⟨Nat.le_of_ble_eq_true rfl, Nat.le_of_ble_eq_true rfl⟩ rfl (Nat.le_of_ble_eq_true rfl) ⟨Nat.le_of_ble_eq_true rfl, Nat.le_of_ble_eq_true rfl⟩ dX5_isCurse_3 (fun H locs hM => ?_)
  refine lv_if_eq (tgt := 22) C0.1 C0.2.1 dX5_isCurse_6 (by decide) (fun c3 => ?_) (fun c3 => ?_)
  · have hF := if_t c3 hF
    refine lv_iconst (v := (0 : Int32)) C0.1 C0.2.1 dX5_isCurse_22 (by decide) ?_
    have e8 := y_1 hF
    subst e8
    exact y_zret C0 hM hsz rfl dX5_isCurse_23
  · have hF := if_f c3 hF
    refine lv_iload_n C0.1 C0.2.1 dX5_isCurse_9 rfl (lv_at hl 1 rfl) ?_
    refine lv_iconst (v := (1 : Int32)) C0.1 C0.2.1 dX5_isCurse_10 (by decide) ?_
    refine lv_iconst (v := (5 : Int32)) C0.1 C0.2.1 dX5_isCurse_11 (by decide) ?_
    obtain ⟨r5, h4, hF⟩ := bd_some hF
    refine y_si (rest := []) C0 hM hl.1 (k_X5_in l G M a1 (1 : Int32) (5 : Int32) h4) cw_RX5_85 rfl rfl ⟨Nat.le_of_ble_eq_true rfl, Nat.le_of_ble_eq_true rfl⟩ rfl (Nat.le_of_ble_eq_true rfl) ⟨Nat.le_of_ble_eq_true rfl, Nat.le_of_ble_eq_true rfl⟩ dX5_isCurse_12 (fun H locs hM => ?_)
    refine lv_if_eq (tgt := 22) C0.1 C0.2.1 dX5_isCurse_15 (by decide) (fun c6 => ?_) (fun c6 => ?_)
    · have hF := if_t c6 hF
      refine lv_iconst (v := (0 : Int32)) C0.1 C0.2.1 dX5_isCurse_22 (by decide) ?_
      have e8 := y_1 hF
      subst e8
      exact y_zret C0 hM hsz rfl dX5_isCurse_23
    · have hF := if_f c6 hF
      refine lv_iconst (v := (1 : Int32)) C0.1 C0.2.1 dX5_isCurse_18 (by decide) ?_
      refine lv_goto (tgt := 23) C0.1 C0.2.1 dX5_isCurse_19 (by decide) ?_
      have e8 := y_1 hF
      subst e8
      exact y_zret C0 hM hsz rfl dX5_isCurse_23

def F_X5_curse (M : MS) (a0 : Int32) (a1 : Int32) (a2 : Int32) : Option (Int32 × MS) := (bd (F_X5_isFighter M a0) fun r2 => (nm (fun (s3 : Int32) => (nm (wF M 80 220 s3) fun M5 => (if (rF M5 80 220) ≤ 0 then (bd (F_X5_save M5) fun M8 => (bd2 (F_X5_act M8 (3 : Int32) a0 a1 a2) fun r11 M10 => (some (r11, M10)))) else (some ((0 : Int32), M5))))) fun j39_3 => (if ¬ r2 = 0 then (bd (F_X5_isCurse M a1 a2) fun r14 => (if ¬ r14 = 0 then (bd (F_X5_canAct M (3 : Int32) a0) fun r17 => (if r17 = 0 then (j39_3 (3 : Int32)) else (j39_3 (0 : Int32)))) else (j39_3 (2 : Int32)))) else (j39_3 (1 : Int32)))))

set_option maxHeartbeats 4000000 in
set_option maxRecDepth 100000 in
theorem k_X5_curse (l : Launch) (G : GG) (M : MS) (a0 : Int32) (a1 : Int32) (a2 : Int32) {r : Int32} {Mf : MS} (hF : F_X5_curse M a0 a1 a2 = some (r, Mf)) : KI l yX5_curse (WS yX5_curse cX5_curse 4 (some .int)) (Rm 6) G [.ref (gad G 220), .int a0, .int a1, .int a2] M r Mf := by
  intro sz
  refine y_met (by decide +kernel) (Nat.le_of_ble_eq_true rfl) rfl (fun p e s m below meth c ls hsz C0 hM hl => ?_)
  have hl : lv_has ls 4 [(0, .ref (gad G 220)), (1, .int a0), (2, .int a1), (3, .int a2)] := hl
  have C0 : CX p s m meth c ([.ref (gad G 220), .int a0, .int a1, .int a2] : List Value).toArray cX5_curse RX5 4 (some .int) := C0
  rw [F_X5_curse] at hF
  refine lv_aload_n C0.1 C0.2.1 dX5_curse_0 rfl (lv_at hl 0 rfl) ?_
  refine lv_aload_n C0.1 C0.2.1 dX5_curse_1 rfl (lv_at hl 0 rfl) ?_
  refine lv_iload_n C0.1 C0.2.1 dX5_curse_2 rfl (lv_at hl 1 rfl) ?_
  obtain ⟨r2, h1, hF⟩ := bd_some hF
  refine y_vi (rest := [.ref (gad G 220)]) C0 hM hl.1 ok_md (ent5 ok_md) rfl (k_X5_isFighter l G M a0 h1) cw_RX5_126 rfl rfl ⟨Nat.le_of_ble_eq_true rfl, Nat.le_of_ble_eq_true rfl⟩ rfl (Nat.le_of_ble_eq_true rfl) ⟨Nat.le_of_ble_eq_true rfl, Nat.le_of_ble_eq_true rfl⟩ dX5_curse_3 (fun H locs hM => ?_)
  obtain ⟨j39_3, ej39_3, hF⟩ := nm_some hF
  have J39 : ∀ (s3 : Int32) (H : Heap) (locs : List Loc) (ls : Array Slot), MX G M s H locs → lv_has ls 4 [(0, .ref (gad G 220)), (1, .int a0), (2, .int a1), (3, .int a2)] → j39_3 s3 = some (r, Mf) → W p l e (Rm 6) s m ([.ref (gad G 220), .int a0, .int a1, .int a2] : List Value).toArray below meth c H locs 0 0 (QI below ([.ref (gad G 220), .int a0, .int a1, .int a2] : List Value).toArray s G sz r Mf) (F0 m 39 ls [.int s3, .ref (gad G 220)]) := by
    intro s3 H locs ls hM hl hF
    rw [ej39_3] at hF
    refine pf5_0 C0 hM ok_md fl_RX5_28 dX5_curse_39 (fun H locs hM => ?_)
    obtain ⟨M5, eM5, hF⟩ := nm_some hF
    have hM := y_mn eM5 hM
    refine lv_aload_n C0.1 C0.2.1 dX5_curse_42 rfl (lv_at hl 0 rfl) ?_
    refine gf5_0 C0 hM ok_md fl_RX5_28 dX5_curse_43 ?_
    refine lv_if_le (tgt := 51) C0.1 C0.2.1 dX5_curse_46 (by decide) (fun c6 => ?_) (fun c6 => ?_)
    · have hF := if_t c6 hF
      refine lv_aload_n C0.1 C0.2.1 dX5_curse_51 rfl (lv_at hl 0 rfl) ?_
      obtain ⟨M8, h7, hF⟩ := bd_some hF
      refine y_vv (rest := []) C0 hM hl.1 ok_md (ent5 ok_md) rfl (k_X5_save l G M5 h7) cw_RX5_82 rfl rfl ⟨Nat.le_of_ble_eq_true rfl, Nat.le_of_ble_eq_true rfl⟩ rfl (Nat.le_of_ble_eq_true rfl) ⟨Nat.le_of_ble_eq_true rfl, Nat.le_of_ble_eq_true rfl⟩ dX5_curse_52 (fun H locs hM => ?_)
      refine lv_aload_n C0.1 C0.2.1 dX5_curse_55 rfl (lv_at hl 0 rfl) ?_
      refine lv_iconst (v := (3 : Int32)) C0.1 C0.2.1 dX5_curse_56 (by decide) ?_
      refine lv_iload_n C0.1 C0.2.1 dX5_curse_57 rfl (lv_at hl 1 rfl) ?_
      refine lv_iload_n C0.1 C0.2.1 dX5_curse_58 rfl (lv_at hl 2 rfl) ?_
      refine lv_iload_n C0.1 C0.2.1 dX5_curse_59 rfl (lv_at hl 3 rfl) ?_
      obtain ⟨r11, M10, h9, hF⟩ := bd2_some hF
      refine y_vi (rest := []) C0 hM hl.1 ok_md (ent5 ok_md) rfl (k_X5_act l G M8 (3 : Int32) a0 a1 a2 h9) cw_RX5_135 rfl rfl ⟨Nat.le_of_ble_eq_true rfl, Nat.le_of_ble_eq_true rfl⟩ rfl (Nat.le_of_ble_eq_true rfl) ⟨Nat.le_of_ble_eq_true rfl, Nat.le_of_ble_eq_true rfl⟩ dX5_curse_60 (fun H locs hM => ?_)
      obtain ⟨e8, e9⟩ := y_2 hF
      subst e8
      subst e9
      exact y_iret C0 hM hsz dX5_curse_63
    · have hF := if_f c6 hF
      refine lv_iconst (v := (0 : Int32)) C0.1 C0.2.1 dX5_curse_49 (by decide) ?_
      obtain ⟨e8, e9⟩ := y_2 hF
      subst e8
      subst e9
      exact y_iret C0 hM hsz dX5_curse_50
  refine lv_if_ne (tgt := 13) C0.1 C0.2.1 dX5_curse_6 (by decide) (fun c12 => ?_) (fun c12 => ?_)
  · have hF := if_t c12 hF
    refine lv_iload_n C0.1 C0.2.1 dX5_curse_13 rfl (lv_at hl 2 rfl) ?_
    refine lv_iload_n C0.1 C0.2.1 dX5_curse_14 rfl (lv_at hl 3 rfl) ?_
    obtain ⟨r14, h13, hF⟩ := bd_some hF
    refine y_si (rest := [.ref (gad G 220)]) C0 hM hl.1 (k_X5_isCurse l G M a1 a2 h13) cw_RX5_139 rfl rfl ⟨Nat.le_of_ble_eq_true rfl, Nat.le_of_ble_eq_true rfl⟩ rfl (Nat.le_of_ble_eq_true rfl) ⟨Nat.le_of_ble_eq_true rfl, Nat.le_of_ble_eq_true rfl⟩ dX5_curse_15 (fun H locs hM => ?_)
    refine lv_if_ne (tgt := 25) C0.1 C0.2.1 dX5_curse_18 (by decide) (fun c15 => ?_) (fun c15 => ?_)
    · have hF := if_t c15 hF
      refine lv_aload_n C0.1 C0.2.1 dX5_curse_25 rfl (lv_at hl 0 rfl) ?_
      refine lv_iconst (v := (3 : Int32)) C0.1 C0.2.1 dX5_curse_26 (by decide) ?_
      refine lv_iload_n C0.1 C0.2.1 dX5_curse_27 rfl (lv_at hl 1 rfl) ?_
      obtain ⟨r17, h16, hF⟩ := bd_some hF
      refine y_vi (rest := [.ref (gad G 220)]) C0 hM hl.1 ok_md (ent5 ok_md) rfl (k_X5_canAct l G M (3 : Int32) a0 h16) cw_RX5_129 rfl rfl ⟨Nat.le_of_ble_eq_true rfl, Nat.le_of_ble_eq_true rfl⟩ rfl (Nat.le_of_ble_eq_true rfl) ⟨Nat.le_of_ble_eq_true rfl, Nat.le_of_ble_eq_true rfl⟩ dX5_curse_28 (fun H locs hM => ?_)
      refine lv_if_eq (tgt := 38) C0.1 C0.2.1 dX5_curse_31 (by decide) (fun c18 => ?_) (fun c18 => ?_)
      · have hF := if_t c18 hF
        refine lv_iconst (v := (3 : Int32)) C0.1 C0.2.1 dX5_curse_38 (by decide) ?_
        exact J39 (3 : Int32) _ _ _ hM (lv_sub hl [0, 1, 2, 3] rfl) hF
      · have hF := if_f c18 hF
        refine lv_iconst (v := (0 : Int32)) C0.1 C0.2.1 dX5_curse_34 (by decide) ?_
        refine lv_goto (tgt := 39) C0.1 C0.2.1 dX5_curse_35 (by decide) ?_
        exact J39 (0 : Int32) _ _ _ hM (lv_sub hl [0, 1, 2, 3] rfl) hF
    · have hF := if_f (fun q => q c15) hF
      refine lv_iconst (v := (2 : Int32)) C0.1 C0.2.1 dX5_curse_21 (by decide) ?_
      refine lv_goto (tgt := 39) C0.1 C0.2.1 dX5_curse_22 (by decide) ?_
      exact J39 (2 : Int32) _ _ _ hM (lv_sub hl [0, 1, 2, 3] rfl) hF
  · have hF := if_f (fun q => q c12) hF
    refine lv_iconst (v := (1 : Int32)) C0.1 C0.2.1 dX5_curse_9 (by decide) ?_
    refine lv_goto (tgt := 39) C0.1 C0.2.1 dX5_curse_10 (by decide) ?_
    exact J39 (1 : Int32) _ _ _ hM (lv_sub hl [0, 1, 2, 3] rfl) hF

def F_X5_delayIt (M : MS) : Option MS := (gdb (inb (2 : Int32) 186) (bd (F_X5_lay M (rA M 221 (Int32.toNatClampNeg (2 : Int32))) (6 : Int32) (1 : Int32)) fun M3 => (bd (F_X5_endTurn M3) fun M5 => (some M5))))

set_option maxHeartbeats 4000000 in
set_option maxRecDepth 100000 in
theorem k_X5_delayIt (l : Launch) (G : GG) (M : MS) {Mf : MS} (hF : F_X5_delayIt M = some Mf) : KV l yX5_delayIt (WS yX5_delayIt cX5_delayIt 1 none) (Rm 5) G [.ref (gad G 220)] M Mf := by
  intro sz
  refine y_met (by decide +kernel) (Nat.le_of_ble_eq_true rfl) rfl (fun p e s m below meth c ls hsz C0 hM hl => ?_)
  have hl : lv_has ls 1 [(0, .ref (gad G 220))] := hl
  have C0 : CX p s m meth c ([.ref (gad G 220)] : List Value).toArray cX5_delayIt RX5 1 none := C0
  rw [F_X5_delayIt] at hF
  refine lv_aload_n C0.1 C0.2.1 dX5_delayIt_0 rfl (lv_at hl 0 rfl) ?_
  refine lv_aload_n C0.1 C0.2.1 dX5_delayIt_1 rfl (lv_at hl 0 rfl) ?_
  refine gf5_1 C0 hM ok_md fl_RX5_7 dX5_delayIt_2 ?_
  refine lv_iconst (v := (2 : Int32)) C0.1 C0.2.1 dX5_delayIt_5 (by decide) ?_
  obtain ⟨g1, hF⟩ := gdb_some hF
  refine y_iald C0 hM oka_z g1 dX5_delayIt_6 ?_
  refine lv_bipush (v := (6 : Int32)) C0.1 C0.2.1 dX5_delayIt_7 (by decide) ?_
  refine lv_iconst (v := (1 : Int32)) C0.1 C0.2.1 dX5_delayIt_9 (by decide) ?_
  obtain ⟨M3, h2, hF⟩ := bd_some hF
  refine y_vv (rest := []) C0 hM hl.1 ok_md (ent5 ok_md) rfl (k_X5_lay l G M (rA M 221 (Int32.toNatClampNeg (2 : Int32))) (6 : Int32) (1 : Int32) h2) cw_RX5_47 rfl rfl ⟨Nat.le_of_ble_eq_true rfl, Nat.le_of_ble_eq_true rfl⟩ rfl (Nat.le_of_ble_eq_true rfl) ⟨Nat.le_of_ble_eq_true rfl, Nat.le_of_ble_eq_true rfl⟩ dX5_delayIt_10 (fun H locs hM => ?_)
  refine lv_aload_n C0.1 C0.2.1 dX5_delayIt_13 rfl (lv_at hl 0 rfl) ?_
  obtain ⟨M5, h4, hF⟩ := bd_some hF
  refine y_vv (rest := []) C0 hM hl.1 ok_md (ent5 ok_md) rfl (k_X5_endTurn l G M3 h4) cw_RX5_123 rfl rfl ⟨Nat.le_of_ble_eq_true rfl, Nat.le_of_ble_eq_true rfl⟩ rfl (Nat.le_of_ble_eq_true rfl) ⟨Nat.le_of_ble_eq_true rfl, Nat.le_of_ble_eq_true rfl⟩ dX5_delayIt_14 (fun H locs hM => ?_)
  have e9 := y_1 hF
  subst e9
  exact y_vret C0 hM hsz dX5_delayIt_17

def F_X5_delay (M : MS) : Option (Int32 × MS) := (gdb (inb (2 : Int32) 186) (nm (fun (s2 : Int32) => (nm (wF M 80 220 s2) fun M4 => (if (rF M4 80 220) ≤ 0 then (bd (F_X5_save M4) fun M7 => (bd (F_X5_delayIt M7) fun M9 => (gdb (inb (2 : Int32) 186) (some ((rA M9 221 (Int32.toNatClampNeg (2 : Int32))), M9))))) else (some ((0 : Int32), M4))))) fun j16_2 => (if ¬ (rA M 221 (Int32.toNatClampNeg (2 : Int32))) = (-1 : Int32) then (j16_2 (0 : Int32)) else (j16_2 (1 : Int32)))))

set_option maxHeartbeats 4000000 in
set_option maxRecDepth 100000 in
theorem k_X5_delay (l : Launch) (G : GG) (M : MS) {r : Int32} {Mf : MS} (hF : F_X5_delay M = some (r, Mf)) : KI l yX5_delay (WS yX5_delay cX5_delay 1 (some .int)) (Rm 6) G [.ref (gad G 220)] M r Mf := by
  intro sz
  refine y_met (by decide +kernel) (Nat.le_of_ble_eq_true rfl) rfl (fun p e s m below meth c ls hsz C0 hM hl => ?_)
  have hl : lv_has ls 1 [(0, .ref (gad G 220))] := hl
  have C0 : CX p s m meth c ([.ref (gad G 220)] : List Value).toArray cX5_delay RX5 1 (some .int) := C0
  rw [F_X5_delay] at hF
  refine lv_aload_n C0.1 C0.2.1 dX5_delay_0 rfl (lv_at hl 0 rfl) ?_
  refine lv_aload_n C0.1 C0.2.1 dX5_delay_1 rfl (lv_at hl 0 rfl) ?_
  refine gf5_1 C0 hM ok_md fl_RX5_7 dX5_delay_2 ?_
  refine lv_iconst (v := (2 : Int32)) C0.1 C0.2.1 dX5_delay_5 (by decide) ?_
  obtain ⟨g1, hF⟩ := gdb_some hF
  refine y_iald C0 hM oka_z g1 dX5_delay_6 ?_
  refine lv_iconst (v := (-1 : Int32)) C0.1 C0.2.1 dX5_delay_7 (by decide) ?_
  obtain ⟨j16_2, ej16_2, hF⟩ := nm_some hF
  have J16 : ∀ (s2 : Int32) (H : Heap) (locs : List Loc) (ls : Array Slot), MX G M s H locs → lv_has ls 1 [(0, .ref (gad G 220))] → j16_2 s2 = some (r, Mf) → W p l e (Rm 6) s m ([.ref (gad G 220)] : List Value).toArray below meth c H locs 0 0 (QI below ([.ref (gad G 220)] : List Value).toArray s G sz r Mf) (F0 m 16 ls [.int s2, .ref (gad G 220)]) := by
    intro s2 H locs ls hM hl hF
    rw [ej16_2] at hF
    refine pf5_0 C0 hM ok_md fl_RX5_28 dX5_delay_16 (fun H locs hM => ?_)
    obtain ⟨M4, eM4, hF⟩ := nm_some hF
    have hM := y_mn eM4 hM
    refine lv_aload_n C0.1 C0.2.1 dX5_delay_19 rfl (lv_at hl 0 rfl) ?_
    refine gf5_0 C0 hM ok_md fl_RX5_28 dX5_delay_20 ?_
    refine lv_if_le (tgt := 28) C0.1 C0.2.1 dX5_delay_23 (by decide) (fun c5 => ?_) (fun c5 => ?_)
    · have hF := if_t c5 hF
      refine lv_aload_n C0.1 C0.2.1 dX5_delay_28 rfl (lv_at hl 0 rfl) ?_
      obtain ⟨M7, h6, hF⟩ := bd_some hF
      refine y_vv (rest := []) C0 hM hl.1 ok_md (ent5 ok_md) rfl (k_X5_save l G M4 h6) cw_RX5_82 rfl rfl ⟨Nat.le_of_ble_eq_true rfl, Nat.le_of_ble_eq_true rfl⟩ rfl (Nat.le_of_ble_eq_true rfl) ⟨Nat.le_of_ble_eq_true rfl, Nat.le_of_ble_eq_true rfl⟩ dX5_delay_29 (fun H locs hM => ?_)
      refine lv_aload_n C0.1 C0.2.1 dX5_delay_32 rfl (lv_at hl 0 rfl) ?_
      obtain ⟨M9, h8, hF⟩ := bd_some hF
      refine y_vv (rest := []) C0 hM hl.1 ok_md (ent5 ok_md) rfl (k_X5_delayIt l G M7 h8) cw_RX5_142 rfl rfl ⟨Nat.le_of_ble_eq_true rfl, Nat.le_of_ble_eq_true rfl⟩ rfl (Nat.le_of_ble_eq_true rfl) ⟨Nat.le_of_ble_eq_true rfl, Nat.le_of_ble_eq_true rfl⟩ dX5_delay_33 (fun H locs hM => ?_)
      refine lv_aload_n C0.1 C0.2.1 dX5_delay_36 rfl (lv_at hl 0 rfl) ?_
      refine gf5_1 C0 hM ok_md fl_RX5_7 dX5_delay_37 ?_
      refine lv_iconst (v := (2 : Int32)) C0.1 C0.2.1 dX5_delay_40 (by decide) ?_
      obtain ⟨g10, hF⟩ := gdb_some hF
      refine y_iald C0 hM oka_z g10 dX5_delay_41 ?_
      obtain ⟨e8, e9⟩ := y_2 hF
      subst e8
      subst e9
      exact y_iret C0 hM hsz dX5_delay_42
    · have hF := if_f c5 hF
      refine lv_iconst (v := (0 : Int32)) C0.1 C0.2.1 dX5_delay_26 (by decide) ?_
      obtain ⟨e8, e9⟩ := y_2 hF
      subst e8
      subst e9
      exact y_iret C0 hM hsz dX5_delay_27
  refine lv_icmp_ne (tgt := 15) C0.1 C0.2.1 dX5_delay_8 (by decide) (fun c11 => ?_) (fun c11 => ?_)
  · have hF := if_t c11 hF
    refine lv_iconst (v := (0 : Int32)) C0.1 C0.2.1 dX5_delay_15 (by decide) ?_
    exact J16 (0 : Int32) _ _ _ hM (lv_sub hl [0] rfl) hF
  · have hF := if_f (fun q => q c11) hF
    refine lv_iconst (v := (1 : Int32)) C0.1 C0.2.1 dX5_delay_11 (by decide) ?_
    refine lv_goto (tgt := 16) C0.1 C0.2.1 dX5_delay_12 (by decide) ?_
    exact J16 (1 : Int32) _ _ _ hM (lv_sub hl [0] rfl) hF

def F_X5_whyNotReady (M : MS) (a0 : Int32) (a1 : Int32) (a2 : Int32) (a3 : Int32) : Option Int32 := (bd (F_X5_isFighter M a1) fun r2 => (if r2 = 0 then (some (1 : Int32)) else (bd (F_X5_isFighter M a2) fun r5 => (nm (nm (bd (F_X5_in M a3 (0 : Int32) (3 : Int32)) fun r9 => (if ¬ r9 = 0 then (gdb (inb (2 : Int32) 186) (if (rA M 221 (Int32.toNatClampNeg (2 : Int32))) = (-1 : Int32) then (some (3 : Int32)) else (gdb (inb (2 : Int32) 186) (if a1 = (rA M 221 (Int32.toNatClampNeg (2 : Int32))) then (some (3 : Int32)) else (gdb (inb (2 : Int32) 186) (if ¬ a2 = (rA M 221 (Int32.toNatClampNeg (2 : Int32))) then (some (0 : Int32)) else (some (3 : Int32)))))))) else (some (2 : Int32)))) fun j32_6 => (if a0 = 0 then j32_6 else (if ¬ a0 = (2 : Int32) then (some (2 : Int32)) else j32_6))) fun j23_5 => (if ¬ r5 = 0 then j23_5 else (if a2 = (-1 : Int32) then j23_5 else (some (1 : Int32))))))))

set_option maxHeartbeats 4000000 in
set_option maxRecDepth 100000 in
theorem k_X5_whyNotReady (l : Launch) (G : GG) (M : MS) (a0 : Int32) (a1 : Int32) (a2 : Int32) (a3 : Int32) {r : Int32} (hF : F_X5_whyNotReady M a0 a1 a2 a3 = some r) : KI l yX5_whyNotReady (WS yX5_whyNotReady cX5_whyNotReady 5 (some .int)) (Rm 1) G [.ref (gad G 220), .int a0, .int a1, .int a2, .int a3] M r M := by
  intro sz
  refine y_met (by decide +kernel) (Nat.le_of_ble_eq_true rfl) rfl (fun p e s m below meth c ls hsz C0 hM hl => ?_)
  have hl : lv_has ls 5 [(0, .ref (gad G 220)), (1, .int a0), (2, .int a1), (3, .int a2), (4, .int a3)] := hl
  have C0 : CX p s m meth c ([.ref (gad G 220), .int a0, .int a1, .int a2, .int a3] : List Value).toArray cX5_whyNotReady RX5 5 (some .int) := C0
  rw [F_X5_whyNotReady] at hF
  refine lv_aload_n C0.1 C0.2.1 dX5_whyNotReady_0 rfl (lv_at hl 0 rfl) ?_
  refine lv_iload_n C0.1 C0.2.1 dX5_whyNotReady_1 rfl (lv_at hl 2 rfl) ?_
  obtain ⟨r2, h1, hF⟩ := bd_some hF
  refine y_vi (rest := []) C0 hM hl.1 ok_md (ent5 ok_md) rfl (k_X5_isFighter l G M a1 h1) cw_RX5_126 rfl rfl ⟨Nat.le_of_ble_eq_true rfl, Nat.le_of_ble_eq_true rfl⟩ rfl (Nat.le_of_ble_eq_true rfl) ⟨Nat.le_of_ble_eq_true rfl, Nat.le_of_ble_eq_true rfl⟩ dX5_whyNotReady_2 (fun H locs hM => ?_)
  refine lv_if_eq (tgt := 21) C0.1 C0.2.1 dX5_whyNotReady_5 (by decide) (fun c3 => ?_) (fun c3 => ?_)
  · have hF := if_t c3 hF
    refine lv_iconst (v := (1 : Int32)) C0.1 C0.2.1 dX5_whyNotReady_21 (by decide) ?_
    have e8 := y_1 hF
    subst e8
    exact y_iret C0 hM hsz dX5_whyNotReady_22
  · have hF := if_f c3 hF
    refine lv_aload_n C0.1 C0.2.1 dX5_whyNotReady_8 rfl (lv_at hl 0 rfl) ?_
    refine lv_iload_n C0.1 C0.2.1 dX5_whyNotReady_9 rfl (lv_at hl 3 rfl) ?_
    obtain ⟨r5, h4, hF⟩ := bd_some hF
    refine y_vi (rest := []) C0 hM hl.1 ok_md (ent5 ok_md) rfl (k_X5_isFighter l G M a2 h4) cw_RX5_126 rfl rfl ⟨Nat.le_of_ble_eq_true rfl, Nat.le_of_ble_eq_true rfl⟩ rfl (Nat.le_of_ble_eq_true rfl) ⟨Nat.le_of_ble_eq_true rfl, Nat.le_of_ble_eq_true rfl⟩ dX5_whyNotReady_10 (fun H locs hM => ?_)
    obtain ⟨j23_5, ej23_5, hF⟩ := nm_some hF
    have J23 : ∀ (H : Heap) (locs : List Loc) (ls : Array Slot), MX G M s H locs → lv_has ls 5 [(0, .ref (gad G 220)), (1, .int a0), (2, .int a1), (3, .int a2), (4, .int a3)] → j23_5 = some r → W p l e (Rm 1) s m ([.ref (gad G 220), .int a0, .int a1, .int a2, .int a3] : List Value).toArray below meth c H locs 0 0 (QI below ([.ref (gad G 220), .int a0, .int a1, .int a2, .int a3] : List Value).toArray s G sz r M) (F0 m 23 ls []) := by
      intro H locs ls hM hl hF
      rw [ej23_5] at hF
      refine lv_iload_n C0.1 C0.2.1 dX5_whyNotReady_23 rfl (lv_at hl 1 rfl) ?_
      obtain ⟨j32_6, ej32_6, hF⟩ := nm_some hF
      have J32 : ∀ (H : Heap) (locs : List Loc) (ls : Array Slot), MX G M s H locs → lv_has ls 5 [(0, .ref (gad G 220)), (1, .int a0), (2, .int a1), (3, .int a2), (4, .int a3)] → j32_6 = some r → W p l e (Rm 1) s m ([.ref (gad G 220), .int a0, .int a1, .int a2, .int a3] : List Value).toArray below meth c H locs 0 0 (QI below ([.ref (gad G 220), .int a0, .int a1, .int a2, .int a3] : List Value).toArray s G sz r M) (F0 m 32 ls []) := by
        intro H locs ls hM hl hF
        rw [ej32_6] at hF
        refine lv_iload C0.1 C0.2.1 dX5_whyNotReady_32 (lv_at hl 4 rfl) ?_
        refine lv_iconst (v := (0 : Int32)) C0.1 C0.2.1 dX5_whyNotReady_34 (by decide) ?_
        refine lv_iconst (v := (3 : Int32)) C0.1 C0.2.1 dX5_whyNotReady_35 (by decide) ?_
        obtain ⟨r9, h8, hF⟩ := bd_some hF
        refine y_si (rest := []) C0 hM hl.1 (k_X5_in l G M a3 (0 : Int32) (3 : Int32) h8) cw_RX5_85 rfl rfl ⟨Nat.le_of_ble_eq_true rfl, Nat.le_of_ble_eq_true rfl⟩ rfl (Nat.le_of_ble_eq_true rfl) ⟨Nat.le_of_ble_eq_true rfl, Nat.le_of_ble_eq_true rfl⟩ dX5_whyNotReady_36 (fun H locs hM => ?_)
        refine lv_if_ne (tgt := 44) C0.1 C0.2.1 dX5_whyNotReady_39 (by decide) (fun c10 => ?_) (fun c10 => ?_)
        · have hF := if_t c10 hF
          refine lv_aload_n C0.1 C0.2.1 dX5_whyNotReady_44 rfl (lv_at hl 0 rfl) ?_
          refine gf5_1 C0 hM ok_md fl_RX5_7 dX5_whyNotReady_45 ?_
          refine lv_iconst (v := (2 : Int32)) C0.1 C0.2.1 dX5_whyNotReady_48 (by decide) ?_
          obtain ⟨g11, hF⟩ := gdb_some hF
          refine y_iald C0 hM oka_z g11 dX5_whyNotReady_49 ?_
          refine lv_iconst (v := (-1 : Int32)) C0.1 C0.2.1 dX5_whyNotReady_50 (by decide) ?_
          refine lv_icmp_eq (tgt := 74) C0.1 C0.2.1 dX5_whyNotReady_51 (by decide) (fun c12 => ?_) (fun c12 => ?_)
          · have hF := if_t c12 hF
            refine lv_iconst (v := (3 : Int32)) C0.1 C0.2.1 dX5_whyNotReady_74 (by decide) ?_
            refine lv_goto (tgt := 79) C0.1 C0.2.1 dX5_whyNotReady_75 (by decide) ?_
            have e8 := y_1 hF
            subst e8
            exact y_iret C0 hM hsz dX5_whyNotReady_79
          · have hF := if_f c12 hF
            refine lv_iload_n C0.1 C0.2.1 dX5_whyNotReady_54 rfl (lv_at hl 2 rfl) ?_
            refine lv_aload_n C0.1 C0.2.1 dX5_whyNotReady_55 rfl (lv_at hl 0 rfl) ?_
            refine gf5_1 C0 hM ok_md fl_RX5_7 dX5_whyNotReady_56 ?_
            refine lv_iconst (v := (2 : Int32)) C0.1 C0.2.1 dX5_whyNotReady_59 (by decide) ?_
            obtain ⟨g13, hF⟩ := gdb_some hF
            refine y_iald C0 hM oka_z g13 dX5_whyNotReady_60 ?_
            refine lv_icmp_eq (tgt := 74) C0.1 C0.2.1 dX5_whyNotReady_61 (by decide) (fun c14 => ?_) (fun c14 => ?_)
            · have hF := if_t c14 hF
              refine lv_iconst (v := (3 : Int32)) C0.1 C0.2.1 dX5_whyNotReady_74 (by decide) ?_
              refine lv_goto (tgt := 79) C0.1 C0.2.1 dX5_whyNotReady_75 (by decide) ?_
              have e8 := y_1 hF
              subst e8
              exact y_iret C0 hM hsz dX5_whyNotReady_79
            · have hF := if_f c14 hF
              refine lv_iload_n C0.1 C0.2.1 dX5_whyNotReady_64 rfl (lv_at hl 3 rfl) ?_
              refine lv_aload_n C0.1 C0.2.1 dX5_whyNotReady_65 rfl (lv_at hl 0 rfl) ?_
              refine gf5_1 C0 hM ok_md fl_RX5_7 dX5_whyNotReady_66 ?_
              refine lv_iconst (v := (2 : Int32)) C0.1 C0.2.1 dX5_whyNotReady_69 (by decide) ?_
              obtain ⟨g15, hF⟩ := gdb_some hF
              refine y_iald C0 hM oka_z g15 dX5_whyNotReady_70 ?_
              refine lv_icmp_ne (tgt := 78) C0.1 C0.2.1 dX5_whyNotReady_71 (by decide) (fun c16 => ?_) (fun c16 => ?_)
              · have hF := if_t c16 hF
                refine lv_iconst (v := (0 : Int32)) C0.1 C0.2.1 dX5_whyNotReady_78 (by decide) ?_
                have e8 := y_1 hF
                subst e8
                exact y_iret C0 hM hsz dX5_whyNotReady_79
              · have hF := if_f (fun q => q c16) hF
                refine lv_iconst (v := (3 : Int32)) C0.1 C0.2.1 dX5_whyNotReady_74 (by decide) ?_
                refine lv_goto (tgt := 79) C0.1 C0.2.1 dX5_whyNotReady_75 (by decide) ?_
                have e8 := y_1 hF
                subst e8
                exact y_iret C0 hM hsz dX5_whyNotReady_79
        · have hF := if_f (fun q => q c10) hF
          refine lv_iconst (v := (2 : Int32)) C0.1 C0.2.1 dX5_whyNotReady_42 (by decide) ?_
          have e8 := y_1 hF
          subst e8
          exact y_iret C0 hM hsz dX5_whyNotReady_43
      refine lv_if_eq (tgt := 32) C0.1 C0.2.1 dX5_whyNotReady_24 (by decide) (fun c17 => ?_) (fun c17 => ?_)
      · have hF := if_t c17 hF
        exact J32  _ _ _ hM (lv_sub hl [0, 1, 2, 3, 4] rfl) hF
      · have hF := if_f c17 hF
        refine lv_iload_n C0.1 C0.2.1 dX5_whyNotReady_27 rfl (lv_at hl 1 rfl) ?_
        refine lv_iconst (v := (2 : Int32)) C0.1 C0.2.1 dX5_whyNotReady_28 (by decide) ?_
        refine lv_icmp_ne (tgt := 42) C0.1 C0.2.1 dX5_whyNotReady_29 (by decide) (fun c18 => ?_) (fun c18 => ?_)
        · have hF := if_t c18 hF
          refine lv_iconst (v := (2 : Int32)) C0.1 C0.2.1 dX5_whyNotReady_42 (by decide) ?_
          have e8 := y_1 hF
          subst e8
          exact y_iret C0 hM hsz dX5_whyNotReady_43
        · have hF := if_f (fun q => q c18) hF
          exact J32  _ _ _ hM (lv_sub hl [0, 1, 2, 3, 4] rfl) hF
    refine lv_if_ne (tgt := 23) C0.1 C0.2.1 dX5_whyNotReady_13 (by decide) (fun c19 => ?_) (fun c19 => ?_)
    · have hF := if_t c19 hF
      exact J23  _ _ _ hM (lv_sub hl [0, 1, 2, 3, 4] rfl) hF
    · have hF := if_f (fun q => q c19) hF
      refine lv_iload_n C0.1 C0.2.1 dX5_whyNotReady_16 rfl (lv_at hl 3 rfl) ?_
      refine lv_iconst (v := (-1 : Int32)) C0.1 C0.2.1 dX5_whyNotReady_17 (by decide) ?_
      refine lv_icmp_eq (tgt := 23) C0.1 C0.2.1 dX5_whyNotReady_18 (by decide) (fun c20 => ?_) (fun c20 => ?_)
      · have hF := if_t c20 hF
        exact J23  _ _ _ hM (lv_sub hl [0, 1, 2, 3, 4] rfl) hF
      · have hF := if_f c20 hF
        refine lv_iconst (v := (1 : Int32)) C0.1 C0.2.1 dX5_whyNotReady_21 (by decide) ?_
        have e8 := y_1 hF
        subst e8
        exact y_iret C0 hM hsz dX5_whyNotReady_22

def F_X5_ready (M : MS) (a0 : Int32) (a1 : Int32) (a2 : Int32) (a3 : Int32) : Option (Int32 × MS) := (bd (F_X5_whyNotReady M a0 a1 a2 a3) fun r2 => (nm (wF M 80 220 r2) fun M3 => (if (rF M3 80 220) ≤ 0 then (bd (F_X5_save M3) fun M6 => (gdb (inb (2 : Int32) 186) (nm (rA M6 221 (Int32.toNatClampNeg (2 : Int32))) fun x8 => (bd (F_X5_lay M6 x8 (7 : Int32) a0) fun M10 => (bd (F_X5_lay M10 x8 (8 : Int32) a1) fun M12 => (bd (F_X5_lay M12 x8 (9 : Int32) a2) fun M14 => (bd (F_X5_lay M14 x8 (10 : Int32) a3) fun M16 => (bd (F_X5_endTurn M16) fun M18 => (gdb (inb (2 : Int32) 186) (some ((rA M18 221 (Int32.toNatClampNeg (2 : Int32))), M18))))))))))) else (some ((0 : Int32), M3)))))

set_option maxHeartbeats 4000000 in
set_option maxRecDepth 100000 in
theorem k_X5_ready (l : Launch) (G : GG) (M : MS) (a0 : Int32) (a1 : Int32) (a2 : Int32) (a3 : Int32) {r : Int32} {Mf : MS} (hF : F_X5_ready M a0 a1 a2 a3 = some (r, Mf)) : KI l yX5_ready (WS yX5_ready cX5_ready 6 (some .int)) (Rm 5) G [.ref (gad G 220), .int a0, .int a1, .int a2, .int a3] M r Mf := by
  intro sz
  refine y_met (by decide +kernel) (Nat.le_of_ble_eq_true rfl) rfl (fun p e s m below meth c ls hsz C0 hM hl => ?_)
  have hl : lv_has ls 6 [(0, .ref (gad G 220)), (1, .int a0), (2, .int a1), (3, .int a2), (4, .int a3)] := hl
  have C0 : CX p s m meth c ([.ref (gad G 220), .int a0, .int a1, .int a2, .int a3] : List Value).toArray cX5_ready RX5 6 (some .int) := C0
  rw [F_X5_ready] at hF
  refine lv_aload_n C0.1 C0.2.1 dX5_ready_0 rfl (lv_at hl 0 rfl) ?_
  refine lv_aload_n C0.1 C0.2.1 dX5_ready_1 rfl (lv_at hl 0 rfl) ?_
  refine lv_iload_n C0.1 C0.2.1 dX5_ready_2 rfl (lv_at hl 1 rfl) ?_
  refine lv_iload_n C0.1 C0.2.1 dX5_ready_3 rfl (lv_at hl 2 rfl) ?_
  refine lv_iload_n C0.1 C0.2.1 dX5_ready_4 rfl (lv_at hl 3 rfl) ?_
  refine lv_iload C0.1 C0.2.1 dX5_ready_5 (lv_at hl 4 rfl) ?_
  obtain ⟨r2, h1, hF⟩ := bd_some hF
  refine y_vi (rest := [.ref (gad G 220)]) C0 hM hl.1 ok_md (ent5 ok_md) rfl (k_X5_whyNotReady l G M a0 a1 a2 a3 h1) cw_RX5_145 rfl rfl ⟨Nat.le_of_ble_eq_true rfl, Nat.le_of_ble_eq_true rfl⟩ rfl (Nat.le_of_ble_eq_true rfl) ⟨Nat.le_of_ble_eq_true rfl, Nat.le_of_ble_eq_true rfl⟩ dX5_ready_7 (fun H locs hM => ?_)
  refine pf5_0 C0 hM ok_md fl_RX5_28 dX5_ready_10 (fun H locs hM => ?_)
  obtain ⟨M3, eM3, hF⟩ := nm_some hF
  have hM := y_mn eM3 hM
  refine lv_aload_n C0.1 C0.2.1 dX5_ready_13 rfl (lv_at hl 0 rfl) ?_
  refine gf5_0 C0 hM ok_md fl_RX5_28 dX5_ready_14 ?_
  refine lv_if_le (tgt := 22) C0.1 C0.2.1 dX5_ready_17 (by decide) (fun c4 => ?_) (fun c4 => ?_)
  · have hF := if_t c4 hF
    refine lv_aload_n C0.1 C0.2.1 dX5_ready_22 rfl (lv_at hl 0 rfl) ?_
    obtain ⟨M6, h5, hF⟩ := bd_some hF
    refine y_vv (rest := []) C0 hM hl.1 ok_md (ent5 ok_md) rfl (k_X5_save l G M3 h5) cw_RX5_82 rfl rfl ⟨Nat.le_of_ble_eq_true rfl, Nat.le_of_ble_eq_true rfl⟩ rfl (Nat.le_of_ble_eq_true rfl) ⟨Nat.le_of_ble_eq_true rfl, Nat.le_of_ble_eq_true rfl⟩ dX5_ready_23 (fun H locs hM => ?_)
    refine lv_aload_n C0.1 C0.2.1 dX5_ready_26 rfl (lv_at hl 0 rfl) ?_
    refine gf5_1 C0 hM ok_md fl_RX5_7 dX5_ready_27 ?_
    refine lv_iconst (v := (2 : Int32)) C0.1 C0.2.1 dX5_ready_30 (by decide) ?_
    obtain ⟨g7, hF⟩ := gdb_some hF
    refine y_iald C0 hM oka_z g7 dX5_ready_31 ?_
    obtain ⟨x8, ex8, hF⟩ := nm_some hF
    refine y_topi ex8 ?_
    refine lv_istore (lv' := [(5, .int x8), (0, .ref (gad G 220)), (1, .int a0), (2, .int a1), (3, .int a2), (4, .int a3)]) C0.1 C0.2.1 dX5_ready_32 hl (by decide) rfl (fun ls hl => ?_)
    refine lv_aload_n C0.1 C0.2.1 dX5_ready_34 rfl (lv_at hl 1 rfl) ?_
    refine lv_iload C0.1 C0.2.1 dX5_ready_35 (lv_at hl 0 rfl) ?_
    refine lv_bipush (v := (7 : Int32)) C0.1 C0.2.1 dX5_ready_37 (by decide) ?_
    refine lv_iload_n C0.1 C0.2.1 dX5_ready_39 rfl (lv_at hl 2 rfl) ?_
    obtain ⟨M10, h9, hF⟩ := bd_some hF
    refine y_vv (rest := []) C0 hM hl.1 ok_md (ent5 ok_md) rfl (k_X5_lay l G M6 x8 (7 : Int32) a0 h9) cw_RX5_47 rfl rfl ⟨Nat.le_of_ble_eq_true rfl, Nat.le_of_ble_eq_true rfl⟩ rfl (Nat.le_of_ble_eq_true rfl) ⟨Nat.le_of_ble_eq_true rfl, Nat.le_of_ble_eq_true rfl⟩ dX5_ready_40 (fun H locs hM => ?_)
    refine lv_aload_n C0.1 C0.2.1 dX5_ready_43 rfl (lv_at hl 1 rfl) ?_
    refine lv_iload C0.1 C0.2.1 dX5_ready_44 (lv_at hl 0 rfl) ?_
    refine lv_bipush (v := (8 : Int32)) C0.1 C0.2.1 dX5_ready_46 (by decide) ?_
    refine lv_iload_n C0.1 C0.2.1 dX5_ready_48 rfl (lv_at hl 3 rfl) ?_
    obtain ⟨M12, h11, hF⟩ := bd_some hF
    refine y_vv (rest := []) C0 hM hl.1 ok_md (ent5 ok_md) rfl (k_X5_lay l G M10 x8 (8 : Int32) a1 h11) cw_RX5_47 rfl rfl ⟨Nat.le_of_ble_eq_true rfl, Nat.le_of_ble_eq_true rfl⟩ rfl (Nat.le_of_ble_eq_true rfl) ⟨Nat.le_of_ble_eq_true rfl, Nat.le_of_ble_eq_true rfl⟩ dX5_ready_49 (fun H locs hM => ?_)
    refine lv_aload_n C0.1 C0.2.1 dX5_ready_52 rfl (lv_at hl 1 rfl) ?_
    refine lv_iload C0.1 C0.2.1 dX5_ready_53 (lv_at hl 0 rfl) ?_
    refine lv_bipush (v := (9 : Int32)) C0.1 C0.2.1 dX5_ready_55 (by decide) ?_
    refine lv_iload_n C0.1 C0.2.1 dX5_ready_57 rfl (lv_at hl 4 rfl) ?_
    obtain ⟨M14, h13, hF⟩ := bd_some hF
    refine y_vv (rest := []) C0 hM hl.1 ok_md (ent5 ok_md) rfl (k_X5_lay l G M12 x8 (9 : Int32) a2 h13) cw_RX5_47 rfl rfl ⟨Nat.le_of_ble_eq_true rfl, Nat.le_of_ble_eq_true rfl⟩ rfl (Nat.le_of_ble_eq_true rfl) ⟨Nat.le_of_ble_eq_true rfl, Nat.le_of_ble_eq_true rfl⟩ dX5_ready_58 (fun H locs hM => ?_)
    refine lv_aload_n C0.1 C0.2.1 dX5_ready_61 rfl (lv_at hl 1 rfl) ?_
    refine lv_iload C0.1 C0.2.1 dX5_ready_62 (lv_at hl 0 rfl) ?_
    refine lv_bipush (v := (10 : Int32)) C0.1 C0.2.1 dX5_ready_64 (by decide) ?_
    refine lv_iload C0.1 C0.2.1 dX5_ready_66 (lv_at hl 5 rfl) ?_
    obtain ⟨M16, h15, hF⟩ := bd_some hF
    refine y_vv (rest := []) C0 hM hl.1 ok_md (ent5 ok_md) rfl (k_X5_lay l G M14 x8 (10 : Int32) a3 h15) cw_RX5_47 rfl rfl ⟨Nat.le_of_ble_eq_true rfl, Nat.le_of_ble_eq_true rfl⟩ rfl (Nat.le_of_ble_eq_true rfl) ⟨Nat.le_of_ble_eq_true rfl, Nat.le_of_ble_eq_true rfl⟩ dX5_ready_68 (fun H locs hM => ?_)
    refine lv_aload_n C0.1 C0.2.1 dX5_ready_71 rfl (lv_at hl 1 rfl) ?_
    obtain ⟨M18, h17, hF⟩ := bd_some hF
    refine y_vv (rest := []) C0 hM hl.1 ok_md (ent5 ok_md) rfl (k_X5_endTurn l G M16 h17) cw_RX5_123 rfl rfl ⟨Nat.le_of_ble_eq_true rfl, Nat.le_of_ble_eq_true rfl⟩ rfl (Nat.le_of_ble_eq_true rfl) ⟨Nat.le_of_ble_eq_true rfl, Nat.le_of_ble_eq_true rfl⟩ dX5_ready_72 (fun H locs hM => ?_)
    refine lv_aload_n C0.1 C0.2.1 dX5_ready_75 rfl (lv_at hl 1 rfl) ?_
    refine gf5_1 C0 hM ok_md fl_RX5_7 dX5_ready_76 ?_
    refine lv_iconst (v := (2 : Int32)) C0.1 C0.2.1 dX5_ready_79 (by decide) ?_
    obtain ⟨g19, hF⟩ := gdb_some hF
    refine y_iald C0 hM oka_z g19 dX5_ready_80 ?_
    obtain ⟨e8, e9⟩ := y_2 hF
    subst e8
    subst e9
    exact y_iret C0 hM hsz dX5_ready_81
  · have hF := if_f c4 hF
    refine lv_iconst (v := (0 : Int32)) C0.1 C0.2.1 dX5_ready_20 (by decide) ?_
    obtain ⟨e8, e9⟩ := y_2 hF
    subst e8
    subst e9
    exact y_iret C0 hM hsz dX5_ready_21

def F_X5_end (M : MS) : Option (Int32 × MS) := (gdb (inb (2 : Int32) 186) (nm (fun (s2 : Int32) => (nm (wF M 80 220 s2) fun M4 => (if (rF M4 80 220) ≤ 0 then (bd (F_X5_save M4) fun M7 => (bd (F_X5_endTurn M7) fun M9 => (gdb (inb (2 : Int32) 186) (some ((rA M9 221 (Int32.toNatClampNeg (2 : Int32))), M9))))) else (some ((0 : Int32), M4))))) fun j16_2 => (if ¬ (rA M 221 (Int32.toNatClampNeg (2 : Int32))) = (-1 : Int32) then (j16_2 (0 : Int32)) else (j16_2 (1 : Int32)))))

set_option maxHeartbeats 4000000 in
set_option maxRecDepth 100000 in
theorem k_X5_end (l : Launch) (G : GG) (M : MS) {r : Int32} {Mf : MS} (hF : F_X5_end M = some (r, Mf)) : KI l yX5_end (WS yX5_end cX5_end 1 (some .int)) (Rm 5) G [.ref (gad G 220)] M r Mf := by
  intro sz
  refine y_met (by decide +kernel) (Nat.le_of_ble_eq_true rfl) rfl (fun p e s m below meth c ls hsz C0 hM hl => ?_)
  have hl : lv_has ls 1 [(0, .ref (gad G 220))] := hl
  have C0 : CX p s m meth c ([.ref (gad G 220)] : List Value).toArray cX5_end RX5 1 (some .int) := C0
  rw [F_X5_end] at hF
  refine lv_aload_n C0.1 C0.2.1 dX5_end_0 rfl (lv_at hl 0 rfl) ?_
  refine lv_aload_n C0.1 C0.2.1 dX5_end_1 rfl (lv_at hl 0 rfl) ?_
  refine gf5_1 C0 hM ok_md fl_RX5_7 dX5_end_2 ?_
  refine lv_iconst (v := (2 : Int32)) C0.1 C0.2.1 dX5_end_5 (by decide) ?_
  obtain ⟨g1, hF⟩ := gdb_some hF
  refine y_iald C0 hM oka_z g1 dX5_end_6 ?_
  refine lv_iconst (v := (-1 : Int32)) C0.1 C0.2.1 dX5_end_7 (by decide) ?_
  obtain ⟨j16_2, ej16_2, hF⟩ := nm_some hF
  have J16 : ∀ (s2 : Int32) (H : Heap) (locs : List Loc) (ls : Array Slot), MX G M s H locs → lv_has ls 1 [(0, .ref (gad G 220))] → j16_2 s2 = some (r, Mf) → W p l e (Rm 5) s m ([.ref (gad G 220)] : List Value).toArray below meth c H locs 0 0 (QI below ([.ref (gad G 220)] : List Value).toArray s G sz r Mf) (F0 m 16 ls [.int s2, .ref (gad G 220)]) := by
    intro s2 H locs ls hM hl hF
    rw [ej16_2] at hF
    refine pf5_0 C0 hM ok_md fl_RX5_28 dX5_end_16 (fun H locs hM => ?_)
    obtain ⟨M4, eM4, hF⟩ := nm_some hF
    have hM := y_mn eM4 hM
    refine lv_aload_n C0.1 C0.2.1 dX5_end_19 rfl (lv_at hl 0 rfl) ?_
    refine gf5_0 C0 hM ok_md fl_RX5_28 dX5_end_20 ?_
    refine lv_if_le (tgt := 28) C0.1 C0.2.1 dX5_end_23 (by decide) (fun c5 => ?_) (fun c5 => ?_)
    · have hF := if_t c5 hF
      refine lv_aload_n C0.1 C0.2.1 dX5_end_28 rfl (lv_at hl 0 rfl) ?_
      obtain ⟨M7, h6, hF⟩ := bd_some hF
      refine y_vv (rest := []) C0 hM hl.1 ok_md (ent5 ok_md) rfl (k_X5_save l G M4 h6) cw_RX5_82 rfl rfl ⟨Nat.le_of_ble_eq_true rfl, Nat.le_of_ble_eq_true rfl⟩ rfl (Nat.le_of_ble_eq_true rfl) ⟨Nat.le_of_ble_eq_true rfl, Nat.le_of_ble_eq_true rfl⟩ dX5_end_29 (fun H locs hM => ?_)
      refine lv_aload_n C0.1 C0.2.1 dX5_end_32 rfl (lv_at hl 0 rfl) ?_
      obtain ⟨M9, h8, hF⟩ := bd_some hF
      refine y_vv (rest := []) C0 hM hl.1 ok_md (ent5 ok_md) rfl (k_X5_endTurn l G M7 h8) cw_RX5_123 rfl rfl ⟨Nat.le_of_ble_eq_true rfl, Nat.le_of_ble_eq_true rfl⟩ rfl (Nat.le_of_ble_eq_true rfl) ⟨Nat.le_of_ble_eq_true rfl, Nat.le_of_ble_eq_true rfl⟩ dX5_end_33 (fun H locs hM => ?_)
      refine lv_aload_n C0.1 C0.2.1 dX5_end_36 rfl (lv_at hl 0 rfl) ?_
      refine gf5_1 C0 hM ok_md fl_RX5_7 dX5_end_37 ?_
      refine lv_iconst (v := (2 : Int32)) C0.1 C0.2.1 dX5_end_40 (by decide) ?_
      obtain ⟨g10, hF⟩ := gdb_some hF
      refine y_iald C0 hM oka_z g10 dX5_end_41 ?_
      obtain ⟨e8, e9⟩ := y_2 hF
      subst e8
      subst e9
      exact y_iret C0 hM hsz dX5_end_42
    · have hF := if_f c5 hF
      refine lv_iconst (v := (0 : Int32)) C0.1 C0.2.1 dX5_end_26 (by decide) ?_
      obtain ⟨e8, e9⟩ := y_2 hF
      subst e8
      subst e9
      exact y_iret C0 hM hsz dX5_end_27
  refine lv_icmp_ne (tgt := 15) C0.1 C0.2.1 dX5_end_8 (by decide) (fun c11 => ?_) (fun c11 => ?_)
  · have hF := if_t c11 hF
    refine lv_iconst (v := (0 : Int32)) C0.1 C0.2.1 dX5_end_15 (by decide) ?_
    exact J16 (0 : Int32) _ _ _ hM (lv_sub hl [0] rfl) hF
  · have hF := if_f (fun q => q c11) hF
    refine lv_iconst (v := (1 : Int32)) C0.1 C0.2.1 dX5_end_11 (by decide) ?_
    refine lv_goto (tgt := 16) C0.1 C0.2.1 dX5_end_12 (by decide) ?_
    exact J16 (1 : Int32) _ _ _ hM (lv_sub hl [0] rfl) hF

def F_X5_canComeIn (M : MS) (a0 : Int32) : Option Int32 := (gdb (inb (2 : Int32) 186) (if (rA M 221 (Int32.toNatClampNeg (2 : Int32))) = (-1 : Int32) then (some (0 : Int32)) else (bd (F_X5_of M a0 (6 : Int32)) fun r4 => (if ¬ r4 = (1 : Int32) then (some (0 : Int32)) else (bd (F_X5_hasFallen M a0) fun r7 => (if ¬ r7 = 0 then (some (0 : Int32)) else (some (1 : Int32))))))))

set_option maxHeartbeats 4000000 in
set_option maxRecDepth 100000 in
theorem k_X5_canComeIn (l : Launch) (G : GG) (M : MS) (a0 : Int32) {r : Int32} (hF : F_X5_canComeIn M a0 = some r) : KI l yX5_canComeIn (WS yX5_canComeIn cX5_canComeIn 2 (some .boolean)) (Rm 2) G [.ref (gad G 220), .int a0] M r M := by
  intro sz
  refine y_met (by decide +kernel) (Nat.le_of_ble_eq_true rfl) rfl (fun p e s m below meth c ls hsz C0 hM hl => ?_)
  have hl : lv_has ls 2 [(0, .ref (gad G 220)), (1, .int a0)] := hl
  have C0 : CX p s m meth c ([.ref (gad G 220), .int a0] : List Value).toArray cX5_canComeIn RX5 2 (some .boolean) := C0
  rw [F_X5_canComeIn] at hF
  refine lv_aload_n C0.1 C0.2.1 dX5_canComeIn_0 rfl (lv_at hl 0 rfl) ?_
  refine gf5_1 C0 hM ok_md fl_RX5_7 dX5_canComeIn_1 ?_
  refine lv_iconst (v := (2 : Int32)) C0.1 C0.2.1 dX5_canComeIn_4 (by decide) ?_
  obtain ⟨g1, hF⟩ := gdb_some hF
  refine y_iald C0 hM oka_z g1 dX5_canComeIn_5 ?_
  refine lv_iconst (v := (-1 : Int32)) C0.1 C0.2.1 dX5_canComeIn_6 (by decide) ?_
  refine lv_icmp_eq (tgt := 33) C0.1 C0.2.1 dX5_canComeIn_7 (by decide) (fun c2 => ?_) (fun c2 => ?_)
  · have hF := if_t c2 hF
    refine lv_iconst (v := (0 : Int32)) C0.1 C0.2.1 dX5_canComeIn_33 (by decide) ?_
    have e8 := y_1 hF
    subst e8
    exact y_zret C0 hM hsz rfl dX5_canComeIn_34
  · have hF := if_f c2 hF
    refine lv_aload_n C0.1 C0.2.1 dX5_canComeIn_10 rfl (lv_at hl 0 rfl) ?_
    refine lv_iload_n C0.1 C0.2.1 dX5_canComeIn_11 rfl (lv_at hl 1 rfl) ?_
    refine lv_bipush (v := (6 : Int32)) C0.1 C0.2.1 dX5_canComeIn_12 (by decide) ?_
    obtain ⟨r4, h3, hF⟩ := bd_some hF
    refine y_vi (rest := []) C0 hM hl.1 ok_md (ent5 ok_md) rfl (k_X5_of l G M a0 (6 : Int32) h3) cw_RX5_32 rfl rfl ⟨Nat.le_of_ble_eq_true rfl, Nat.le_of_ble_eq_true rfl⟩ rfl (Nat.le_of_ble_eq_true rfl) ⟨Nat.le_of_ble_eq_true rfl, Nat.le_of_ble_eq_true rfl⟩ dX5_canComeIn_14 (fun H locs hM => ?_)
    refine lv_iconst (v := (1 : Int32)) C0.1 C0.2.1 dX5_canComeIn_17 (by decide) ?_
    refine lv_icmp_ne (tgt := 33) C0.1 C0.2.1 dX5_canComeIn_18 (by decide) (fun c5 => ?_) (fun c5 => ?_)
    · have hF := if_t c5 hF
      refine lv_iconst (v := (0 : Int32)) C0.1 C0.2.1 dX5_canComeIn_33 (by decide) ?_
      have e8 := y_1 hF
      subst e8
      exact y_zret C0 hM hsz rfl dX5_canComeIn_34
    · have hF := if_f (fun q => q c5) hF
      refine lv_aload_n C0.1 C0.2.1 dX5_canComeIn_21 rfl (lv_at hl 0 rfl) ?_
      refine lv_iload_n C0.1 C0.2.1 dX5_canComeIn_22 rfl (lv_at hl 1 rfl) ?_
      obtain ⟨r7, h6, hF⟩ := bd_some hF
      refine y_vi (rest := []) C0 hM hl.1 ok_md (ent5 ok_md) rfl (k_X5_hasFallen l G M a0 h6) cw_RX5_51 rfl rfl ⟨Nat.le_of_ble_eq_true rfl, Nat.le_of_ble_eq_true rfl⟩ rfl (Nat.le_of_ble_eq_true rfl) ⟨Nat.le_of_ble_eq_true rfl, Nat.le_of_ble_eq_true rfl⟩ dX5_canComeIn_23 (fun H locs hM => ?_)
      refine lv_if_ne (tgt := 33) C0.1 C0.2.1 dX5_canComeIn_26 (by decide) (fun c8 => ?_) (fun c8 => ?_)
      · have hF := if_t c8 hF
        refine lv_iconst (v := (0 : Int32)) C0.1 C0.2.1 dX5_canComeIn_33 (by decide) ?_
        have e8 := y_1 hF
        subst e8
        exact y_zret C0 hM hsz rfl dX5_canComeIn_34
      · have hF := if_f (fun q => q c8) hF
        refine lv_iconst (v := (1 : Int32)) C0.1 C0.2.1 dX5_canComeIn_29 (by decide) ?_
        refine lv_goto (tgt := 34) C0.1 C0.2.1 dX5_canComeIn_30 (by decide) ?_
        have e8 := y_1 hF
        subst e8
        exact y_zret C0 hM hsz rfl dX5_canComeIn_34

def F_X5_comeInIt (M : MS) (a0 : Int32) : Option (Int32 × MS) := (gdb (inb (2 : Int32) 186) (bd (F_X5_standBehind M a0 (rA M 221 (Int32.toNatClampNeg (2 : Int32)))) fun M3 => (bd (F_X5_lay M3 a0 (6 : Int32) (0 : Int32)) fun M5 => (bd (F_X5_of M5 a0 (1 : Int32)) fun r7 => (some (r7, M5))))))

set_option maxHeartbeats 4000000 in
set_option maxRecDepth 100000 in
theorem k_X5_comeInIt (l : Launch) (G : GG) (M : MS) (a0 : Int32) {r : Int32} {Mf : MS} (hF : F_X5_comeInIt M a0 = some (r, Mf)) : KI l yX5_comeInIt (WS yX5_comeInIt cX5_comeInIt 2 (some .int)) (Rm 3) G [.ref (gad G 220), .int a0] M r Mf := by
  intro sz
  refine y_met (by decide +kernel) (Nat.le_of_ble_eq_true rfl) rfl (fun p e s m below meth c ls hsz C0 hM hl => ?_)
  have hl : lv_has ls 2 [(0, .ref (gad G 220)), (1, .int a0)] := hl
  have C0 : CX p s m meth c ([.ref (gad G 220), .int a0] : List Value).toArray cX5_comeInIt RX5 2 (some .int) := C0
  rw [F_X5_comeInIt] at hF
  refine lv_aload_n C0.1 C0.2.1 dX5_comeInIt_0 rfl (lv_at hl 0 rfl) ?_
  refine lv_iload_n C0.1 C0.2.1 dX5_comeInIt_1 rfl (lv_at hl 1 rfl) ?_
  refine lv_aload_n C0.1 C0.2.1 dX5_comeInIt_2 rfl (lv_at hl 0 rfl) ?_
  refine gf5_1 C0 hM ok_md fl_RX5_7 dX5_comeInIt_3 ?_
  refine lv_iconst (v := (2 : Int32)) C0.1 C0.2.1 dX5_comeInIt_6 (by decide) ?_
  obtain ⟨g1, hF⟩ := gdb_some hF
  refine y_iald C0 hM oka_z g1 dX5_comeInIt_7 ?_
  obtain ⟨M3, h2, hF⟩ := bd_some hF
  refine y_vv (rest := []) C0 hM hl.1 ok_md (ent5 ok_md) rfl (k_X5_standBehind l G M a0 (rA M 221 (Int32.toNatClampNeg (2 : Int32))) h2) cw_RX5_148 rfl rfl ⟨Nat.le_of_ble_eq_true rfl, Nat.le_of_ble_eq_true rfl⟩ rfl (Nat.le_of_ble_eq_true rfl) ⟨Nat.le_of_ble_eq_true rfl, Nat.le_of_ble_eq_true rfl⟩ dX5_comeInIt_8 (fun H locs hM => ?_)
  refine lv_aload_n C0.1 C0.2.1 dX5_comeInIt_11 rfl (lv_at hl 0 rfl) ?_
  refine lv_iload_n C0.1 C0.2.1 dX5_comeInIt_12 rfl (lv_at hl 1 rfl) ?_
  refine lv_bipush (v := (6 : Int32)) C0.1 C0.2.1 dX5_comeInIt_13 (by decide) ?_
  refine lv_iconst (v := (0 : Int32)) C0.1 C0.2.1 dX5_comeInIt_15 (by decide) ?_
  obtain ⟨M5, h4, hF⟩ := bd_some hF
  refine y_vv (rest := []) C0 hM hl.1 ok_md (ent5 ok_md) rfl (k_X5_lay l G M3 a0 (6 : Int32) (0 : Int32) h4) cw_RX5_47 rfl rfl ⟨Nat.le_of_ble_eq_true rfl, Nat.le_of_ble_eq_true rfl⟩ rfl (Nat.le_of_ble_eq_true rfl) ⟨Nat.le_of_ble_eq_true rfl, Nat.le_of_ble_eq_true rfl⟩ dX5_comeInIt_16 (fun H locs hM => ?_)
  refine lv_aload_n C0.1 C0.2.1 dX5_comeInIt_19 rfl (lv_at hl 0 rfl) ?_
  refine lv_iload_n C0.1 C0.2.1 dX5_comeInIt_20 rfl (lv_at hl 1 rfl) ?_
  refine lv_iconst (v := (1 : Int32)) C0.1 C0.2.1 dX5_comeInIt_21 (by decide) ?_
  obtain ⟨r7, h6, hF⟩ := bd_some hF
  refine y_vi (rest := []) C0 hM hl.1 ok_md (ent5 ok_md) rfl (k_X5_of l G M5 a0 (1 : Int32) h6) cw_RX5_32 rfl rfl ⟨Nat.le_of_ble_eq_true rfl, Nat.le_of_ble_eq_true rfl⟩ rfl (Nat.le_of_ble_eq_true rfl) ⟨Nat.le_of_ble_eq_true rfl, Nat.le_of_ble_eq_true rfl⟩ dX5_comeInIt_22 (fun H locs hM => ?_)
  obtain ⟨e8, e9⟩ := y_2 hF
  subst e8
  subst e9
  exact y_iret C0 hM hsz dX5_comeInIt_25

def F_X5_comeIn (M : MS) (a0 : Int32) : Option (Int32 × MS) := (bd (F_X5_isFighter M a0) fun r2 => (nm (fun (s3 : Int32) => (nm (wF M 80 220 s3) fun M5 => (if (rF M5 80 220) ≤ 0 then (bd (F_X5_save M5) fun M8 => (bd2 (F_X5_comeInIt M8 a0) fun r11 M10 => (some (r11, M10)))) else (some ((0 : Int32), M5))))) fun j26_3 => (if ¬ r2 = 0 then (bd (F_X5_canComeIn M a0) fun r14 => (if r14 = 0 then (j26_3 (2 : Int32)) else (j26_3 (0 : Int32)))) else (j26_3 (1 : Int32)))))

set_option maxHeartbeats 4000000 in
set_option maxRecDepth 100000 in
theorem k_X5_comeIn (l : Launch) (G : GG) (M : MS) (a0 : Int32) {r : Int32} {Mf : MS} (hF : F_X5_comeIn M a0 = some (r, Mf)) : KI l yX5_comeIn (WS yX5_comeIn cX5_comeIn 2 (some .int)) (Rm 4) G [.ref (gad G 220), .int a0] M r Mf := by
  intro sz
  refine y_met (by decide +kernel) (Nat.le_of_ble_eq_true rfl) rfl (fun p e s m below meth c ls hsz C0 hM hl => ?_)
  have hl : lv_has ls 2 [(0, .ref (gad G 220)), (1, .int a0)] := hl
  have C0 : CX p s m meth c ([.ref (gad G 220), .int a0] : List Value).toArray cX5_comeIn RX5 2 (some .int) := C0
  rw [F_X5_comeIn] at hF
  refine lv_aload_n C0.1 C0.2.1 dX5_comeIn_0 rfl (lv_at hl 0 rfl) ?_
  refine lv_aload_n C0.1 C0.2.1 dX5_comeIn_1 rfl (lv_at hl 0 rfl) ?_
  refine lv_iload_n C0.1 C0.2.1 dX5_comeIn_2 rfl (lv_at hl 1 rfl) ?_
  obtain ⟨r2, h1, hF⟩ := bd_some hF
  refine y_vi (rest := [.ref (gad G 220)]) C0 hM hl.1 ok_md (ent5 ok_md) rfl (k_X5_isFighter l G M a0 h1) cw_RX5_126 rfl rfl ⟨Nat.le_of_ble_eq_true rfl, Nat.le_of_ble_eq_true rfl⟩ rfl (Nat.le_of_ble_eq_true rfl) ⟨Nat.le_of_ble_eq_true rfl, Nat.le_of_ble_eq_true rfl⟩ dX5_comeIn_3 (fun H locs hM => ?_)
  obtain ⟨j26_3, ej26_3, hF⟩ := nm_some hF
  have J26 : ∀ (s3 : Int32) (H : Heap) (locs : List Loc) (ls : Array Slot), MX G M s H locs → lv_has ls 2 [(0, .ref (gad G 220)), (1, .int a0)] → j26_3 s3 = some (r, Mf) → W p l e (Rm 4) s m ([.ref (gad G 220), .int a0] : List Value).toArray below meth c H locs 0 0 (QI below ([.ref (gad G 220), .int a0] : List Value).toArray s G sz r Mf) (F0 m 26 ls [.int s3, .ref (gad G 220)]) := by
    intro s3 H locs ls hM hl hF
    rw [ej26_3] at hF
    refine pf5_0 C0 hM ok_md fl_RX5_28 dX5_comeIn_26 (fun H locs hM => ?_)
    obtain ⟨M5, eM5, hF⟩ := nm_some hF
    have hM := y_mn eM5 hM
    refine lv_aload_n C0.1 C0.2.1 dX5_comeIn_29 rfl (lv_at hl 0 rfl) ?_
    refine gf5_0 C0 hM ok_md fl_RX5_28 dX5_comeIn_30 ?_
    refine lv_if_le (tgt := 38) C0.1 C0.2.1 dX5_comeIn_33 (by decide) (fun c6 => ?_) (fun c6 => ?_)
    · have hF := if_t c6 hF
      refine lv_aload_n C0.1 C0.2.1 dX5_comeIn_38 rfl (lv_at hl 0 rfl) ?_
      obtain ⟨M8, h7, hF⟩ := bd_some hF
      refine y_vv (rest := []) C0 hM hl.1 ok_md (ent5 ok_md) rfl (k_X5_save l G M5 h7) cw_RX5_82 rfl rfl ⟨Nat.le_of_ble_eq_true rfl, Nat.le_of_ble_eq_true rfl⟩ rfl (Nat.le_of_ble_eq_true rfl) ⟨Nat.le_of_ble_eq_true rfl, Nat.le_of_ble_eq_true rfl⟩ dX5_comeIn_39 (fun H locs hM => ?_)
      refine lv_aload_n C0.1 C0.2.1 dX5_comeIn_42 rfl (lv_at hl 0 rfl) ?_
      refine lv_iload_n C0.1 C0.2.1 dX5_comeIn_43 rfl (lv_at hl 1 rfl) ?_
      obtain ⟨r11, M10, h9, hF⟩ := bd2_some hF
      refine y_vi (rest := []) C0 hM hl.1 ok_md (ent5 ok_md) rfl (k_X5_comeInIt l G M8 a0 h9) cw_RX5_154 rfl rfl ⟨Nat.le_of_ble_eq_true rfl, Nat.le_of_ble_eq_true rfl⟩ rfl (Nat.le_of_ble_eq_true rfl) ⟨Nat.le_of_ble_eq_true rfl, Nat.le_of_ble_eq_true rfl⟩ dX5_comeIn_44 (fun H locs hM => ?_)
      obtain ⟨e8, e9⟩ := y_2 hF
      subst e8
      subst e9
      exact y_iret C0 hM hsz dX5_comeIn_47
    · have hF := if_f c6 hF
      refine lv_iconst (v := (0 : Int32)) C0.1 C0.2.1 dX5_comeIn_36 (by decide) ?_
      obtain ⟨e8, e9⟩ := y_2 hF
      subst e8
      subst e9
      exact y_iret C0 hM hsz dX5_comeIn_37
  refine lv_if_ne (tgt := 13) C0.1 C0.2.1 dX5_comeIn_6 (by decide) (fun c12 => ?_) (fun c12 => ?_)
  · have hF := if_t c12 hF
    refine lv_aload_n C0.1 C0.2.1 dX5_comeIn_13 rfl (lv_at hl 0 rfl) ?_
    refine lv_iload_n C0.1 C0.2.1 dX5_comeIn_14 rfl (lv_at hl 1 rfl) ?_
    obtain ⟨r14, h13, hF⟩ := bd_some hF
    refine y_vi (rest := [.ref (gad G 220)]) C0 hM hl.1 ok_md (ent5 ok_md) rfl (k_X5_canComeIn l G M a0 h13) cw_RX5_151 rfl rfl ⟨Nat.le_of_ble_eq_true rfl, Nat.le_of_ble_eq_true rfl⟩ rfl (Nat.le_of_ble_eq_true rfl) ⟨Nat.le_of_ble_eq_true rfl, Nat.le_of_ble_eq_true rfl⟩ dX5_comeIn_15 (fun H locs hM => ?_)
    refine lv_if_eq (tgt := 25) C0.1 C0.2.1 dX5_comeIn_18 (by decide) (fun c15 => ?_) (fun c15 => ?_)
    · have hF := if_t c15 hF
      refine lv_iconst (v := (2 : Int32)) C0.1 C0.2.1 dX5_comeIn_25 (by decide) ?_
      exact J26 (2 : Int32) _ _ _ hM (lv_sub hl [0, 1] rfl) hF
    · have hF := if_f c15 hF
      refine lv_iconst (v := (0 : Int32)) C0.1 C0.2.1 dX5_comeIn_21 (by decide) ?_
      refine lv_goto (tgt := 26) C0.1 C0.2.1 dX5_comeIn_22 (by decide) ?_
      exact J26 (0 : Int32) _ _ _ hM (lv_sub hl [0, 1] rfl) hF
  · have hF := if_f (fun q => q c12) hF
    refine lv_iconst (v := (1 : Int32)) C0.1 C0.2.1 dX5_comeIn_9 (by decide) ?_
    refine lv_goto (tgt := 26) C0.1 C0.2.1 dX5_comeIn_10 (by decide) ?_
    exact J26 (1 : Int32) _ _ _ hM (lv_sub hl [0, 1] rfl) hF

def F_X5_append (M : MS) (a0 : Int32) : Option (Int32 × MS) := (bd (F_X5_in M a0 (33 : Int32) (126 : Int32)) fun r2 => (nm (fun (s3 : Int32) => (nm (wF M 80 220 s3) fun M5 => (if (rF M5 80 220) ≤ 0 then (gdb (inb (rF M5 86 220) 60) (nm (wA M5 224 (Int32.toNatClampNeg (rF M5 86 220)) a0) fun M8 => (nm (wF M8 86 220 ((rF M8 86 220) + (1 : Int32))) fun M9 => (some ((rF M9 86 220), M9))))) else (some ((0 : Int32), M5))))) fun j30_3 => (if ¬ r2 = 0 then (if ¬ (rF M 86 220) = (60 : Int32) then (j30_3 (0 : Int32)) else (j30_3 (2 : Int32))) else (j30_3 (1 : Int32)))))

set_option maxHeartbeats 4000000 in
set_option maxRecDepth 100000 in
theorem k_X5_append (l : Launch) (G : GG) (M : MS) (a0 : Int32) {r : Int32} {Mf : MS} (hF : F_X5_append M a0 = some (r, Mf)) : KI l yX5_append (WS yX5_append cX5_append 2 (some .int)) (Rm 1) G [.ref (gad G 220), .int a0] M r Mf := by
  intro sz
  refine y_met (by decide +kernel) (Nat.le_of_ble_eq_true rfl) rfl (fun p e s m below meth c ls hsz C0 hM hl => ?_)
  have hl : lv_has ls 2 [(0, .ref (gad G 220)), (1, .int a0)] := hl
  have C0 : CX p s m meth c ([.ref (gad G 220), .int a0] : List Value).toArray cX5_append RX5 2 (some .int) := C0
  rw [F_X5_append] at hF
  refine lv_aload_n C0.1 C0.2.1 dX5_append_0 rfl (lv_at hl 0 rfl) ?_
  refine lv_iload_n C0.1 C0.2.1 dX5_append_1 rfl (lv_at hl 1 rfl) ?_
  refine lv_bipush (v := (33 : Int32)) C0.1 C0.2.1 dX5_append_2 (by decide) ?_
  refine lv_bipush (v := (126 : Int32)) C0.1 C0.2.1 dX5_append_4 (by decide) ?_
  obtain ⟨r2, h1, hF⟩ := bd_some hF
  refine y_si (rest := [.ref (gad G 220)]) C0 hM hl.1 (k_X5_in l G M a0 (33 : Int32) (126 : Int32) h1) cw_RX5_85 rfl rfl ⟨Nat.le_of_ble_eq_true rfl, Nat.le_of_ble_eq_true rfl⟩ rfl (Nat.le_of_ble_eq_true rfl) ⟨Nat.le_of_ble_eq_true rfl, Nat.le_of_ble_eq_true rfl⟩ dX5_append_6 (fun H locs hM => ?_)
  obtain ⟨j30_3, ej30_3, hF⟩ := nm_some hF
  have J30 : ∀ (s3 : Int32) (H : Heap) (locs : List Loc) (ls : Array Slot), MX G M s H locs → lv_has ls 2 [(0, .ref (gad G 220)), (1, .int a0)] → j30_3 s3 = some (r, Mf) → W p l e (Rm 1) s m ([.ref (gad G 220), .int a0] : List Value).toArray below meth c H locs 0 0 (QI below ([.ref (gad G 220), .int a0] : List Value).toArray s G sz r Mf) (F0 m 30 ls [.int s3, .ref (gad G 220)]) := by
    intro s3 H locs ls hM hl hF
    rw [ej30_3] at hF
    refine pf5_0 C0 hM ok_md fl_RX5_28 dX5_append_30 (fun H locs hM => ?_)
    obtain ⟨M5, eM5, hF⟩ := nm_some hF
    have hM := y_mn eM5 hM
    refine lv_aload_n C0.1 C0.2.1 dX5_append_33 rfl (lv_at hl 0 rfl) ?_
    refine gf5_0 C0 hM ok_md fl_RX5_28 dX5_append_34 ?_
    refine lv_if_le (tgt := 42) C0.1 C0.2.1 dX5_append_37 (by decide) (fun c6 => ?_) (fun c6 => ?_)
    · have hF := if_t c6 hF
      refine lv_aload_n C0.1 C0.2.1 dX5_append_42 rfl (lv_at hl 0 rfl) ?_
      refine gf5_5 C0 hM ok_md fl_RX5_19 dX5_append_43 ?_
      refine lv_aload_n C0.1 C0.2.1 dX5_append_46 rfl (lv_at hl 0 rfl) ?_
      refine gf5_6 C0 hM ok_md fl_RX5_157 dX5_append_47 ?_
      refine lv_iload_n C0.1 C0.2.1 dX5_append_50 rfl (lv_at hl 1 rfl) ?_
      obtain ⟨g7, hF⟩ := gdb_some hF
      refine y_iast C0 hM oka_buffer g7 dX5_append_51 (fun H locs hM => ?_)
      obtain ⟨M8, eM8, hF⟩ := nm_some hF
      have hM := y_mn eM8 hM
      refine lv_aload_n C0.1 C0.2.1 dX5_append_52 rfl (lv_at hl 0 rfl) ?_
      refine lv_dup C0.1 C0.2.1 dX5_append_53 rfl ?_
      refine gf5_6 C0 hM ok_md fl_RX5_157 dX5_append_54 ?_
      refine lv_iconst (v := (1 : Int32)) C0.1 C0.2.1 dX5_append_57 (by decide) ?_
      refine lv_iadd C0.1 C0.2.1 dX5_append_58 ?_
      refine pf5_6 C0 hM ok_md fl_RX5_157 dX5_append_59 (fun H locs hM => ?_)
      obtain ⟨M9, eM9, hF⟩ := nm_some hF
      have hM := y_mn eM9 hM
      refine lv_aload_n C0.1 C0.2.1 dX5_append_62 rfl (lv_at hl 0 rfl) ?_
      refine gf5_6 C0 hM ok_md fl_RX5_157 dX5_append_63 ?_
      obtain ⟨e8, e9⟩ := y_2 hF
      subst e8
      subst e9
      exact y_iret C0 hM hsz dX5_append_66
    · have hF := if_f c6 hF
      refine lv_iconst (v := (0 : Int32)) C0.1 C0.2.1 dX5_append_40 (by decide) ?_
      obtain ⟨e8, e9⟩ := y_2 hF
      subst e8
      subst e9
      exact y_iret C0 hM hsz dX5_append_41
  refine lv_if_ne (tgt := 16) C0.1 C0.2.1 dX5_append_9 (by decide) (fun c10 => ?_) (fun c10 => ?_)
  · have hF := if_t c10 hF
    refine lv_aload_n C0.1 C0.2.1 dX5_append_16 rfl (lv_at hl 0 rfl) ?_
    refine gf5_6 C0 hM ok_md fl_RX5_157 dX5_append_17 ?_
    refine lv_bipush (v := (60 : Int32)) C0.1 C0.2.1 dX5_append_20 (by decide) ?_
    refine lv_icmp_ne (tgt := 29) C0.1 C0.2.1 dX5_append_22 (by decide) (fun c11 => ?_) (fun c11 => ?_)
    · have hF := if_t c11 hF
      refine lv_iconst (v := (0 : Int32)) C0.1 C0.2.1 dX5_append_29 (by decide) ?_
      exact J30 (0 : Int32) _ _ _ hM (lv_sub hl [0, 1] rfl) hF
    · have hF := if_f (fun q => q c11) hF
      refine lv_iconst (v := (2 : Int32)) C0.1 C0.2.1 dX5_append_25 (by decide) ?_
      refine lv_goto (tgt := 30) C0.1 C0.2.1 dX5_append_26 (by decide) ?_
      exact J30 (2 : Int32) _ _ _ hM (lv_sub hl [0, 1] rfl) hF
  · have hF := if_f (fun q => q c10) hF
    refine lv_iconst (v := (1 : Int32)) C0.1 C0.2.1 dX5_append_12 (by decide) ?_
    refine lv_goto (tgt := 30) C0.1 C0.2.1 dX5_append_13 (by decide) ?_
    exact J30 (1 : Int32) _ _ _ hM (lv_sub hl [0, 1] rfl) hF

def F_X5_clearBuffer (M : MS) : Option (Int32 × MS) := (nm (wF M 80 220 (0 : Int32)) fun M1 => (nm (rF M1 86 220) fun x2 => (nm (wF M1 86 220 (0 : Int32)) fun M3 => (some (x2, M3)))))

set_option maxHeartbeats 4000000 in
set_option maxRecDepth 100000 in
theorem k_X5_clearBuffer (l : Launch) (G : GG) (M : MS) {r : Int32} {Mf : MS} (hF : F_X5_clearBuffer M = some (r, Mf)) : KI l yX5_clearBuffer (WS yX5_clearBuffer cX5_clearBuffer 2 (some .int)) (Rm 0) G [.ref (gad G 220)] M r Mf := by
  intro sz
  refine y_met (by decide +kernel) (Nat.le_of_ble_eq_true rfl) rfl (fun p e s m below meth c ls hsz C0 hM hl => ?_)
  have hl : lv_has ls 2 [(0, .ref (gad G 220))] := hl
  have C0 : CX p s m meth c ([.ref (gad G 220)] : List Value).toArray cX5_clearBuffer RX5 2 (some .int) := C0
  rw [F_X5_clearBuffer] at hF
  refine lv_aload_n C0.1 C0.2.1 dX5_clearBuffer_0 rfl (lv_at hl 0 rfl) ?_
  refine lv_iconst (v := (0 : Int32)) C0.1 C0.2.1 dX5_clearBuffer_1 (by decide) ?_
  refine pf5_0 C0 hM ok_md fl_RX5_28 dX5_clearBuffer_2 (fun H locs hM => ?_)
  obtain ⟨M1, eM1, hF⟩ := nm_some hF
  have hM := y_mn eM1 hM
  refine lv_aload_n C0.1 C0.2.1 dX5_clearBuffer_5 rfl (lv_at hl 0 rfl) ?_
  refine gf5_6 C0 hM ok_md fl_RX5_157 dX5_clearBuffer_6 ?_
  obtain ⟨x2, ex2, hF⟩ := nm_some hF
  refine y_topi ex2 ?_
  refine lv_istore_n (lv' := [(1, .int x2), (0, .ref (gad G 220))]) C0.1 C0.2.1 dX5_clearBuffer_9 rfl hl (by decide) rfl (fun ls hl => ?_)
  refine lv_aload_n C0.1 C0.2.1 dX5_clearBuffer_10 rfl (lv_at hl 1 rfl) ?_
  refine lv_iconst (v := (0 : Int32)) C0.1 C0.2.1 dX5_clearBuffer_11 (by decide) ?_
  refine pf5_6 C0 hM ok_md fl_RX5_157 dX5_clearBuffer_12 (fun H locs hM => ?_)
  obtain ⟨M3, eM3, hF⟩ := nm_some hF
  have hM := y_mn eM3 hM
  refine lv_iload_n C0.1 C0.2.1 dX5_clearBuffer_15 rfl (lv_at hl 0 rfl) ?_
  obtain ⟨e8, e9⟩ := y_2 hF
  subst e8
  subst e9
  exact y_iret C0 hM hsz dX5_clearBuffer_16

def F_X5_letter (M : MS) : Option Int32 := (if (rF M 86 220) ≤ (rF M 91 220) then (some (-1 : Int32)) else (gdb (inb (rF M 91 220) 60) (some (rA M 224 (Int32.toNatClampNeg (rF M 91 220))))))

set_option maxHeartbeats 4000000 in
set_option maxRecDepth 100000 in
theorem k_X5_letter (l : Launch) (G : GG) (M : MS) {r : Int32} (hF : F_X5_letter M = some r) : KI l yX5_letter (WS yX5_letter cX5_letter 1 (some .int)) (Rm 0) G [.ref (gad G 220)] M r M := by
  intro sz
  refine y_met (by decide +kernel) (Nat.le_of_ble_eq_true rfl) rfl (fun p e s m below meth c ls hsz C0 hM hl => ?_)
  have hl : lv_has ls 1 [(0, .ref (gad G 220))] := hl
  have C0 : CX p s m meth c ([.ref (gad G 220)] : List Value).toArray cX5_letter RX5 1 (some .int) := C0
  rw [F_X5_letter] at hF
  refine lv_aload_n C0.1 C0.2.1 dX5_letter_0 rfl (lv_at hl 0 rfl) ?_
  refine gf5_11 C0 hM ok_md fl_RX5_160 dX5_letter_1 ?_
  refine lv_aload_n C0.1 C0.2.1 dX5_letter_4 rfl (lv_at hl 0 rfl) ?_
  refine gf5_6 C0 hM ok_md fl_RX5_157 dX5_letter_5 ?_
  refine lv_icmp_ge (tgt := 23) C0.1 C0.2.1 dX5_letter_8 (by decide) (fun c1 => ?_) (fun c1 => ?_)
  · have hF := if_t c1 hF
    refine lv_iconst (v := (-1 : Int32)) C0.1 C0.2.1 dX5_letter_23 (by decide) ?_
    have e8 := y_1 hF
    subst e8
    exact y_iret C0 hM hsz dX5_letter_24
  · have hF := if_f c1 hF
    refine lv_aload_n C0.1 C0.2.1 dX5_letter_11 rfl (lv_at hl 0 rfl) ?_
    refine gf5_5 C0 hM ok_md fl_RX5_19 dX5_letter_12 ?_
    refine lv_aload_n C0.1 C0.2.1 dX5_letter_15 rfl (lv_at hl 0 rfl) ?_
    refine gf5_11 C0 hM ok_md fl_RX5_160 dX5_letter_16 ?_
    obtain ⟨g2, hF⟩ := gdb_some hF
    refine y_iald C0 hM oka_buffer g2 dX5_letter_19 ?_
    refine lv_goto (tgt := 24) C0.1 C0.2.1 dX5_letter_20 (by decide) ?_
    have e8 := y_1 hF
    subst e8
    exact y_iret C0 hM hsz dX5_letter_24

def F_X5_wants (M : MS) (a0 : Int32) : Option MS := (if ¬ (rF M 92 220) = (-1 : Int32) then (some M) else (nm (fun (s2 : Int32) => (nm (wF M 92 220 s2) fun M4 => (nm (wF M4 91 220 ((rF M4 91 220) + (1 : Int32))) fun M5 => (some M5)))) fun j21_2 => (if a0 = 0 then (j21_2 (rF M 91 220)) else (j21_2 (-1 : Int32)))))

set_option maxHeartbeats 4000000 in
set_option maxRecDepth 100000 in
theorem k_X5_wants (l : Launch) (G : GG) (M : MS) (a0 : Int32) {Mf : MS} (hF : F_X5_wants M a0 = some Mf) : KV l yX5_wants (WS yX5_wants cX5_wants 2 none) (Rm 0) G [.ref (gad G 220), .int a0] M Mf := by
  intro sz
  refine y_met (by decide +kernel) (Nat.le_of_ble_eq_true rfl) rfl (fun p e s m below meth c ls hsz C0 hM hl => ?_)
  have hl : lv_has ls 2 [(0, .ref (gad G 220)), (1, .int a0)] := hl
  have C0 : CX p s m meth c ([.ref (gad G 220), .int a0] : List Value).toArray cX5_wants RX5 2 none := C0
  rw [F_X5_wants] at hF
  refine lv_aload_n C0.1 C0.2.1 dX5_wants_0 rfl (lv_at hl 0 rfl) ?_
  refine gf5_12 C0 hM ok_md fl_RX5_163 dX5_wants_1 ?_
  refine lv_iconst (v := (-1 : Int32)) C0.1 C0.2.1 dX5_wants_4 (by decide) ?_
  refine lv_icmp_ne (tgt := 34) C0.1 C0.2.1 dX5_wants_5 (by decide) (fun c1 => ?_) (fun c1 => ?_)
  · have hF := if_t c1 hF
    have e9 := y_1 hF
    subst e9
    exact y_vret C0 hM hsz dX5_wants_34
  · have hF := if_f (fun q => q c1) hF
    refine lv_aload_n C0.1 C0.2.1 dX5_wants_8 rfl (lv_at hl 0 rfl) ?_
    refine lv_iload_n C0.1 C0.2.1 dX5_wants_9 rfl (lv_at hl 1 rfl) ?_
    obtain ⟨j21_2, ej21_2, hF⟩ := nm_some hF
    have J21 : ∀ (s2 : Int32) (H : Heap) (locs : List Loc) (ls : Array Slot), MX G M s H locs → lv_has ls 2 [(0, .ref (gad G 220)), (1, .int a0)] → j21_2 s2 = some Mf → W p l e (Rm 0) s m ([.ref (gad G 220), .int a0] : List Value).toArray below meth c H locs 0 0 (QV below ([.ref (gad G 220), .int a0] : List Value).toArray s G sz Mf) (F0 m 21 ls [.int s2, .ref (gad G 220)]) := by
      intro s2 H locs ls hM hl hF
      rw [ej21_2] at hF
      refine pf5_12 C0 hM ok_md fl_RX5_163 dX5_wants_21 (fun H locs hM => ?_)
      obtain ⟨M4, eM4, hF⟩ := nm_some hF
      have hM := y_mn eM4 hM
      refine lv_aload_n C0.1 C0.2.1 dX5_wants_24 rfl (lv_at hl 0 rfl) ?_
      refine lv_dup C0.1 C0.2.1 dX5_wants_25 rfl ?_
      refine gf5_11 C0 hM ok_md fl_RX5_160 dX5_wants_26 ?_
      refine lv_iconst (v := (1 : Int32)) C0.1 C0.2.1 dX5_wants_29 (by decide) ?_
      refine lv_iadd C0.1 C0.2.1 dX5_wants_30 ?_
      refine pf5_11 C0 hM ok_md fl_RX5_160 dX5_wants_31 (fun H locs hM => ?_)
      obtain ⟨M5, eM5, hF⟩ := nm_some hF
      have hM := y_mn eM5 hM
      have e9 := y_1 hF
      subst e9
      exact y_vret C0 hM hsz dX5_wants_34
    refine lv_if_eq (tgt := 17) C0.1 C0.2.1 dX5_wants_10 (by decide) (fun c6 => ?_) (fun c6 => ?_)
    · have hF := if_t c6 hF
      refine lv_aload_n C0.1 C0.2.1 dX5_wants_17 rfl (lv_at hl 0 rfl) ?_
      refine gf5_11 C0 hM ok_md fl_RX5_160 dX5_wants_18 ?_
      exact J21 (rF M 91 220) _ _ _ hM (lv_sub hl [0, 1] rfl) hF
    · have hF := if_f c6 hF
      refine lv_iconst (v := (-1 : Int32)) C0.1 C0.2.1 dX5_wants_13 (by decide) ?_
      refine lv_goto (tgt := 21) C0.1 C0.2.1 dX5_wants_14 (by decide) ?_
      exact J21 (-1 : Int32) _ _ _ hM (lv_sub hl [0, 1] rfl) hF

def F_X5_digit (M : MS) (a0 : Int32) (a1 : Int32) : Option (Int32 × MS) := (bd (F_X5_letter M) fun r2 => (nm (r2 - (48 : Int32)) fun x3 => (bd (F_X5_in M x3 a0 a1) fun r5 => (bd (F_X5_wants M r5) fun M7 => (some (x3, M7))))))

set_option maxHeartbeats 4000000 in
set_option maxRecDepth 100000 in
theorem k_X5_digit (l : Launch) (G : GG) (M : MS) (a0 : Int32) (a1 : Int32) {r : Int32} {Mf : MS} (hF : F_X5_digit M a0 a1 = some (r, Mf)) : KI l yX5_digit (WS yX5_digit cX5_digit 4 (some .int)) (Rm 1) G [.ref (gad G 220), .int a0, .int a1] M r Mf := by
  intro sz
  refine y_met (by decide +kernel) (Nat.le_of_ble_eq_true rfl) rfl (fun p e s m below meth c ls hsz C0 hM hl => ?_)
  have hl : lv_has ls 4 [(0, .ref (gad G 220)), (1, .int a0), (2, .int a1)] := hl
  have C0 : CX p s m meth c ([.ref (gad G 220), .int a0, .int a1] : List Value).toArray cX5_digit RX5 4 (some .int) := C0
  rw [F_X5_digit] at hF
  refine lv_aload_n C0.1 C0.2.1 dX5_digit_0 rfl (lv_at hl 0 rfl) ?_
  obtain ⟨r2, h1, hF⟩ := bd_some hF
  refine y_vi (rest := []) C0 hM hl.1 ok_md (ent5 ok_md) rfl (k_X5_letter l G M h1) cw_RX5_166 rfl rfl ⟨Nat.le_of_ble_eq_true rfl, Nat.le_of_ble_eq_true rfl⟩ rfl (Nat.le_of_ble_eq_true rfl) ⟨Nat.le_of_ble_eq_true rfl, Nat.le_of_ble_eq_true rfl⟩ dX5_digit_1 (fun H locs hM => ?_)
  refine lv_bipush (v := (48 : Int32)) C0.1 C0.2.1 dX5_digit_4 (by decide) ?_
  refine lv_isub C0.1 C0.2.1 dX5_digit_6 ?_
  obtain ⟨x3, ex3, hF⟩ := nm_some hF
  refine y_topi ex3 ?_
  refine lv_istore_n (lv' := [(3, .int x3), (0, .ref (gad G 220)), (1, .int a0), (2, .int a1)]) C0.1 C0.2.1 dX5_digit_7 rfl hl (by decide) rfl (fun ls hl => ?_)
  refine lv_aload_n C0.1 C0.2.1 dX5_digit_8 rfl (lv_at hl 1 rfl) ?_
  refine lv_iload_n C0.1 C0.2.1 dX5_digit_9 rfl (lv_at hl 0 rfl) ?_
  refine lv_iload_n C0.1 C0.2.1 dX5_digit_10 rfl (lv_at hl 2 rfl) ?_
  refine lv_iload_n C0.1 C0.2.1 dX5_digit_11 rfl (lv_at hl 3 rfl) ?_
  obtain ⟨r5, h4, hF⟩ := bd_some hF
  refine y_si (rest := [.ref (gad G 220)]) C0 hM hl.1 (k_X5_in l G M x3 a0 a1 h4) cw_RX5_85 rfl rfl ⟨Nat.le_of_ble_eq_true rfl, Nat.le_of_ble_eq_true rfl⟩ rfl (Nat.le_of_ble_eq_true rfl) ⟨Nat.le_of_ble_eq_true rfl, Nat.le_of_ble_eq_true rfl⟩ dX5_digit_12 (fun H locs hM => ?_)
  obtain ⟨M7, h6, hF⟩ := bd_some hF
  refine y_vv (rest := []) C0 hM hl.1 ok_md (ent5 ok_md) rfl (k_X5_wants l G M r5 h6) cw_RX5_170 rfl rfl ⟨Nat.le_of_ble_eq_true rfl, Nat.le_of_ble_eq_true rfl⟩ rfl (Nat.le_of_ble_eq_true rfl) ⟨Nat.le_of_ble_eq_true rfl, Nat.le_of_ble_eq_true rfl⟩ dX5_digit_15 (fun H locs hM => ?_)
  refine lv_iload_n C0.1 C0.2.1 dX5_digit_18 rfl (lv_at hl 0 rfl) ?_
  obtain ⟨e8, e9⟩ := y_2 hF
  subst e8
  subst e9
  exact y_iret C0 hM hsz dX5_digit_19

def F_X5_readOrder (M : MS) : Option MS := (nm ((4 : Int32) * (rF M 90 220)) fun x1 => (bd (F_X5_letter M) fun r3 => (gdb (inb x1 132) (nm (wA M 226 (Int32.toNatClampNeg x1) r3) fun M5 => (nm (fun (s6 : Int32) => (nm (fun (s8 : Int32) => (bd (F_X5_wants M5 s8) fun M11 => (nm (fun (M12 : MS) => (nm (fun (M14 : MS) => (nm (wF M14 90 220 ((rF M14 90 220) + (1 : Int32))) fun M16 => (some M16))) fun j133_14 => (if ¬ r3 = (99 : Int32) then (j133_14 M12) else (bd2 (F_X5_digit M12 (0 : Int32) (3 : Int32)) fun r20 M19 => (gdb (inb (x1 + (2 : Int32)) 132) (nm (wA M19 226 (Int32.toNatClampNeg (x1 + (2 : Int32))) r20) fun M22 => (bd2 (F_X5_digit M22 (1 : Int32) (5 : Int32)) fun r25 M24 => (gdb (inb (x1 + (3 : Int32)) 132) (nm (wA M24 226 (Int32.toNatClampNeg (x1 + (3 : Int32))) r25) fun M27 => (j133_14 M27)))))))))) fun j99_12 => (if s6 = 0 then (j99_12 M11) else (bd2 (F_X5_digit M11 (0 : Int32) (9 : Int32)) fun r31 M30 => (gdb (inb (x1 + (1 : Int32)) 132) (nm (wA M30 226 (Int32.toNatClampNeg (x1 + (1 : Int32))) r31) fun M33 => (j99_12 M33)))))))) fun j77_8 => (if ¬ s6 = 0 then (j77_8 (1 : Int32)) else (if r3 = (119 : Int32) then (j77_8 (1 : Int32)) else (if ¬ r3 = (101 : Int32) then (j77_8 (0 : Int32)) else (j77_8 (1 : Int32))))))) fun j54_6 => (if r3 = (115 : Int32) then (j54_6 (1 : Int32)) else (if r3 = (109 : Int32) then (j54_6 (1 : Int32)) else (if r3 = (104 : Int32) then (j54_6 (1 : Int32)) else (if r3 = (99 : Int32) then (j54_6 (1 : Int32)) else (if ¬ r3 = (105 : Int32) then (j54_6 (0 : Int32)) else (j54_6 (1 : Int32))))))))))))

set_option maxHeartbeats 4000000 in
set_option maxRecDepth 100000 in
theorem k_X5_readOrder (l : Launch) (G : GG) (M : MS) {Mf : MS} (hF : F_X5_readOrder M = some Mf) : KV l yX5_readOrder (WS yX5_readOrder cX5_readOrder 4 none) (Rm 2) G [.ref (gad G 220)] M Mf := by
  intro sz
  refine y_met (by decide +kernel) (Nat.le_of_ble_eq_true rfl) rfl (fun p e s m below meth c ls hsz C0 hM hl => ?_)
  have hl : lv_has ls 4 [(0, .ref (gad G 220))] := hl
  have C0 : CX p s m meth c ([.ref (gad G 220)] : List Value).toArray cX5_readOrder RX5 4 none := C0
  rw [F_X5_readOrder] at hF
  refine lv_iconst (v := (4 : Int32)) C0.1 C0.2.1 dX5_readOrder_0 (by decide) ?_
  refine lv_aload_n C0.1 C0.2.1 dX5_readOrder_1 rfl (lv_at hl 0 rfl) ?_
  refine gf5_10 C0 hM ok_md fl_RX5_174 dX5_readOrder_2 ?_
  refine lv_imul C0.1 C0.2.1 dX5_readOrder_5 ?_
  obtain ⟨x1, ex1, hF⟩ := nm_some hF
  refine y_topi ex1 ?_
  refine lv_istore_n (lv' := [(1, .int x1), (0, .ref (gad G 220))]) C0.1 C0.2.1 dX5_readOrder_6 rfl hl (by decide) rfl (fun ls hl => ?_)
  refine lv_aload_n C0.1 C0.2.1 dX5_readOrder_7 rfl (lv_at hl 1 rfl) ?_
  obtain ⟨r3, h2, hF⟩ := bd_some hF
  refine y_vi (rest := []) C0 hM hl.1 ok_md (ent5 ok_md) rfl (k_X5_letter l G M h2) cw_RX5_166 rfl rfl ⟨Nat.le_of_ble_eq_true rfl, Nat.le_of_ble_eq_true rfl⟩ rfl (Nat.le_of_ble_eq_true rfl) ⟨Nat.le_of_ble_eq_true rfl, Nat.le_of_ble_eq_true rfl⟩ dX5_readOrder_8 (fun H locs hM => ?_)
  refine lv_istore_n (lv' := [(2, .int r3), (1, .int x1), (0, .ref (gad G 220))]) C0.1 C0.2.1 dX5_readOrder_11 rfl hl (by decide) rfl (fun ls hl => ?_)
  refine lv_aload_n C0.1 C0.2.1 dX5_readOrder_12 rfl (lv_at hl 2 rfl) ?_
  refine gf5_9 C0 hM ok_md fl_RX5_25 dX5_readOrder_13 ?_
  refine lv_iload_n C0.1 C0.2.1 dX5_readOrder_16 rfl (lv_at hl 1 rfl) ?_
  refine lv_iload_n C0.1 C0.2.1 dX5_readOrder_17 rfl (lv_at hl 0 rfl) ?_
  obtain ⟨g4, hF⟩ := gdb_some hF
  refine y_iast C0 hM oka_orders g4 dX5_readOrder_18 (fun H locs hM => ?_)
  obtain ⟨M5, eM5, hF⟩ := nm_some hF
  have hM := y_mn eM5 hM
  refine lv_iload_n C0.1 C0.2.1 dX5_readOrder_19 rfl (lv_at hl 0 rfl) ?_
  refine lv_bipush (v := (115 : Int32)) C0.1 C0.2.1 dX5_readOrder_20 (by decide) ?_
  obtain ⟨j54_6, ej54_6, hF⟩ := nm_some hF
  have J54 : ∀ (s6 : Int32) (H : Heap) (locs : List Loc) (ls : Array Slot), MX G M5 s H locs → lv_has ls 4 [(0, .ref (gad G 220)), (1, .int x1), (2, .int r3)] → j54_6 s6 = some Mf → W p l e (Rm 2) s m ([.ref (gad G 220)] : List Value).toArray below meth c H locs 0 0 (QV below ([.ref (gad G 220)] : List Value).toArray s G sz Mf) (F0 m 54 ls [.int s6]) := by
    intro s6 H locs ls hM hl hF
    rw [ej54_6] at hF
    refine lv_istore_n (lv' := [(3, .int s6), (0, .ref (gad G 220)), (1, .int x1), (2, .int r3)]) C0.1 C0.2.1 dX5_readOrder_54 rfl hl (by decide) rfl (fun ls hl => ?_)
    refine lv_aload_n C0.1 C0.2.1 dX5_readOrder_55 rfl (lv_at hl 1 rfl) ?_
    refine lv_iload_n C0.1 C0.2.1 dX5_readOrder_56 rfl (lv_at hl 0 rfl) ?_
    obtain ⟨j77_8, ej77_8, hF⟩ := nm_some hF
    have J77 : ∀ (s8 : Int32) (H : Heap) (locs : List Loc) (ls : Array Slot), MX G M5 s H locs → lv_has ls 4 [(0, .ref (gad G 220)), (1, .int x1), (2, .int r3), (3, .int s6)] → j77_8 s8 = some Mf → W p l e (Rm 2) s m ([.ref (gad G 220)] : List Value).toArray below meth c H locs 0 0 (QV below ([.ref (gad G 220)] : List Value).toArray s G sz Mf) (F0 m 77 ls [.int s8, .ref (gad G 220)]) := by
      intro s8 H locs ls hM hl hF
      rw [ej77_8] at hF
      obtain ⟨M11, h10, hF⟩ := bd_some hF
      refine y_vv (rest := []) C0 hM hl.1 ok_md (ent5 ok_md) rfl (k_X5_wants l G M5 s8 h10) cw_RX5_170 rfl rfl ⟨Nat.le_of_ble_eq_true rfl, Nat.le_of_ble_eq_true rfl⟩ rfl (Nat.le_of_ble_eq_true rfl) ⟨Nat.le_of_ble_eq_true rfl, Nat.le_of_ble_eq_true rfl⟩ dX5_readOrder_77 (fun H locs hM => ?_)
      refine lv_iload_n C0.1 C0.2.1 dX5_readOrder_80 rfl (lv_at hl 3 rfl) ?_
      obtain ⟨j99_12, ej99_12, hF⟩ := nm_some hF
      have J99 : ∀ (M12 : MS) (H : Heap) (locs : List Loc) (ls : Array Slot), MX G M12 s H locs → lv_has ls 4 [(0, .ref (gad G 220)), (1, .int x1), (2, .int r3), (3, .int s6)] → j99_12 M12 = some Mf → W p l e (Rm 2) s m ([.ref (gad G 220)] : List Value).toArray below meth c H locs 0 0 (QV below ([.ref (gad G 220)] : List Value).toArray s G sz Mf) (F0 m 99 ls []) := by
        intro M12 H locs ls hM hl hF
        rw [ej99_12] at hF
        refine lv_iload_n C0.1 C0.2.1 dX5_readOrder_99 rfl (lv_at hl 2 rfl) ?_
        refine lv_bipush (v := (99 : Int32)) C0.1 C0.2.1 dX5_readOrder_100 (by decide) ?_
        obtain ⟨j133_14, ej133_14, hF⟩ := nm_some hF
        have J133 : ∀ (M14 : MS) (H : Heap) (locs : List Loc) (ls : Array Slot), MX G M14 s H locs → lv_has ls 4 [(0, .ref (gad G 220)), (1, .int x1), (2, .int r3), (3, .int s6)] → j133_14 M14 = some Mf → W p l e (Rm 2) s m ([.ref (gad G 220)] : List Value).toArray below meth c H locs 0 0 (QV below ([.ref (gad G 220)] : List Value).toArray s G sz Mf) (F0 m 133 ls []) := by
          intro M14 H locs ls hM hl hF
          rw [ej133_14] at hF
          refine lv_aload_n C0.1 C0.2.1 dX5_readOrder_133 rfl (lv_at hl 0 rfl) ?_
          refine lv_dup C0.1 C0.2.1 dX5_readOrder_134 rfl ?_
          refine gf5_10 C0 hM ok_md fl_RX5_174 dX5_readOrder_135 ?_
          refine lv_iconst (v := (1 : Int32)) C0.1 C0.2.1 dX5_readOrder_138 (by decide) ?_
          refine lv_iadd C0.1 C0.2.1 dX5_readOrder_139 ?_
          refine pf5_10 C0 hM ok_md fl_RX5_174 dX5_readOrder_140 (fun H locs hM => ?_)
          obtain ⟨M16, eM16, hF⟩ := nm_some hF
          have hM := y_mn eM16 hM
          have e9 := y_1 hF
          subst e9
          exact y_vret C0 hM hsz dX5_readOrder_143
        refine lv_icmp_ne (tgt := 133) C0.1 C0.2.1 dX5_readOrder_102 (by decide) (fun c17 => ?_) (fun c17 => ?_)
        · have hF := if_t c17 hF
          exact J133 M12 _ _ _ hM (lv_sub hl [0, 1, 2, 3] rfl) hF
        · have hF := if_f (fun q => q c17) hF
          refine lv_aload_n C0.1 C0.2.1 dX5_readOrder_105 rfl (lv_at hl 0 rfl) ?_
          refine gf5_9 C0 hM ok_md fl_RX5_25 dX5_readOrder_106 ?_
          refine lv_iload_n C0.1 C0.2.1 dX5_readOrder_109 rfl (lv_at hl 1 rfl) ?_
          refine lv_iconst (v := (2 : Int32)) C0.1 C0.2.1 dX5_readOrder_110 (by decide) ?_
          refine lv_iadd C0.1 C0.2.1 dX5_readOrder_111 ?_
          refine lv_aload_n C0.1 C0.2.1 dX5_readOrder_112 rfl (lv_at hl 0 rfl) ?_
          refine lv_iconst (v := (0 : Int32)) C0.1 C0.2.1 dX5_readOrder_113 (by decide) ?_
          refine lv_iconst (v := (3 : Int32)) C0.1 C0.2.1 dX5_readOrder_114 (by decide) ?_
          obtain ⟨r20, M19, h18, hF⟩ := bd2_some hF
          refine y_vi (rest := [.int (x1 + (2 : Int32)), .ref (gad G 226)]) C0 hM hl.1 ok_md (ent5 ok_md) rfl (k_X5_digit l G M12 (0 : Int32) (3 : Int32) h18) cw_RX5_177 rfl rfl ⟨Nat.le_of_ble_eq_true rfl, Nat.le_of_ble_eq_true rfl⟩ rfl (Nat.le_of_ble_eq_true rfl) ⟨Nat.le_of_ble_eq_true rfl, Nat.le_of_ble_eq_true rfl⟩ dX5_readOrder_115 (fun H locs hM => ?_)
          obtain ⟨g21, hF⟩ := gdb_some hF
          refine y_iast C0 hM oka_orders g21 dX5_readOrder_118 (fun H locs hM => ?_)
          obtain ⟨M22, eM22, hF⟩ := nm_some hF
          have hM := y_mn eM22 hM
          refine lv_aload_n C0.1 C0.2.1 dX5_readOrder_119 rfl (lv_at hl 0 rfl) ?_
          refine gf5_9 C0 hM ok_md fl_RX5_25 dX5_readOrder_120 ?_
          refine lv_iload_n C0.1 C0.2.1 dX5_readOrder_123 rfl (lv_at hl 1 rfl) ?_
          refine lv_iconst (v := (3 : Int32)) C0.1 C0.2.1 dX5_readOrder_124 (by decide) ?_
          refine lv_iadd C0.1 C0.2.1 dX5_readOrder_125 ?_
          refine lv_aload_n C0.1 C0.2.1 dX5_readOrder_126 rfl (lv_at hl 0 rfl) ?_
          refine lv_iconst (v := (1 : Int32)) C0.1 C0.2.1 dX5_readOrder_127 (by decide) ?_
          refine lv_iconst (v := (5 : Int32)) C0.1 C0.2.1 dX5_readOrder_128 (by decide) ?_
          obtain ⟨r25, M24, h23, hF⟩ := bd2_some hF
          refine y_vi (rest := [.int (x1 + (3 : Int32)), .ref (gad G 226)]) C0 hM hl.1 ok_md (ent5 ok_md) rfl (k_X5_digit l G M22 (1 : Int32) (5 : Int32) h23) cw_RX5_177 rfl rfl ⟨Nat.le_of_ble_eq_true rfl, Nat.le_of_ble_eq_true rfl⟩ rfl (Nat.le_of_ble_eq_true rfl) ⟨Nat.le_of_ble_eq_true rfl, Nat.le_of_ble_eq_true rfl⟩ dX5_readOrder_129 (fun H locs hM => ?_)
          obtain ⟨g26, hF⟩ := gdb_some hF
          refine y_iast C0 hM oka_orders g26 dX5_readOrder_132 (fun H locs hM => ?_)
          obtain ⟨M27, eM27, hF⟩ := nm_some hF
          have hM := y_mn eM27 hM
          exact J133 M27 _ _ _ hM (lv_sub hl [0, 1, 2, 3] rfl) hF
      refine lv_if_eq (tgt := 99) C0.1 C0.2.1 dX5_readOrder_81 (by decide) (fun c28 => ?_) (fun c28 => ?_)
      · have hF := if_t c28 hF
        exact J99 M11 _ _ _ hM (lv_sub hl [0, 1, 2, 3] rfl) hF
      · have hF := if_f c28 hF
        refine lv_aload_n C0.1 C0.2.1 dX5_readOrder_84 rfl (lv_at hl 0 rfl) ?_
        refine gf5_9 C0 hM ok_md fl_RX5_25 dX5_readOrder_85 ?_
        refine lv_iload_n C0.1 C0.2.1 dX5_readOrder_88 rfl (lv_at hl 1 rfl) ?_
        refine lv_iconst (v := (1 : Int32)) C0.1 C0.2.1 dX5_readOrder_89 (by decide) ?_
        refine lv_iadd C0.1 C0.2.1 dX5_readOrder_90 ?_
        refine lv_aload_n C0.1 C0.2.1 dX5_readOrder_91 rfl (lv_at hl 0 rfl) ?_
        refine lv_iconst (v := (0 : Int32)) C0.1 C0.2.1 dX5_readOrder_92 (by decide) ?_
        refine lv_bipush (v := (9 : Int32)) C0.1 C0.2.1 dX5_readOrder_93 (by decide) ?_
        obtain ⟨r31, M30, h29, hF⟩ := bd2_some hF
        refine y_vi (rest := [.int (x1 + (1 : Int32)), .ref (gad G 226)]) C0 hM hl.1 ok_md (ent5 ok_md) rfl (k_X5_digit l G M11 (0 : Int32) (9 : Int32) h29) cw_RX5_177 rfl rfl ⟨Nat.le_of_ble_eq_true rfl, Nat.le_of_ble_eq_true rfl⟩ rfl (Nat.le_of_ble_eq_true rfl) ⟨Nat.le_of_ble_eq_true rfl, Nat.le_of_ble_eq_true rfl⟩ dX5_readOrder_95 (fun H locs hM => ?_)
        obtain ⟨g32, hF⟩ := gdb_some hF
        refine y_iast C0 hM oka_orders g32 dX5_readOrder_98 (fun H locs hM => ?_)
        obtain ⟨M33, eM33, hF⟩ := nm_some hF
        have hM := y_mn eM33 hM
        exact J99 M33 _ _ _ hM (lv_sub hl [0, 1, 2, 3] rfl) hF
    refine lv_if_ne (tgt := 72) C0.1 C0.2.1 dX5_readOrder_57 (by decide) (fun c34 => ?_) (fun c34 => ?_)
    · have hF := if_t c34 hF
      refine lv_iconst (v := (1 : Int32)) C0.1 C0.2.1 dX5_readOrder_72 (by decide) ?_
      refine lv_goto (tgt := 77) C0.1 C0.2.1 dX5_readOrder_73 (by decide) ?_
      exact J77 (1 : Int32) _ _ _ hM (lv_sub hl [1, 2, 3, 0] rfl) hF
    · have hF := if_f (fun q => q c34) hF
      refine lv_iload_n C0.1 C0.2.1 dX5_readOrder_60 rfl (lv_at hl 3 rfl) ?_
      refine lv_bipush (v := (119 : Int32)) C0.1 C0.2.1 dX5_readOrder_61 (by decide) ?_
      refine lv_icmp_eq (tgt := 72) C0.1 C0.2.1 dX5_readOrder_63 (by decide) (fun c35 => ?_) (fun c35 => ?_)
      · have hF := if_t c35 hF
        refine lv_iconst (v := (1 : Int32)) C0.1 C0.2.1 dX5_readOrder_72 (by decide) ?_
        refine lv_goto (tgt := 77) C0.1 C0.2.1 dX5_readOrder_73 (by decide) ?_
        exact J77 (1 : Int32) _ _ _ hM (lv_sub hl [1, 2, 3, 0] rfl) hF
      · have hF := if_f c35 hF
        refine lv_iload_n C0.1 C0.2.1 dX5_readOrder_66 rfl (lv_at hl 3 rfl) ?_
        refine lv_bipush (v := (101 : Int32)) C0.1 C0.2.1 dX5_readOrder_67 (by decide) ?_
        refine lv_icmp_ne (tgt := 76) C0.1 C0.2.1 dX5_readOrder_69 (by decide) (fun c36 => ?_) (fun c36 => ?_)
        · have hF := if_t c36 hF
          refine lv_iconst (v := (0 : Int32)) C0.1 C0.2.1 dX5_readOrder_76 (by decide) ?_
          exact J77 (0 : Int32) _ _ _ hM (lv_sub hl [1, 2, 3, 0] rfl) hF
        · have hF := if_f (fun q => q c36) hF
          refine lv_iconst (v := (1 : Int32)) C0.1 C0.2.1 dX5_readOrder_72 (by decide) ?_
          refine lv_goto (tgt := 77) C0.1 C0.2.1 dX5_readOrder_73 (by decide) ?_
          exact J77 (1 : Int32) _ _ _ hM (lv_sub hl [1, 2, 3, 0] rfl) hF
  refine lv_icmp_eq (tgt := 49) C0.1 C0.2.1 dX5_readOrder_22 (by decide) (fun c37 => ?_) (fun c37 => ?_)
  · have hF := if_t c37 hF
    refine lv_iconst (v := (1 : Int32)) C0.1 C0.2.1 dX5_readOrder_49 (by decide) ?_
    refine lv_goto (tgt := 54) C0.1 C0.2.1 dX5_readOrder_50 (by decide) ?_
    exact J54 (1 : Int32) _ _ _ hM (lv_sub hl [2, 1, 0] rfl) hF
  · have hF := if_f c37 hF
    refine lv_iload_n C0.1 C0.2.1 dX5_readOrder_25 rfl (lv_at hl 0 rfl) ?_
    refine lv_bipush (v := (109 : Int32)) C0.1 C0.2.1 dX5_readOrder_26 (by decide) ?_
    refine lv_icmp_eq (tgt := 49) C0.1 C0.2.1 dX5_readOrder_28 (by decide) (fun c38 => ?_) (fun c38 => ?_)
    · have hF := if_t c38 hF
      refine lv_iconst (v := (1 : Int32)) C0.1 C0.2.1 dX5_readOrder_49 (by decide) ?_
      refine lv_goto (tgt := 54) C0.1 C0.2.1 dX5_readOrder_50 (by decide) ?_
      exact J54 (1 : Int32) _ _ _ hM (lv_sub hl [2, 1, 0] rfl) hF
    · have hF := if_f c38 hF
      refine lv_iload_n C0.1 C0.2.1 dX5_readOrder_31 rfl (lv_at hl 0 rfl) ?_
      refine lv_bipush (v := (104 : Int32)) C0.1 C0.2.1 dX5_readOrder_32 (by decide) ?_
      refine lv_icmp_eq (tgt := 49) C0.1 C0.2.1 dX5_readOrder_34 (by decide) (fun c39 => ?_) (fun c39 => ?_)
      · have hF := if_t c39 hF
        refine lv_iconst (v := (1 : Int32)) C0.1 C0.2.1 dX5_readOrder_49 (by decide) ?_
        refine lv_goto (tgt := 54) C0.1 C0.2.1 dX5_readOrder_50 (by decide) ?_
        exact J54 (1 : Int32) _ _ _ hM (lv_sub hl [2, 1, 0] rfl) hF
      · have hF := if_f c39 hF
        refine lv_iload_n C0.1 C0.2.1 dX5_readOrder_37 rfl (lv_at hl 0 rfl) ?_
        refine lv_bipush (v := (99 : Int32)) C0.1 C0.2.1 dX5_readOrder_38 (by decide) ?_
        refine lv_icmp_eq (tgt := 49) C0.1 C0.2.1 dX5_readOrder_40 (by decide) (fun c40 => ?_) (fun c40 => ?_)
        · have hF := if_t c40 hF
          refine lv_iconst (v := (1 : Int32)) C0.1 C0.2.1 dX5_readOrder_49 (by decide) ?_
          refine lv_goto (tgt := 54) C0.1 C0.2.1 dX5_readOrder_50 (by decide) ?_
          exact J54 (1 : Int32) _ _ _ hM (lv_sub hl [2, 1, 0] rfl) hF
        · have hF := if_f c40 hF
          refine lv_iload_n C0.1 C0.2.1 dX5_readOrder_43 rfl (lv_at hl 0 rfl) ?_
          refine lv_bipush (v := (105 : Int32)) C0.1 C0.2.1 dX5_readOrder_44 (by decide) ?_
          refine lv_icmp_ne (tgt := 53) C0.1 C0.2.1 dX5_readOrder_46 (by decide) (fun c41 => ?_) (fun c41 => ?_)
          · have hF := if_t c41 hF
            refine lv_iconst (v := (0 : Int32)) C0.1 C0.2.1 dX5_readOrder_53 (by decide) ?_
            exact J54 (0 : Int32) _ _ _ hM (lv_sub hl [2, 1, 0] rfl) hF
          · have hF := if_f (fun q => q c41) hF
            refine lv_iconst (v := (1 : Int32)) C0.1 C0.2.1 dX5_readOrder_49 (by decide) ?_
            refine lv_goto (tgt := 54) C0.1 C0.2.1 dX5_readOrder_50 (by decide) ?_
            exact J54 (1 : Int32) _ _ _ hM (lv_sub hl [2, 1, 0] rfl) hF

def F_X5_readBuffer_l17 : Nat → Int32 → MS → Option (Int32 × MS)
  | 0, _, _ => none
  | n17 + 1, l1_4, M5 => (if l1_4 = 0 then (some ((rF M5 92 220), M5)) else (bd (F_X5_readOrder M5) fun M8 => (nm (fun (s9 : Int32) => (if s9 = 0 then (F_X5_readBuffer_l17 n17 s9 M8) else (bd (F_X5_letter M8) fun r13 => (nm (fun (s14 : Int32) => (bd (F_X5_wants M8 s14) fun M17 => (if ¬ (rF M17 92 220) = (-1 : Int32) then (F_X5_readBuffer_l17 n17 (0 : Int32) M17) else (F_X5_readBuffer_l17 n17 (1 : Int32) M17)))) fun j69_14 => (if ¬ r13 = (59 : Int32) then (j69_14 (0 : Int32)) else (j69_14 (1 : Int32))))))) fun j49_9 => (if ¬ (rF M8 92 220) = (-1 : Int32) then (j49_9 (0 : Int32)) else (if (rF M8 86 220) ≤ (rF M8 91 220) then (j49_9 (0 : Int32)) else (j49_9 (1 : Int32)))))))

def F_X5_readBuffer (M : MS) : Option (Int32 × MS) := (nm (wF M 90 220 (0 : Int32)) fun M1 => (nm (wF M1 91 220 (0 : Int32)) fun M2 => (nm (wF M2 92 220 (-1 : Int32)) fun M3 => (F_X5_readBuffer_l17 FU (1 : Int32) M3))))

set_option maxHeartbeats 4000000 in
set_option maxRecDepth 100000 in
theorem k_X5_readBuffer (l : Launch) (G : GG) (M : MS) {r : Int32} {Mf : MS} (hF : F_X5_readBuffer M = some (r, Mf)) : KI l yX5_readBuffer (WS yX5_readBuffer cX5_readBuffer 2 (some .int)) (Rm 3) G [.ref (gad G 220)] M r Mf := by
  intro sz
  refine y_met (by decide +kernel) (Nat.le_of_ble_eq_true rfl) rfl (fun p e s m below meth c ls hsz C0 hM hl => ?_)
  have hl : lv_has ls 2 [(0, .ref (gad G 220))] := hl
  have C0 : CX p s m meth c ([.ref (gad G 220)] : List Value).toArray cX5_readBuffer RX5 2 (some .int) := C0
  rw [F_X5_readBuffer] at hF
  refine lv_aload_n C0.1 C0.2.1 dX5_readBuffer_0 rfl (lv_at hl 0 rfl) ?_
  refine lv_iconst (v := (0 : Int32)) C0.1 C0.2.1 dX5_readBuffer_1 (by decide) ?_
  refine pf5_10 C0 hM ok_md fl_RX5_174 dX5_readBuffer_2 (fun H locs hM => ?_)
  obtain ⟨M1, eM1, hF⟩ := nm_some hF
  have hM := y_mn eM1 hM
  refine lv_aload_n C0.1 C0.2.1 dX5_readBuffer_5 rfl (lv_at hl 0 rfl) ?_
  refine lv_iconst (v := (0 : Int32)) C0.1 C0.2.1 dX5_readBuffer_6 (by decide) ?_
  refine pf5_11 C0 hM ok_md fl_RX5_160 dX5_readBuffer_7 (fun H locs hM => ?_)
  obtain ⟨M2, eM2, hF⟩ := nm_some hF
  have hM := y_mn eM2 hM
  refine lv_aload_n C0.1 C0.2.1 dX5_readBuffer_10 rfl (lv_at hl 0 rfl) ?_
  refine lv_iconst (v := (-1 : Int32)) C0.1 C0.2.1 dX5_readBuffer_11 (by decide) ?_
  refine pf5_12 C0 hM ok_md fl_RX5_163 dX5_readBuffer_12 (fun H locs hM => ?_)
  obtain ⟨M3, eM3, hF⟩ := nm_some hF
  have hM := y_mn eM3 hM
  refine lv_iconst (v := (1 : Int32)) C0.1 C0.2.1 dX5_readBuffer_15 (by decide) ?_
  refine lv_istore_n (lv' := [(1, .int (1 : Int32)), (0, .ref (gad G 220))]) C0.1 C0.2.1 dX5_readBuffer_16 rfl hl (by decide) rfl (fun ls hl => ?_)
  have L17 : ∀ (n : Nat) (l1_4 : Int32) (M5 : MS) (H : Heap) (locs : List Loc) (ls : Array Slot), MX G M5 s H locs → lv_has ls 2 [(0, .ref (gad G 220)), (1, .int l1_4)] → F_X5_readBuffer_l17 n l1_4 M5 = some (r, Mf) → W p l e (Rm 3) s m ([.ref (gad G 220)] : List Value).toArray below meth c H locs 0 0 (QI below ([.ref (gad G 220)] : List Value).toArray s G sz r Mf) (F0 m 17 ls []) := by
    intro n
    induction n with
    | zero => intro l1_4 M5 H locs ls hM hl hF; rw [F_X5_readBuffer_l17] at hF; cases hF
    | succ n17 ih17 =>
      intro l1_4 M5 H locs ls hM hl hF
      rw [F_X5_readBuffer_l17] at hF
      refine lv_iload_n C0.1 C0.2.1 dX5_readBuffer_17 rfl (lv_at hl 1 rfl) ?_
      refine lv_if_eq (tgt := 89) C0.1 C0.2.1 dX5_readBuffer_18 (by decide) (fun c6 => ?_) (fun c6 => ?_)
      · have hF := if_t c6 hF
        refine lv_aload_n C0.1 C0.2.1 dX5_readBuffer_89 rfl (lv_at hl 0 rfl) ?_
        refine gf5_12 C0 hM ok_md fl_RX5_163 dX5_readBuffer_90 ?_
        obtain ⟨e8, e9⟩ := y_2 hF
        subst e8
        subst e9
        exact y_iret C0 hM hsz dX5_readBuffer_93
      · have hF := if_f c6 hF
        refine lv_aload_n C0.1 C0.2.1 dX5_readBuffer_21 rfl (lv_at hl 0 rfl) ?_
        obtain ⟨M8, h7, hF⟩ := bd_some hF
        refine y_vv (rest := []) C0 hM hl.1 ok_md (ent5 ok_md) rfl (k_X5_readOrder l G M5 h7) cw_RX5_180 rfl rfl ⟨Nat.le_of_ble_eq_true rfl, Nat.le_of_ble_eq_true rfl⟩ rfl (Nat.le_of_ble_eq_true rfl) ⟨Nat.le_of_ble_eq_true rfl, Nat.le_of_ble_eq_true rfl⟩ dX5_readBuffer_22 (fun H locs hM => ?_)
        refine lv_aload_n C0.1 C0.2.1 dX5_readBuffer_25 rfl (lv_at hl 0 rfl) ?_
        refine gf5_12 C0 hM ok_md fl_RX5_163 dX5_readBuffer_26 ?_
        refine lv_iconst (v := (-1 : Int32)) C0.1 C0.2.1 dX5_readBuffer_29 (by decide) ?_
        obtain ⟨j49_9, ej49_9, hF⟩ := nm_some hF
        have J49 : ∀ (s9 : Int32) (H : Heap) (locs : List Loc) (ls : Array Slot), MX G M8 s H locs → lv_has ls 2 [(0, .ref (gad G 220)), (1, .int l1_4)] → j49_9 s9 = some (r, Mf) → W p l e (Rm 3) s m ([.ref (gad G 220)] : List Value).toArray below meth c H locs 0 0 (QI below ([.ref (gad G 220)] : List Value).toArray s G sz r Mf) (F0 m 49 ls [.int s9]) := by
          intro s9 H locs ls hM hl hF
          rw [ej49_9] at hF
          refine lv_istore_n (lv' := [(1, .int s9), (0, .ref (gad G 220))]) C0.1 C0.2.1 dX5_readBuffer_49 rfl hl (by decide) rfl (fun ls hl => ?_)
          refine lv_iload_n C0.1 C0.2.1 dX5_readBuffer_50 rfl (lv_at hl 0 rfl) ?_
          refine lv_if_eq (tgt := 17) C0.1 C0.2.1 dX5_readBuffer_51 (by decide) (fun c11 => ?_) (fun c11 => ?_)
          · have hF := if_t c11 hF
            exact ih17 s9 M8 _ _ _ hM (lv_sub hl [1, 0] rfl) hF
          · have hF := if_f c11 hF
            refine lv_aload_n C0.1 C0.2.1 dX5_readBuffer_54 rfl (lv_at hl 1 rfl) ?_
            refine lv_aload_n C0.1 C0.2.1 dX5_readBuffer_55 rfl (lv_at hl 1 rfl) ?_
            obtain ⟨r13, h12, hF⟩ := bd_some hF
            refine y_vi (rest := [.ref (gad G 220)]) C0 hM hl.1 ok_md (ent5 ok_md) rfl (k_X5_letter l G M8 h12) cw_RX5_166 rfl rfl ⟨Nat.le_of_ble_eq_true rfl, Nat.le_of_ble_eq_true rfl⟩ rfl (Nat.le_of_ble_eq_true rfl) ⟨Nat.le_of_ble_eq_true rfl, Nat.le_of_ble_eq_true rfl⟩ dX5_readBuffer_56 (fun H locs hM => ?_)
            refine lv_bipush (v := (59 : Int32)) C0.1 C0.2.1 dX5_readBuffer_59 (by decide) ?_
            obtain ⟨j69_14, ej69_14, hF⟩ := nm_some hF
            have J69 : ∀ (s14 : Int32) (H : Heap) (locs : List Loc) (ls : Array Slot), MX G M8 s H locs → lv_has ls 2 [(0, .ref (gad G 220)), (1, .int s9)] → j69_14 s14 = some (r, Mf) → W p l e (Rm 3) s m ([.ref (gad G 220)] : List Value).toArray below meth c H locs 0 0 (QI below ([.ref (gad G 220)] : List Value).toArray s G sz r Mf) (F0 m 69 ls [.int s14, .ref (gad G 220)]) := by
              intro s14 H locs ls hM hl hF
              rw [ej69_14] at hF
              obtain ⟨M17, h16, hF⟩ := bd_some hF
              refine y_vv (rest := []) C0 hM hl.1 ok_md (ent5 ok_md) rfl (k_X5_wants l G M8 s14 h16) cw_RX5_170 rfl rfl ⟨Nat.le_of_ble_eq_true rfl, Nat.le_of_ble_eq_true rfl⟩ rfl (Nat.le_of_ble_eq_true rfl) ⟨Nat.le_of_ble_eq_true rfl, Nat.le_of_ble_eq_true rfl⟩ dX5_readBuffer_69 (fun H locs hM => ?_)
              refine lv_aload_n C0.1 C0.2.1 dX5_readBuffer_72 rfl (lv_at hl 0 rfl) ?_
              refine gf5_12 C0 hM ok_md fl_RX5_163 dX5_readBuffer_73 ?_
              refine lv_iconst (v := (-1 : Int32)) C0.1 C0.2.1 dX5_readBuffer_76 (by decide) ?_
              refine lv_icmp_ne (tgt := 84) C0.1 C0.2.1 dX5_readBuffer_77 (by decide) (fun c18 => ?_) (fun c18 => ?_)
              · have hF := if_t c18 hF
                refine lv_iconst (v := (0 : Int32)) C0.1 C0.2.1 dX5_readBuffer_84 (by decide) ?_
                refine lv_istore_n (lv' := [(1, .int (0 : Int32)), (0, .ref (gad G 220))]) C0.1 C0.2.1 dX5_readBuffer_85 rfl hl (by decide) rfl (fun ls hl => ?_)
                refine lv_goto (tgt := 17) C0.1 C0.2.1 dX5_readBuffer_86 (by decide) ?_
                exact ih17 (0 : Int32) M17 _ _ _ hM (lv_sub hl [1, 0] rfl) hF
              · have hF := if_f (fun q => q c18) hF
                refine lv_iconst (v := (1 : Int32)) C0.1 C0.2.1 dX5_readBuffer_80 (by decide) ?_
                refine lv_goto (tgt := 85) C0.1 C0.2.1 dX5_readBuffer_81 (by decide) ?_
                refine lv_istore_n (lv' := [(1, .int (1 : Int32)), (0, .ref (gad G 220))]) C0.1 C0.2.1 dX5_readBuffer_85 rfl hl (by decide) rfl (fun ls hl => ?_)
                refine lv_goto (tgt := 17) C0.1 C0.2.1 dX5_readBuffer_86 (by decide) ?_
                exact ih17 (1 : Int32) M17 _ _ _ hM (lv_sub hl [1, 0] rfl) hF
            refine lv_icmp_ne (tgt := 68) C0.1 C0.2.1 dX5_readBuffer_61 (by decide) (fun c19 => ?_) (fun c19 => ?_)
            · have hF := if_t c19 hF
              refine lv_iconst (v := (0 : Int32)) C0.1 C0.2.1 dX5_readBuffer_68 (by decide) ?_
              exact J69 (0 : Int32) _ _ _ hM (lv_sub hl [1, 0] rfl) hF
            · have hF := if_f (fun q => q c19) hF
              refine lv_iconst (v := (1 : Int32)) C0.1 C0.2.1 dX5_readBuffer_64 (by decide) ?_
              refine lv_goto (tgt := 69) C0.1 C0.2.1 dX5_readBuffer_65 (by decide) ?_
              exact J69 (1 : Int32) _ _ _ hM (lv_sub hl [1, 0] rfl) hF
        refine lv_icmp_ne (tgt := 48) C0.1 C0.2.1 dX5_readBuffer_30 (by decide) (fun c20 => ?_) (fun c20 => ?_)
        · have hF := if_t c20 hF
          refine lv_iconst (v := (0 : Int32)) C0.1 C0.2.1 dX5_readBuffer_48 (by decide) ?_
          exact J49 (0 : Int32) _ _ _ hM (lv_sub hl [0, 1] rfl) hF
        · have hF := if_f (fun q => q c20) hF
          refine lv_aload_n C0.1 C0.2.1 dX5_readBuffer_33 rfl (lv_at hl 0 rfl) ?_
          refine gf5_11 C0 hM ok_md fl_RX5_160 dX5_readBuffer_34 ?_
          refine lv_aload_n C0.1 C0.2.1 dX5_readBuffer_37 rfl (lv_at hl 0 rfl) ?_
          refine gf5_6 C0 hM ok_md fl_RX5_157 dX5_readBuffer_38 ?_
          refine lv_icmp_ge (tgt := 48) C0.1 C0.2.1 dX5_readBuffer_41 (by decide) (fun c21 => ?_) (fun c21 => ?_)
          · have hF := if_t c21 hF
            refine lv_iconst (v := (0 : Int32)) C0.1 C0.2.1 dX5_readBuffer_48 (by decide) ?_
            exact J49 (0 : Int32) _ _ _ hM (lv_sub hl [0, 1] rfl) hF
          · have hF := if_f c21 hF
            refine lv_iconst (v := (1 : Int32)) C0.1 C0.2.1 dX5_readBuffer_44 (by decide) ?_
            refine lv_goto (tgt := 49) C0.1 C0.2.1 dX5_readBuffer_45 (by decide) ?_
            exact J49 (1 : Int32) _ _ _ hM (lv_sub hl [0, 1] rfl) hF
  exact L17 FU (1 : Int32) M3 _ _ _ hM (lv_sub hl [1, 0] rfl) hF

def F_X5_firstError (M : MS) : Option (Int32 × MS) := (nm (wF M 80 220 (0 : Int32)) fun M1 => (bd2 (F_X5_readBuffer M1) fun r4 M3 => (if ¬ r4 = (-1 : Int32) then (some (r4, M3)) else (some ((rF M3 86 220), M3)))))

set_option maxHeartbeats 4000000 in
set_option maxRecDepth 100000 in
theorem k_X5_firstError (l : Launch) (G : GG) (M : MS) {r : Int32} {Mf : MS} (hF : F_X5_firstError M = some (r, Mf)) : KI l yX5_firstError (WS yX5_firstError cX5_firstError 2 (some .int)) (Rm 4) G [.ref (gad G 220)] M r Mf := by
  intro sz
  refine y_met (by decide +kernel) (Nat.le_of_ble_eq_true rfl) rfl (fun p e s m below meth c ls hsz C0 hM hl => ?_)
  have hl : lv_has ls 2 [(0, .ref (gad G 220))] := hl
  have C0 : CX p s m meth c ([.ref (gad G 220)] : List Value).toArray cX5_firstError RX5 2 (some .int) := C0
  rw [F_X5_firstError] at hF
  refine lv_aload_n C0.1 C0.2.1 dX5_firstError_0 rfl (lv_at hl 0 rfl) ?_
  refine lv_iconst (v := (0 : Int32)) C0.1 C0.2.1 dX5_firstError_1 (by decide) ?_
  refine pf5_0 C0 hM ok_md fl_RX5_28 dX5_firstError_2 (fun H locs hM => ?_)
  obtain ⟨M1, eM1, hF⟩ := nm_some hF
  have hM := y_mn eM1 hM
  refine lv_aload_n C0.1 C0.2.1 dX5_firstError_5 rfl (lv_at hl 0 rfl) ?_
  obtain ⟨r4, M3, h2, hF⟩ := bd2_some hF
  refine y_vi (rest := []) C0 hM hl.1 ok_md (ent5 ok_md) rfl (k_X5_readBuffer l G M1 h2) cw_RX5_183 rfl rfl ⟨Nat.le_of_ble_eq_true rfl, Nat.le_of_ble_eq_true rfl⟩ rfl (Nat.le_of_ble_eq_true rfl) ⟨Nat.le_of_ble_eq_true rfl, Nat.le_of_ble_eq_true rfl⟩ dX5_firstError_6 (fun H locs hM => ?_)
  refine lv_istore_n (lv' := [(1, .int r4), (0, .ref (gad G 220))]) C0.1 C0.2.1 dX5_firstError_9 rfl hl (by decide) rfl (fun ls hl => ?_)
  refine lv_iload_n C0.1 C0.2.1 dX5_firstError_10 rfl (lv_at hl 0 rfl) ?_
  refine lv_iconst (v := (-1 : Int32)) C0.1 C0.2.1 dX5_firstError_11 (by decide) ?_
  refine lv_icmp_ne (tgt := 22) C0.1 C0.2.1 dX5_firstError_12 (by decide) (fun c5 => ?_) (fun c5 => ?_)
  · have hF := if_t c5 hF
    refine lv_iload_n C0.1 C0.2.1 dX5_firstError_22 rfl (lv_at hl 0 rfl) ?_
    obtain ⟨e8, e9⟩ := y_2 hF
    subst e8
    subst e9
    exact y_iret C0 hM hsz dX5_firstError_23
  · have hF := if_f (fun q => q c5) hF
    refine lv_aload_n C0.1 C0.2.1 dX5_firstError_15 rfl (lv_at hl 1 rfl) ?_
    refine gf5_6 C0 hM ok_md fl_RX5_157 dX5_firstError_16 ?_
    refine lv_goto (tgt := 23) C0.1 C0.2.1 dX5_firstError_19 (by decide) ?_
    obtain ⟨e8, e9⟩ := y_2 hF
    subst e8
    subst e9
    exact y_iret C0 hM hsz dX5_firstError_23

def F_X5_acts (M : MS) (a0 : Int32) (a1 : Int32) (a2 : Int32) (a3 : Int32) : Option (Int32 × MS) := (nm (fun (s1 : Int32) => (if s1 = 0 then (gdb (s1 == 0 || s1 == 1) (some (s1, M))) else (bd2 (F_X5_act M a0 a1 a2 a3) fun r7 M6 => (gdb (s1 == 0 || s1 == 1) (some (s1, M6)))))) fun j27_1 => (nm (bd (F_X5_canAct M a0 a1) fun r11 => (if r11 = 0 then (j27_1 (0 : Int32)) else (j27_1 (1 : Int32)))) fun j13_8 => (if a0 = (1 : Int32) then j13_8 else (bd (F_X5_isFighter M a1) fun r15 => (if r15 = 0 then (j27_1 (0 : Int32)) else j13_8)))))

set_option maxHeartbeats 4000000 in
set_option maxRecDepth 100000 in
theorem k_X5_acts (l : Launch) (G : GG) (M : MS) (a0 : Int32) (a1 : Int32) (a2 : Int32) (a3 : Int32) {r : Int32} {Mf : MS} (hF : F_X5_acts M a0 a1 a2 a3 = some (r, Mf)) : KI l yX5_acts (WS yX5_acts cX5_acts 6 (some .boolean)) (Rm 6) G [.ref (gad G 220), .int a0, .int a1, .int a2, .int a3] M r Mf := by
  intro sz
  refine y_met (by decide +kernel) (Nat.le_of_ble_eq_true rfl) rfl (fun p e s m below meth c ls hsz C0 hM hl => ?_)
  have hl : lv_has ls 6 [(0, .ref (gad G 220)), (1, .int a0), (2, .int a1), (3, .int a2), (4, .int a3)] := hl
  have C0 : CX p s m meth c ([.ref (gad G 220), .int a0, .int a1, .int a2, .int a3] : List Value).toArray cX5_acts RX5 6 (some .boolean) := C0
  rw [F_X5_acts] at hF
  refine lv_iload_n C0.1 C0.2.1 dX5_acts_0 rfl (lv_at hl 1 rfl) ?_
  refine lv_iconst (v := (1 : Int32)) C0.1 C0.2.1 dX5_acts_1 (by decide) ?_
  obtain ⟨j27_1, ej27_1, hF⟩ := nm_some hF
  have J27 : ∀ (s1 : Int32) (H : Heap) (locs : List Loc) (ls : Array Slot), MX G M s H locs → lv_has ls 6 [(0, .ref (gad G 220)), (1, .int a0), (2, .int a1), (3, .int a2), (4, .int a3)] → j27_1 s1 = some (r, Mf) → W p l e (Rm 6) s m ([.ref (gad G 220), .int a0, .int a1, .int a2, .int a3] : List Value).toArray below meth c H locs 0 0 (QI below ([.ref (gad G 220), .int a0, .int a1, .int a2, .int a3] : List Value).toArray s G sz r Mf) (F0 m 27 ls [.int s1]) := by
    intro s1 H locs ls hM hl hF
    rw [ej27_1] at hF
    refine lv_istore (lv' := [(5, .int s1), (0, .ref (gad G 220)), (1, .int a0), (2, .int a1), (3, .int a2), (4, .int a3)]) C0.1 C0.2.1 dX5_acts_27 hl (by decide) rfl (fun ls hl => ?_)
    refine lv_iload C0.1 C0.2.1 dX5_acts_29 (lv_at hl 0 rfl) ?_
    refine lv_if_eq (tgt := 44) C0.1 C0.2.1 dX5_acts_31 (by decide) (fun c3 => ?_) (fun c3 => ?_)
    · have hF := if_t c3 hF
      refine lv_iload C0.1 C0.2.1 dX5_acts_44 (lv_at hl 0 rfl) ?_
      obtain ⟨g4, hF⟩ := gdb_some hF
      obtain ⟨e8, e9⟩ := y_2 hF
      subst e8
      subst e9
      exact y_zret C0 hM hsz (zob_n g4) dX5_acts_46
    · have hF := if_f c3 hF
      refine lv_aload_n C0.1 C0.2.1 dX5_acts_34 rfl (lv_at hl 1 rfl) ?_
      refine lv_iload_n C0.1 C0.2.1 dX5_acts_35 rfl (lv_at hl 2 rfl) ?_
      refine lv_iload_n C0.1 C0.2.1 dX5_acts_36 rfl (lv_at hl 3 rfl) ?_
      refine lv_iload_n C0.1 C0.2.1 dX5_acts_37 rfl (lv_at hl 4 rfl) ?_
      refine lv_iload C0.1 C0.2.1 dX5_acts_38 (lv_at hl 5 rfl) ?_
      obtain ⟨r7, M6, h5, hF⟩ := bd2_some hF
      refine y_vi (rest := []) C0 hM hl.1 ok_md (ent5 ok_md) rfl (k_X5_act l G M a0 a1 a2 a3 h5) cw_RX5_135 rfl rfl ⟨Nat.le_of_ble_eq_true rfl, Nat.le_of_ble_eq_true rfl⟩ rfl (Nat.le_of_ble_eq_true rfl) ⟨Nat.le_of_ble_eq_true rfl, Nat.le_of_ble_eq_true rfl⟩ dX5_acts_40 (fun H locs hM => ?_)
      refine lv_pop C0.1 C0.2.1 dX5_acts_43 rfl ?_
      refine lv_iload C0.1 C0.2.1 dX5_acts_44 (lv_at hl 0 rfl) ?_
      obtain ⟨g8, hF⟩ := gdb_some hF
      obtain ⟨e8, e9⟩ := y_2 hF
      subst e8
      subst e9
      exact y_zret C0 hM hsz (zob_n g8) dX5_acts_46
  obtain ⟨j13_8, ej13_8, hF⟩ := nm_some hF
  have J13 : ∀ (H : Heap) (locs : List Loc) (ls : Array Slot), MX G M s H locs → lv_has ls 6 [(0, .ref (gad G 220)), (1, .int a0), (2, .int a1), (3, .int a2), (4, .int a3)] → j13_8 = some (r, Mf) → W p l e (Rm 6) s m ([.ref (gad G 220), .int a0, .int a1, .int a2, .int a3] : List Value).toArray below meth c H locs 0 0 (QI below ([.ref (gad G 220), .int a0, .int a1, .int a2, .int a3] : List Value).toArray s G sz r Mf) (F0 m 13 ls []) := by
    intro H locs ls hM hl hF
    rw [ej13_8] at hF
    refine lv_aload_n C0.1 C0.2.1 dX5_acts_13 rfl (lv_at hl 0 rfl) ?_
    refine lv_iload_n C0.1 C0.2.1 dX5_acts_14 rfl (lv_at hl 1 rfl) ?_
    refine lv_iload_n C0.1 C0.2.1 dX5_acts_15 rfl (lv_at hl 2 rfl) ?_
    obtain ⟨r11, h10, hF⟩ := bd_some hF
    refine y_vi (rest := []) C0 hM hl.1 ok_md (ent5 ok_md) rfl (k_X5_canAct l G M a0 a1 h10) cw_RX5_129 rfl rfl ⟨Nat.le_of_ble_eq_true rfl, Nat.le_of_ble_eq_true rfl⟩ rfl (Nat.le_of_ble_eq_true rfl) ⟨Nat.le_of_ble_eq_true rfl, Nat.le_of_ble_eq_true rfl⟩ dX5_acts_16 (fun H locs hM => ?_)
    refine lv_if_eq (tgt := 26) C0.1 C0.2.1 dX5_acts_19 (by decide) (fun c12 => ?_) (fun c12 => ?_)
    · have hF := if_t c12 hF
      refine lv_iconst (v := (0 : Int32)) C0.1 C0.2.1 dX5_acts_26 (by decide) ?_
      exact J27 (0 : Int32) _ _ _ hM (lv_sub hl [0, 1, 2, 3, 4] rfl) hF
    · have hF := if_f c12 hF
      refine lv_iconst (v := (1 : Int32)) C0.1 C0.2.1 dX5_acts_22 (by decide) ?_
      refine lv_goto (tgt := 27) C0.1 C0.2.1 dX5_acts_23 (by decide) ?_
      exact J27 (1 : Int32) _ _ _ hM (lv_sub hl [0, 1, 2, 3, 4] rfl) hF
  refine lv_icmp_eq (tgt := 13) C0.1 C0.2.1 dX5_acts_2 (by decide) (fun c13 => ?_) (fun c13 => ?_)
  · have hF := if_t c13 hF
    exact J13  _ _ _ hM (lv_sub hl [0, 1, 2, 3, 4] rfl) hF
  · have hF := if_f c13 hF
    refine lv_aload_n C0.1 C0.2.1 dX5_acts_5 rfl (lv_at hl 0 rfl) ?_
    refine lv_iload_n C0.1 C0.2.1 dX5_acts_6 rfl (lv_at hl 2 rfl) ?_
    obtain ⟨r15, h14, hF⟩ := bd_some hF
    refine y_vi (rest := []) C0 hM hl.1 ok_md (ent5 ok_md) rfl (k_X5_isFighter l G M a1 h14) cw_RX5_126 rfl rfl ⟨Nat.le_of_ble_eq_true rfl, Nat.le_of_ble_eq_true rfl⟩ rfl (Nat.le_of_ble_eq_true rfl) ⟨Nat.le_of_ble_eq_true rfl, Nat.le_of_ble_eq_true rfl⟩ dX5_acts_7 (fun H locs hM => ?_)
    refine lv_if_eq (tgt := 26) C0.1 C0.2.1 dX5_acts_10 (by decide) (fun c16 => ?_) (fun c16 => ?_)
    · have hF := if_t c16 hF
      refine lv_iconst (v := (0 : Int32)) C0.1 C0.2.1 dX5_acts_26 (by decide) ?_
      exact J27 (0 : Int32) _ _ _ hM (lv_sub hl [0, 1, 2, 3, 4] rfl) hF
    · have hF := if_f c16 hF
      exact J13  _ _ _ hM (lv_sub hl [0, 1, 2, 3, 4] rfl) hF

def F_X5_ends (M : MS) (a0 : Int32) : Option (Int32 × MS) := (gdb (inb (2 : Int32) 186) (nm (fun (s2 : Int32) => (nm (if s2 = 0 then (gdb (s2 == 0 || s2 == 1) (some (s2, M))) else (bd (F_X5_endTurn M) fun M8 => (gdb (s2 == 0 || s2 == 1) (some (s2, M8))))) fun j31_3 => (if s2 = 0 then j31_3 else (if a0 = 0 then j31_3 else (bd (F_X5_delayIt M) fun M13 => (gdb (s2 == 0 || s2 == 1) (some (s2, M13)))))))) fun j15_2 => (if (rA M 221 (Int32.toNatClampNeg (2 : Int32))) = (-1 : Int32) then (j15_2 (0 : Int32)) else (j15_2 (1 : Int32)))))

set_option maxHeartbeats 4000000 in
set_option maxRecDepth 100000 in
theorem k_X5_ends (l : Launch) (G : GG) (M : MS) (a0 : Int32) {r : Int32} {Mf : MS} (hF : F_X5_ends M a0 = some (r, Mf)) : KI l yX5_ends (WS yX5_ends cX5_ends 3 (some .boolean)) (Rm 6) G [.ref (gad G 220), .int a0] M r Mf := by
  intro sz
  refine y_met (by decide +kernel) (Nat.le_of_ble_eq_true rfl) rfl (fun p e s m below meth c ls hsz C0 hM hl => ?_)
  have hl : lv_has ls 3 [(0, .ref (gad G 220)), (1, .int a0)] := hl
  have C0 : CX p s m meth c ([.ref (gad G 220), .int a0] : List Value).toArray cX5_ends RX5 3 (some .boolean) := C0
  rw [F_X5_ends] at hF
  refine lv_aload_n C0.1 C0.2.1 dX5_ends_0 rfl (lv_at hl 0 rfl) ?_
  refine gf5_1 C0 hM ok_md fl_RX5_7 dX5_ends_1 ?_
  refine lv_iconst (v := (2 : Int32)) C0.1 C0.2.1 dX5_ends_4 (by decide) ?_
  obtain ⟨g1, hF⟩ := gdb_some hF
  refine y_iald C0 hM oka_z g1 dX5_ends_5 ?_
  refine lv_iconst (v := (-1 : Int32)) C0.1 C0.2.1 dX5_ends_6 (by decide) ?_
  obtain ⟨j15_2, ej15_2, hF⟩ := nm_some hF
  have J15 : ∀ (s2 : Int32) (H : Heap) (locs : List Loc) (ls : Array Slot), MX G M s H locs → lv_has ls 3 [(0, .ref (gad G 220)), (1, .int a0)] → j15_2 s2 = some (r, Mf) → W p l e (Rm 6) s m ([.ref (gad G 220), .int a0] : List Value).toArray below meth c H locs 0 0 (QI below ([.ref (gad G 220), .int a0] : List Value).toArray s G sz r Mf) (F0 m 15 ls [.int s2]) := by
    intro s2 H locs ls hM hl hF
    rw [ej15_2] at hF
    refine lv_istore_n (lv' := [(2, .int s2), (0, .ref (gad G 220)), (1, .int a0)]) C0.1 C0.2.1 dX5_ends_15 rfl hl (by decide) rfl (fun ls hl => ?_)
    refine lv_iload_n C0.1 C0.2.1 dX5_ends_16 rfl (lv_at hl 0 rfl) ?_
    obtain ⟨j31_3, ej31_3, hF⟩ := nm_some hF
    have J31 : ∀ (H : Heap) (locs : List Loc) (ls : Array Slot), MX G M s H locs → lv_has ls 3 [(0, .ref (gad G 220)), (1, .int a0), (2, .int s2)] → j31_3 = some (r, Mf) → W p l e (Rm 6) s m ([.ref (gad G 220), .int a0] : List Value).toArray below meth c H locs 0 0 (QI below ([.ref (gad G 220), .int a0] : List Value).toArray s G sz r Mf) (F0 m 31 ls []) := by
      intro H locs ls hM hl hF
      rw [ej31_3] at hF
      refine lv_iload_n C0.1 C0.2.1 dX5_ends_31 rfl (lv_at hl 2 rfl) ?_
      refine lv_if_eq (tgt := 39) C0.1 C0.2.1 dX5_ends_32 (by decide) (fun c5 => ?_) (fun c5 => ?_)
      · have hF := if_t c5 hF
        refine lv_iload_n C0.1 C0.2.1 dX5_ends_39 rfl (lv_at hl 2 rfl) ?_
        obtain ⟨g6, hF⟩ := gdb_some hF
        obtain ⟨e8, e9⟩ := y_2 hF
        subst e8
        subst e9
        exact y_zret C0 hM hsz (zob_n g6) dX5_ends_40
      · have hF := if_f c5 hF
        refine lv_aload_n C0.1 C0.2.1 dX5_ends_35 rfl (lv_at hl 0 rfl) ?_
        obtain ⟨M8, h7, hF⟩ := bd_some hF
        refine y_vv (rest := []) C0 hM hl.1 ok_md (ent5 ok_md) rfl (k_X5_endTurn l G M h7) cw_RX5_123 rfl rfl ⟨Nat.le_of_ble_eq_true rfl, Nat.le_of_ble_eq_true rfl⟩ rfl (Nat.le_of_ble_eq_true rfl) ⟨Nat.le_of_ble_eq_true rfl, Nat.le_of_ble_eq_true rfl⟩ dX5_ends_36 (fun H locs hM => ?_)
        refine lv_iload_n C0.1 C0.2.1 dX5_ends_39 rfl (lv_at hl 2 rfl) ?_
        obtain ⟨g9, hF⟩ := gdb_some hF
        obtain ⟨e8, e9⟩ := y_2 hF
        subst e8
        subst e9
        exact y_zret C0 hM hsz (zob_n g9) dX5_ends_40
    refine lv_if_eq (tgt := 31) C0.1 C0.2.1 dX5_ends_17 (by decide) (fun c10 => ?_) (fun c10 => ?_)
    · have hF := if_t c10 hF
      exact J31  _ _ _ hM (lv_sub hl [1, 2, 0] rfl) hF
    · have hF := if_f c10 hF
      refine lv_iload_n C0.1 C0.2.1 dX5_ends_20 rfl (lv_at hl 2 rfl) ?_
      refine lv_if_eq (tgt := 31) C0.1 C0.2.1 dX5_ends_21 (by decide) (fun c11 => ?_) (fun c11 => ?_)
      · have hF := if_t c11 hF
        exact J31  _ _ _ hM (lv_sub hl [1, 2, 0] rfl) hF
      · have hF := if_f c11 hF
        refine lv_aload_n C0.1 C0.2.1 dX5_ends_24 rfl (lv_at hl 1 rfl) ?_
        obtain ⟨M13, h12, hF⟩ := bd_some hF
        refine y_vv (rest := []) C0 hM hl.1 ok_md (ent5 ok_md) rfl (k_X5_delayIt l G M h12) cw_RX5_142 rfl rfl ⟨Nat.le_of_ble_eq_true rfl, Nat.le_of_ble_eq_true rfl⟩ rfl (Nat.le_of_ble_eq_true rfl) ⟨Nat.le_of_ble_eq_true rfl, Nat.le_of_ble_eq_true rfl⟩ dX5_ends_25 (fun H locs hM => ?_)
        refine lv_goto (tgt := 39) C0.1 C0.2.1 dX5_ends_28 (by decide) ?_
        refine lv_iload_n C0.1 C0.2.1 dX5_ends_39 rfl (lv_at hl 0 rfl) ?_
        obtain ⟨g14, hF⟩ := gdb_some hF
        obtain ⟨e8, e9⟩ := y_2 hF
        subst e8
        subst e9
        exact y_zret C0 hM hsz (zob_n g14) dX5_ends_40
  refine lv_icmp_eq (tgt := 14) C0.1 C0.2.1 dX5_ends_7 (by decide) (fun c15 => ?_) (fun c15 => ?_)
  · have hF := if_t c15 hF
    refine lv_iconst (v := (0 : Int32)) C0.1 C0.2.1 dX5_ends_14 (by decide) ?_
    exact J15 (0 : Int32) _ _ _ hM (lv_sub hl [0, 1] rfl) hF
  · have hF := if_f c15 hF
    refine lv_iconst (v := (1 : Int32)) C0.1 C0.2.1 dX5_ends_10 (by decide) ?_
    refine lv_goto (tgt := 15) C0.1 C0.2.1 dX5_ends_11 (by decide) ?_
    exact J15 (1 : Int32) _ _ _ hM (lv_sub hl [0, 1] rfl) hF

def F_X5_comesIn (M : MS) (a0 : Int32) : Option (Int32 × MS) := (bd (F_X5_isFighter M a0) fun r2 => (nm (fun (s3 : Int32) => (if s3 = 0 then (gdb (s3 == 0 || s3 == 1) (some (s3, M))) else (bd2 (F_X5_comeInIt M a0) fun r9 M8 => (gdb (s3 == 0 || s3 == 1) (some (s3, M8)))))) fun j21_3 => (if r2 = 0 then (j21_3 (0 : Int32)) else (bd (F_X5_canComeIn M a0) fun r13 => (if r13 = 0 then (j21_3 (0 : Int32)) else (j21_3 (1 : Int32)))))))

set_option maxHeartbeats 4000000 in
set_option maxRecDepth 100000 in
theorem k_X5_comesIn (l : Launch) (G : GG) (M : MS) (a0 : Int32) {r : Int32} {Mf : MS} (hF : F_X5_comesIn M a0 = some (r, Mf)) : KI l yX5_comesIn (WS yX5_comesIn cX5_comesIn 3 (some .boolean)) (Rm 4) G [.ref (gad G 220), .int a0] M r Mf := by
  intro sz
  refine y_met (by decide +kernel) (Nat.le_of_ble_eq_true rfl) rfl (fun p e s m below meth c ls hsz C0 hM hl => ?_)
  have hl : lv_has ls 3 [(0, .ref (gad G 220)), (1, .int a0)] := hl
  have C0 : CX p s m meth c ([.ref (gad G 220), .int a0] : List Value).toArray cX5_comesIn RX5 3 (some .boolean) := C0
  rw [F_X5_comesIn] at hF
  refine lv_aload_n C0.1 C0.2.1 dX5_comesIn_0 rfl (lv_at hl 0 rfl) ?_
  refine lv_iload_n C0.1 C0.2.1 dX5_comesIn_1 rfl (lv_at hl 1 rfl) ?_
  obtain ⟨r2, h1, hF⟩ := bd_some hF
  refine y_vi (rest := []) C0 hM hl.1 ok_md (ent5 ok_md) rfl (k_X5_isFighter l G M a0 h1) cw_RX5_126 rfl rfl ⟨Nat.le_of_ble_eq_true rfl, Nat.le_of_ble_eq_true rfl⟩ rfl (Nat.le_of_ble_eq_true rfl) ⟨Nat.le_of_ble_eq_true rfl, Nat.le_of_ble_eq_true rfl⟩ dX5_comesIn_2 (fun H locs hM => ?_)
  obtain ⟨j21_3, ej21_3, hF⟩ := nm_some hF
  have J21 : ∀ (s3 : Int32) (H : Heap) (locs : List Loc) (ls : Array Slot), MX G M s H locs → lv_has ls 3 [(0, .ref (gad G 220)), (1, .int a0)] → j21_3 s3 = some (r, Mf) → W p l e (Rm 4) s m ([.ref (gad G 220), .int a0] : List Value).toArray below meth c H locs 0 0 (QI below ([.ref (gad G 220), .int a0] : List Value).toArray s G sz r Mf) (F0 m 21 ls [.int s3]) := by
    intro s3 H locs ls hM hl hF
    rw [ej21_3] at hF
    refine lv_istore_n (lv' := [(2, .int s3), (0, .ref (gad G 220)), (1, .int a0)]) C0.1 C0.2.1 dX5_comesIn_21 rfl hl (by decide) rfl (fun ls hl => ?_)
    refine lv_iload_n C0.1 C0.2.1 dX5_comesIn_22 rfl (lv_at hl 0 rfl) ?_
    refine lv_if_eq (tgt := 32) C0.1 C0.2.1 dX5_comesIn_23 (by decide) (fun c5 => ?_) (fun c5 => ?_)
    · have hF := if_t c5 hF
      refine lv_iload_n C0.1 C0.2.1 dX5_comesIn_32 rfl (lv_at hl 0 rfl) ?_
      obtain ⟨g6, hF⟩ := gdb_some hF
      obtain ⟨e8, e9⟩ := y_2 hF
      subst e8
      subst e9
      exact y_zret C0 hM hsz (zob_n g6) dX5_comesIn_33
    · have hF := if_f c5 hF
      refine lv_aload_n C0.1 C0.2.1 dX5_comesIn_26 rfl (lv_at hl 1 rfl) ?_
      refine lv_iload_n C0.1 C0.2.1 dX5_comesIn_27 rfl (lv_at hl 2 rfl) ?_
      obtain ⟨r9, M8, h7, hF⟩ := bd2_some hF
      refine y_vi (rest := []) C0 hM hl.1 ok_md (ent5 ok_md) rfl (k_X5_comeInIt l G M a0 h7) cw_RX5_154 rfl rfl ⟨Nat.le_of_ble_eq_true rfl, Nat.le_of_ble_eq_true rfl⟩ rfl (Nat.le_of_ble_eq_true rfl) ⟨Nat.le_of_ble_eq_true rfl, Nat.le_of_ble_eq_true rfl⟩ dX5_comesIn_28 (fun H locs hM => ?_)
      refine lv_pop C0.1 C0.2.1 dX5_comesIn_31 rfl ?_
      refine lv_iload_n C0.1 C0.2.1 dX5_comesIn_32 rfl (lv_at hl 0 rfl) ?_
      obtain ⟨g10, hF⟩ := gdb_some hF
      obtain ⟨e8, e9⟩ := y_2 hF
      subst e8
      subst e9
      exact y_zret C0 hM hsz (zob_n g10) dX5_comesIn_33
  refine lv_if_eq (tgt := 20) C0.1 C0.2.1 dX5_comesIn_5 (by decide) (fun c11 => ?_) (fun c11 => ?_)
  · have hF := if_t c11 hF
    refine lv_iconst (v := (0 : Int32)) C0.1 C0.2.1 dX5_comesIn_20 (by decide) ?_
    exact J21 (0 : Int32) _ _ _ hM (lv_sub hl [0, 1] rfl) hF
  · have hF := if_f c11 hF
    refine lv_aload_n C0.1 C0.2.1 dX5_comesIn_8 rfl (lv_at hl 0 rfl) ?_
    refine lv_iload_n C0.1 C0.2.1 dX5_comesIn_9 rfl (lv_at hl 1 rfl) ?_
    obtain ⟨r13, h12, hF⟩ := bd_some hF
    refine y_vi (rest := []) C0 hM hl.1 ok_md (ent5 ok_md) rfl (k_X5_canComeIn l G M a0 h12) cw_RX5_151 rfl rfl ⟨Nat.le_of_ble_eq_true rfl, Nat.le_of_ble_eq_true rfl⟩ rfl (Nat.le_of_ble_eq_true rfl) ⟨Nat.le_of_ble_eq_true rfl, Nat.le_of_ble_eq_true rfl⟩ dX5_comesIn_10 (fun H locs hM => ?_)
    refine lv_if_eq (tgt := 20) C0.1 C0.2.1 dX5_comesIn_13 (by decide) (fun c14 => ?_) (fun c14 => ?_)
    · have hF := if_t c14 hF
      refine lv_iconst (v := (0 : Int32)) C0.1 C0.2.1 dX5_comesIn_20 (by decide) ?_
      exact J21 (0 : Int32) _ _ _ hM (lv_sub hl [0, 1] rfl) hF
    · have hF := if_f c14 hF
      refine lv_iconst (v := (1 : Int32)) C0.1 C0.2.1 dX5_comesIn_16 (by decide) ?_
      refine lv_goto (tgt := 21) C0.1 C0.2.1 dX5_comesIn_17 (by decide) ?_
      exact J21 (1 : Int32) _ _ _ hM (lv_sub hl [0, 1] rfl) hF

def F_X5_does (M : MS) (a0 : Int32) : Option (Int32 × MS) := (gdb (inb (((4 : Int32) * a0) + (1 : Int32)) 132) (nm (rA M 226 (Int32.toNatClampNeg (((4 : Int32) * a0) + (1 : Int32)))) fun x2 => (gdb (inb ((4 : Int32) * a0) 132) (if (rA M 226 (Int32.toNatClampNeg ((4 : Int32) * a0))) = (99 : Int32) then (gdb (inb (((4 : Int32) * a0) + (2 : Int32)) 132) (gdb (inb (((4 : Int32) * a0) + (3 : Int32)) 132) (bd2 (F_X5_acts M (3 : Int32) x2 (rA M 226 (Int32.toNatClampNeg (((4 : Int32) * a0) + (2 : Int32)))) (rA M 226 (Int32.toNatClampNeg (((4 : Int32) * a0) + (3 : Int32))))) fun r9 M8 => (gdb (r9 == 0 || r9 == 1) (some (r9, M8)))))) else (if (rA M 226 (Int32.toNatClampNeg ((4 : Int32) * a0))) = (101 : Int32) then (bd2 (F_X5_ends M (0 : Int32)) fun r14 M13 => (gdb (r14 == 0 || r14 == 1) (some (r14, M13)))) else (if (rA M 226 (Int32.toNatClampNeg ((4 : Int32) * a0))) = (104 : Int32) then (bd2 (F_X5_acts M (2 : Int32) x2 (0 : Int32) (0 : Int32)) fun r19 M18 => (gdb (r19 == 0 || r19 == 1) (some (r19, M18)))) else (if (rA M 226 (Int32.toNatClampNeg ((4 : Int32) * a0))) = (109 : Int32) then (bd2 (F_X5_acts M (1 : Int32) x2 (0 : Int32) (0 : Int32)) fun r24 M23 => (gdb (r24 == 0 || r24 == 1) (some (r24, M23)))) else (if (rA M 226 (Int32.toNatClampNeg ((4 : Int32) * a0))) = (115 : Int32) then (bd2 (F_X5_acts M (0 : Int32) x2 (0 : Int32) (0 : Int32)) fun r29 M28 => (gdb (r29 == 0 || r29 == 1) (some (r29, M28)))) else (if (rA M 226 (Int32.toNatClampNeg ((4 : Int32) * a0))) = (119 : Int32) then (bd2 (F_X5_ends M (1 : Int32)) fun r34 M33 => (gdb (r34 == 0 || r34 == 1) (some (r34, M33)))) else (bd2 (F_X5_comesIn M x2) fun r38 M37 => (gdb (r38 == 0 || r38 == 1) (some (r38, M37)))))))))))))

set_option maxHeartbeats 4000000 in
set_option maxRecDepth 100000 in
theorem k_X5_does (l : Launch) (G : GG) (M : MS) (a0 : Int32) {r : Int32} {Mf : MS} (hF : F_X5_does M a0 = some (r, Mf)) : KI l yX5_does (WS yX5_does cX5_does 3 (some .boolean)) (Rm 7) G [.ref (gad G 220), .int a0] M r Mf := by
  intro sz
  refine y_met (by decide +kernel) (Nat.le_of_ble_eq_true rfl) rfl (fun p e s m below meth c ls hsz C0 hM hl => ?_)
  have hl : lv_has ls 3 [(0, .ref (gad G 220)), (1, .int a0)] := hl
  have C0 : CX p s m meth c ([.ref (gad G 220), .int a0] : List Value).toArray cX5_does RX5 3 (some .boolean) := C0
  rw [F_X5_does] at hF
  refine lv_aload_n C0.1 C0.2.1 dX5_does_0 rfl (lv_at hl 0 rfl) ?_
  refine gf5_9 C0 hM ok_md fl_RX5_25 dX5_does_1 ?_
  refine lv_iconst (v := (4 : Int32)) C0.1 C0.2.1 dX5_does_4 (by decide) ?_
  refine lv_iload_n C0.1 C0.2.1 dX5_does_5 rfl (lv_at hl 1 rfl) ?_
  refine lv_imul C0.1 C0.2.1 dX5_does_6 ?_
  refine lv_iconst (v := (1 : Int32)) C0.1 C0.2.1 dX5_does_7 (by decide) ?_
  refine lv_iadd C0.1 C0.2.1 dX5_does_8 ?_
  obtain ⟨g1, hF⟩ := gdb_some hF
  refine y_iald C0 hM oka_orders g1 dX5_does_9 ?_
  obtain ⟨x2, ex2, hF⟩ := nm_some hF
  refine y_topi ex2 ?_
  refine lv_istore_n (lv' := [(2, .int x2), (0, .ref (gad G 220)), (1, .int a0)]) C0.1 C0.2.1 dX5_does_10 rfl hl (by decide) rfl (fun ls hl => ?_)
  refine lv_aload_n C0.1 C0.2.1 dX5_does_11 rfl (lv_at hl 1 rfl) ?_
  refine gf5_9 C0 hM ok_md fl_RX5_25 dX5_does_12 ?_
  refine lv_iconst (v := (4 : Int32)) C0.1 C0.2.1 dX5_does_15 (by decide) ?_
  refine lv_iload_n C0.1 C0.2.1 dX5_does_16 rfl (lv_at hl 2 rfl) ?_
  refine lv_imul C0.1 C0.2.1 dX5_does_17 ?_
  obtain ⟨g3, hF⟩ := gdb_some hF
  refine y_iald C0 hM oka_orders g3 dX5_does_18 ?_
  by_cases c4 : (rA M 226 (Int32.toNatClampNeg ((4 : Int32) * a0))) = (99 : Int32)
  · have hF := if_t c4 hF
    refine lv_lookup (tgt := 103) (off := 84) C0.1 C0.2.1 dX5_does_19 (by decide) (by rw [c4]; decide) (by decide) ?_
    refine lv_aload_n C0.1 C0.2.1 dX5_does_103 rfl (lv_at hl 1 rfl) ?_
    refine lv_iconst (v := (3 : Int32)) C0.1 C0.2.1 dX5_does_104 (by decide) ?_
    refine lv_iload_n C0.1 C0.2.1 dX5_does_105 rfl (lv_at hl 0 rfl) ?_
    refine lv_aload_n C0.1 C0.2.1 dX5_does_106 rfl (lv_at hl 1 rfl) ?_
    refine gf5_9 C0 hM ok_md fl_RX5_25 dX5_does_107 ?_
    refine lv_iconst (v := (4 : Int32)) C0.1 C0.2.1 dX5_does_110 (by decide) ?_
    refine lv_iload_n C0.1 C0.2.1 dX5_does_111 rfl (lv_at hl 2 rfl) ?_
    refine lv_imul C0.1 C0.2.1 dX5_does_112 ?_
    refine lv_iconst (v := (2 : Int32)) C0.1 C0.2.1 dX5_does_113 (by decide) ?_
    refine lv_iadd C0.1 C0.2.1 dX5_does_114 ?_
    obtain ⟨g5, hF⟩ := gdb_some hF
    refine y_iald C0 hM oka_orders g5 dX5_does_115 ?_
    refine lv_aload_n C0.1 C0.2.1 dX5_does_116 rfl (lv_at hl 1 rfl) ?_
    refine gf5_9 C0 hM ok_md fl_RX5_25 dX5_does_117 ?_
    refine lv_iconst (v := (4 : Int32)) C0.1 C0.2.1 dX5_does_120 (by decide) ?_
    refine lv_iload_n C0.1 C0.2.1 dX5_does_121 rfl (lv_at hl 2 rfl) ?_
    refine lv_imul C0.1 C0.2.1 dX5_does_122 ?_
    refine lv_iconst (v := (3 : Int32)) C0.1 C0.2.1 dX5_does_123 (by decide) ?_
    refine lv_iadd C0.1 C0.2.1 dX5_does_124 ?_
    obtain ⟨g6, hF⟩ := gdb_some hF
    refine y_iald C0 hM oka_orders g6 dX5_does_125 ?_
    obtain ⟨r9, M8, h7, hF⟩ := bd2_some hF
    refine y_vi (rest := []) C0 hM hl.1 ok_md (ent5 ok_md) rfl (k_X5_acts l G M (3 : Int32) x2 (rA M 226 (Int32.toNatClampNeg (((4 : Int32) * a0) + (2 : Int32)))) (rA M 226 (Int32.toNatClampNeg (((4 : Int32) * a0) + (3 : Int32)))) h7) cw_RX5_186 rfl rfl ⟨Nat.le_of_ble_eq_true rfl, Nat.le_of_ble_eq_true rfl⟩ rfl (Nat.le_of_ble_eq_true rfl) ⟨Nat.le_of_ble_eq_true rfl, Nat.le_of_ble_eq_true rfl⟩ dX5_does_126 (fun H locs hM => ?_)
    obtain ⟨g10, hF⟩ := gdb_some hF
    obtain ⟨e8, e9⟩ := y_2 hF
    subst e8
    subst e9
    exact y_zret C0 hM hsz (zob_n g10) dX5_does_129
  · have hF := if_f c4 hF
    by_cases c11 : (rA M 226 (Int32.toNatClampNeg ((4 : Int32) * a0))) = (101 : Int32)
    · have hF := if_t c11 hF
      refine lv_lookup (tgt := 136) (off := 117) C0.1 C0.2.1 dX5_does_19 (by decide) (by rw [c11]; decide) (by decide) ?_
      refine lv_aload_n C0.1 C0.2.1 dX5_does_136 rfl (lv_at hl 1 rfl) ?_
      refine lv_iconst (v := (0 : Int32)) C0.1 C0.2.1 dX5_does_137 (by decide) ?_
      obtain ⟨r14, M13, h12, hF⟩ := bd2_some hF
      refine y_vi (rest := []) C0 hM hl.1 ok_md (ent5 ok_md) rfl (k_X5_ends l G M (0 : Int32) h12) cw_RX5_190 rfl rfl ⟨Nat.le_of_ble_eq_true rfl, Nat.le_of_ble_eq_true rfl⟩ rfl (Nat.le_of_ble_eq_true rfl) ⟨Nat.le_of_ble_eq_true rfl, Nat.le_of_ble_eq_true rfl⟩ dX5_does_138 (fun H locs hM => ?_)
      obtain ⟨g15, hF⟩ := gdb_some hF
      obtain ⟨e8, e9⟩ := y_2 hF
      subst e8
      subst e9
      exact y_zret C0 hM hsz (zob_n g15) dX5_does_141
    · have hF := if_f c11 hF
      by_cases c16 : (rA M 226 (Int32.toNatClampNeg ((4 : Int32) * a0))) = (104 : Int32)
      · have hF := if_t c16 hF
        refine lv_lookup (tgt := 94) (off := 75) C0.1 C0.2.1 dX5_does_19 (by decide) (by rw [c16]; decide) (by decide) ?_
        refine lv_aload_n C0.1 C0.2.1 dX5_does_94 rfl (lv_at hl 1 rfl) ?_
        refine lv_iconst (v := (2 : Int32)) C0.1 C0.2.1 dX5_does_95 (by decide) ?_
        refine lv_iload_n C0.1 C0.2.1 dX5_does_96 rfl (lv_at hl 0 rfl) ?_
        refine lv_iconst (v := (0 : Int32)) C0.1 C0.2.1 dX5_does_97 (by decide) ?_
        refine lv_iconst (v := (0 : Int32)) C0.1 C0.2.1 dX5_does_98 (by decide) ?_
        obtain ⟨r19, M18, h17, hF⟩ := bd2_some hF
        refine y_vi (rest := []) C0 hM hl.1 ok_md (ent5 ok_md) rfl (k_X5_acts l G M (2 : Int32) x2 (0 : Int32) (0 : Int32) h17) cw_RX5_186 rfl rfl ⟨Nat.le_of_ble_eq_true rfl, Nat.le_of_ble_eq_true rfl⟩ rfl (Nat.le_of_ble_eq_true rfl) ⟨Nat.le_of_ble_eq_true rfl, Nat.le_of_ble_eq_true rfl⟩ dX5_does_99 (fun H locs hM => ?_)
        obtain ⟨g20, hF⟩ := gdb_some hF
        obtain ⟨e8, e9⟩ := y_2 hF
        subst e8
        subst e9
        exact y_zret C0 hM hsz (zob_n g20) dX5_does_102
      · have hF := if_f c16 hF
        by_cases c21 : (rA M 226 (Int32.toNatClampNeg ((4 : Int32) * a0))) = (109 : Int32)
        · have hF := if_t c21 hF
          refine lv_lookup (tgt := 85) (off := 66) C0.1 C0.2.1 dX5_does_19 (by decide) (by rw [c21]; decide) (by decide) ?_
          refine lv_aload_n C0.1 C0.2.1 dX5_does_85 rfl (lv_at hl 1 rfl) ?_
          refine lv_iconst (v := (1 : Int32)) C0.1 C0.2.1 dX5_does_86 (by decide) ?_
          refine lv_iload_n C0.1 C0.2.1 dX5_does_87 rfl (lv_at hl 0 rfl) ?_
          refine lv_iconst (v := (0 : Int32)) C0.1 C0.2.1 dX5_does_88 (by decide) ?_
          refine lv_iconst (v := (0 : Int32)) C0.1 C0.2.1 dX5_does_89 (by decide) ?_
          obtain ⟨r24, M23, h22, hF⟩ := bd2_some hF
          refine y_vi (rest := []) C0 hM hl.1 ok_md (ent5 ok_md) rfl (k_X5_acts l G M (1 : Int32) x2 (0 : Int32) (0 : Int32) h22) cw_RX5_186 rfl rfl ⟨Nat.le_of_ble_eq_true rfl, Nat.le_of_ble_eq_true rfl⟩ rfl (Nat.le_of_ble_eq_true rfl) ⟨Nat.le_of_ble_eq_true rfl, Nat.le_of_ble_eq_true rfl⟩ dX5_does_90 (fun H locs hM => ?_)
          obtain ⟨g25, hF⟩ := gdb_some hF
          obtain ⟨e8, e9⟩ := y_2 hF
          subst e8
          subst e9
          exact y_zret C0 hM hsz (zob_n g25) dX5_does_93
        · have hF := if_f c21 hF
          by_cases c26 : (rA M 226 (Int32.toNatClampNeg ((4 : Int32) * a0))) = (115 : Int32)
          · have hF := if_t c26 hF
            refine lv_lookup (tgt := 76) (off := 57) C0.1 C0.2.1 dX5_does_19 (by decide) (by rw [c26]; decide) (by decide) ?_
            refine lv_aload_n C0.1 C0.2.1 dX5_does_76 rfl (lv_at hl 1 rfl) ?_
            refine lv_iconst (v := (0 : Int32)) C0.1 C0.2.1 dX5_does_77 (by decide) ?_
            refine lv_iload_n C0.1 C0.2.1 dX5_does_78 rfl (lv_at hl 0 rfl) ?_
            refine lv_iconst (v := (0 : Int32)) C0.1 C0.2.1 dX5_does_79 (by decide) ?_
            refine lv_iconst (v := (0 : Int32)) C0.1 C0.2.1 dX5_does_80 (by decide) ?_
            obtain ⟨r29, M28, h27, hF⟩ := bd2_some hF
            refine y_vi (rest := []) C0 hM hl.1 ok_md (ent5 ok_md) rfl (k_X5_acts l G M (0 : Int32) x2 (0 : Int32) (0 : Int32) h27) cw_RX5_186 rfl rfl ⟨Nat.le_of_ble_eq_true rfl, Nat.le_of_ble_eq_true rfl⟩ rfl (Nat.le_of_ble_eq_true rfl) ⟨Nat.le_of_ble_eq_true rfl, Nat.le_of_ble_eq_true rfl⟩ dX5_does_81 (fun H locs hM => ?_)
            obtain ⟨g30, hF⟩ := gdb_some hF
            obtain ⟨e8, e9⟩ := y_2 hF
            subst e8
            subst e9
            exact y_zret C0 hM hsz (zob_n g30) dX5_does_84
          · have hF := if_f c26 hF
            by_cases c31 : (rA M 226 (Int32.toNatClampNeg ((4 : Int32) * a0))) = (119 : Int32)
            · have hF := if_t c31 hF
              refine lv_lookup (tgt := 130) (off := 111) C0.1 C0.2.1 dX5_does_19 (by decide) (by rw [c31]; decide) (by decide) ?_
              refine lv_aload_n C0.1 C0.2.1 dX5_does_130 rfl (lv_at hl 1 rfl) ?_
              refine lv_iconst (v := (1 : Int32)) C0.1 C0.2.1 dX5_does_131 (by decide) ?_
              obtain ⟨r34, M33, h32, hF⟩ := bd2_some hF
              refine y_vi (rest := []) C0 hM hl.1 ok_md (ent5 ok_md) rfl (k_X5_ends l G M (1 : Int32) h32) cw_RX5_190 rfl rfl ⟨Nat.le_of_ble_eq_true rfl, Nat.le_of_ble_eq_true rfl⟩ rfl (Nat.le_of_ble_eq_true rfl) ⟨Nat.le_of_ble_eq_true rfl, Nat.le_of_ble_eq_true rfl⟩ dX5_does_132 (fun H locs hM => ?_)
              obtain ⟨g35, hF⟩ := gdb_some hF
              obtain ⟨e8, e9⟩ := y_2 hF
              subst e8
              subst e9
              exact y_zret C0 hM hsz (zob_n g35) dX5_does_135
            · have hF := if_f c31 hF
              refine lv_lookup (tgt := 142) (off := 123) C0.1 C0.2.1 dX5_does_19 (by decide) ((lv_osw c4 (by decide)).trans ((lv_osw c11 (by decide)).trans ((lv_osw c16 (by decide)).trans ((lv_osw c21 (by decide)).trans ((lv_osw c26 (by decide)).trans ((lv_osw c31 (by decide)).trans rfl)))))) (by decide) ?_
              refine lv_aload_n C0.1 C0.2.1 dX5_does_142 rfl (lv_at hl 1 rfl) ?_
              refine lv_iload_n C0.1 C0.2.1 dX5_does_143 rfl (lv_at hl 0 rfl) ?_
              obtain ⟨r38, M37, h36, hF⟩ := bd2_some hF
              refine y_vi (rest := []) C0 hM hl.1 ok_md (ent5 ok_md) rfl (k_X5_comesIn l G M x2 h36) cw_RX5_194 rfl rfl ⟨Nat.le_of_ble_eq_true rfl, Nat.le_of_ble_eq_true rfl⟩ rfl (Nat.le_of_ble_eq_true rfl) ⟨Nat.le_of_ble_eq_true rfl, Nat.le_of_ble_eq_true rfl⟩ dX5_does_144 (fun H locs hM => ?_)
              obtain ⟨g39, hF⟩ := gdb_some hF
              obtain ⟨e8, e9⟩ := y_2 hF
              subst e8
              subst e9
              exact y_zret C0 hM hsz (zob_n g39) dX5_does_147

def F_X5_run_l32 : Nat → Int32 → MS → Option (Int32 × MS)
  | 0, _, _ => none
  | n32 + 1, l1_10, M11 => (nm (fun (M12 : MS) => (nm (wF M12 86 220 (0 : Int32)) fun M14 => (some (l1_10, M14)))) fun j54_12 => (if (rF M11 90 220) ≤ l1_10 then (j54_12 M11) else (bd2 (F_X5_does M11 l1_10) fun r18 M17 => (if r18 = 0 then (j54_12 M17) else (nm (l1_10 + (1 : Int32)) fun x20 => (F_X5_run_l32 n32 x20 M17))))))

def F_X5_run (M : MS) : Option (Int32 × MS) := (bd2 (F_X5_readBuffer M) fun r3 M2 => (nm (fun (s4 : Int32) => (nm (wF M2 80 220 s4) fun M6 => (if (rF M6 80 220) ≤ 0 then (bd (F_X5_save M6) fun M9 => (F_X5_run_l32 FU (0 : Int32) M9)) else (some ((0 : Int32), M6))))) fun j14_4 => (if ¬ r3 = (-1 : Int32) then (j14_4 (1 : Int32)) else (j14_4 (0 : Int32)))))

set_option maxHeartbeats 4000000 in
set_option maxRecDepth 100000 in
theorem k_X5_run (l : Launch) (G : GG) (M : MS) {r : Int32} {Mf : MS} (hF : F_X5_run M = some (r, Mf)) : KI l yX5_run (WS yX5_run cX5_run 2 (some .int)) (Rm 8) G [.ref (gad G 220)] M r Mf := by
  intro sz
  refine y_met (by decide +kernel) (Nat.le_of_ble_eq_true rfl) rfl (fun p e s m below meth c ls hsz C0 hM hl => ?_)
  have hl : lv_has ls 2 [(0, .ref (gad G 220))] := hl
  have C0 : CX p s m meth c ([.ref (gad G 220)] : List Value).toArray cX5_run RX5 2 (some .int) := C0
  rw [F_X5_run] at hF
  refine lv_aload_n C0.1 C0.2.1 dX5_run_0 rfl (lv_at hl 0 rfl) ?_
  refine lv_aload_n C0.1 C0.2.1 dX5_run_1 rfl (lv_at hl 0 rfl) ?_
  obtain ⟨r3, M2, h1, hF⟩ := bd2_some hF
  refine y_vi (rest := [.ref (gad G 220)]) C0 hM hl.1 ok_md (ent5 ok_md) rfl (k_X5_readBuffer l G M h1) cw_RX5_183 rfl rfl ⟨Nat.le_of_ble_eq_true rfl, Nat.le_of_ble_eq_true rfl⟩ rfl (Nat.le_of_ble_eq_true rfl) ⟨Nat.le_of_ble_eq_true rfl, Nat.le_of_ble_eq_true rfl⟩ dX5_run_2 (fun H locs hM => ?_)
  refine lv_iconst (v := (-1 : Int32)) C0.1 C0.2.1 dX5_run_5 (by decide) ?_
  obtain ⟨j14_4, ej14_4, hF⟩ := nm_some hF
  have J14 : ∀ (s4 : Int32) (H : Heap) (locs : List Loc) (ls : Array Slot), MX G M2 s H locs → lv_has ls 2 [(0, .ref (gad G 220))] → j14_4 s4 = some (r, Mf) → W p l e (Rm 8) s m ([.ref (gad G 220)] : List Value).toArray below meth c H locs 0 0 (QI below ([.ref (gad G 220)] : List Value).toArray s G sz r Mf) (F0 m 14 ls [.int s4, .ref (gad G 220)]) := by
    intro s4 H locs ls hM hl hF
    rw [ej14_4] at hF
    refine pf5_0 C0 hM ok_md fl_RX5_28 dX5_run_14 (fun H locs hM => ?_)
    obtain ⟨M6, eM6, hF⟩ := nm_some hF
    have hM := y_mn eM6 hM
    refine lv_aload_n C0.1 C0.2.1 dX5_run_17 rfl (lv_at hl 0 rfl) ?_
    refine gf5_0 C0 hM ok_md fl_RX5_28 dX5_run_18 ?_
    refine lv_if_le (tgt := 26) C0.1 C0.2.1 dX5_run_21 (by decide) (fun c7 => ?_) (fun c7 => ?_)
    · have hF := if_t c7 hF
      refine lv_aload_n C0.1 C0.2.1 dX5_run_26 rfl (lv_at hl 0 rfl) ?_
      obtain ⟨M9, h8, hF⟩ := bd_some hF
      refine y_vv (rest := []) C0 hM hl.1 ok_md (ent5 ok_md) rfl (k_X5_save l G M6 h8) cw_RX5_82 rfl rfl ⟨Nat.le_of_ble_eq_true rfl, Nat.le_of_ble_eq_true rfl⟩ rfl (Nat.le_of_ble_eq_true rfl) ⟨Nat.le_of_ble_eq_true rfl, Nat.le_of_ble_eq_true rfl⟩ dX5_run_27 (fun H locs hM => ?_)
      refine lv_iconst (v := (0 : Int32)) C0.1 C0.2.1 dX5_run_30 (by decide) ?_
      refine lv_istore_n (lv' := [(1, .int (0 : Int32)), (0, .ref (gad G 220))]) C0.1 C0.2.1 dX5_run_31 rfl hl (by decide) rfl (fun ls hl => ?_)
      have L32 : ∀ (n : Nat) (l1_10 : Int32) (M11 : MS) (H : Heap) (locs : List Loc) (ls : Array Slot), MX G M11 s H locs → lv_has ls 2 [(0, .ref (gad G 220)), (1, .int l1_10)] → F_X5_run_l32 n l1_10 M11 = some (r, Mf) → W p l e (Rm 8) s m ([.ref (gad G 220)] : List Value).toArray below meth c H locs 0 0 (QI below ([.ref (gad G 220)] : List Value).toArray s G sz r Mf) (F0 m 32 ls []) := by
        intro n
        induction n with
        | zero => intro l1_10 M11 H locs ls hM hl hF; rw [F_X5_run_l32] at hF; cases hF
        | succ n32 ih32 =>
          intro l1_10 M11 H locs ls hM hl hF
          rw [F_X5_run_l32] at hF
          refine lv_iload_n C0.1 C0.2.1 dX5_run_32 rfl (lv_at hl 1 rfl) ?_
          refine lv_aload_n C0.1 C0.2.1 dX5_run_33 rfl (lv_at hl 0 rfl) ?_
          refine gf5_10 C0 hM ok_md fl_RX5_174 dX5_run_34 ?_
          obtain ⟨j54_12, ej54_12, hF⟩ := nm_some hF
          have J54 : ∀ (M12 : MS) (H : Heap) (locs : List Loc) (ls : Array Slot), MX G M12 s H locs → lv_has ls 2 [(0, .ref (gad G 220)), (1, .int l1_10)] → j54_12 M12 = some (r, Mf) → W p l e (Rm 8) s m ([.ref (gad G 220)] : List Value).toArray below meth c H locs 0 0 (QI below ([.ref (gad G 220)] : List Value).toArray s G sz r Mf) (F0 m 54 ls []) := by
            intro M12 H locs ls hM hl hF
            rw [ej54_12] at hF
            refine lv_aload_n C0.1 C0.2.1 dX5_run_54 rfl (lv_at hl 0 rfl) ?_
            refine lv_iconst (v := (0 : Int32)) C0.1 C0.2.1 dX5_run_55 (by decide) ?_
            refine pf5_6 C0 hM ok_md fl_RX5_157 dX5_run_56 (fun H locs hM => ?_)
            obtain ⟨M14, eM14, hF⟩ := nm_some hF
            have hM := y_mn eM14 hM
            refine lv_iload_n C0.1 C0.2.1 dX5_run_59 rfl (lv_at hl 1 rfl) ?_
            obtain ⟨e8, e9⟩ := y_2 hF
            subst e8
            subst e9
            exact y_iret C0 hM hsz dX5_run_60
          refine lv_icmp_ge (tgt := 54) C0.1 C0.2.1 dX5_run_37 (by decide) (fun c15 => ?_) (fun c15 => ?_)
          · have hF := if_t c15 hF
            exact J54 M11 _ _ _ hM (lv_sub hl [0, 1] rfl) hF
          · have hF := if_f c15 hF
            refine lv_aload_n C0.1 C0.2.1 dX5_run_40 rfl (lv_at hl 0 rfl) ?_
            refine lv_iload_n C0.1 C0.2.1 dX5_run_41 rfl (lv_at hl 1 rfl) ?_
            obtain ⟨r18, M17, h16, hF⟩ := bd2_some hF
            refine y_vi (rest := []) C0 hM hl.1 ok_md (ent5 ok_md) rfl (k_X5_does l G M11 l1_10 h16) cw_RX5_197 rfl rfl ⟨Nat.le_of_ble_eq_true rfl, Nat.le_of_ble_eq_true rfl⟩ rfl (Nat.le_of_ble_eq_true rfl) ⟨Nat.le_of_ble_eq_true rfl, Nat.le_of_ble_eq_true rfl⟩ dX5_run_42 (fun H locs hM => ?_)
            refine lv_if_eq (tgt := 54) C0.1 C0.2.1 dX5_run_45 (by decide) (fun c19 => ?_) (fun c19 => ?_)
            · have hF := if_t c19 hF
              exact J54 M17 _ _ _ hM (lv_sub hl [0, 1] rfl) hF
            · have hF := if_f c19 hF
              obtain ⟨x20, ex20, hF⟩ := nm_some hF
              refine lv_iinc (v := x20) (lv' := [(1, .int x20), (0, .ref (gad G 220))]) C0.1 C0.2.1 dX5_run_48 hl (k := 1) rfl (by rw [ex20]; rfl) (by decide) rfl (fun ls hl => ?_)
              refine lv_goto (tgt := 32) C0.1 C0.2.1 dX5_run_51 (by decide) ?_
              exact ih32 x20 M17 _ _ _ hM (lv_sub hl [1, 0] rfl) hF
      exact L32 FU (0 : Int32) M9 _ _ _ hM (lv_sub hl [1, 0] rfl) hF
    · have hF := if_f c7 hF
      refine lv_iconst (v := (0 : Int32)) C0.1 C0.2.1 dX5_run_24 (by decide) ?_
      obtain ⟨e8, e9⟩ := y_2 hF
      subst e8
      subst e9
      exact y_iret C0 hM hsz dX5_run_25
  refine lv_icmp_ne (tgt := 13) C0.1 C0.2.1 dX5_run_6 (by decide) (fun c21 => ?_) (fun c21 => ?_)
  · have hF := if_t c21 hF
    refine lv_iconst (v := (1 : Int32)) C0.1 C0.2.1 dX5_run_13 (by decide) ?_
    exact J14 (1 : Int32) _ _ _ hM (lv_sub hl [0] rfl) hF
  · have hF := if_f (fun q => q c21) hF
    refine lv_iconst (v := (0 : Int32)) C0.1 C0.2.1 dX5_run_9 (by decide) ?_
    refine lv_goto (tgt := 14) C0.1 C0.2.1 dX5_run_10 (by decide) ?_
    exact J14 (0 : Int32) _ _ _ hM (lv_sub hl [0] rfl) hF

def F_X5_stateOf (M : MS) (a0 : Int32) : Option Int32 := (bd (F_X5_hasFallen M a0) fun r2 => (if r2 = 0 then (bd (F_X5_of M a0 (6 : Int32)) fun r5 => (if ¬ r5 = (1 : Int32) then (bd (F_X5_of M a0 (7 : Int32)) fun r8 => (if r8 = (-1 : Int32) then (some (0 : Int32)) else (some (2 : Int32)))) else (some (1 : Int32)))) else (some (3 : Int32))))

set_option maxHeartbeats 4000000 in
set_option maxRecDepth 100000 in
theorem k_X5_stateOf (l : Launch) (G : GG) (M : MS) (a0 : Int32) {r : Int32} (hF : F_X5_stateOf M a0 = some r) : KI l yX5_stateOf (WS yX5_stateOf cX5_stateOf 2 (some .int)) (Rm 2) G [.ref (gad G 220), .int a0] M r M := by
  intro sz
  refine y_met (by decide +kernel) (Nat.le_of_ble_eq_true rfl) rfl (fun p e s m below meth c ls hsz C0 hM hl => ?_)
  have hl : lv_has ls 2 [(0, .ref (gad G 220)), (1, .int a0)] := hl
  have C0 : CX p s m meth c ([.ref (gad G 220), .int a0] : List Value).toArray cX5_stateOf RX5 2 (some .int) := C0
  rw [F_X5_stateOf] at hF
  refine lv_aload_n C0.1 C0.2.1 dX5_stateOf_0 rfl (lv_at hl 0 rfl) ?_
  refine lv_iload_n C0.1 C0.2.1 dX5_stateOf_1 rfl (lv_at hl 1 rfl) ?_
  obtain ⟨r2, h1, hF⟩ := bd_some hF
  refine y_vi (rest := []) C0 hM hl.1 ok_md (ent5 ok_md) rfl (k_X5_hasFallen l G M a0 h1) cw_RX5_51 rfl rfl ⟨Nat.le_of_ble_eq_true rfl, Nat.le_of_ble_eq_true rfl⟩ rfl (Nat.le_of_ble_eq_true rfl) ⟨Nat.le_of_ble_eq_true rfl, Nat.le_of_ble_eq_true rfl⟩ dX5_stateOf_2 (fun H locs hM => ?_)
  refine lv_if_eq (tgt := 12) C0.1 C0.2.1 dX5_stateOf_5 (by decide) (fun c3 => ?_) (fun c3 => ?_)
  · have hF := if_t c3 hF
    refine lv_aload_n C0.1 C0.2.1 dX5_stateOf_12 rfl (lv_at hl 0 rfl) ?_
    refine lv_iload_n C0.1 C0.2.1 dX5_stateOf_13 rfl (lv_at hl 1 rfl) ?_
    refine lv_bipush (v := (6 : Int32)) C0.1 C0.2.1 dX5_stateOf_14 (by decide) ?_
    obtain ⟨r5, h4, hF⟩ := bd_some hF
    refine y_vi (rest := []) C0 hM hl.1 ok_md (ent5 ok_md) rfl (k_X5_of l G M a0 (6 : Int32) h4) cw_RX5_32 rfl rfl ⟨Nat.le_of_ble_eq_true rfl, Nat.le_of_ble_eq_true rfl⟩ rfl (Nat.le_of_ble_eq_true rfl) ⟨Nat.le_of_ble_eq_true rfl, Nat.le_of_ble_eq_true rfl⟩ dX5_stateOf_16 (fun H locs hM => ?_)
    refine lv_iconst (v := (1 : Int32)) C0.1 C0.2.1 dX5_stateOf_19 (by decide) ?_
    refine lv_icmp_ne (tgt := 27) C0.1 C0.2.1 dX5_stateOf_20 (by decide) (fun c6 => ?_) (fun c6 => ?_)
    · have hF := if_t c6 hF
      refine lv_aload_n C0.1 C0.2.1 dX5_stateOf_27 rfl (lv_at hl 0 rfl) ?_
      refine lv_iload_n C0.1 C0.2.1 dX5_stateOf_28 rfl (lv_at hl 1 rfl) ?_
      refine lv_bipush (v := (7 : Int32)) C0.1 C0.2.1 dX5_stateOf_29 (by decide) ?_
      obtain ⟨r8, h7, hF⟩ := bd_some hF
      refine y_vi (rest := []) C0 hM hl.1 ok_md (ent5 ok_md) rfl (k_X5_of l G M a0 (7 : Int32) h7) cw_RX5_32 rfl rfl ⟨Nat.le_of_ble_eq_true rfl, Nat.le_of_ble_eq_true rfl⟩ rfl (Nat.le_of_ble_eq_true rfl) ⟨Nat.le_of_ble_eq_true rfl, Nat.le_of_ble_eq_true rfl⟩ dX5_stateOf_31 (fun H locs hM => ?_)
      refine lv_iconst (v := (-1 : Int32)) C0.1 C0.2.1 dX5_stateOf_34 (by decide) ?_
      refine lv_icmp_eq (tgt := 42) C0.1 C0.2.1 dX5_stateOf_35 (by decide) (fun c9 => ?_) (fun c9 => ?_)
      · have hF := if_t c9 hF
        refine lv_iconst (v := (0 : Int32)) C0.1 C0.2.1 dX5_stateOf_42 (by decide) ?_
        have e8 := y_1 hF
        subst e8
        exact y_iret C0 hM hsz dX5_stateOf_43
      · have hF := if_f c9 hF
        refine lv_iconst (v := (2 : Int32)) C0.1 C0.2.1 dX5_stateOf_38 (by decide) ?_
        refine lv_goto (tgt := 43) C0.1 C0.2.1 dX5_stateOf_39 (by decide) ?_
        have e8 := y_1 hF
        subst e8
        exact y_iret C0 hM hsz dX5_stateOf_43
    · have hF := if_f (fun q => q c6) hF
      refine lv_iconst (v := (1 : Int32)) C0.1 C0.2.1 dX5_stateOf_23 (by decide) ?_
      refine lv_goto (tgt := 43) C0.1 C0.2.1 dX5_stateOf_24 (by decide) ?_
      have e8 := y_1 hF
      subst e8
      exact y_iret C0 hM hsz dX5_stateOf_43
  · have hF := if_f c3 hF
    refine lv_iconst (v := (3 : Int32)) C0.1 C0.2.1 dX5_stateOf_8 (by decide) ?_
    refine lv_goto (tgt := 43) C0.1 C0.2.1 dX5_stateOf_9 (by decide) ?_
    have e8 := y_1 hF
    subst e8
    exact y_iret C0 hM hsz dX5_stateOf_43

def F_X5_told (M : MS) (a0 : Int32) (a1 : Int32) : Option Int32 := (if (6 : Int32) ≤ a1 then (if ¬ a1 = (6 : Int32) then (if ¬ a1 = (7 : Int32) then (nm (fun (s4 : Int32) => (bd (F_X5_of M a0 s4) fun r7 => (some r7))) fun j64_4 => (if (12 : Int32) ≤ a1 then (j64_4 (((15 : Int32) + a1) - (12 : Int32))) else (j64_4 (((11 : Int32) + a1) - (8 : Int32))))) else (bd (F_X5_stateOf M a0) fun r10 => (some r10))) else (bd (F_X5_placeInRow M a0) fun r12 => (some r12))) else (bd (F_X5_of M a0 a1) fun r14 => (some r14)))

set_option maxHeartbeats 4000000 in
set_option maxRecDepth 100000 in
theorem k_X5_told (l : Launch) (G : GG) (M : MS) (a0 : Int32) (a1 : Int32) {r : Int32} (hF : F_X5_told M a0 a1 = some r) : KI l yX5_told (WS yX5_told cX5_told 3 (some .int)) (Rm 3) G [.ref (gad G 220), .int a0, .int a1] M r M := by
  intro sz
  refine y_met (by decide +kernel) (Nat.le_of_ble_eq_true rfl) rfl (fun p e s m below meth c ls hsz C0 hM hl => ?_)
  have hl : lv_has ls 3 [(0, .ref (gad G 220)), (1, .int a0), (2, .int a1)] := hl
  have C0 : CX p s m meth c ([.ref (gad G 220), .int a0, .int a1] : List Value).toArray cX5_told RX5 3 (some .int) := C0
  rw [F_X5_told] at hF
  refine lv_iload_n C0.1 C0.2.1 dX5_told_0 rfl (lv_at hl 2 rfl) ?_
  refine lv_bipush (v := (6 : Int32)) C0.1 C0.2.1 dX5_told_1 (by decide) ?_
  refine lv_icmp_ge (tgt := 13) C0.1 C0.2.1 dX5_told_3 (by decide) (fun c1 => ?_) (fun c1 => ?_)
  · have hF := if_t c1 hF
    refine lv_iload_n C0.1 C0.2.1 dX5_told_13 rfl (lv_at hl 2 rfl) ?_
    refine lv_bipush (v := (6 : Int32)) C0.1 C0.2.1 dX5_told_14 (by decide) ?_
    refine lv_icmp_ne (tgt := 25) C0.1 C0.2.1 dX5_told_16 (by decide) (fun c2 => ?_) (fun c2 => ?_)
    · have hF := if_t c2 hF
      refine lv_iload_n C0.1 C0.2.1 dX5_told_25 rfl (lv_at hl 2 rfl) ?_
      refine lv_bipush (v := (7 : Int32)) C0.1 C0.2.1 dX5_told_26 (by decide) ?_
      refine lv_icmp_ne (tgt := 39) C0.1 C0.2.1 dX5_told_28 (by decide) (fun c3 => ?_) (fun c3 => ?_)
      · have hF := if_t c3 hF
        refine lv_aload_n C0.1 C0.2.1 dX5_told_39 rfl (lv_at hl 0 rfl) ?_
        refine lv_iload_n C0.1 C0.2.1 dX5_told_40 rfl (lv_at hl 1 rfl) ?_
        refine lv_iload_n C0.1 C0.2.1 dX5_told_41 rfl (lv_at hl 2 rfl) ?_
        refine lv_bipush (v := (12 : Int32)) C0.1 C0.2.1 dX5_told_42 (by decide) ?_
        obtain ⟨j64_4, ej64_4, hF⟩ := nm_some hF
        have J64 : ∀ (s4 : Int32) (H : Heap) (locs : List Loc) (ls : Array Slot), MX G M s H locs → lv_has ls 3 [(0, .ref (gad G 220)), (1, .int a0), (2, .int a1)] → j64_4 s4 = some r → W p l e (Rm 3) s m ([.ref (gad G 220), .int a0, .int a1] : List Value).toArray below meth c H locs 0 0 (QI below ([.ref (gad G 220), .int a0, .int a1] : List Value).toArray s G sz r M) (F0 m 64 ls [.int s4, .int a0, .ref (gad G 220)]) := by
          intro s4 H locs ls hM hl hF
          rw [ej64_4] at hF
          obtain ⟨r7, h6, hF⟩ := bd_some hF
          refine y_vi (rest := []) C0 hM hl.1 ok_md (ent5 ok_md) rfl (k_X5_of l G M a0 s4 h6) cw_RX5_32 rfl rfl ⟨Nat.le_of_ble_eq_true rfl, Nat.le_of_ble_eq_true rfl⟩ rfl (Nat.le_of_ble_eq_true rfl) ⟨Nat.le_of_ble_eq_true rfl, Nat.le_of_ble_eq_true rfl⟩ dX5_told_64 (fun H locs hM => ?_)
          have e8 := y_1 hF
          subst e8
          exact y_iret C0 hM hsz dX5_told_67
        refine lv_icmp_ge (tgt := 57) C0.1 C0.2.1 dX5_told_44 (by decide) (fun c8 => ?_) (fun c8 => ?_)
        · have hF := if_t c8 hF
          refine lv_bipush (v := (15 : Int32)) C0.1 C0.2.1 dX5_told_57 (by decide) ?_
          refine lv_iload_n C0.1 C0.2.1 dX5_told_59 rfl (lv_at hl 2 rfl) ?_
          refine lv_iadd C0.1 C0.2.1 dX5_told_60 ?_
          refine lv_bipush (v := (12 : Int32)) C0.1 C0.2.1 dX5_told_61 (by decide) ?_
          refine lv_isub C0.1 C0.2.1 dX5_told_63 ?_
          exact J64 (((15 : Int32) + a1) - (12 : Int32)) _ _ _ hM (lv_sub hl [0, 1, 2] rfl) hF
        · have hF := if_f c8 hF
          refine lv_bipush (v := (11 : Int32)) C0.1 C0.2.1 dX5_told_47 (by decide) ?_
          refine lv_iload_n C0.1 C0.2.1 dX5_told_49 rfl (lv_at hl 2 rfl) ?_
          refine lv_iadd C0.1 C0.2.1 dX5_told_50 ?_
          refine lv_bipush (v := (8 : Int32)) C0.1 C0.2.1 dX5_told_51 (by decide) ?_
          refine lv_isub C0.1 C0.2.1 dX5_told_53 ?_
          refine lv_goto (tgt := 64) C0.1 C0.2.1 dX5_told_54 (by decide) ?_
          exact J64 (((11 : Int32) + a1) - (8 : Int32)) _ _ _ hM (lv_sub hl [0, 1, 2] rfl) hF
      · have hF := if_f (fun q => q c3) hF
        refine lv_aload_n C0.1 C0.2.1 dX5_told_31 rfl (lv_at hl 0 rfl) ?_
        refine lv_iload_n C0.1 C0.2.1 dX5_told_32 rfl (lv_at hl 1 rfl) ?_
        obtain ⟨r10, h9, hF⟩ := bd_some hF
        refine y_vi (rest := []) C0 hM hl.1 ok_md (ent5 ok_md) rfl (k_X5_stateOf l G M a0 h9) cw_RX5_200 rfl rfl ⟨Nat.le_of_ble_eq_true rfl, Nat.le_of_ble_eq_true rfl⟩ rfl (Nat.le_of_ble_eq_true rfl) ⟨Nat.le_of_ble_eq_true rfl, Nat.le_of_ble_eq_true rfl⟩ dX5_told_33 (fun H locs hM => ?_)
        refine lv_goto (tgt := 67) C0.1 C0.2.1 dX5_told_36 (by decide) ?_
        have e8 := y_1 hF
        subst e8
        exact y_iret C0 hM hsz dX5_told_67
    · have hF := if_f (fun q => q c2) hF
      refine lv_aload_n C0.1 C0.2.1 dX5_told_19 rfl (lv_at hl 0 rfl) ?_
      refine lv_iload_n C0.1 C0.2.1 dX5_told_20 rfl (lv_at hl 1 rfl) ?_
      obtain ⟨r12, h11, hF⟩ := bd_some hF
      refine y_vi (rest := []) C0 hM hl.1 ok_md (ent5 ok_md) rfl (k_X5_placeInRow l G M a0 h11) cw_RX5_39 rfl rfl ⟨Nat.le_of_ble_eq_true rfl, Nat.le_of_ble_eq_true rfl⟩ rfl (Nat.le_of_ble_eq_true rfl) ⟨Nat.le_of_ble_eq_true rfl, Nat.le_of_ble_eq_true rfl⟩ dX5_told_21 (fun H locs hM => ?_)
      have e8 := y_1 hF
      subst e8
      exact y_iret C0 hM hsz dX5_told_24
  · have hF := if_f c1 hF
    refine lv_aload_n C0.1 C0.2.1 dX5_told_6 rfl (lv_at hl 0 rfl) ?_
    refine lv_iload_n C0.1 C0.2.1 dX5_told_7 rfl (lv_at hl 1 rfl) ?_
    refine lv_iload_n C0.1 C0.2.1 dX5_told_8 rfl (lv_at hl 2 rfl) ?_
    obtain ⟨r14, h13, hF⟩ := bd_some hF
    refine y_vi (rest := []) C0 hM hl.1 ok_md (ent5 ok_md) rfl (k_X5_of l G M a0 a1 h13) cw_RX5_32 rfl rfl ⟨Nat.le_of_ble_eq_true rfl, Nat.le_of_ble_eq_true rfl⟩ rfl (Nat.le_of_ble_eq_true rfl) ⟨Nat.le_of_ble_eq_true rfl, Nat.le_of_ble_eq_true rfl⟩ dX5_told_9 (fun H locs hM => ?_)
    have e8 := y_1 hF
    subst e8
    exact y_iret C0 hM hsz dX5_told_12

def F_X5_fighter (M : MS) (a0 : Int32) (a1 : Int32) : Option (Int32 × MS) := (bd (F_X5_isFighter M a0) fun r2 => (nm (fun (s3 : Int32) => (nm (wF M 80 220 s3) fun M5 => (if (rF M5 80 220) ≤ 0 then (bd (F_X5_told M5 a0 a1) fun r8 => (some (r8, M5))) else (some ((0 : Int32), M5))))) fun j28_3 => (if ¬ r2 = 0 then (bd (F_X5_in M a1 (0 : Int32) (13 : Int32)) fun r11 => (if r11 = 0 then (j28_3 (2 : Int32)) else (j28_3 (0 : Int32)))) else (j28_3 (1 : Int32)))))

set_option maxHeartbeats 4000000 in
set_option maxRecDepth 100000 in
theorem k_X5_fighter (l : Launch) (G : GG) (M : MS) (a0 : Int32) (a1 : Int32) {r : Int32} {Mf : MS} (hF : F_X5_fighter M a0 a1 = some (r, Mf)) : KI l yX5_fighter (WS yX5_fighter cX5_fighter 3 (some .int)) (Rm 4) G [.ref (gad G 220), .int a0, .int a1] M r Mf := by
  intro sz
  refine y_met (by decide +kernel) (Nat.le_of_ble_eq_true rfl) rfl (fun p e s m below meth c ls hsz C0 hM hl => ?_)
  have hl : lv_has ls 3 [(0, .ref (gad G 220)), (1, .int a0), (2, .int a1)] := hl
  have C0 : CX p s m meth c ([.ref (gad G 220), .int a0, .int a1] : List Value).toArray cX5_fighter RX5 3 (some .int) := C0
  rw [F_X5_fighter] at hF
  refine lv_aload_n C0.1 C0.2.1 dX5_fighter_0 rfl (lv_at hl 0 rfl) ?_
  refine lv_aload_n C0.1 C0.2.1 dX5_fighter_1 rfl (lv_at hl 0 rfl) ?_
  refine lv_iload_n C0.1 C0.2.1 dX5_fighter_2 rfl (lv_at hl 1 rfl) ?_
  obtain ⟨r2, h1, hF⟩ := bd_some hF
  refine y_vi (rest := [.ref (gad G 220)]) C0 hM hl.1 ok_md (ent5 ok_md) rfl (k_X5_isFighter l G M a0 h1) cw_RX5_126 rfl rfl ⟨Nat.le_of_ble_eq_true rfl, Nat.le_of_ble_eq_true rfl⟩ rfl (Nat.le_of_ble_eq_true rfl) ⟨Nat.le_of_ble_eq_true rfl, Nat.le_of_ble_eq_true rfl⟩ dX5_fighter_3 (fun H locs hM => ?_)
  obtain ⟨j28_3, ej28_3, hF⟩ := nm_some hF
  have J28 : ∀ (s3 : Int32) (H : Heap) (locs : List Loc) (ls : Array Slot), MX G M s H locs → lv_has ls 3 [(0, .ref (gad G 220)), (1, .int a0), (2, .int a1)] → j28_3 s3 = some (r, Mf) → W p l e (Rm 4) s m ([.ref (gad G 220), .int a0, .int a1] : List Value).toArray below meth c H locs 0 0 (QI below ([.ref (gad G 220), .int a0, .int a1] : List Value).toArray s G sz r Mf) (F0 m 28 ls [.int s3, .ref (gad G 220)]) := by
    intro s3 H locs ls hM hl hF
    rw [ej28_3] at hF
    refine pf5_0 C0 hM ok_md fl_RX5_28 dX5_fighter_28 (fun H locs hM => ?_)
    obtain ⟨M5, eM5, hF⟩ := nm_some hF
    have hM := y_mn eM5 hM
    refine lv_aload_n C0.1 C0.2.1 dX5_fighter_31 rfl (lv_at hl 0 rfl) ?_
    refine gf5_0 C0 hM ok_md fl_RX5_28 dX5_fighter_32 ?_
    refine lv_if_le (tgt := 42) C0.1 C0.2.1 dX5_fighter_35 (by decide) (fun c6 => ?_) (fun c6 => ?_)
    · have hF := if_t c6 hF
      refine lv_aload_n C0.1 C0.2.1 dX5_fighter_42 rfl (lv_at hl 0 rfl) ?_
      refine lv_iload_n C0.1 C0.2.1 dX5_fighter_43 rfl (lv_at hl 1 rfl) ?_
      refine lv_iload_n C0.1 C0.2.1 dX5_fighter_44 rfl (lv_at hl 2 rfl) ?_
      obtain ⟨r8, h7, hF⟩ := bd_some hF
      refine y_vi (rest := []) C0 hM hl.1 ok_md (ent5 ok_md) rfl (k_X5_told l G M5 a0 a1 h7) cw_RX5_203 rfl rfl ⟨Nat.le_of_ble_eq_true rfl, Nat.le_of_ble_eq_true rfl⟩ rfl (Nat.le_of_ble_eq_true rfl) ⟨Nat.le_of_ble_eq_true rfl, Nat.le_of_ble_eq_true rfl⟩ dX5_fighter_45 (fun H locs hM => ?_)
      obtain ⟨e8, e9⟩ := y_2 hF
      subst e8
      subst e9
      exact y_iret C0 hM hsz dX5_fighter_48
    · have hF := if_f c6 hF
      refine lv_iconst (v := (0 : Int32)) C0.1 C0.2.1 dX5_fighter_38 (by decide) ?_
      refine lv_goto (tgt := 48) C0.1 C0.2.1 dX5_fighter_39 (by decide) ?_
      obtain ⟨e8, e9⟩ := y_2 hF
      subst e8
      subst e9
      exact y_iret C0 hM hsz dX5_fighter_48
  refine lv_if_ne (tgt := 13) C0.1 C0.2.1 dX5_fighter_6 (by decide) (fun c9 => ?_) (fun c9 => ?_)
  · have hF := if_t c9 hF
    refine lv_iload_n C0.1 C0.2.1 dX5_fighter_13 rfl (lv_at hl 2 rfl) ?_
    refine lv_iconst (v := (0 : Int32)) C0.1 C0.2.1 dX5_fighter_14 (by decide) ?_
    refine lv_bipush (v := (13 : Int32)) C0.1 C0.2.1 dX5_fighter_15 (by decide) ?_
    obtain ⟨r11, h10, hF⟩ := bd_some hF
    refine y_si (rest := [.ref (gad G 220)]) C0 hM hl.1 (k_X5_in l G M a1 (0 : Int32) (13 : Int32) h10) cw_RX5_85 rfl rfl ⟨Nat.le_of_ble_eq_true rfl, Nat.le_of_ble_eq_true rfl⟩ rfl (Nat.le_of_ble_eq_true rfl) ⟨Nat.le_of_ble_eq_true rfl, Nat.le_of_ble_eq_true rfl⟩ dX5_fighter_17 (fun H locs hM => ?_)
    refine lv_if_eq (tgt := 27) C0.1 C0.2.1 dX5_fighter_20 (by decide) (fun c12 => ?_) (fun c12 => ?_)
    · have hF := if_t c12 hF
      refine lv_iconst (v := (2 : Int32)) C0.1 C0.2.1 dX5_fighter_27 (by decide) ?_
      exact J28 (2 : Int32) _ _ _ hM (lv_sub hl [0, 1, 2] rfl) hF
    · have hF := if_f c12 hF
      refine lv_iconst (v := (0 : Int32)) C0.1 C0.2.1 dX5_fighter_23 (by decide) ?_
      refine lv_goto (tgt := 28) C0.1 C0.2.1 dX5_fighter_24 (by decide) ?_
      exact J28 (0 : Int32) _ _ _ hM (lv_sub hl [0, 1, 2] rfl) hF
  · have hF := if_f (fun q => q c9) hF
    refine lv_iconst (v := (1 : Int32)) C0.1 C0.2.1 dX5_fighter_9 (by decide) ?_
    refine lv_goto (tgt := 28) C0.1 C0.2.1 dX5_fighter_10 (by decide) ?_
    exact J28 (1 : Int32) _ _ _ hM (lv_sub hl [0, 1, 2] rfl) hF

def F_X5_readied (M : MS) (a0 : Int32) (a1 : Int32) : Option (Int32 × MS) := (bd (F_X5_isFighter M a0) fun r2 => (nm (fun (s3 : Int32) => (nm (wF M 80 220 s3) fun M5 => (if (rF M5 80 220) ≤ 0 then (bd (F_X5_of M5 a0 ((7 : Int32) + a1)) fun r8 => (some (r8, M5))) else (some ((0 : Int32), M5))))) fun j27_3 => (if ¬ r2 = 0 then (bd (F_X5_in M a1 (0 : Int32) (3 : Int32)) fun r11 => (if r11 = 0 then (j27_3 (2 : Int32)) else (j27_3 (0 : Int32)))) else (j27_3 (1 : Int32)))))

set_option maxHeartbeats 4000000 in
set_option maxRecDepth 100000 in
theorem k_X5_readied (l : Launch) (G : GG) (M : MS) (a0 : Int32) (a1 : Int32) {r : Int32} {Mf : MS} (hF : F_X5_readied M a0 a1 = some (r, Mf)) : KI l yX5_readied (WS yX5_readied cX5_readied 3 (some .int)) (Rm 1) G [.ref (gad G 220), .int a0, .int a1] M r Mf := by
  intro sz
  refine y_met (by decide +kernel) (Nat.le_of_ble_eq_true rfl) rfl (fun p e s m below meth c ls hsz C0 hM hl => ?_)
  have hl : lv_has ls 3 [(0, .ref (gad G 220)), (1, .int a0), (2, .int a1)] := hl
  have C0 : CX p s m meth c ([.ref (gad G 220), .int a0, .int a1] : List Value).toArray cX5_readied RX5 3 (some .int) := C0
  rw [F_X5_readied] at hF
  refine lv_aload_n C0.1 C0.2.1 dX5_readied_0 rfl (lv_at hl 0 rfl) ?_
  refine lv_aload_n C0.1 C0.2.1 dX5_readied_1 rfl (lv_at hl 0 rfl) ?_
  refine lv_iload_n C0.1 C0.2.1 dX5_readied_2 rfl (lv_at hl 1 rfl) ?_
  obtain ⟨r2, h1, hF⟩ := bd_some hF
  refine y_vi (rest := [.ref (gad G 220)]) C0 hM hl.1 ok_md (ent5 ok_md) rfl (k_X5_isFighter l G M a0 h1) cw_RX5_126 rfl rfl ⟨Nat.le_of_ble_eq_true rfl, Nat.le_of_ble_eq_true rfl⟩ rfl (Nat.le_of_ble_eq_true rfl) ⟨Nat.le_of_ble_eq_true rfl, Nat.le_of_ble_eq_true rfl⟩ dX5_readied_3 (fun H locs hM => ?_)
  obtain ⟨j27_3, ej27_3, hF⟩ := nm_some hF
  have J27 : ∀ (s3 : Int32) (H : Heap) (locs : List Loc) (ls : Array Slot), MX G M s H locs → lv_has ls 3 [(0, .ref (gad G 220)), (1, .int a0), (2, .int a1)] → j27_3 s3 = some (r, Mf) → W p l e (Rm 1) s m ([.ref (gad G 220), .int a0, .int a1] : List Value).toArray below meth c H locs 0 0 (QI below ([.ref (gad G 220), .int a0, .int a1] : List Value).toArray s G sz r Mf) (F0 m 27 ls [.int s3, .ref (gad G 220)]) := by
    intro s3 H locs ls hM hl hF
    rw [ej27_3] at hF
    refine pf5_0 C0 hM ok_md fl_RX5_28 dX5_readied_27 (fun H locs hM => ?_)
    obtain ⟨M5, eM5, hF⟩ := nm_some hF
    have hM := y_mn eM5 hM
    refine lv_aload_n C0.1 C0.2.1 dX5_readied_30 rfl (lv_at hl 0 rfl) ?_
    refine gf5_0 C0 hM ok_md fl_RX5_28 dX5_readied_31 ?_
    refine lv_if_le (tgt := 41) C0.1 C0.2.1 dX5_readied_34 (by decide) (fun c6 => ?_) (fun c6 => ?_)
    · have hF := if_t c6 hF
      refine lv_aload_n C0.1 C0.2.1 dX5_readied_41 rfl (lv_at hl 0 rfl) ?_
      refine lv_iload_n C0.1 C0.2.1 dX5_readied_42 rfl (lv_at hl 1 rfl) ?_
      refine lv_bipush (v := (7 : Int32)) C0.1 C0.2.1 dX5_readied_43 (by decide) ?_
      refine lv_iload_n C0.1 C0.2.1 dX5_readied_45 rfl (lv_at hl 2 rfl) ?_
      refine lv_iadd C0.1 C0.2.1 dX5_readied_46 ?_
      obtain ⟨r8, h7, hF⟩ := bd_some hF
      refine y_vi (rest := []) C0 hM hl.1 ok_md (ent5 ok_md) rfl (k_X5_of l G M5 a0 ((7 : Int32) + a1) h7) cw_RX5_32 rfl rfl ⟨Nat.le_of_ble_eq_true rfl, Nat.le_of_ble_eq_true rfl⟩ rfl (Nat.le_of_ble_eq_true rfl) ⟨Nat.le_of_ble_eq_true rfl, Nat.le_of_ble_eq_true rfl⟩ dX5_readied_47 (fun H locs hM => ?_)
      obtain ⟨e8, e9⟩ := y_2 hF
      subst e8
      subst e9
      exact y_iret C0 hM hsz dX5_readied_50
    · have hF := if_f c6 hF
      refine lv_iconst (v := (0 : Int32)) C0.1 C0.2.1 dX5_readied_37 (by decide) ?_
      refine lv_goto (tgt := 50) C0.1 C0.2.1 dX5_readied_38 (by decide) ?_
      obtain ⟨e8, e9⟩ := y_2 hF
      subst e8
      subst e9
      exact y_iret C0 hM hsz dX5_readied_50
  refine lv_if_ne (tgt := 13) C0.1 C0.2.1 dX5_readied_6 (by decide) (fun c9 => ?_) (fun c9 => ?_)
  · have hF := if_t c9 hF
    refine lv_iload_n C0.1 C0.2.1 dX5_readied_13 rfl (lv_at hl 2 rfl) ?_
    refine lv_iconst (v := (0 : Int32)) C0.1 C0.2.1 dX5_readied_14 (by decide) ?_
    refine lv_iconst (v := (3 : Int32)) C0.1 C0.2.1 dX5_readied_15 (by decide) ?_
    obtain ⟨r11, h10, hF⟩ := bd_some hF
    refine y_si (rest := [.ref (gad G 220)]) C0 hM hl.1 (k_X5_in l G M a1 (0 : Int32) (3 : Int32) h10) cw_RX5_85 rfl rfl ⟨Nat.le_of_ble_eq_true rfl, Nat.le_of_ble_eq_true rfl⟩ rfl (Nat.le_of_ble_eq_true rfl) ⟨Nat.le_of_ble_eq_true rfl, Nat.le_of_ble_eq_true rfl⟩ dX5_readied_16 (fun H locs hM => ?_)
    refine lv_if_eq (tgt := 26) C0.1 C0.2.1 dX5_readied_19 (by decide) (fun c12 => ?_) (fun c12 => ?_)
    · have hF := if_t c12 hF
      refine lv_iconst (v := (2 : Int32)) C0.1 C0.2.1 dX5_readied_26 (by decide) ?_
      exact J27 (2 : Int32) _ _ _ hM (lv_sub hl [0, 1, 2] rfl) hF
    · have hF := if_f c12 hF
      refine lv_iconst (v := (0 : Int32)) C0.1 C0.2.1 dX5_readied_22 (by decide) ?_
      refine lv_goto (tgt := 27) C0.1 C0.2.1 dX5_readied_23 (by decide) ?_
      exact J27 (0 : Int32) _ _ _ hM (lv_sub hl [0, 1, 2] rfl) hF
  · have hF := if_f (fun q => q c9) hF
    refine lv_iconst (v := (1 : Int32)) C0.1 C0.2.1 dX5_readied_9 (by decide) ?_
    refine lv_goto (tgt := 27) C0.1 C0.2.1 dX5_readied_10 (by decide) ?_
    exact J27 (1 : Int32) _ _ _ hM (lv_sub hl [0, 1, 2] rfl) hF

def F_X5_rowAt (M : MS) (a0 : Int32) : Option Int32 := (gdb (inb (0 : Int32) 186) (if (rA M 221 (Int32.toNatClampNeg (0 : Int32))) ≤ a0 then (some (-1 : Int32)) else (gdb (inb ((6 : Int32) + a0) 186) (some (rA M 221 (Int32.toNatClampNeg ((6 : Int32) + a0)))))))

set_option maxHeartbeats 4000000 in
set_option maxRecDepth 100000 in
theorem k_X5_rowAt (l : Launch) (G : GG) (M : MS) (a0 : Int32) {r : Int32} (hF : F_X5_rowAt M a0 = some r) : KI l yX5_rowAt (WS yX5_rowAt cX5_rowAt 2 (some .int)) (Rm 0) G [.ref (gad G 220), .int a0] M r M := by
  intro sz
  refine y_met (by decide +kernel) (Nat.le_of_ble_eq_true rfl) rfl (fun p e s m below meth c ls hsz C0 hM hl => ?_)
  have hl : lv_has ls 2 [(0, .ref (gad G 220)), (1, .int a0)] := hl
  have C0 : CX p s m meth c ([.ref (gad G 220), .int a0] : List Value).toArray cX5_rowAt RX5 2 (some .int) := C0
  rw [F_X5_rowAt] at hF
  refine lv_iload_n C0.1 C0.2.1 dX5_rowAt_0 rfl (lv_at hl 1 rfl) ?_
  refine lv_aload_n C0.1 C0.2.1 dX5_rowAt_1 rfl (lv_at hl 0 rfl) ?_
  refine gf5_1 C0 hM ok_md fl_RX5_7 dX5_rowAt_2 ?_
  refine lv_iconst (v := (0 : Int32)) C0.1 C0.2.1 dX5_rowAt_5 (by decide) ?_
  obtain ⟨g1, hF⟩ := gdb_some hF
  refine y_iald C0 hM oka_z g1 dX5_rowAt_6 ?_
  refine lv_icmp_ge (tgt := 22) C0.1 C0.2.1 dX5_rowAt_7 (by decide) (fun c2 => ?_) (fun c2 => ?_)
  · have hF := if_t c2 hF
    refine lv_iconst (v := (-1 : Int32)) C0.1 C0.2.1 dX5_rowAt_22 (by decide) ?_
    have e8 := y_1 hF
    subst e8
    exact y_iret C0 hM hsz dX5_rowAt_23
  · have hF := if_f c2 hF
    refine lv_aload_n C0.1 C0.2.1 dX5_rowAt_10 rfl (lv_at hl 0 rfl) ?_
    refine gf5_1 C0 hM ok_md fl_RX5_7 dX5_rowAt_11 ?_
    refine lv_bipush (v := (6 : Int32)) C0.1 C0.2.1 dX5_rowAt_14 (by decide) ?_
    refine lv_iload_n C0.1 C0.2.1 dX5_rowAt_16 rfl (lv_at hl 1 rfl) ?_
    refine lv_iadd C0.1 C0.2.1 dX5_rowAt_17 ?_
    obtain ⟨g3, hF⟩ := gdb_some hF
    refine y_iald C0 hM oka_z g3 dX5_rowAt_18 ?_
    refine lv_goto (tgt := 23) C0.1 C0.2.1 dX5_rowAt_19 (by decide) ?_
    have e8 := y_1 hF
    subst e8
    exact y_iret C0 hM hsz dX5_rowAt_23

def F_X5_inRow (M : MS) (a0 : Int32) : Option (Int32 × MS) := (nm (fun (s1 : Int32) => (nm (wF M 80 220 s1) fun M3 => (if (rF M3 80 220) ≤ 0 then (bd (F_X5_rowAt M3 a0) fun r6 => (some (r6, M3))) else (some ((0 : Int32), M3))))) fun j10_1 => (if 0 ≤ a0 then (j10_1 (0 : Int32)) else (j10_1 (1 : Int32))))

set_option maxHeartbeats 4000000 in
set_option maxRecDepth 100000 in
theorem k_X5_inRow (l : Launch) (G : GG) (M : MS) (a0 : Int32) {r : Int32} {Mf : MS} (hF : F_X5_inRow M a0 = some (r, Mf)) : KI l yX5_inRow (WS yX5_inRow cX5_inRow 2 (some .int)) (Rm 1) G [.ref (gad G 220), .int a0] M r Mf := by
  intro sz
  refine y_met (by decide +kernel) (Nat.le_of_ble_eq_true rfl) rfl (fun p e s m below meth c ls hsz C0 hM hl => ?_)
  have hl : lv_has ls 2 [(0, .ref (gad G 220)), (1, .int a0)] := hl
  have C0 : CX p s m meth c ([.ref (gad G 220), .int a0] : List Value).toArray cX5_inRow RX5 2 (some .int) := C0
  rw [F_X5_inRow] at hF
  refine lv_aload_n C0.1 C0.2.1 dX5_inRow_0 rfl (lv_at hl 0 rfl) ?_
  refine lv_iload_n C0.1 C0.2.1 dX5_inRow_1 rfl (lv_at hl 1 rfl) ?_
  obtain ⟨j10_1, ej10_1, hF⟩ := nm_some hF
  have J10 : ∀ (s1 : Int32) (H : Heap) (locs : List Loc) (ls : Array Slot), MX G M s H locs → lv_has ls 2 [(0, .ref (gad G 220)), (1, .int a0)] → j10_1 s1 = some (r, Mf) → W p l e (Rm 1) s m ([.ref (gad G 220), .int a0] : List Value).toArray below meth c H locs 0 0 (QI below ([.ref (gad G 220), .int a0] : List Value).toArray s G sz r Mf) (F0 m 10 ls [.int s1, .ref (gad G 220)]) := by
    intro s1 H locs ls hM hl hF
    rw [ej10_1] at hF
    refine pf5_0 C0 hM ok_md fl_RX5_28 dX5_inRow_10 (fun H locs hM => ?_)
    obtain ⟨M3, eM3, hF⟩ := nm_some hF
    have hM := y_mn eM3 hM
    refine lv_aload_n C0.1 C0.2.1 dX5_inRow_13 rfl (lv_at hl 0 rfl) ?_
    refine gf5_0 C0 hM ok_md fl_RX5_28 dX5_inRow_14 ?_
    refine lv_if_le (tgt := 24) C0.1 C0.2.1 dX5_inRow_17 (by decide) (fun c4 => ?_) (fun c4 => ?_)
    · have hF := if_t c4 hF
      refine lv_aload_n C0.1 C0.2.1 dX5_inRow_24 rfl (lv_at hl 0 rfl) ?_
      refine lv_iload_n C0.1 C0.2.1 dX5_inRow_25 rfl (lv_at hl 1 rfl) ?_
      obtain ⟨r6, h5, hF⟩ := bd_some hF
      refine y_vi (rest := []) C0 hM hl.1 ok_md (ent5 ok_md) rfl (k_X5_rowAt l G M3 a0 h5) cw_RX5_206 rfl rfl ⟨Nat.le_of_ble_eq_true rfl, Nat.le_of_ble_eq_true rfl⟩ rfl (Nat.le_of_ble_eq_true rfl) ⟨Nat.le_of_ble_eq_true rfl, Nat.le_of_ble_eq_true rfl⟩ dX5_inRow_26 (fun H locs hM => ?_)
      obtain ⟨e8, e9⟩ := y_2 hF
      subst e8
      subst e9
      exact y_iret C0 hM hsz dX5_inRow_29
    · have hF := if_f c4 hF
      refine lv_iconst (v := (0 : Int32)) C0.1 C0.2.1 dX5_inRow_20 (by decide) ?_
      refine lv_goto (tgt := 29) C0.1 C0.2.1 dX5_inRow_21 (by decide) ?_
      obtain ⟨e8, e9⟩ := y_2 hF
      subst e8
      subst e9
      exact y_iret C0 hM hsz dX5_inRow_29
  refine lv_if_ge (tgt := 9) C0.1 C0.2.1 dX5_inRow_2 (by decide) (fun c7 => ?_) (fun c7 => ?_)
  · have hF := if_t c7 hF
    refine lv_iconst (v := (0 : Int32)) C0.1 C0.2.1 dX5_inRow_9 (by decide) ?_
    exact J10 (0 : Int32) _ _ _ hM (lv_sub hl [0, 1] rfl) hF
  · have hF := if_f c7 hF
    refine lv_iconst (v := (1 : Int32)) C0.1 C0.2.1 dX5_inRow_5 (by decide) ?_
    refine lv_goto (tgt := 10) C0.1 C0.2.1 dX5_inRow_6 (by decide) ?_
    exact J10 (1 : Int32) _ _ _ hM (lv_sub hl [0, 1] rfl) hF

def F_X5_standingOf_l4 (a0 : Int32) (M : MS) : Nat → Int32 → Int32 → Option Int32
  | 0, _, _ => none
  | n4 + 1, l2_1, l3_2 => (gdb (inb (0 : Int32) 186) (if (rA M 221 (Int32.toNatClampNeg (0 : Int32))) ≤ l3_2 then (some l2_1) else (bd (F_X5_of M l3_2 (0 : Int32)) fun r6 => (if ¬ r6 = a0 then (nm (l2_1 + (0 : Int32)) fun x8 => (nm (l3_2 + (1 : Int32)) fun x9 => (F_X5_standingOf_l4 a0 M n4 x8 x9))) else (bd (F_X5_hasFallen M l3_2) fun r11 => (if ¬ r11 = 0 then (nm (l2_1 + (0 : Int32)) fun x13 => (nm (l3_2 + (1 : Int32)) fun x14 => (F_X5_standingOf_l4 a0 M n4 x13 x14))) else (nm (l2_1 + (1 : Int32)) fun x15 => (nm (l3_2 + (1 : Int32)) fun x16 => (F_X5_standingOf_l4 a0 M n4 x15 x16)))))))))

def F_X5_standingOf (M : MS) (a0 : Int32) : Option Int32 := (F_X5_standingOf_l4 a0 M FU (0 : Int32) (0 : Int32))

set_option maxHeartbeats 4000000 in
set_option maxRecDepth 100000 in
theorem k_X5_standingOf (l : Launch) (G : GG) (M : MS) (a0 : Int32) {r : Int32} (hF : F_X5_standingOf M a0 = some r) : KI l yX5_standingOf (WS yX5_standingOf cX5_standingOf 4 (some .int)) (Rm 2) G [.ref (gad G 220), .int a0] M r M := by
  intro sz
  refine y_met (by decide +kernel) (Nat.le_of_ble_eq_true rfl) rfl (fun p e s m below meth c ls hsz C0 hM hl => ?_)
  have hl : lv_has ls 4 [(0, .ref (gad G 220)), (1, .int a0)] := hl
  have C0 : CX p s m meth c ([.ref (gad G 220), .int a0] : List Value).toArray cX5_standingOf RX5 4 (some .int) := C0
  rw [F_X5_standingOf] at hF
  refine lv_iconst (v := (0 : Int32)) C0.1 C0.2.1 dX5_standingOf_0 (by decide) ?_
  refine lv_istore_n (lv' := [(2, .int (0 : Int32)), (0, .ref (gad G 220)), (1, .int a0)]) C0.1 C0.2.1 dX5_standingOf_1 rfl hl (by decide) rfl (fun ls hl => ?_)
  refine lv_iconst (v := (0 : Int32)) C0.1 C0.2.1 dX5_standingOf_2 (by decide) ?_
  refine lv_istore_n (lv' := [(3, .int (0 : Int32)), (2, .int (0 : Int32)), (0, .ref (gad G 220)), (1, .int a0)]) C0.1 C0.2.1 dX5_standingOf_3 rfl hl (by decide) rfl (fun ls hl => ?_)
  have L4 : ∀ (n : Nat) (l2_1 : Int32) (l3_2 : Int32) (H : Heap) (locs : List Loc) (ls : Array Slot), MX G M s H locs → lv_has ls 4 [(0, .ref (gad G 220)), (1, .int a0), (2, .int l2_1), (3, .int l3_2)] → F_X5_standingOf_l4 a0 M n l2_1 l3_2 = some r → W p l e (Rm 2) s m ([.ref (gad G 220), .int a0] : List Value).toArray below meth c H locs 0 0 (QI below ([.ref (gad G 220), .int a0] : List Value).toArray s G sz r M) (F0 m 4 ls []) := by
    intro n
    induction n with
    | zero => intro l2_1 l3_2 H locs ls hM hl hF; rw [F_X5_standingOf_l4] at hF; cases hF
    | succ n4 ih4 =>
      intro l2_1 l3_2 H locs ls hM hl hF
      rw [F_X5_standingOf_l4] at hF
      refine lv_iload_n C0.1 C0.2.1 dX5_standingOf_4 rfl (lv_at hl 3 rfl) ?_
      refine lv_aload_n C0.1 C0.2.1 dX5_standingOf_5 rfl (lv_at hl 0 rfl) ?_
      refine gf5_1 C0 hM ok_md fl_RX5_7 dX5_standingOf_6 ?_
      refine lv_iconst (v := (0 : Int32)) C0.1 C0.2.1 dX5_standingOf_9 (by decide) ?_
      obtain ⟨g3, hF⟩ := gdb_some hF
      refine y_iald C0 hM oka_z g3 dX5_standingOf_10 ?_
      refine lv_icmp_ge (tgt := 46) C0.1 C0.2.1 dX5_standingOf_11 (by decide) (fun c4 => ?_) (fun c4 => ?_)
      · have hF := if_t c4 hF
        refine lv_iload_n C0.1 C0.2.1 dX5_standingOf_46 rfl (lv_at hl 2 rfl) ?_
        have e8 := y_1 hF
        subst e8
        exact y_iret C0 hM hsz dX5_standingOf_47
      · have hF := if_f c4 hF
        refine lv_iload_n C0.1 C0.2.1 dX5_standingOf_14 rfl (lv_at hl 2 rfl) ?_
        refine lv_aload_n C0.1 C0.2.1 dX5_standingOf_15 rfl (lv_at hl 0 rfl) ?_
        refine lv_iload_n C0.1 C0.2.1 dX5_standingOf_16 rfl (lv_at hl 3 rfl) ?_
        refine lv_iconst (v := (0 : Int32)) C0.1 C0.2.1 dX5_standingOf_17 (by decide) ?_
        obtain ⟨r6, h5, hF⟩ := bd_some hF
        refine y_vi (rest := [.int l2_1]) C0 hM hl.1 ok_md (ent5 ok_md) rfl (k_X5_of l G M l3_2 (0 : Int32) h5) cw_RX5_32 rfl rfl ⟨Nat.le_of_ble_eq_true rfl, Nat.le_of_ble_eq_true rfl⟩ rfl (Nat.le_of_ble_eq_true rfl) ⟨Nat.le_of_ble_eq_true rfl, Nat.le_of_ble_eq_true rfl⟩ dX5_standingOf_18 (fun H locs hM => ?_)
        refine lv_iload_n C0.1 C0.2.1 dX5_standingOf_21 rfl (lv_at hl 1 rfl) ?_
        refine lv_icmp_ne (tgt := 37) C0.1 C0.2.1 dX5_standingOf_22 (by decide) (fun c7 => ?_) (fun c7 => ?_)
        · have hF := if_t c7 hF
          refine lv_iconst (v := (0 : Int32)) C0.1 C0.2.1 dX5_standingOf_37 (by decide) ?_
          refine lv_iadd C0.1 C0.2.1 dX5_standingOf_38 ?_
          obtain ⟨x8, ex8, hF⟩ := nm_some hF
          refine y_topi ex8 ?_
          refine lv_istore_n (lv' := [(2, .int x8), (0, .ref (gad G 220)), (1, .int a0), (3, .int l3_2)]) C0.1 C0.2.1 dX5_standingOf_39 rfl hl (by decide) rfl (fun ls hl => ?_)
          obtain ⟨x9, ex9, hF⟩ := nm_some hF
          refine lv_iinc (v := x9) (lv' := [(3, .int x9), (2, .int x8), (0, .ref (gad G 220)), (1, .int a0)]) C0.1 C0.2.1 dX5_standingOf_40 hl (k := 3) rfl (by rw [ex9]; rfl) (by decide) rfl (fun ls hl => ?_)
          refine lv_goto (tgt := 4) C0.1 C0.2.1 dX5_standingOf_43 (by decide) ?_
          exact ih4 x8 x9 _ _ _ hM (lv_sub hl [2, 3, 1, 0] rfl) hF
        · have hF := if_f (fun q => q c7) hF
          refine lv_aload_n C0.1 C0.2.1 dX5_standingOf_25 rfl (lv_at hl 0 rfl) ?_
          refine lv_iload_n C0.1 C0.2.1 dX5_standingOf_26 rfl (lv_at hl 3 rfl) ?_
          obtain ⟨r11, h10, hF⟩ := bd_some hF
          refine y_vi (rest := [.int l2_1]) C0 hM hl.1 ok_md (ent5 ok_md) rfl (k_X5_hasFallen l G M l3_2 h10) cw_RX5_51 rfl rfl ⟨Nat.le_of_ble_eq_true rfl, Nat.le_of_ble_eq_true rfl⟩ rfl (Nat.le_of_ble_eq_true rfl) ⟨Nat.le_of_ble_eq_true rfl, Nat.le_of_ble_eq_true rfl⟩ dX5_standingOf_27 (fun H locs hM => ?_)
          refine lv_if_ne (tgt := 37) C0.1 C0.2.1 dX5_standingOf_30 (by decide) (fun c12 => ?_) (fun c12 => ?_)
          · have hF := if_t c12 hF
            refine lv_iconst (v := (0 : Int32)) C0.1 C0.2.1 dX5_standingOf_37 (by decide) ?_
            refine lv_iadd C0.1 C0.2.1 dX5_standingOf_38 ?_
            obtain ⟨x13, ex13, hF⟩ := nm_some hF
            refine y_topi ex13 ?_
            refine lv_istore_n (lv' := [(2, .int x13), (0, .ref (gad G 220)), (1, .int a0), (3, .int l3_2)]) C0.1 C0.2.1 dX5_standingOf_39 rfl hl (by decide) rfl (fun ls hl => ?_)
            obtain ⟨x14, ex14, hF⟩ := nm_some hF
            refine lv_iinc (v := x14) (lv' := [(3, .int x14), (2, .int x13), (0, .ref (gad G 220)), (1, .int a0)]) C0.1 C0.2.1 dX5_standingOf_40 hl (k := 3) rfl (by rw [ex14]; rfl) (by decide) rfl (fun ls hl => ?_)
            refine lv_goto (tgt := 4) C0.1 C0.2.1 dX5_standingOf_43 (by decide) ?_
            exact ih4 x13 x14 _ _ _ hM (lv_sub hl [2, 3, 1, 0] rfl) hF
          · have hF := if_f (fun q => q c12) hF
            refine lv_iconst (v := (1 : Int32)) C0.1 C0.2.1 dX5_standingOf_33 (by decide) ?_
            refine lv_goto (tgt := 38) C0.1 C0.2.1 dX5_standingOf_34 (by decide) ?_
            refine lv_iadd C0.1 C0.2.1 dX5_standingOf_38 ?_
            obtain ⟨x15, ex15, hF⟩ := nm_some hF
            refine y_topi ex15 ?_
            refine lv_istore_n (lv' := [(2, .int x15), (0, .ref (gad G 220)), (1, .int a0), (3, .int l3_2)]) C0.1 C0.2.1 dX5_standingOf_39 rfl hl (by decide) rfl (fun ls hl => ?_)
            obtain ⟨x16, ex16, hF⟩ := nm_some hF
            refine lv_iinc (v := x16) (lv' := [(3, .int x16), (2, .int x15), (0, .ref (gad G 220)), (1, .int a0)]) C0.1 C0.2.1 dX5_standingOf_40 hl (k := 3) rfl (by rw [ex16]; rfl) (by decide) rfl (fun ls hl => ?_)
            refine lv_goto (tgt := 4) C0.1 C0.2.1 dX5_standingOf_43 (by decide) ?_
            exact ih4 x15 x16 _ _ _ hM (lv_sub hl [2, 3, 1, 0] rfl) hF
  exact L4 FU (0 : Int32) (0 : Int32) _ _ _ hM (lv_sub hl [2, 3, 1, 0] rfl) hF

def F_X5_lifeOf_l4 (a0 : Int32) (M : MS) : Nat → Int32 → Int32 → Option Int32
  | 0, _, _ => none
  | n4 + 1, l2_1, l3_2 => (gdb (inb (0 : Int32) 186) (if (rA M 221 (Int32.toNatClampNeg (0 : Int32))) ≤ l3_2 then (some l2_1) else (bd (F_X5_of M l3_2 (0 : Int32)) fun r6 => (if ¬ r6 = a0 then (nm (l2_1 + (0 : Int32)) fun x8 => (nm (l3_2 + (1 : Int32)) fun x9 => (F_X5_lifeOf_l4 a0 M n4 x8 x9))) else (bd (F_X5_of M l3_2 (2 : Int32)) fun r11 => (nm (l2_1 + r11) fun x12 => (nm (l3_2 + (1 : Int32)) fun x13 => (F_X5_lifeOf_l4 a0 M n4 x12 x13))))))))

def F_X5_lifeOf (M : MS) (a0 : Int32) : Option Int32 := (F_X5_lifeOf_l4 a0 M FU (0 : Int32) (0 : Int32))

set_option maxHeartbeats 4000000 in
set_option maxRecDepth 100000 in
theorem k_X5_lifeOf (l : Launch) (G : GG) (M : MS) (a0 : Int32) {r : Int32} (hF : F_X5_lifeOf M a0 = some r) : KI l yX5_lifeOf (WS yX5_lifeOf cX5_lifeOf 4 (some .int)) (Rm 1) G [.ref (gad G 220), .int a0] M r M := by
  intro sz
  refine y_met (by decide +kernel) (Nat.le_of_ble_eq_true rfl) rfl (fun p e s m below meth c ls hsz C0 hM hl => ?_)
  have hl : lv_has ls 4 [(0, .ref (gad G 220)), (1, .int a0)] := hl
  have C0 : CX p s m meth c ([.ref (gad G 220), .int a0] : List Value).toArray cX5_lifeOf RX5 4 (some .int) := C0
  rw [F_X5_lifeOf] at hF
  refine lv_iconst (v := (0 : Int32)) C0.1 C0.2.1 dX5_lifeOf_0 (by decide) ?_
  refine lv_istore_n (lv' := [(2, .int (0 : Int32)), (0, .ref (gad G 220)), (1, .int a0)]) C0.1 C0.2.1 dX5_lifeOf_1 rfl hl (by decide) rfl (fun ls hl => ?_)
  refine lv_iconst (v := (0 : Int32)) C0.1 C0.2.1 dX5_lifeOf_2 (by decide) ?_
  refine lv_istore_n (lv' := [(3, .int (0 : Int32)), (2, .int (0 : Int32)), (0, .ref (gad G 220)), (1, .int a0)]) C0.1 C0.2.1 dX5_lifeOf_3 rfl hl (by decide) rfl (fun ls hl => ?_)
  have L4 : ∀ (n : Nat) (l2_1 : Int32) (l3_2 : Int32) (H : Heap) (locs : List Loc) (ls : Array Slot), MX G M s H locs → lv_has ls 4 [(0, .ref (gad G 220)), (1, .int a0), (2, .int l2_1), (3, .int l3_2)] → F_X5_lifeOf_l4 a0 M n l2_1 l3_2 = some r → W p l e (Rm 1) s m ([.ref (gad G 220), .int a0] : List Value).toArray below meth c H locs 0 0 (QI below ([.ref (gad G 220), .int a0] : List Value).toArray s G sz r M) (F0 m 4 ls []) := by
    intro n
    induction n with
    | zero => intro l2_1 l3_2 H locs ls hM hl hF; rw [F_X5_lifeOf_l4] at hF; cases hF
    | succ n4 ih4 =>
      intro l2_1 l3_2 H locs ls hM hl hF
      rw [F_X5_lifeOf_l4] at hF
      refine lv_iload_n C0.1 C0.2.1 dX5_lifeOf_4 rfl (lv_at hl 3 rfl) ?_
      refine lv_aload_n C0.1 C0.2.1 dX5_lifeOf_5 rfl (lv_at hl 0 rfl) ?_
      refine gf5_1 C0 hM ok_md fl_RX5_7 dX5_lifeOf_6 ?_
      refine lv_iconst (v := (0 : Int32)) C0.1 C0.2.1 dX5_lifeOf_9 (by decide) ?_
      obtain ⟨g3, hF⟩ := gdb_some hF
      refine y_iald C0 hM oka_z g3 dX5_lifeOf_10 ?_
      refine lv_icmp_ge (tgt := 43) C0.1 C0.2.1 dX5_lifeOf_11 (by decide) (fun c4 => ?_) (fun c4 => ?_)
      · have hF := if_t c4 hF
        refine lv_iload_n C0.1 C0.2.1 dX5_lifeOf_43 rfl (lv_at hl 2 rfl) ?_
        have e8 := y_1 hF
        subst e8
        exact y_iret C0 hM hsz dX5_lifeOf_44
      · have hF := if_f c4 hF
        refine lv_iload_n C0.1 C0.2.1 dX5_lifeOf_14 rfl (lv_at hl 2 rfl) ?_
        refine lv_aload_n C0.1 C0.2.1 dX5_lifeOf_15 rfl (lv_at hl 0 rfl) ?_
        refine lv_iload_n C0.1 C0.2.1 dX5_lifeOf_16 rfl (lv_at hl 3 rfl) ?_
        refine lv_iconst (v := (0 : Int32)) C0.1 C0.2.1 dX5_lifeOf_17 (by decide) ?_
        obtain ⟨r6, h5, hF⟩ := bd_some hF
        refine y_vi (rest := [.int l2_1]) C0 hM hl.1 ok_md (ent5 ok_md) rfl (k_X5_of l G M l3_2 (0 : Int32) h5) cw_RX5_32 rfl rfl ⟨Nat.le_of_ble_eq_true rfl, Nat.le_of_ble_eq_true rfl⟩ rfl (Nat.le_of_ble_eq_true rfl) ⟨Nat.le_of_ble_eq_true rfl, Nat.le_of_ble_eq_true rfl⟩ dX5_lifeOf_18 (fun H locs hM => ?_)
        refine lv_iload_n C0.1 C0.2.1 dX5_lifeOf_21 rfl (lv_at hl 1 rfl) ?_
        refine lv_icmp_ne (tgt := 34) C0.1 C0.2.1 dX5_lifeOf_22 (by decide) (fun c7 => ?_) (fun c7 => ?_)
        · have hF := if_t c7 hF
          refine lv_iconst (v := (0 : Int32)) C0.1 C0.2.1 dX5_lifeOf_34 (by decide) ?_
          refine lv_iadd C0.1 C0.2.1 dX5_lifeOf_35 ?_
          obtain ⟨x8, ex8, hF⟩ := nm_some hF
          refine y_topi ex8 ?_
          refine lv_istore_n (lv' := [(2, .int x8), (0, .ref (gad G 220)), (1, .int a0), (3, .int l3_2)]) C0.1 C0.2.1 dX5_lifeOf_36 rfl hl (by decide) rfl (fun ls hl => ?_)
          obtain ⟨x9, ex9, hF⟩ := nm_some hF
          refine lv_iinc (v := x9) (lv' := [(3, .int x9), (2, .int x8), (0, .ref (gad G 220)), (1, .int a0)]) C0.1 C0.2.1 dX5_lifeOf_37 hl (k := 3) rfl (by rw [ex9]; rfl) (by decide) rfl (fun ls hl => ?_)
          refine lv_goto (tgt := 4) C0.1 C0.2.1 dX5_lifeOf_40 (by decide) ?_
          exact ih4 x8 x9 _ _ _ hM (lv_sub hl [2, 3, 1, 0] rfl) hF
        · have hF := if_f (fun q => q c7) hF
          refine lv_aload_n C0.1 C0.2.1 dX5_lifeOf_25 rfl (lv_at hl 0 rfl) ?_
          refine lv_iload_n C0.1 C0.2.1 dX5_lifeOf_26 rfl (lv_at hl 3 rfl) ?_
          refine lv_iconst (v := (2 : Int32)) C0.1 C0.2.1 dX5_lifeOf_27 (by decide) ?_
          obtain ⟨r11, h10, hF⟩ := bd_some hF
          refine y_vi (rest := [.int l2_1]) C0 hM hl.1 ok_md (ent5 ok_md) rfl (k_X5_of l G M l3_2 (2 : Int32) h10) cw_RX5_32 rfl rfl ⟨Nat.le_of_ble_eq_true rfl, Nat.le_of_ble_eq_true rfl⟩ rfl (Nat.le_of_ble_eq_true rfl) ⟨Nat.le_of_ble_eq_true rfl, Nat.le_of_ble_eq_true rfl⟩ dX5_lifeOf_28 (fun H locs hM => ?_)
          refine lv_goto (tgt := 35) C0.1 C0.2.1 dX5_lifeOf_31 (by decide) ?_
          refine lv_iadd C0.1 C0.2.1 dX5_lifeOf_35 ?_
          obtain ⟨x12, ex12, hF⟩ := nm_some hF
          refine y_topi ex12 ?_
          refine lv_istore_n (lv' := [(2, .int x12), (0, .ref (gad G 220)), (1, .int a0), (3, .int l3_2)]) C0.1 C0.2.1 dX5_lifeOf_36 rfl hl (by decide) rfl (fun ls hl => ?_)
          obtain ⟨x13, ex13, hF⟩ := nm_some hF
          refine lv_iinc (v := x13) (lv' := [(3, .int x13), (2, .int x12), (0, .ref (gad G 220)), (1, .int a0)]) C0.1 C0.2.1 dX5_lifeOf_37 hl (k := 3) rfl (by rw [ex13]; rfl) (by decide) rfl (fun ls hl => ?_)
          refine lv_goto (tgt := 4) C0.1 C0.2.1 dX5_lifeOf_40 (by decide) ?_
          exact ih4 x12 x13 _ _ _ hM (lv_sub hl [2, 3, 1, 0] rfl) hF
  exact L4 FU (0 : Int32) (0 : Int32) _ _ _ hM (lv_sub hl [2, 3, 1, 0] rfl) hF

def F_X5_waiting_l4 (a0 : Int32) (M : MS) : Nat → Int32 → Int32 → Option Int32
  | 0, _, _ => none
  | n4 + 1, l2_1, l3_2 => (gdb (inb (0 : Int32) 186) (if (rA M 221 (Int32.toNatClampNeg (0 : Int32))) ≤ l3_2 then (some l2_1) else (nm (fun (s5 : Int32) => (if s5 = 0 then (nm (l2_1 + (0 : Int32)) fun x8 => (nm (l3_2 + (1 : Int32)) fun x9 => (F_X5_waiting_l4 a0 M n4 x8 x9))) else (bd (F_X5_hasFallen M l3_2) fun r11 => (if ¬ r11 = 0 then (nm (l2_1 + (0 : Int32)) fun x13 => (nm (l3_2 + (1 : Int32)) fun x14 => (F_X5_waiting_l4 a0 M n4 x13 x14))) else (nm (l2_1 + (1 : Int32)) fun x15 => (nm (l3_2 + (1 : Int32)) fun x16 => (F_X5_waiting_l4 a0 M n4 x15 x16))))))) fun j53_5 => (if a0 = 0 then (bd (F_X5_of M l3_2 (7 : Int32)) fun r19 => (if r19 = (-1 : Int32) then (j53_5 (0 : Int32)) else (j53_5 (1 : Int32)))) else (bd (F_X5_of M l3_2 (6 : Int32)) fun r22 => (if ¬ r22 = (1 : Int32) then (j53_5 (0 : Int32)) else (j53_5 (1 : Int32))))))))

def F_X5_waiting (M : MS) (a0 : Int32) : Option Int32 := (F_X5_waiting_l4 a0 M FU (0 : Int32) (0 : Int32))

set_option maxHeartbeats 4000000 in
set_option maxRecDepth 100000 in
theorem k_X5_waiting (l : Launch) (G : GG) (M : MS) (a0 : Int32) {r : Int32} (hF : F_X5_waiting M a0 = some r) : KI l yX5_waiting (WS yX5_waiting cX5_waiting 5 (some .int)) (Rm 2) G [.ref (gad G 220), .int a0] M r M := by
  intro sz
  refine y_met (by decide +kernel) (Nat.le_of_ble_eq_true rfl) rfl (fun p e s m below meth c ls hsz C0 hM hl => ?_)
  have hl : lv_has ls 5 [(0, .ref (gad G 220)), (1, .int a0)] := hl
  have C0 : CX p s m meth c ([.ref (gad G 220), .int a0] : List Value).toArray cX5_waiting RX5 5 (some .int) := C0
  rw [F_X5_waiting] at hF
  refine lv_iconst (v := (0 : Int32)) C0.1 C0.2.1 dX5_waiting_0 (by decide) ?_
  refine lv_istore_n (lv' := [(2, .int (0 : Int32)), (0, .ref (gad G 220)), (1, .int a0)]) C0.1 C0.2.1 dX5_waiting_1 rfl hl (by decide) rfl (fun ls hl => ?_)
  refine lv_iconst (v := (0 : Int32)) C0.1 C0.2.1 dX5_waiting_2 (by decide) ?_
  refine lv_istore_n (lv' := [(3, .int (0 : Int32)), (2, .int (0 : Int32)), (0, .ref (gad G 220)), (1, .int a0)]) C0.1 C0.2.1 dX5_waiting_3 rfl hl (by decide) rfl (fun ls hl => ?_)
  have L4 : ∀ (n : Nat) (l2_1 : Int32) (l3_2 : Int32) (H : Heap) (locs : List Loc) (ls : Array Slot), MX G M s H locs → lv_has ls 5 [(0, .ref (gad G 220)), (1, .int a0), (2, .int l2_1), (3, .int l3_2)] → F_X5_waiting_l4 a0 M n l2_1 l3_2 = some r → W p l e (Rm 2) s m ([.ref (gad G 220), .int a0] : List Value).toArray below meth c H locs 0 0 (QI below ([.ref (gad G 220), .int a0] : List Value).toArray s G sz r M) (F0 m 4 ls []) := by
    intro n
    induction n with
    | zero => intro l2_1 l3_2 H locs ls hM hl hF; rw [F_X5_waiting_l4] at hF; cases hF
    | succ n4 ih4 =>
      intro l2_1 l3_2 H locs ls hM hl hF
      rw [F_X5_waiting_l4] at hF
      refine lv_iload_n C0.1 C0.2.1 dX5_waiting_4 rfl (lv_at hl 3 rfl) ?_
      refine lv_aload_n C0.1 C0.2.1 dX5_waiting_5 rfl (lv_at hl 0 rfl) ?_
      refine gf5_1 C0 hM ok_md fl_RX5_7 dX5_waiting_6 ?_
      refine lv_iconst (v := (0 : Int32)) C0.1 C0.2.1 dX5_waiting_9 (by decide) ?_
      obtain ⟨g3, hF⟩ := gdb_some hF
      refine y_iald C0 hM oka_z g3 dX5_waiting_10 ?_
      refine lv_icmp_ge (tgt := 82) C0.1 C0.2.1 dX5_waiting_11 (by decide) (fun c4 => ?_) (fun c4 => ?_)
      · have hF := if_t c4 hF
        refine lv_iload_n C0.1 C0.2.1 dX5_waiting_82 rfl (lv_at hl 2 rfl) ?_
        have e8 := y_1 hF
        subst e8
        exact y_iret C0 hM hsz dX5_waiting_83
      · have hF := if_f c4 hF
        refine lv_iload_n C0.1 C0.2.1 dX5_waiting_14 rfl (lv_at hl 1 rfl) ?_
        obtain ⟨j53_5, ej53_5, hF⟩ := nm_some hF
        have J53 : ∀ (s5 : Int32) (H : Heap) (locs : List Loc) (ls : Array Slot), MX G M s H locs → lv_has ls 5 [(0, .ref (gad G 220)), (1, .int a0), (2, .int l2_1), (3, .int l3_2)] → j53_5 s5 = some r → W p l e (Rm 2) s m ([.ref (gad G 220), .int a0] : List Value).toArray below meth c H locs 0 0 (QI below ([.ref (gad G 220), .int a0] : List Value).toArray s G sz r M) (F0 m 53 ls [.int s5]) := by
          intro s5 H locs ls hM hl hF
          rw [ej53_5] at hF
          refine lv_istore (lv' := [(4, .int s5), (0, .ref (gad G 220)), (1, .int a0), (2, .int l2_1), (3, .int l3_2)]) C0.1 C0.2.1 dX5_waiting_53 hl (by decide) rfl (fun ls hl => ?_)
          refine lv_iload_n C0.1 C0.2.1 dX5_waiting_55 rfl (lv_at hl 3 rfl) ?_
          refine lv_iload C0.1 C0.2.1 dX5_waiting_56 (lv_at hl 0 rfl) ?_
          refine lv_if_eq (tgt := 73) C0.1 C0.2.1 dX5_waiting_58 (by decide) (fun c7 => ?_) (fun c7 => ?_)
          · have hF := if_t c7 hF
            refine lv_iconst (v := (0 : Int32)) C0.1 C0.2.1 dX5_waiting_73 (by decide) ?_
            refine lv_iadd C0.1 C0.2.1 dX5_waiting_74 ?_
            obtain ⟨x8, ex8, hF⟩ := nm_some hF
            refine y_topi ex8 ?_
            refine lv_istore_n (lv' := [(2, .int x8), (4, .int s5), (0, .ref (gad G 220)), (1, .int a0), (3, .int l3_2)]) C0.1 C0.2.1 dX5_waiting_75 rfl hl (by decide) rfl (fun ls hl => ?_)
            obtain ⟨x9, ex9, hF⟩ := nm_some hF
            refine lv_iinc (v := x9) (lv' := [(3, .int x9), (2, .int x8), (4, .int s5), (0, .ref (gad G 220)), (1, .int a0)]) C0.1 C0.2.1 dX5_waiting_76 hl (k := 4) rfl (by rw [ex9]; rfl) (by decide) rfl (fun ls hl => ?_)
            refine lv_goto (tgt := 4) C0.1 C0.2.1 dX5_waiting_79 (by decide) ?_
            exact ih4 x8 x9 _ _ _ hM (lv_sub hl [3, 4, 1, 0] rfl) hF
          · have hF := if_f c7 hF
            refine lv_aload_n C0.1 C0.2.1 dX5_waiting_61 rfl (lv_at hl 1 rfl) ?_
            refine lv_iload_n C0.1 C0.2.1 dX5_waiting_62 rfl (lv_at hl 4 rfl) ?_
            obtain ⟨r11, h10, hF⟩ := bd_some hF
            refine y_vi (rest := [.int l2_1]) C0 hM hl.1 ok_md (ent5 ok_md) rfl (k_X5_hasFallen l G M l3_2 h10) cw_RX5_51 rfl rfl ⟨Nat.le_of_ble_eq_true rfl, Nat.le_of_ble_eq_true rfl⟩ rfl (Nat.le_of_ble_eq_true rfl) ⟨Nat.le_of_ble_eq_true rfl, Nat.le_of_ble_eq_true rfl⟩ dX5_waiting_63 (fun H locs hM => ?_)
            refine lv_if_ne (tgt := 73) C0.1 C0.2.1 dX5_waiting_66 (by decide) (fun c12 => ?_) (fun c12 => ?_)
            · have hF := if_t c12 hF
              refine lv_iconst (v := (0 : Int32)) C0.1 C0.2.1 dX5_waiting_73 (by decide) ?_
              refine lv_iadd C0.1 C0.2.1 dX5_waiting_74 ?_
              obtain ⟨x13, ex13, hF⟩ := nm_some hF
              refine y_topi ex13 ?_
              refine lv_istore_n (lv' := [(2, .int x13), (4, .int s5), (0, .ref (gad G 220)), (1, .int a0), (3, .int l3_2)]) C0.1 C0.2.1 dX5_waiting_75 rfl hl (by decide) rfl (fun ls hl => ?_)
              obtain ⟨x14, ex14, hF⟩ := nm_some hF
              refine lv_iinc (v := x14) (lv' := [(3, .int x14), (2, .int x13), (4, .int s5), (0, .ref (gad G 220)), (1, .int a0)]) C0.1 C0.2.1 dX5_waiting_76 hl (k := 4) rfl (by rw [ex14]; rfl) (by decide) rfl (fun ls hl => ?_)
              refine lv_goto (tgt := 4) C0.1 C0.2.1 dX5_waiting_79 (by decide) ?_
              exact ih4 x13 x14 _ _ _ hM (lv_sub hl [3, 4, 1, 0] rfl) hF
            · have hF := if_f (fun q => q c12) hF
              refine lv_iconst (v := (1 : Int32)) C0.1 C0.2.1 dX5_waiting_69 (by decide) ?_
              refine lv_goto (tgt := 74) C0.1 C0.2.1 dX5_waiting_70 (by decide) ?_
              refine lv_iadd C0.1 C0.2.1 dX5_waiting_74 ?_
              obtain ⟨x15, ex15, hF⟩ := nm_some hF
              refine y_topi ex15 ?_
              refine lv_istore_n (lv' := [(2, .int x15), (4, .int s5), (0, .ref (gad G 220)), (1, .int a0), (3, .int l3_2)]) C0.1 C0.2.1 dX5_waiting_75 rfl hl (by decide) rfl (fun ls hl => ?_)
              obtain ⟨x16, ex16, hF⟩ := nm_some hF
              refine lv_iinc (v := x16) (lv' := [(3, .int x16), (2, .int x15), (4, .int s5), (0, .ref (gad G 220)), (1, .int a0)]) C0.1 C0.2.1 dX5_waiting_76 hl (k := 4) rfl (by rw [ex16]; rfl) (by decide) rfl (fun ls hl => ?_)
              refine lv_goto (tgt := 4) C0.1 C0.2.1 dX5_waiting_79 (by decide) ?_
              exact ih4 x15 x16 _ _ _ hM (lv_sub hl [3, 4, 1, 0] rfl) hF
        refine lv_if_eq (tgt := 37) C0.1 C0.2.1 dX5_waiting_15 (by decide) (fun c17 => ?_) (fun c17 => ?_)
        · have hF := if_t c17 hF
          refine lv_aload_n C0.1 C0.2.1 dX5_waiting_37 rfl (lv_at hl 0 rfl) ?_
          refine lv_iload_n C0.1 C0.2.1 dX5_waiting_38 rfl (lv_at hl 3 rfl) ?_
          refine lv_bipush (v := (7 : Int32)) C0.1 C0.2.1 dX5_waiting_39 (by decide) ?_
          obtain ⟨r19, h18, hF⟩ := bd_some hF
          refine y_vi (rest := []) C0 hM hl.1 ok_md (ent5 ok_md) rfl (k_X5_of l G M l3_2 (7 : Int32) h18) cw_RX5_32 rfl rfl ⟨Nat.le_of_ble_eq_true rfl, Nat.le_of_ble_eq_true rfl⟩ rfl (Nat.le_of_ble_eq_true rfl) ⟨Nat.le_of_ble_eq_true rfl, Nat.le_of_ble_eq_true rfl⟩ dX5_waiting_41 (fun H locs hM => ?_)
          refine lv_iconst (v := (-1 : Int32)) C0.1 C0.2.1 dX5_waiting_44 (by decide) ?_
          refine lv_icmp_eq (tgt := 52) C0.1 C0.2.1 dX5_waiting_45 (by decide) (fun c20 => ?_) (fun c20 => ?_)
          · have hF := if_t c20 hF
            refine lv_iconst (v := (0 : Int32)) C0.1 C0.2.1 dX5_waiting_52 (by decide) ?_
            exact J53 (0 : Int32) _ _ _ hM (lv_sub hl [0, 1, 2, 3] rfl) hF
          · have hF := if_f c20 hF
            refine lv_iconst (v := (1 : Int32)) C0.1 C0.2.1 dX5_waiting_48 (by decide) ?_
            refine lv_goto (tgt := 53) C0.1 C0.2.1 dX5_waiting_49 (by decide) ?_
            exact J53 (1 : Int32) _ _ _ hM (lv_sub hl [0, 1, 2, 3] rfl) hF
        · have hF := if_f c17 hF
          refine lv_aload_n C0.1 C0.2.1 dX5_waiting_18 rfl (lv_at hl 0 rfl) ?_
          refine lv_iload_n C0.1 C0.2.1 dX5_waiting_19 rfl (lv_at hl 3 rfl) ?_
          refine lv_bipush (v := (6 : Int32)) C0.1 C0.2.1 dX5_waiting_20 (by decide) ?_
          obtain ⟨r22, h21, hF⟩ := bd_some hF
          refine y_vi (rest := []) C0 hM hl.1 ok_md (ent5 ok_md) rfl (k_X5_of l G M l3_2 (6 : Int32) h21) cw_RX5_32 rfl rfl ⟨Nat.le_of_ble_eq_true rfl, Nat.le_of_ble_eq_true rfl⟩ rfl (Nat.le_of_ble_eq_true rfl) ⟨Nat.le_of_ble_eq_true rfl, Nat.le_of_ble_eq_true rfl⟩ dX5_waiting_22 (fun H locs hM => ?_)
          refine lv_iconst (v := (1 : Int32)) C0.1 C0.2.1 dX5_waiting_25 (by decide) ?_
          refine lv_icmp_ne (tgt := 33) C0.1 C0.2.1 dX5_waiting_26 (by decide) (fun c23 => ?_) (fun c23 => ?_)
          · have hF := if_t c23 hF
            refine lv_iconst (v := (0 : Int32)) C0.1 C0.2.1 dX5_waiting_33 (by decide) ?_
            refine lv_goto (tgt := 53) C0.1 C0.2.1 dX5_waiting_34 (by decide) ?_
            exact J53 (0 : Int32) _ _ _ hM (lv_sub hl [0, 1, 2, 3] rfl) hF
          · have hF := if_f (fun q => q c23) hF
            refine lv_iconst (v := (1 : Int32)) C0.1 C0.2.1 dX5_waiting_29 (by decide) ?_
            refine lv_goto (tgt := 53) C0.1 C0.2.1 dX5_waiting_30 (by decide) ?_
            exact J53 (1 : Int32) _ _ _ hM (lv_sub hl [0, 1, 2, 3] rfl) hF
  exact L4 FU (0 : Int32) (0 : Int32) _ _ _ hM (lv_sub hl [2, 3, 1, 0] rfl) hF

def F_X5_counted (M : MS) (a0 : Int32) : Option Int32 := (if a0 = (0 : Int32) then (gdb (inb a0 186) (some (rA M 221 (Int32.toNatClampNeg a0)))) else (if a0 = (1 : Int32) then (gdb (inb a0 186) (some (rA M 221 (Int32.toNatClampNeg a0)))) else (if a0 = (2 : Int32) then (gdb (inb a0 186) (some (rA M 221 (Int32.toNatClampNeg a0)))) else (if a0 = (3 : Int32) then (bd (F_X5_standingOf M (a0 - (3 : Int32))) fun r9 => (some r9)) else (if a0 = (4 : Int32) then (bd (F_X5_standingOf M (a0 - (3 : Int32))) fun r12 => (some r12)) else (if a0 = (5 : Int32) then (bd (F_X5_waiting M (1 : Int32)) fun r15 => (some r15)) else (if a0 = (6 : Int32) then (bd (F_X5_waiting M (0 : Int32)) fun r18 => (some r18)) else (if a0 = (7 : Int32) then (gdb (inb (((3 : Int32) + a0) - (7 : Int32)) 186) (some (rA M 221 (Int32.toNatClampNeg (((3 : Int32) + a0) - (7 : Int32)))))) else (if a0 = (8 : Int32) then (gdb (inb (((3 : Int32) + a0) - (7 : Int32)) 186) (some (rA M 221 (Int32.toNatClampNeg (((3 : Int32) + a0) - (7 : Int32)))))) else (if a0 = (9 : Int32) then (gdb (inb (((3 : Int32) + a0) - (7 : Int32)) 186) (some (rA M 221 (Int32.toNatClampNeg (((3 : Int32) + a0) - (7 : Int32)))))) else (if a0 = (10 : Int32) then (bd (F_X5_lifeOf M (a0 - (10 : Int32))) fun r27 => (some r27)) else (if a0 = (11 : Int32) then (bd (F_X5_lifeOf M (a0 - (10 : Int32))) fun r30 => (some r30)) else (some (rF M 83 220))))))))))))))

set_option maxHeartbeats 4000000 in
set_option maxRecDepth 100000 in
theorem k_X5_counted (l : Launch) (G : GG) (M : MS) (a0 : Int32) {r : Int32} (hF : F_X5_counted M a0 = some r) : KI l yX5_counted (WS yX5_counted cX5_counted 2 (some .int)) (Rm 3) G [.ref (gad G 220), .int a0] M r M := by
  intro sz
  refine y_met (by decide +kernel) (Nat.le_of_ble_eq_true rfl) rfl (fun p e s m below meth c ls hsz C0 hM hl => ?_)
  have hl : lv_has ls 2 [(0, .ref (gad G 220)), (1, .int a0)] := hl
  have C0 : CX p s m meth c ([.ref (gad G 220), .int a0] : List Value).toArray cX5_counted RX5 2 (some .int) := C0
  rw [F_X5_counted] at hF
  refine lv_iload_n C0.1 C0.2.1 dX5_counted_0 rfl (lv_at hl 1 rfl) ?_
  by_cases c1 : a0 = (0 : Int32)
  · have hF := if_t c1 hF
    refine y_tsw (tgt := 64) (off := 63) C0 dX5_counted_1 (by decide) (by rw [c1]; decide) (by decide) ?_
    refine lv_aload_n C0.1 C0.2.1 dX5_counted_64 rfl (lv_at hl 0 rfl) ?_
    refine gf5_1 C0 hM ok_md fl_RX5_7 dX5_counted_65 ?_
    refine lv_iload_n C0.1 C0.2.1 dX5_counted_68 rfl (lv_at hl 1 rfl) ?_
    obtain ⟨g2, hF⟩ := gdb_some hF
    refine y_iald C0 hM oka_z g2 dX5_counted_69 ?_
    have e8 := y_1 hF
    subst e8
    exact y_iret C0 hM hsz dX5_counted_70
  · have hF := if_f c1 hF
    by_cases c3 : a0 = (1 : Int32)
    · have hF := if_t c3 hF
      refine y_tsw (tgt := 64) (off := 63) C0 dX5_counted_1 (by decide) (by rw [c3]; decide) (by decide) ?_
      refine lv_aload_n C0.1 C0.2.1 dX5_counted_64 rfl (lv_at hl 0 rfl) ?_
      refine gf5_1 C0 hM ok_md fl_RX5_7 dX5_counted_65 ?_
      refine lv_iload_n C0.1 C0.2.1 dX5_counted_68 rfl (lv_at hl 1 rfl) ?_
      obtain ⟨g4, hF⟩ := gdb_some hF
      refine y_iald C0 hM oka_z g4 dX5_counted_69 ?_
      have e8 := y_1 hF
      subst e8
      exact y_iret C0 hM hsz dX5_counted_70
    · have hF := if_f c3 hF
      by_cases c5 : a0 = (2 : Int32)
      · have hF := if_t c5 hF
        refine y_tsw (tgt := 64) (off := 63) C0 dX5_counted_1 (by decide) (by rw [c5]; decide) (by decide) ?_
        refine lv_aload_n C0.1 C0.2.1 dX5_counted_64 rfl (lv_at hl 0 rfl) ?_
        refine gf5_1 C0 hM ok_md fl_RX5_7 dX5_counted_65 ?_
        refine lv_iload_n C0.1 C0.2.1 dX5_counted_68 rfl (lv_at hl 1 rfl) ?_
        obtain ⟨g6, hF⟩ := gdb_some hF
        refine y_iald C0 hM oka_z g6 dX5_counted_69 ?_
        have e8 := y_1 hF
        subst e8
        exact y_iret C0 hM hsz dX5_counted_70
      · have hF := if_f c5 hF
        by_cases c7 : a0 = (3 : Int32)
        · have hF := if_t c7 hF
          refine y_tsw (tgt := 71) (off := 70) C0 dX5_counted_1 (by decide) (by rw [c7]; decide) (by decide) ?_
          refine lv_aload_n C0.1 C0.2.1 dX5_counted_71 rfl (lv_at hl 0 rfl) ?_
          refine lv_iload_n C0.1 C0.2.1 dX5_counted_72 rfl (lv_at hl 1 rfl) ?_
          refine lv_iconst (v := (3 : Int32)) C0.1 C0.2.1 dX5_counted_73 (by decide) ?_
          refine lv_isub C0.1 C0.2.1 dX5_counted_74 ?_
          obtain ⟨r9, h8, hF⟩ := bd_some hF
          refine y_vi (rest := []) C0 hM hl.1 ok_md (ent5 ok_md) rfl (k_X5_standingOf l G M (a0 - (3 : Int32)) h8) cw_RX5_209 rfl rfl ⟨Nat.le_of_ble_eq_true rfl, Nat.le_of_ble_eq_true rfl⟩ rfl (Nat.le_of_ble_eq_true rfl) ⟨Nat.le_of_ble_eq_true rfl, Nat.le_of_ble_eq_true rfl⟩ dX5_counted_75 (fun H locs hM => ?_)
          have e8 := y_1 hF
          subst e8
          exact y_iret C0 hM hsz dX5_counted_78
        · have hF := if_f c7 hF
          by_cases c10 : a0 = (4 : Int32)
          · have hF := if_t c10 hF
            refine y_tsw (tgt := 71) (off := 70) C0 dX5_counted_1 (by decide) (by rw [c10]; decide) (by decide) ?_
            refine lv_aload_n C0.1 C0.2.1 dX5_counted_71 rfl (lv_at hl 0 rfl) ?_
            refine lv_iload_n C0.1 C0.2.1 dX5_counted_72 rfl (lv_at hl 1 rfl) ?_
            refine lv_iconst (v := (3 : Int32)) C0.1 C0.2.1 dX5_counted_73 (by decide) ?_
            refine lv_isub C0.1 C0.2.1 dX5_counted_74 ?_
            obtain ⟨r12, h11, hF⟩ := bd_some hF
            refine y_vi (rest := []) C0 hM hl.1 ok_md (ent5 ok_md) rfl (k_X5_standingOf l G M (a0 - (3 : Int32)) h11) cw_RX5_209 rfl rfl ⟨Nat.le_of_ble_eq_true rfl, Nat.le_of_ble_eq_true rfl⟩ rfl (Nat.le_of_ble_eq_true rfl) ⟨Nat.le_of_ble_eq_true rfl, Nat.le_of_ble_eq_true rfl⟩ dX5_counted_75 (fun H locs hM => ?_)
            have e8 := y_1 hF
            subst e8
            exact y_iret C0 hM hsz dX5_counted_78
          · have hF := if_f c10 hF
            by_cases c13 : a0 = (5 : Int32)
            · have hF := if_t c13 hF
              refine y_tsw (tgt := 79) (off := 78) C0 dX5_counted_1 (by decide) (by rw [c13]; decide) (by decide) ?_
              refine lv_aload_n C0.1 C0.2.1 dX5_counted_79 rfl (lv_at hl 0 rfl) ?_
              refine lv_iconst (v := (1 : Int32)) C0.1 C0.2.1 dX5_counted_80 (by decide) ?_
              obtain ⟨r15, h14, hF⟩ := bd_some hF
              refine y_vi (rest := []) C0 hM hl.1 ok_md (ent5 ok_md) rfl (k_X5_waiting l G M (1 : Int32) h14) cw_RX5_212 rfl rfl ⟨Nat.le_of_ble_eq_true rfl, Nat.le_of_ble_eq_true rfl⟩ rfl (Nat.le_of_ble_eq_true rfl) ⟨Nat.le_of_ble_eq_true rfl, Nat.le_of_ble_eq_true rfl⟩ dX5_counted_81 (fun H locs hM => ?_)
              have e8 := y_1 hF
              subst e8
              exact y_iret C0 hM hsz dX5_counted_84
            · have hF := if_f c13 hF
              by_cases c16 : a0 = (6 : Int32)
              · have hF := if_t c16 hF
                refine y_tsw (tgt := 85) (off := 84) C0 dX5_counted_1 (by decide) (by rw [c16]; decide) (by decide) ?_
                refine lv_aload_n C0.1 C0.2.1 dX5_counted_85 rfl (lv_at hl 0 rfl) ?_
                refine lv_iconst (v := (0 : Int32)) C0.1 C0.2.1 dX5_counted_86 (by decide) ?_
                obtain ⟨r18, h17, hF⟩ := bd_some hF
                refine y_vi (rest := []) C0 hM hl.1 ok_md (ent5 ok_md) rfl (k_X5_waiting l G M (0 : Int32) h17) cw_RX5_212 rfl rfl ⟨Nat.le_of_ble_eq_true rfl, Nat.le_of_ble_eq_true rfl⟩ rfl (Nat.le_of_ble_eq_true rfl) ⟨Nat.le_of_ble_eq_true rfl, Nat.le_of_ble_eq_true rfl⟩ dX5_counted_87 (fun H locs hM => ?_)
                have e8 := y_1 hF
                subst e8
                exact y_iret C0 hM hsz dX5_counted_90
              · have hF := if_f c16 hF
                by_cases c19 : a0 = (7 : Int32)
                · have hF := if_t c19 hF
                  refine y_tsw (tgt := 91) (off := 90) C0 dX5_counted_1 (by decide) (by rw [c19]; decide) (by decide) ?_
                  refine lv_aload_n C0.1 C0.2.1 dX5_counted_91 rfl (lv_at hl 0 rfl) ?_
                  refine gf5_1 C0 hM ok_md fl_RX5_7 dX5_counted_92 ?_
                  refine lv_iconst (v := (3 : Int32)) C0.1 C0.2.1 dX5_counted_95 (by decide) ?_
                  refine lv_iload_n C0.1 C0.2.1 dX5_counted_96 rfl (lv_at hl 1 rfl) ?_
                  refine lv_iadd C0.1 C0.2.1 dX5_counted_97 ?_
                  refine lv_bipush (v := (7 : Int32)) C0.1 C0.2.1 dX5_counted_98 (by decide) ?_
                  refine lv_isub C0.1 C0.2.1 dX5_counted_100 ?_
                  obtain ⟨g20, hF⟩ := gdb_some hF
                  refine y_iald C0 hM oka_z g20 dX5_counted_101 ?_
                  have e8 := y_1 hF
                  subst e8
                  exact y_iret C0 hM hsz dX5_counted_102
                · have hF := if_f c19 hF
                  by_cases c21 : a0 = (8 : Int32)
                  · have hF := if_t c21 hF
                    refine y_tsw (tgt := 91) (off := 90) C0 dX5_counted_1 (by decide) (by rw [c21]; decide) (by decide) ?_
                    refine lv_aload_n C0.1 C0.2.1 dX5_counted_91 rfl (lv_at hl 0 rfl) ?_
                    refine gf5_1 C0 hM ok_md fl_RX5_7 dX5_counted_92 ?_
                    refine lv_iconst (v := (3 : Int32)) C0.1 C0.2.1 dX5_counted_95 (by decide) ?_
                    refine lv_iload_n C0.1 C0.2.1 dX5_counted_96 rfl (lv_at hl 1 rfl) ?_
                    refine lv_iadd C0.1 C0.2.1 dX5_counted_97 ?_
                    refine lv_bipush (v := (7 : Int32)) C0.1 C0.2.1 dX5_counted_98 (by decide) ?_
                    refine lv_isub C0.1 C0.2.1 dX5_counted_100 ?_
                    obtain ⟨g22, hF⟩ := gdb_some hF
                    refine y_iald C0 hM oka_z g22 dX5_counted_101 ?_
                    have e8 := y_1 hF
                    subst e8
                    exact y_iret C0 hM hsz dX5_counted_102
                  · have hF := if_f c21 hF
                    by_cases c23 : a0 = (9 : Int32)
                    · have hF := if_t c23 hF
                      refine y_tsw (tgt := 91) (off := 90) C0 dX5_counted_1 (by decide) (by rw [c23]; decide) (by decide) ?_
                      refine lv_aload_n C0.1 C0.2.1 dX5_counted_91 rfl (lv_at hl 0 rfl) ?_
                      refine gf5_1 C0 hM ok_md fl_RX5_7 dX5_counted_92 ?_
                      refine lv_iconst (v := (3 : Int32)) C0.1 C0.2.1 dX5_counted_95 (by decide) ?_
                      refine lv_iload_n C0.1 C0.2.1 dX5_counted_96 rfl (lv_at hl 1 rfl) ?_
                      refine lv_iadd C0.1 C0.2.1 dX5_counted_97 ?_
                      refine lv_bipush (v := (7 : Int32)) C0.1 C0.2.1 dX5_counted_98 (by decide) ?_
                      refine lv_isub C0.1 C0.2.1 dX5_counted_100 ?_
                      obtain ⟨g24, hF⟩ := gdb_some hF
                      refine y_iald C0 hM oka_z g24 dX5_counted_101 ?_
                      have e8 := y_1 hF
                      subst e8
                      exact y_iret C0 hM hsz dX5_counted_102
                    · have hF := if_f c23 hF
                      by_cases c25 : a0 = (10 : Int32)
                      · have hF := if_t c25 hF
                        refine y_tsw (tgt := 103) (off := 102) C0 dX5_counted_1 (by decide) (by rw [c25]; decide) (by decide) ?_
                        refine lv_aload_n C0.1 C0.2.1 dX5_counted_103 rfl (lv_at hl 0 rfl) ?_
                        refine lv_iload_n C0.1 C0.2.1 dX5_counted_104 rfl (lv_at hl 1 rfl) ?_
                        refine lv_bipush (v := (10 : Int32)) C0.1 C0.2.1 dX5_counted_105 (by decide) ?_
                        refine lv_isub C0.1 C0.2.1 dX5_counted_107 ?_
                        obtain ⟨r27, h26, hF⟩ := bd_some hF
                        refine y_vi (rest := []) C0 hM hl.1 ok_md (ent5 ok_md) rfl (k_X5_lifeOf l G M (a0 - (10 : Int32)) h26) cw_RX5_216 rfl rfl ⟨Nat.le_of_ble_eq_true rfl, Nat.le_of_ble_eq_true rfl⟩ rfl (Nat.le_of_ble_eq_true rfl) ⟨Nat.le_of_ble_eq_true rfl, Nat.le_of_ble_eq_true rfl⟩ dX5_counted_108 (fun H locs hM => ?_)
                        have e8 := y_1 hF
                        subst e8
                        exact y_iret C0 hM hsz dX5_counted_111
                      · have hF := if_f c25 hF
                        by_cases c28 : a0 = (11 : Int32)
                        · have hF := if_t c28 hF
                          refine y_tsw (tgt := 103) (off := 102) C0 dX5_counted_1 (by decide) (by rw [c28]; decide) (by decide) ?_
                          refine lv_aload_n C0.1 C0.2.1 dX5_counted_103 rfl (lv_at hl 0 rfl) ?_
                          refine lv_iload_n C0.1 C0.2.1 dX5_counted_104 rfl (lv_at hl 1 rfl) ?_
                          refine lv_bipush (v := (10 : Int32)) C0.1 C0.2.1 dX5_counted_105 (by decide) ?_
                          refine lv_isub C0.1 C0.2.1 dX5_counted_107 ?_
                          obtain ⟨r30, h29, hF⟩ := bd_some hF
                          refine y_vi (rest := []) C0 hM hl.1 ok_md (ent5 ok_md) rfl (k_X5_lifeOf l G M (a0 - (10 : Int32)) h29) cw_RX5_216 rfl rfl ⟨Nat.le_of_ble_eq_true rfl, Nat.le_of_ble_eq_true rfl⟩ rfl (Nat.le_of_ble_eq_true rfl) ⟨Nat.le_of_ble_eq_true rfl, Nat.le_of_ble_eq_true rfl⟩ dX5_counted_108 (fun H locs hM => ?_)
                          have e8 := y_1 hF
                          subst e8
                          exact y_iret C0 hM hsz dX5_counted_111
                        · have hF := if_f c28 hF
                          refine y_tsw (tgt := 112) (off := 111) C0 dX5_counted_1 (by decide) (ts_d (fun k9 h7 h8 h9 => by
                              have h6 : k9 = 0 ∨ k9 = 1 ∨ k9 = 2 ∨ k9 = 3 ∨ k9 = 4 ∨ k9 = 5 ∨ k9 = 6 ∨ k9 = 7 ∨ k9 = 8 ∨ k9 = 9 ∨ k9 = 10 ∨ k9 = 11 := by omega
                              rcases h6 with rfl | rfl | rfl | rfl | rfl | rfl | rfl | rfl | rfl | rfl | rfl | rfl
                              · exact absurd (Int32.toInt_inj.mp (h9.trans (by decide : (0 : Int) = Int32.toInt 0))) c1
                              · exact absurd (Int32.toInt_inj.mp (h9.trans (by decide : (1 : Int) = Int32.toInt 1))) c3
                              · exact absurd (Int32.toInt_inj.mp (h9.trans (by decide : (2 : Int) = Int32.toInt 2))) c5
                              · exact absurd (Int32.toInt_inj.mp (h9.trans (by decide : (3 : Int) = Int32.toInt 3))) c7
                              · exact absurd (Int32.toInt_inj.mp (h9.trans (by decide : (4 : Int) = Int32.toInt 4))) c10
                              · exact absurd (Int32.toInt_inj.mp (h9.trans (by decide : (5 : Int) = Int32.toInt 5))) c13
                              · exact absurd (Int32.toInt_inj.mp (h9.trans (by decide : (6 : Int) = Int32.toInt 6))) c16
                              · exact absurd (Int32.toInt_inj.mp (h9.trans (by decide : (7 : Int) = Int32.toInt 7))) c19
                              · exact absurd (Int32.toInt_inj.mp (h9.trans (by decide : (8 : Int) = Int32.toInt 8))) c21
                              · exact absurd (Int32.toInt_inj.mp (h9.trans (by decide : (9 : Int) = Int32.toInt 9))) c23
                              · exact absurd (Int32.toInt_inj.mp (h9.trans (by decide : (10 : Int) = Int32.toInt 10))) c25
                              · exact absurd (Int32.toInt_inj.mp (h9.trans (by decide : (11 : Int) = Int32.toInt 11))) c28)) (by decide) ?_
                          refine lv_aload_n C0.1 C0.2.1 dX5_counted_112 rfl (lv_at hl 0 rfl) ?_
                          refine gf5_3 C0 hM ok_md fl_RX5_36 dX5_counted_113 ?_
                          have e8 := y_1 hF
                          subst e8
                          exact y_iret C0 hM hsz dX5_counted_116

def F_X5_count (M : MS) (a0 : Int32) : Option (Int32 × MS) := (bd (F_X5_in M a0 (0 : Int32) (12 : Int32)) fun r2 => (nm (fun (s3 : Int32) => (nm (wF M 80 220 s3) fun M5 => (if (rF M5 80 220) ≤ 0 then (bd (F_X5_counted M5 a0) fun r8 => (some (r8, M5))) else (some ((0 : Int32), M5))))) fun j16_3 => (if r2 = 0 then (j16_3 (1 : Int32)) else (j16_3 (0 : Int32)))))

set_option maxHeartbeats 4000000 in
set_option maxRecDepth 100000 in
theorem k_X5_count (l : Launch) (G : GG) (M : MS) (a0 : Int32) {r : Int32} {Mf : MS} (hF : F_X5_count M a0 = some (r, Mf)) : KI l yX5_count (WS yX5_count cX5_count 2 (some .int)) (Rm 4) G [.ref (gad G 220), .int a0] M r Mf := by
  intro sz
  refine y_met (by decide +kernel) (Nat.le_of_ble_eq_true rfl) rfl (fun p e s m below meth c ls hsz C0 hM hl => ?_)
  have hl : lv_has ls 2 [(0, .ref (gad G 220)), (1, .int a0)] := hl
  have C0 : CX p s m meth c ([.ref (gad G 220), .int a0] : List Value).toArray cX5_count RX5 2 (some .int) := C0
  rw [F_X5_count] at hF
  refine lv_aload_n C0.1 C0.2.1 dX5_count_0 rfl (lv_at hl 0 rfl) ?_
  refine lv_iload_n C0.1 C0.2.1 dX5_count_1 rfl (lv_at hl 1 rfl) ?_
  refine lv_iconst (v := (0 : Int32)) C0.1 C0.2.1 dX5_count_2 (by decide) ?_
  refine lv_bipush (v := (12 : Int32)) C0.1 C0.2.1 dX5_count_3 (by decide) ?_
  obtain ⟨r2, h1, hF⟩ := bd_some hF
  refine y_si (rest := [.ref (gad G 220)]) C0 hM hl.1 (k_X5_in l G M a0 (0 : Int32) (12 : Int32) h1) cw_RX5_85 rfl rfl ⟨Nat.le_of_ble_eq_true rfl, Nat.le_of_ble_eq_true rfl⟩ rfl (Nat.le_of_ble_eq_true rfl) ⟨Nat.le_of_ble_eq_true rfl, Nat.le_of_ble_eq_true rfl⟩ dX5_count_5 (fun H locs hM => ?_)
  obtain ⟨j16_3, ej16_3, hF⟩ := nm_some hF
  have J16 : ∀ (s3 : Int32) (H : Heap) (locs : List Loc) (ls : Array Slot), MX G M s H locs → lv_has ls 2 [(0, .ref (gad G 220)), (1, .int a0)] → j16_3 s3 = some (r, Mf) → W p l e (Rm 4) s m ([.ref (gad G 220), .int a0] : List Value).toArray below meth c H locs 0 0 (QI below ([.ref (gad G 220), .int a0] : List Value).toArray s G sz r Mf) (F0 m 16 ls [.int s3, .ref (gad G 220)]) := by
    intro s3 H locs ls hM hl hF
    rw [ej16_3] at hF
    refine pf5_0 C0 hM ok_md fl_RX5_28 dX5_count_16 (fun H locs hM => ?_)
    obtain ⟨M5, eM5, hF⟩ := nm_some hF
    have hM := y_mn eM5 hM
    refine lv_aload_n C0.1 C0.2.1 dX5_count_19 rfl (lv_at hl 0 rfl) ?_
    refine gf5_0 C0 hM ok_md fl_RX5_28 dX5_count_20 ?_
    refine lv_if_le (tgt := 30) C0.1 C0.2.1 dX5_count_23 (by decide) (fun c6 => ?_) (fun c6 => ?_)
    · have hF := if_t c6 hF
      refine lv_aload_n C0.1 C0.2.1 dX5_count_30 rfl (lv_at hl 0 rfl) ?_
      refine lv_iload_n C0.1 C0.2.1 dX5_count_31 rfl (lv_at hl 1 rfl) ?_
      obtain ⟨r8, h7, hF⟩ := bd_some hF
      refine y_vi (rest := []) C0 hM hl.1 ok_md (ent5 ok_md) rfl (k_X5_counted l G M5 a0 h7) cw_RX5_219 rfl rfl ⟨Nat.le_of_ble_eq_true rfl, Nat.le_of_ble_eq_true rfl⟩ rfl (Nat.le_of_ble_eq_true rfl) ⟨Nat.le_of_ble_eq_true rfl, Nat.le_of_ble_eq_true rfl⟩ dX5_count_32 (fun H locs hM => ?_)
      obtain ⟨e8, e9⟩ := y_2 hF
      subst e8
      subst e9
      exact y_iret C0 hM hsz dX5_count_35
    · have hF := if_f c6 hF
      refine lv_iconst (v := (0 : Int32)) C0.1 C0.2.1 dX5_count_26 (by decide) ?_
      refine lv_goto (tgt := 35) C0.1 C0.2.1 dX5_count_27 (by decide) ?_
      obtain ⟨e8, e9⟩ := y_2 hF
      subst e8
      subst e9
      exact y_iret C0 hM hsz dX5_count_35
  refine lv_if_eq (tgt := 15) C0.1 C0.2.1 dX5_count_8 (by decide) (fun c9 => ?_) (fun c9 => ?_)
  · have hF := if_t c9 hF
    refine lv_iconst (v := (1 : Int32)) C0.1 C0.2.1 dX5_count_15 (by decide) ?_
    exact J16 (1 : Int32) _ _ _ hM (lv_sub hl [0, 1] rfl) hF
  · have hF := if_f c9 hF
    refine lv_iconst (v := (0 : Int32)) C0.1 C0.2.1 dX5_count_11 (by decide) ?_
    refine lv_goto (tgt := 16) C0.1 C0.2.1 dX5_count_12 (by decide) ?_
    exact J16 (0 : Int32) _ _ _ hM (lv_sub hl [0, 1] rfl) hF

def F_X5_wouldDo (M : MS) (a0 : Int32) (a1 : Int32) (a2 : Int32) : Option (Int32 × MS) := (bd (F_X5_canAct M a0 a1) fun r2 => (if ¬ r2 = 0 then (if ¬ a2 = 0 then (bd (F_X5_putAside M) fun M6 => (bd2 (F_X5_act M6 a0 a1 (0 : Int32) (1 : Int32)) fun r9 M8 => (nm (fun (s10 : Int32) => (bd (F_X5_bringBack M8) fun M13 => (some (s10, M13)))) fun j76_10 => (if ¬ a2 = (1 : Int32) then (if ¬ a2 = (2 : Int32) then (gdb (inb (2 : Int32) 186) (j76_10 (rA M8 221 (Int32.toNatClampNeg (2 : Int32))))) else (if ¬ r9 = (-1 : Int32) then (j76_10 (1 : Int32)) else (j76_10 (0 : Int32)))) else (j76_10 (rF M8 88 220)))))) else (some ((1 : Int32), M))) else (if ¬ a2 = 0 then (some ((-1 : Int32), M)) else (some ((0 : Int32), M)))))

set_option maxHeartbeats 4000000 in
set_option maxRecDepth 100000 in
theorem k_X5_wouldDo (l : Launch) (G : GG) (M : MS) (a0 : Int32) (a1 : Int32) (a2 : Int32) {r : Int32} {Mf : MS} (hF : F_X5_wouldDo M a0 a1 a2 = some (r, Mf)) : KI l yX5_wouldDo (WS yX5_wouldDo cX5_wouldDo 5 (some .int)) (Rm 6) G [.ref (gad G 220), .int a0, .int a1, .int a2] M r Mf := by
  intro sz
  refine y_met (by decide +kernel) (Nat.le_of_ble_eq_true rfl) rfl (fun p e s m below meth c ls hsz C0 hM hl => ?_)
  have hl : lv_has ls 5 [(0, .ref (gad G 220)), (1, .int a0), (2, .int a1), (3, .int a2)] := hl
  have C0 : CX p s m meth c ([.ref (gad G 220), .int a0, .int a1, .int a2] : List Value).toArray cX5_wouldDo RX5 5 (some .int) := C0
  rw [F_X5_wouldDo] at hF
  refine lv_aload_n C0.1 C0.2.1 dX5_wouldDo_0 rfl (lv_at hl 0 rfl) ?_
  refine lv_iload_n C0.1 C0.2.1 dX5_wouldDo_1 rfl (lv_at hl 1 rfl) ?_
  refine lv_iload_n C0.1 C0.2.1 dX5_wouldDo_2 rfl (lv_at hl 2 rfl) ?_
  obtain ⟨r2, h1, hF⟩ := bd_some hF
  refine y_vi (rest := []) C0 hM hl.1 ok_md (ent5 ok_md) rfl (k_X5_canAct l G M a0 a1 h1) cw_RX5_129 rfl rfl ⟨Nat.le_of_ble_eq_true rfl, Nat.le_of_ble_eq_true rfl⟩ rfl (Nat.le_of_ble_eq_true rfl) ⟨Nat.le_of_ble_eq_true rfl, Nat.le_of_ble_eq_true rfl⟩ dX5_wouldDo_3 (fun H locs hM => ?_)
  refine lv_if_ne (tgt := 19) C0.1 C0.2.1 dX5_wouldDo_6 (by decide) (fun c3 => ?_) (fun c3 => ?_)
  · have hF := if_t c3 hF
    refine lv_iload_n C0.1 C0.2.1 dX5_wouldDo_19 rfl (lv_at hl 3 rfl) ?_
    refine lv_if_ne (tgt := 25) C0.1 C0.2.1 dX5_wouldDo_20 (by decide) (fun c4 => ?_) (fun c4 => ?_)
    · have hF := if_t c4 hF
      refine lv_aload_n C0.1 C0.2.1 dX5_wouldDo_25 rfl (lv_at hl 0 rfl) ?_
      obtain ⟨M6, h5, hF⟩ := bd_some hF
      refine y_vv (rest := []) C0 hM hl.1 ok_md (ent5 ok_md) rfl (k_X5_putAside l G M h5) cw_RX5_222 rfl rfl ⟨Nat.le_of_ble_eq_true rfl, Nat.le_of_ble_eq_true rfl⟩ rfl (Nat.le_of_ble_eq_true rfl) ⟨Nat.le_of_ble_eq_true rfl, Nat.le_of_ble_eq_true rfl⟩ dX5_wouldDo_26 (fun H locs hM => ?_)
      refine lv_aload_n C0.1 C0.2.1 dX5_wouldDo_29 rfl (lv_at hl 0 rfl) ?_
      refine lv_iload_n C0.1 C0.2.1 dX5_wouldDo_30 rfl (lv_at hl 1 rfl) ?_
      refine lv_iload_n C0.1 C0.2.1 dX5_wouldDo_31 rfl (lv_at hl 2 rfl) ?_
      refine lv_iconst (v := (0 : Int32)) C0.1 C0.2.1 dX5_wouldDo_32 (by decide) ?_
      refine lv_iconst (v := (1 : Int32)) C0.1 C0.2.1 dX5_wouldDo_33 (by decide) ?_
      obtain ⟨r9, M8, h7, hF⟩ := bd2_some hF
      refine y_vi (rest := []) C0 hM hl.1 ok_md (ent5 ok_md) rfl (k_X5_act l G M6 a0 a1 (0 : Int32) (1 : Int32) h7) cw_RX5_135 rfl rfl ⟨Nat.le_of_ble_eq_true rfl, Nat.le_of_ble_eq_true rfl⟩ rfl (Nat.le_of_ble_eq_true rfl) ⟨Nat.le_of_ble_eq_true rfl, Nat.le_of_ble_eq_true rfl⟩ dX5_wouldDo_34 (fun H locs hM => ?_)
      refine lv_istore (lv' := [(4, .int r9), (0, .ref (gad G 220)), (1, .int a0), (2, .int a1), (3, .int a2)]) C0.1 C0.2.1 dX5_wouldDo_37 hl (by decide) rfl (fun ls hl => ?_)
      refine lv_iload_n C0.1 C0.2.1 dX5_wouldDo_39 rfl (lv_at hl 4 rfl) ?_
      refine lv_iconst (v := (1 : Int32)) C0.1 C0.2.1 dX5_wouldDo_40 (by decide) ?_
      obtain ⟨j76_10, ej76_10, hF⟩ := nm_some hF
      have J76 : ∀ (s10 : Int32) (H : Heap) (locs : List Loc) (ls : Array Slot), MX G M8 s H locs → lv_has ls 5 [(0, .ref (gad G 220)), (1, .int a0), (2, .int a1), (3, .int a2), (4, .int r9)] → j76_10 s10 = some (r, Mf) → W p l e (Rm 6) s m ([.ref (gad G 220), .int a0, .int a1, .int a2] : List Value).toArray below meth c H locs 0 0 (QI below ([.ref (gad G 220), .int a0, .int a1, .int a2] : List Value).toArray s G sz r Mf) (F0 m 76 ls [.int s10]) := by
        intro s10 H locs ls hM hl hF
        rw [ej76_10] at hF
        refine lv_istore (lv' := [(4, .int s10), (0, .ref (gad G 220)), (1, .int a0), (2, .int a1), (3, .int a2)]) C0.1 C0.2.1 dX5_wouldDo_76 hl (by decide) rfl (fun ls hl => ?_)
        refine lv_aload_n C0.1 C0.2.1 dX5_wouldDo_78 rfl (lv_at hl 1 rfl) ?_
        obtain ⟨M13, h12, hF⟩ := bd_some hF
        refine y_vv (rest := []) C0 hM hl.1 ok_md (ent5 ok_md) rfl (k_X5_bringBack l G M8 h12) cw_RX5_225 rfl rfl ⟨Nat.le_of_ble_eq_true rfl, Nat.le_of_ble_eq_true rfl⟩ rfl (Nat.le_of_ble_eq_true rfl) ⟨Nat.le_of_ble_eq_true rfl, Nat.le_of_ble_eq_true rfl⟩ dX5_wouldDo_79 (fun H locs hM => ?_)
        refine lv_iload C0.1 C0.2.1 dX5_wouldDo_82 (lv_at hl 0 rfl) ?_
        obtain ⟨e8, e9⟩ := y_2 hF
        subst e8
        subst e9
        exact y_iret C0 hM hsz dX5_wouldDo_84
      refine lv_icmp_ne (tgt := 51) C0.1 C0.2.1 dX5_wouldDo_41 (by decide) (fun c14 => ?_) (fun c14 => ?_)
      · have hF := if_t c14 hF
        refine lv_iload_n C0.1 C0.2.1 dX5_wouldDo_51 rfl (lv_at hl 4 rfl) ?_
        refine lv_iconst (v := (2 : Int32)) C0.1 C0.2.1 dX5_wouldDo_52 (by decide) ?_
        refine lv_icmp_ne (tgt := 70) C0.1 C0.2.1 dX5_wouldDo_53 (by decide) (fun c15 => ?_) (fun c15 => ?_)
        · have hF := if_t c15 hF
          refine lv_aload_n C0.1 C0.2.1 dX5_wouldDo_70 rfl (lv_at hl 1 rfl) ?_
          refine gf5_1 C0 hM ok_md fl_RX5_7 dX5_wouldDo_71 ?_
          refine lv_iconst (v := (2 : Int32)) C0.1 C0.2.1 dX5_wouldDo_74 (by decide) ?_
          obtain ⟨g16, hF⟩ := gdb_some hF
          refine y_iald C0 hM oka_z g16 dX5_wouldDo_75 ?_
          exact J76 (rA M8 221 (Int32.toNatClampNeg (2 : Int32))) _ _ _ hM (lv_sub hl [1, 2, 3, 4, 0] rfl) hF
        · have hF := if_f (fun q => q c15) hF
          refine lv_iload C0.1 C0.2.1 dX5_wouldDo_56 (lv_at hl 0 rfl) ?_
          refine lv_iconst (v := (-1 : Int32)) C0.1 C0.2.1 dX5_wouldDo_58 (by decide) ?_
          refine lv_icmp_ne (tgt := 66) C0.1 C0.2.1 dX5_wouldDo_59 (by decide) (fun c17 => ?_) (fun c17 => ?_)
          · have hF := if_t c17 hF
            refine lv_iconst (v := (1 : Int32)) C0.1 C0.2.1 dX5_wouldDo_66 (by decide) ?_
            refine lv_goto (tgt := 76) C0.1 C0.2.1 dX5_wouldDo_67 (by decide) ?_
            exact J76 (1 : Int32) _ _ _ hM (lv_sub hl [1, 2, 3, 4, 0] rfl) hF
          · have hF := if_f (fun q => q c17) hF
            refine lv_iconst (v := (0 : Int32)) C0.1 C0.2.1 dX5_wouldDo_62 (by decide) ?_
            refine lv_goto (tgt := 76) C0.1 C0.2.1 dX5_wouldDo_63 (by decide) ?_
            exact J76 (0 : Int32) _ _ _ hM (lv_sub hl [1, 2, 3, 4, 0] rfl) hF
      · have hF := if_f (fun q => q c14) hF
        refine lv_aload_n C0.1 C0.2.1 dX5_wouldDo_44 rfl (lv_at hl 1 rfl) ?_
        refine gf5_8 C0 hM ok_md fl_RX5_120 dX5_wouldDo_45 ?_
        refine lv_goto (tgt := 76) C0.1 C0.2.1 dX5_wouldDo_48 (by decide) ?_
        exact J76 (rF M8 88 220) _ _ _ hM (lv_sub hl [1, 2, 3, 4, 0] rfl) hF
    · have hF := if_f (fun q => q c4) hF
      refine lv_iconst (v := (1 : Int32)) C0.1 C0.2.1 dX5_wouldDo_23 (by decide) ?_
      obtain ⟨e8, e9⟩ := y_2 hF
      subst e8
      subst e9
      exact y_iret C0 hM hsz dX5_wouldDo_24
  · have hF := if_f (fun q => q c3) hF
    refine lv_iload_n C0.1 C0.2.1 dX5_wouldDo_9 rfl (lv_at hl 3 rfl) ?_
    refine lv_if_ne (tgt := 17) C0.1 C0.2.1 dX5_wouldDo_10 (by decide) (fun c18 => ?_) (fun c18 => ?_)
    · have hF := if_t c18 hF
      refine lv_iconst (v := (-1 : Int32)) C0.1 C0.2.1 dX5_wouldDo_17 (by decide) ?_
      obtain ⟨e8, e9⟩ := y_2 hF
      subst e8
      subst e9
      exact y_iret C0 hM hsz dX5_wouldDo_18
    · have hF := if_f (fun q => q c18) hF
      refine lv_iconst (v := (0 : Int32)) C0.1 C0.2.1 dX5_wouldDo_13 (by decide) ?_
      refine lv_goto (tgt := 18) C0.1 C0.2.1 dX5_wouldDo_14 (by decide) ?_
      obtain ⟨e8, e9⟩ := y_2 hF
      subst e8
      subst e9
      exact y_iret C0 hM hsz dX5_wouldDo_18

def F_X5_ifDone (M : MS) (a0 : Int32) (a1 : Int32) (a2 : Int32) : Option (Int32 × MS) := (bd (F_X5_in M a0 (0 : Int32) (3 : Int32)) fun r2 => (nm (fun (s3 : Int32) => (nm (fun (s5 : Int32) => (nm (wF M 80 220 s5) fun M7 => (if (rF M7 80 220) ≤ 0 then (bd2 (F_X5_wouldDo M7 a0 a1 a2) fun r11 M10 => (some (r11, M10))) else (some ((0 : Int32), M7))))) fun j62_5 => (if s3 = 0 then (j62_5 (1 : Int32)) else (j62_5 (0 : Int32))))) fun j49_3 => (if r2 = 0 then (j49_3 (0 : Int32)) else (bd (F_X5_in M a2 (0 : Int32) (3 : Int32)) fun r15 => (if r15 = 0 then (j49_3 (0 : Int32)) else (if ¬ a0 = (1 : Int32) then (bd (F_X5_isFighter M a1) fun r19 => (if r19 = 0 then (j49_3 (0 : Int32)) else (j49_3 (1 : Int32)))) else (bd (F_X5_in M a1 (0 : Int32) (9 : Int32)) fun r22 => (if r22 = 0 then (j49_3 (0 : Int32)) else (j49_3 (1 : Int32))))))))))

set_option maxHeartbeats 4000000 in
set_option maxRecDepth 100000 in
theorem k_X5_ifDone (l : Launch) (G : GG) (M : MS) (a0 : Int32) (a1 : Int32) (a2 : Int32) {r : Int32} {Mf : MS} (hF : F_X5_ifDone M a0 a1 a2 = some (r, Mf)) : KI l yX5_ifDone (WS yX5_ifDone cX5_ifDone 5 (some .int)) (Rm 7) G [.ref (gad G 220), .int a0, .int a1, .int a2] M r Mf := by
  intro sz
  refine y_met (by decide +kernel) (Nat.le_of_ble_eq_true rfl) rfl (fun p e s m below meth c ls hsz C0 hM hl => ?_)
  have hl : lv_has ls 5 [(0, .ref (gad G 220)), (1, .int a0), (2, .int a1), (3, .int a2)] := hl
  have C0 : CX p s m meth c ([.ref (gad G 220), .int a0, .int a1, .int a2] : List Value).toArray cX5_ifDone RX5 5 (some .int) := C0
  rw [F_X5_ifDone] at hF
  refine lv_iload_n C0.1 C0.2.1 dX5_ifDone_0 rfl (lv_at hl 1 rfl) ?_
  refine lv_iconst (v := (0 : Int32)) C0.1 C0.2.1 dX5_ifDone_1 (by decide) ?_
  refine lv_iconst (v := (3 : Int32)) C0.1 C0.2.1 dX5_ifDone_2 (by decide) ?_
  obtain ⟨r2, h1, hF⟩ := bd_some hF
  refine y_si (rest := []) C0 hM hl.1 (k_X5_in l G M a0 (0 : Int32) (3 : Int32) h1) cw_RX5_85 rfl rfl ⟨Nat.le_of_ble_eq_true rfl, Nat.le_of_ble_eq_true rfl⟩ rfl (Nat.le_of_ble_eq_true rfl) ⟨Nat.le_of_ble_eq_true rfl, Nat.le_of_ble_eq_true rfl⟩ dX5_ifDone_3 (fun H locs hM => ?_)
  obtain ⟨j49_3, ej49_3, hF⟩ := nm_some hF
  have J49 : ∀ (s3 : Int32) (H : Heap) (locs : List Loc) (ls : Array Slot), MX G M s H locs → lv_has ls 5 [(0, .ref (gad G 220)), (1, .int a0), (2, .int a1), (3, .int a2)] → j49_3 s3 = some (r, Mf) → W p l e (Rm 7) s m ([.ref (gad G 220), .int a0, .int a1, .int a2] : List Value).toArray below meth c H locs 0 0 (QI below ([.ref (gad G 220), .int a0, .int a1, .int a2] : List Value).toArray s G sz r Mf) (F0 m 49 ls [.int s3]) := by
    intro s3 H locs ls hM hl hF
    rw [ej49_3] at hF
    refine lv_istore (lv' := [(4, .int s3), (0, .ref (gad G 220)), (1, .int a0), (2, .int a1), (3, .int a2)]) C0.1 C0.2.1 dX5_ifDone_49 hl (by decide) rfl (fun ls hl => ?_)
    refine lv_aload_n C0.1 C0.2.1 dX5_ifDone_51 rfl (lv_at hl 1 rfl) ?_
    refine lv_iload C0.1 C0.2.1 dX5_ifDone_52 (lv_at hl 0 rfl) ?_
    obtain ⟨j62_5, ej62_5, hF⟩ := nm_some hF
    have J62 : ∀ (s5 : Int32) (H : Heap) (locs : List Loc) (ls : Array Slot), MX G M s H locs → lv_has ls 5 [(0, .ref (gad G 220)), (1, .int a0), (2, .int a1), (3, .int a2), (4, .int s3)] → j62_5 s5 = some (r, Mf) → W p l e (Rm 7) s m ([.ref (gad G 220), .int a0, .int a1, .int a2] : List Value).toArray below meth c H locs 0 0 (QI below ([.ref (gad G 220), .int a0, .int a1, .int a2] : List Value).toArray s G sz r Mf) (F0 m 62 ls [.int s5, .ref (gad G 220)]) := by
      intro s5 H locs ls hM hl hF
      rw [ej62_5] at hF
      refine pf5_0 C0 hM ok_md fl_RX5_28 dX5_ifDone_62 (fun H locs hM => ?_)
      obtain ⟨M7, eM7, hF⟩ := nm_some hF
      have hM := y_mn eM7 hM
      refine lv_aload_n C0.1 C0.2.1 dX5_ifDone_65 rfl (lv_at hl 0 rfl) ?_
      refine gf5_0 C0 hM ok_md fl_RX5_28 dX5_ifDone_66 ?_
      refine lv_if_le (tgt := 76) C0.1 C0.2.1 dX5_ifDone_69 (by decide) (fun c8 => ?_) (fun c8 => ?_)
      · have hF := if_t c8 hF
        refine lv_aload_n C0.1 C0.2.1 dX5_ifDone_76 rfl (lv_at hl 0 rfl) ?_
        refine lv_iload_n C0.1 C0.2.1 dX5_ifDone_77 rfl (lv_at hl 1 rfl) ?_
        refine lv_iload_n C0.1 C0.2.1 dX5_ifDone_78 rfl (lv_at hl 2 rfl) ?_
        refine lv_iload_n C0.1 C0.2.1 dX5_ifDone_79 rfl (lv_at hl 3 rfl) ?_
        obtain ⟨r11, M10, h9, hF⟩ := bd2_some hF
        refine y_vi (rest := []) C0 hM hl.1 ok_md (ent5 ok_md) rfl (k_X5_wouldDo l G M7 a0 a1 a2 h9) cw_RX5_228 rfl rfl ⟨Nat.le_of_ble_eq_true rfl, Nat.le_of_ble_eq_true rfl⟩ rfl (Nat.le_of_ble_eq_true rfl) ⟨Nat.le_of_ble_eq_true rfl, Nat.le_of_ble_eq_true rfl⟩ dX5_ifDone_80 (fun H locs hM => ?_)
        obtain ⟨e8, e9⟩ := y_2 hF
        subst e8
        subst e9
        exact y_iret C0 hM hsz dX5_ifDone_83
      · have hF := if_f c8 hF
        refine lv_iconst (v := (0 : Int32)) C0.1 C0.2.1 dX5_ifDone_72 (by decide) ?_
        refine lv_goto (tgt := 83) C0.1 C0.2.1 dX5_ifDone_73 (by decide) ?_
        obtain ⟨e8, e9⟩ := y_2 hF
        subst e8
        subst e9
        exact y_iret C0 hM hsz dX5_ifDone_83
    refine lv_if_eq (tgt := 61) C0.1 C0.2.1 dX5_ifDone_54 (by decide) (fun c12 => ?_) (fun c12 => ?_)
    · have hF := if_t c12 hF
      refine lv_iconst (v := (1 : Int32)) C0.1 C0.2.1 dX5_ifDone_61 (by decide) ?_
      exact J62 (1 : Int32) _ _ _ hM (lv_sub hl [1, 2, 3, 4, 0] rfl) hF
    · have hF := if_f c12 hF
      refine lv_iconst (v := (0 : Int32)) C0.1 C0.2.1 dX5_ifDone_57 (by decide) ?_
      refine lv_goto (tgt := 62) C0.1 C0.2.1 dX5_ifDone_58 (by decide) ?_
      exact J62 (0 : Int32) _ _ _ hM (lv_sub hl [1, 2, 3, 4, 0] rfl) hF
  refine lv_if_eq (tgt := 48) C0.1 C0.2.1 dX5_ifDone_6 (by decide) (fun c13 => ?_) (fun c13 => ?_)
  · have hF := if_t c13 hF
    refine lv_iconst (v := (0 : Int32)) C0.1 C0.2.1 dX5_ifDone_48 (by decide) ?_
    exact J49 (0 : Int32) _ _ _ hM (lv_sub hl [0, 1, 2, 3] rfl) hF
  · have hF := if_f c13 hF
    refine lv_iload_n C0.1 C0.2.1 dX5_ifDone_9 rfl (lv_at hl 3 rfl) ?_
    refine lv_iconst (v := (0 : Int32)) C0.1 C0.2.1 dX5_ifDone_10 (by decide) ?_
    refine lv_iconst (v := (3 : Int32)) C0.1 C0.2.1 dX5_ifDone_11 (by decide) ?_
    obtain ⟨r15, h14, hF⟩ := bd_some hF
    refine y_si (rest := []) C0 hM hl.1 (k_X5_in l G M a2 (0 : Int32) (3 : Int32) h14) cw_RX5_85 rfl rfl ⟨Nat.le_of_ble_eq_true rfl, Nat.le_of_ble_eq_true rfl⟩ rfl (Nat.le_of_ble_eq_true rfl) ⟨Nat.le_of_ble_eq_true rfl, Nat.le_of_ble_eq_true rfl⟩ dX5_ifDone_12 (fun H locs hM => ?_)
    refine lv_if_eq (tgt := 48) C0.1 C0.2.1 dX5_ifDone_15 (by decide) (fun c16 => ?_) (fun c16 => ?_)
    · have hF := if_t c16 hF
      refine lv_iconst (v := (0 : Int32)) C0.1 C0.2.1 dX5_ifDone_48 (by decide) ?_
      exact J49 (0 : Int32) _ _ _ hM (lv_sub hl [0, 1, 2, 3] rfl) hF
    · have hF := if_f c16 hF
      refine lv_iload_n C0.1 C0.2.1 dX5_ifDone_18 rfl (lv_at hl 1 rfl) ?_
      refine lv_iconst (v := (1 : Int32)) C0.1 C0.2.1 dX5_ifDone_19 (by decide) ?_
      refine lv_icmp_ne (tgt := 36) C0.1 C0.2.1 dX5_ifDone_20 (by decide) (fun c17 => ?_) (fun c17 => ?_)
      · have hF := if_t c17 hF
        refine lv_aload_n C0.1 C0.2.1 dX5_ifDone_36 rfl (lv_at hl 0 rfl) ?_
        refine lv_iload_n C0.1 C0.2.1 dX5_ifDone_37 rfl (lv_at hl 2 rfl) ?_
        obtain ⟨r19, h18, hF⟩ := bd_some hF
        refine y_vi (rest := []) C0 hM hl.1 ok_md (ent5 ok_md) rfl (k_X5_isFighter l G M a1 h18) cw_RX5_126 rfl rfl ⟨Nat.le_of_ble_eq_true rfl, Nat.le_of_ble_eq_true rfl⟩ rfl (Nat.le_of_ble_eq_true rfl) ⟨Nat.le_of_ble_eq_true rfl, Nat.le_of_ble_eq_true rfl⟩ dX5_ifDone_38 (fun H locs hM => ?_)
        refine lv_if_eq (tgt := 48) C0.1 C0.2.1 dX5_ifDone_41 (by decide) (fun c20 => ?_) (fun c20 => ?_)
        · have hF := if_t c20 hF
          refine lv_iconst (v := (0 : Int32)) C0.1 C0.2.1 dX5_ifDone_48 (by decide) ?_
          exact J49 (0 : Int32) _ _ _ hM (lv_sub hl [0, 1, 2, 3] rfl) hF
        · have hF := if_f c20 hF
          refine lv_iconst (v := (1 : Int32)) C0.1 C0.2.1 dX5_ifDone_44 (by decide) ?_
          refine lv_goto (tgt := 49) C0.1 C0.2.1 dX5_ifDone_45 (by decide) ?_
          exact J49 (1 : Int32) _ _ _ hM (lv_sub hl [0, 1, 2, 3] rfl) hF
      · have hF := if_f (fun q => q c17) hF
        refine lv_iload_n C0.1 C0.2.1 dX5_ifDone_23 rfl (lv_at hl 2 rfl) ?_
        refine lv_iconst (v := (0 : Int32)) C0.1 C0.2.1 dX5_ifDone_24 (by decide) ?_
        refine lv_bipush (v := (9 : Int32)) C0.1 C0.2.1 dX5_ifDone_25 (by decide) ?_
        obtain ⟨r22, h21, hF⟩ := bd_some hF
        refine y_si (rest := []) C0 hM hl.1 (k_X5_in l G M a1 (0 : Int32) (9 : Int32) h21) cw_RX5_85 rfl rfl ⟨Nat.le_of_ble_eq_true rfl, Nat.le_of_ble_eq_true rfl⟩ rfl (Nat.le_of_ble_eq_true rfl) ⟨Nat.le_of_ble_eq_true rfl, Nat.le_of_ble_eq_true rfl⟩ dX5_ifDone_27 (fun H locs hM => ?_)
        refine lv_if_eq (tgt := 48) C0.1 C0.2.1 dX5_ifDone_30 (by decide) (fun c23 => ?_) (fun c23 => ?_)
        · have hF := if_t c23 hF
          refine lv_iconst (v := (0 : Int32)) C0.1 C0.2.1 dX5_ifDone_48 (by decide) ?_
          exact J49 (0 : Int32) _ _ _ hM (lv_sub hl [0, 1, 2, 3] rfl) hF
        · have hF := if_f c23 hF
          refine lv_goto (tgt := 44) C0.1 C0.2.1 dX5_ifDone_33 (by decide) ?_
          refine lv_iconst (v := (1 : Int32)) C0.1 C0.2.1 dX5_ifDone_44 (by decide) ?_
          refine lv_goto (tgt := 49) C0.1 C0.2.1 dX5_ifDone_45 (by decide) ?_
          exact J49 (1 : Int32) _ _ _ hM (lv_sub hl [0, 1, 2, 3] rfl) hF

def F_X5_wouldEnd_l6 (a0 : Int32) : Nat → Int32 → MS → Option (Int32 × MS)
  | 0, _, _ => none
  | n6 + 1, l2_3, M4 => (nm (gdb (inb (2 : Int32) 186) (nm (rA M4 221 (Int32.toNatClampNeg (2 : Int32))) fun x7 => (bd (F_X5_bringBack M4) fun M9 => (some (x7, M9))))) fun j31_4 => (if a0 ≤ l2_3 then j31_4 else (gdb (inb (2 : Int32) 186) (if (rA M4 221 (Int32.toNatClampNeg (2 : Int32))) = (-1 : Int32) then j31_4 else (bd (F_X5_endTurn M4) fun M14 => (nm (l2_3 + (1 : Int32)) fun x15 => (F_X5_wouldEnd_l6 a0 n6 x15 M14)))))))

def F_X5_wouldEnd (M : MS) (a0 : Int32) : Option (Int32 × MS) := (bd (F_X5_putAside M) fun M2 => (F_X5_wouldEnd_l6 a0 FU (0 : Int32) M2))

set_option maxHeartbeats 4000000 in
set_option maxRecDepth 100000 in
theorem k_X5_wouldEnd (l : Launch) (G : GG) (M : MS) (a0 : Int32) {r : Int32} {Mf : MS} (hF : F_X5_wouldEnd M a0 = some (r, Mf)) : KI l yX5_wouldEnd (WS yX5_wouldEnd cX5_wouldEnd 3 (some .int)) (Rm 5) G [.ref (gad G 220), .int a0] M r Mf := by
  intro sz
  refine y_met (by decide +kernel) (Nat.le_of_ble_eq_true rfl) rfl (fun p e s m below meth c ls hsz C0 hM hl => ?_)
  have hl : lv_has ls 3 [(0, .ref (gad G 220)), (1, .int a0)] := hl
  have C0 : CX p s m meth c ([.ref (gad G 220), .int a0] : List Value).toArray cX5_wouldEnd RX5 3 (some .int) := C0
  rw [F_X5_wouldEnd] at hF
  refine lv_aload_n C0.1 C0.2.1 dX5_wouldEnd_0 rfl (lv_at hl 0 rfl) ?_
  obtain ⟨M2, h1, hF⟩ := bd_some hF
  refine y_vv (rest := []) C0 hM hl.1 ok_md (ent5 ok_md) rfl (k_X5_putAside l G M h1) cw_RX5_222 rfl rfl ⟨Nat.le_of_ble_eq_true rfl, Nat.le_of_ble_eq_true rfl⟩ rfl (Nat.le_of_ble_eq_true rfl) ⟨Nat.le_of_ble_eq_true rfl, Nat.le_of_ble_eq_true rfl⟩ dX5_wouldEnd_1 (fun H locs hM => ?_)
  refine lv_iconst (v := (0 : Int32)) C0.1 C0.2.1 dX5_wouldEnd_4 (by decide) ?_
  refine lv_istore_n (lv' := [(2, .int (0 : Int32)), (0, .ref (gad G 220)), (1, .int a0)]) C0.1 C0.2.1 dX5_wouldEnd_5 rfl hl (by decide) rfl (fun ls hl => ?_)
  have L6 : ∀ (n : Nat) (l2_3 : Int32) (M4 : MS) (H : Heap) (locs : List Loc) (ls : Array Slot), MX G M4 s H locs → lv_has ls 3 [(0, .ref (gad G 220)), (1, .int a0), (2, .int l2_3)] → F_X5_wouldEnd_l6 a0 n l2_3 M4 = some (r, Mf) → W p l e (Rm 5) s m ([.ref (gad G 220), .int a0] : List Value).toArray below meth c H locs 0 0 (QI below ([.ref (gad G 220), .int a0] : List Value).toArray s G sz r Mf) (F0 m 6 ls []) := by
    intro n
    induction n with
    | zero => intro l2_3 M4 H locs ls hM hl hF; rw [F_X5_wouldEnd_l6] at hF; cases hF
    | succ n6 ih6 =>
      intro l2_3 M4 H locs ls hM hl hF
      rw [F_X5_wouldEnd_l6] at hF
      refine lv_iload_n C0.1 C0.2.1 dX5_wouldEnd_6 rfl (lv_at hl 2 rfl) ?_
      refine lv_iload_n C0.1 C0.2.1 dX5_wouldEnd_7 rfl (lv_at hl 1 rfl) ?_
      obtain ⟨j31_4, ej31_4, hF⟩ := nm_some hF
      have J31 : ∀ (H : Heap) (locs : List Loc) (ls : Array Slot), MX G M4 s H locs → lv_has ls 3 [(0, .ref (gad G 220)), (1, .int a0), (2, .int l2_3)] → j31_4 = some (r, Mf) → W p l e (Rm 5) s m ([.ref (gad G 220), .int a0] : List Value).toArray below meth c H locs 0 0 (QI below ([.ref (gad G 220), .int a0] : List Value).toArray s G sz r Mf) (F0 m 31 ls []) := by
        intro H locs ls hM hl hF
        rw [ej31_4] at hF
        refine lv_aload_n C0.1 C0.2.1 dX5_wouldEnd_31 rfl (lv_at hl 0 rfl) ?_
        refine gf5_1 C0 hM ok_md fl_RX5_7 dX5_wouldEnd_32 ?_
        refine lv_iconst (v := (2 : Int32)) C0.1 C0.2.1 dX5_wouldEnd_35 (by decide) ?_
        obtain ⟨g6, hF⟩ := gdb_some hF
        refine y_iald C0 hM oka_z g6 dX5_wouldEnd_36 ?_
        obtain ⟨x7, ex7, hF⟩ := nm_some hF
        refine y_topi ex7 ?_
        refine lv_istore_n (lv' := [(2, .int x7), (0, .ref (gad G 220)), (1, .int a0)]) C0.1 C0.2.1 dX5_wouldEnd_37 rfl hl (by decide) rfl (fun ls hl => ?_)
        refine lv_aload_n C0.1 C0.2.1 dX5_wouldEnd_38 rfl (lv_at hl 1 rfl) ?_
        obtain ⟨M9, h8, hF⟩ := bd_some hF
        refine y_vv (rest := []) C0 hM hl.1 ok_md (ent5 ok_md) rfl (k_X5_bringBack l G M4 h8) cw_RX5_225 rfl rfl ⟨Nat.le_of_ble_eq_true rfl, Nat.le_of_ble_eq_true rfl⟩ rfl (Nat.le_of_ble_eq_true rfl) ⟨Nat.le_of_ble_eq_true rfl, Nat.le_of_ble_eq_true rfl⟩ dX5_wouldEnd_39 (fun H locs hM => ?_)
        refine lv_iload_n C0.1 C0.2.1 dX5_wouldEnd_42 rfl (lv_at hl 0 rfl) ?_
        obtain ⟨e8, e9⟩ := y_2 hF
        subst e8
        subst e9
        exact y_iret C0 hM hsz dX5_wouldEnd_43
      refine lv_icmp_ge (tgt := 31) C0.1 C0.2.1 dX5_wouldEnd_8 (by decide) (fun c10 => ?_) (fun c10 => ?_)
      · have hF := if_t c10 hF
        exact J31  _ _ _ hM (lv_sub hl [0, 1, 2] rfl) hF
      · have hF := if_f c10 hF
        refine lv_aload_n C0.1 C0.2.1 dX5_wouldEnd_11 rfl (lv_at hl 0 rfl) ?_
        refine gf5_1 C0 hM ok_md fl_RX5_7 dX5_wouldEnd_12 ?_
        refine lv_iconst (v := (2 : Int32)) C0.1 C0.2.1 dX5_wouldEnd_15 (by decide) ?_
        obtain ⟨g11, hF⟩ := gdb_some hF
        refine y_iald C0 hM oka_z g11 dX5_wouldEnd_16 ?_
        refine lv_iconst (v := (-1 : Int32)) C0.1 C0.2.1 dX5_wouldEnd_17 (by decide) ?_
        refine lv_icmp_eq (tgt := 31) C0.1 C0.2.1 dX5_wouldEnd_18 (by decide) (fun c12 => ?_) (fun c12 => ?_)
        · have hF := if_t c12 hF
          exact J31  _ _ _ hM (lv_sub hl [0, 1, 2] rfl) hF
        · have hF := if_f c12 hF
          refine lv_aload_n C0.1 C0.2.1 dX5_wouldEnd_21 rfl (lv_at hl 0 rfl) ?_
          obtain ⟨M14, h13, hF⟩ := bd_some hF
          refine y_vv (rest := []) C0 hM hl.1 ok_md (ent5 ok_md) rfl (k_X5_endTurn l G M4 h13) cw_RX5_123 rfl rfl ⟨Nat.le_of_ble_eq_true rfl, Nat.le_of_ble_eq_true rfl⟩ rfl (Nat.le_of_ble_eq_true rfl) ⟨Nat.le_of_ble_eq_true rfl, Nat.le_of_ble_eq_true rfl⟩ dX5_wouldEnd_22 (fun H locs hM => ?_)
          obtain ⟨x15, ex15, hF⟩ := nm_some hF
          refine lv_iinc (v := x15) (lv' := [(2, .int x15), (0, .ref (gad G 220)), (1, .int a0)]) C0.1 C0.2.1 dX5_wouldEnd_25 hl (k := 2) rfl (by rw [ex15]; rfl) (by decide) rfl (fun ls hl => ?_)
          refine lv_goto (tgt := 6) C0.1 C0.2.1 dX5_wouldEnd_28 (by decide) ?_
          exact ih6 x15 M14 _ _ _ hM (lv_sub hl [1, 2, 0] rfl) hF
  exact L6 FU (0 : Int32) M2 _ _ _ hM (lv_sub hl [1, 2, 0] rfl) hF

def F_X5_ifEnded (M : MS) (a0 : Int32) : Option (Int32 × MS) := (bd (F_X5_in M a0 (0 : Int32) (40 : Int32)) fun r2 => (nm (fun (s3 : Int32) => (nm (wF M 80 220 s3) fun M5 => (if (rF M5 80 220) ≤ 0 then (bd2 (F_X5_wouldEnd M5 a0) fun r9 M8 => (some (r9, M8))) else (some ((0 : Int32), M5))))) fun j16_3 => (if r2 = 0 then (j16_3 (1 : Int32)) else (j16_3 (0 : Int32)))))

set_option maxHeartbeats 4000000 in
set_option maxRecDepth 100000 in
theorem k_X5_ifEnded (l : Launch) (G : GG) (M : MS) (a0 : Int32) {r : Int32} {Mf : MS} (hF : F_X5_ifEnded M a0 = some (r, Mf)) : KI l yX5_ifEnded (WS yX5_ifEnded cX5_ifEnded 2 (some .int)) (Rm 6) G [.ref (gad G 220), .int a0] M r Mf := by
  intro sz
  refine y_met (by decide +kernel) (Nat.le_of_ble_eq_true rfl) rfl (fun p e s m below meth c ls hsz C0 hM hl => ?_)
  have hl : lv_has ls 2 [(0, .ref (gad G 220)), (1, .int a0)] := hl
  have C0 : CX p s m meth c ([.ref (gad G 220), .int a0] : List Value).toArray cX5_ifEnded RX5 2 (some .int) := C0
  rw [F_X5_ifEnded] at hF
  refine lv_aload_n C0.1 C0.2.1 dX5_ifEnded_0 rfl (lv_at hl 0 rfl) ?_
  refine lv_iload_n C0.1 C0.2.1 dX5_ifEnded_1 rfl (lv_at hl 1 rfl) ?_
  refine lv_iconst (v := (0 : Int32)) C0.1 C0.2.1 dX5_ifEnded_2 (by decide) ?_
  refine lv_bipush (v := (40 : Int32)) C0.1 C0.2.1 dX5_ifEnded_3 (by decide) ?_
  obtain ⟨r2, h1, hF⟩ := bd_some hF
  refine y_si (rest := [.ref (gad G 220)]) C0 hM hl.1 (k_X5_in l G M a0 (0 : Int32) (40 : Int32) h1) cw_RX5_85 rfl rfl ⟨Nat.le_of_ble_eq_true rfl, Nat.le_of_ble_eq_true rfl⟩ rfl (Nat.le_of_ble_eq_true rfl) ⟨Nat.le_of_ble_eq_true rfl, Nat.le_of_ble_eq_true rfl⟩ dX5_ifEnded_5 (fun H locs hM => ?_)
  obtain ⟨j16_3, ej16_3, hF⟩ := nm_some hF
  have J16 : ∀ (s3 : Int32) (H : Heap) (locs : List Loc) (ls : Array Slot), MX G M s H locs → lv_has ls 2 [(0, .ref (gad G 220)), (1, .int a0)] → j16_3 s3 = some (r, Mf) → W p l e (Rm 6) s m ([.ref (gad G 220), .int a0] : List Value).toArray below meth c H locs 0 0 (QI below ([.ref (gad G 220), .int a0] : List Value).toArray s G sz r Mf) (F0 m 16 ls [.int s3, .ref (gad G 220)]) := by
    intro s3 H locs ls hM hl hF
    rw [ej16_3] at hF
    refine pf5_0 C0 hM ok_md fl_RX5_28 dX5_ifEnded_16 (fun H locs hM => ?_)
    obtain ⟨M5, eM5, hF⟩ := nm_some hF
    have hM := y_mn eM5 hM
    refine lv_aload_n C0.1 C0.2.1 dX5_ifEnded_19 rfl (lv_at hl 0 rfl) ?_
    refine gf5_0 C0 hM ok_md fl_RX5_28 dX5_ifEnded_20 ?_
    refine lv_if_le (tgt := 30) C0.1 C0.2.1 dX5_ifEnded_23 (by decide) (fun c6 => ?_) (fun c6 => ?_)
    · have hF := if_t c6 hF
      refine lv_aload_n C0.1 C0.2.1 dX5_ifEnded_30 rfl (lv_at hl 0 rfl) ?_
      refine lv_iload_n C0.1 C0.2.1 dX5_ifEnded_31 rfl (lv_at hl 1 rfl) ?_
      obtain ⟨r9, M8, h7, hF⟩ := bd2_some hF
      refine y_vi (rest := []) C0 hM hl.1 ok_md (ent5 ok_md) rfl (k_X5_wouldEnd l G M5 a0 h7) cw_RX5_232 rfl rfl ⟨Nat.le_of_ble_eq_true rfl, Nat.le_of_ble_eq_true rfl⟩ rfl (Nat.le_of_ble_eq_true rfl) ⟨Nat.le_of_ble_eq_true rfl, Nat.le_of_ble_eq_true rfl⟩ dX5_ifEnded_32 (fun H locs hM => ?_)
      obtain ⟨e8, e9⟩ := y_2 hF
      subst e8
      subst e9
      exact y_iret C0 hM hsz dX5_ifEnded_35
    · have hF := if_f c6 hF
      refine lv_iconst (v := (0 : Int32)) C0.1 C0.2.1 dX5_ifEnded_26 (by decide) ?_
      refine lv_goto (tgt := 35) C0.1 C0.2.1 dX5_ifEnded_27 (by decide) ?_
      obtain ⟨e8, e9⟩ := y_2 hF
      subst e8
      subst e9
      exact y_iret C0 hM hsz dX5_ifEnded_35
  refine lv_if_eq (tgt := 15) C0.1 C0.2.1 dX5_ifEnded_8 (by decide) (fun c10 => ?_) (fun c10 => ?_)
  · have hF := if_t c10 hF
    refine lv_iconst (v := (1 : Int32)) C0.1 C0.2.1 dX5_ifEnded_15 (by decide) ?_
    exact J16 (1 : Int32) _ _ _ hM (lv_sub hl [0, 1] rfl) hF
  · have hF := if_f c10 hF
    refine lv_iconst (v := (0 : Int32)) C0.1 C0.2.1 dX5_ifEnded_11 (by decide) ?_
    refine lv_goto (tgt := 16) C0.1 C0.2.1 dX5_ifEnded_12 (by decide) ?_
    exact J16 (0 : Int32) _ _ _ hM (lv_sub hl [0, 1] rfl) hF

def F_X5_best_l6 : Nat → Int32 → Int32 → Int32 → MS → Option (Int32 × MS)
  | 0, _, _, _, _ => none
  | n6 + 1, l1_1, l2_2, l3_3, M4 => (gdb (inb (0 : Int32) 186) (if (rA M4 221 (Int32.toNatClampNeg (0 : Int32))) ≤ l3_3 then (some (l1_1, M4)) else (gdb (inb (2 : Int32) 186) (nm (fun (s8 : Int32) => (if s8 = 0 then (nm (l3_3 + (1 : Int32)) fun x11 => (F_X5_best_l6 n6 l1_1 l2_2 x11 M4)) else (bd (F_X5_canAct M4 (0 : Int32) l3_3) fun r13 => (if r13 = 0 then (nm (l3_3 + (1 : Int32)) fun x15 => (F_X5_best_l6 n6 l1_1 l2_2 x15 M4)) else (bd (F_X5_putAside M4) fun M17 => (bd2 (F_X5_act M17 (0 : Int32) l3_3 (0 : Int32) (0 : Int32)) fun r20 M19 => (bd (F_X5_bringBack M19) fun M22 => (nm (fun (s23 : Int32) => (if r20 ≤ l2_2 then (nm (l3_3 + (1 : Int32)) fun x26 => (F_X5_best_l6 n6 s23 l2_2 x26 M22)) else (nm (l3_3 + (1 : Int32)) fun x27 => (F_X5_best_l6 n6 s23 r20 x27 M22)))) fun j96_23 => (if r20 ≤ l2_2 then (j96_23 l1_1) else (j96_23 l3_3)))))))))) fun j51_8 => (if (rA M4 221 (Int32.toNatClampNeg (2 : Int32))) = (-1 : Int32) then (j51_8 (0 : Int32)) else (bd (F_X5_of M4 l3_3 (0 : Int32)) fun r31 => (gdb (inb (2 : Int32) 186) (bd (F_X5_of M4 (rA M4 221 (Int32.toNatClampNeg (2 : Int32))) (0 : Int32)) fun r34 => (if r31 = r34 then (j51_8 (0 : Int32)) else (j51_8 (1 : Int32)))))))))))

def F_X5_best (M : MS) : Option (Int32 × MS) := (F_X5_best_l6 FU (-1 : Int32) (-1 : Int32) (0 : Int32) M)

set_option maxHeartbeats 4000000 in
set_option maxRecDepth 100000 in
theorem k_X5_best (l : Launch) (G : GG) (M : MS) {r : Int32} {Mf : MS} (hF : F_X5_best M = some (r, Mf)) : KI l yX5_best (WS yX5_best cX5_best 6 (some .int)) (Rm 6) G [.ref (gad G 220)] M r Mf := by
  intro sz
  refine y_met (by decide +kernel) (Nat.le_of_ble_eq_true rfl) rfl (fun p e s m below meth c ls hsz C0 hM hl => ?_)
  have hl : lv_has ls 6 [(0, .ref (gad G 220))] := hl
  have C0 : CX p s m meth c ([.ref (gad G 220)] : List Value).toArray cX5_best RX5 6 (some .int) := C0
  rw [F_X5_best] at hF
  refine lv_iconst (v := (-1 : Int32)) C0.1 C0.2.1 dX5_best_0 (by decide) ?_
  refine lv_istore_n (lv' := [(1, .int (-1 : Int32)), (0, .ref (gad G 220))]) C0.1 C0.2.1 dX5_best_1 rfl hl (by decide) rfl (fun ls hl => ?_)
  refine lv_iconst (v := (-1 : Int32)) C0.1 C0.2.1 dX5_best_2 (by decide) ?_
  refine lv_istore_n (lv' := [(2, .int (-1 : Int32)), (1, .int (-1 : Int32)), (0, .ref (gad G 220))]) C0.1 C0.2.1 dX5_best_3 rfl hl (by decide) rfl (fun ls hl => ?_)
  refine lv_iconst (v := (0 : Int32)) C0.1 C0.2.1 dX5_best_4 (by decide) ?_
  refine lv_istore_n (lv' := [(3, .int (0 : Int32)), (2, .int (-1 : Int32)), (1, .int (-1 : Int32)), (0, .ref (gad G 220))]) C0.1 C0.2.1 dX5_best_5 rfl hl (by decide) rfl (fun ls hl => ?_)
  have L6 : ∀ (n : Nat) (l1_1 : Int32) (l2_2 : Int32) (l3_3 : Int32) (M4 : MS) (H : Heap) (locs : List Loc) (ls : Array Slot), MX G M4 s H locs → lv_has ls 6 [(0, .ref (gad G 220)), (1, .int l1_1), (2, .int l2_2), (3, .int l3_3)] → F_X5_best_l6 n l1_1 l2_2 l3_3 M4 = some (r, Mf) → W p l e (Rm 6) s m ([.ref (gad G 220)] : List Value).toArray below meth c H locs 0 0 (QI below ([.ref (gad G 220)] : List Value).toArray s G sz r Mf) (F0 m 6 ls []) := by
    intro n
    induction n with
    | zero => intro l1_1 l2_2 l3_3 M4 H locs ls hM hl hF; rw [F_X5_best_l6] at hF; cases hF
    | succ n6 ih6 =>
      intro l1_1 l2_2 l3_3 M4 H locs ls hM hl hF
      rw [F_X5_best_l6] at hF
      refine lv_iload_n C0.1 C0.2.1 dX5_best_6 rfl (lv_at hl 3 rfl) ?_
      refine lv_aload_n C0.1 C0.2.1 dX5_best_7 rfl (lv_at hl 0 rfl) ?_
      refine gf5_1 C0 hM ok_md fl_RX5_7 dX5_best_8 ?_
      refine lv_iconst (v := (0 : Int32)) C0.1 C0.2.1 dX5_best_11 (by decide) ?_
      obtain ⟨g5, hF⟩ := gdb_some hF
      refine y_iald C0 hM oka_z g5 dX5_best_12 ?_
      refine lv_icmp_ge (tgt := 116) C0.1 C0.2.1 dX5_best_13 (by decide) (fun c6 => ?_) (fun c6 => ?_)
      · have hF := if_t c6 hF
        refine lv_iload_n C0.1 C0.2.1 dX5_best_116 rfl (lv_at hl 1 rfl) ?_
        obtain ⟨e8, e9⟩ := y_2 hF
        subst e8
        subst e9
        exact y_iret C0 hM hsz dX5_best_117
      · have hF := if_f c6 hF
        refine lv_aload_n C0.1 C0.2.1 dX5_best_16 rfl (lv_at hl 0 rfl) ?_
        refine gf5_1 C0 hM ok_md fl_RX5_7 dX5_best_17 ?_
        refine lv_iconst (v := (2 : Int32)) C0.1 C0.2.1 dX5_best_20 (by decide) ?_
        obtain ⟨g7, hF⟩ := gdb_some hF
        refine y_iald C0 hM oka_z g7 dX5_best_21 ?_
        refine lv_iconst (v := (-1 : Int32)) C0.1 C0.2.1 dX5_best_22 (by decide) ?_
        obtain ⟨j51_8, ej51_8, hF⟩ := nm_some hF
        have J51 : ∀ (s8 : Int32) (H : Heap) (locs : List Loc) (ls : Array Slot), MX G M4 s H locs → lv_has ls 6 [(0, .ref (gad G 220)), (1, .int l1_1), (2, .int l2_2), (3, .int l3_3)] → j51_8 s8 = some (r, Mf) → W p l e (Rm 6) s m ([.ref (gad G 220)] : List Value).toArray below meth c H locs 0 0 (QI below ([.ref (gad G 220)] : List Value).toArray s G sz r Mf) (F0 m 51 ls [.int s8]) := by
          intro s8 H locs ls hM hl hF
          rw [ej51_8] at hF
          refine lv_istore (lv' := [(4, .int s8), (0, .ref (gad G 220)), (1, .int l1_1), (2, .int l2_2), (3, .int l3_3)]) C0.1 C0.2.1 dX5_best_51 hl (by decide) rfl (fun ls hl => ?_)
          refine lv_iload C0.1 C0.2.1 dX5_best_53 (lv_at hl 0 rfl) ?_
          refine lv_if_eq (tgt := 110) C0.1 C0.2.1 dX5_best_55 (by decide) (fun c10 => ?_) (fun c10 => ?_)
          · have hF := if_t c10 hF
            obtain ⟨x11, ex11, hF⟩ := nm_some hF
            refine lv_iinc (v := x11) (lv' := [(3, .int x11), (4, .int s8), (0, .ref (gad G 220)), (1, .int l1_1), (2, .int l2_2)]) C0.1 C0.2.1 dX5_best_110 hl (k := 4) rfl (by rw [ex11]; rfl) (by decide) rfl (fun ls hl => ?_)
            refine lv_goto (tgt := 6) C0.1 C0.2.1 dX5_best_113 (by decide) ?_
            exact ih6 l1_1 l2_2 x11 M4 _ _ _ hM (lv_sub hl [2, 3, 4, 0] rfl) hF
          · have hF := if_f c10 hF
            refine lv_aload_n C0.1 C0.2.1 dX5_best_58 rfl (lv_at hl 1 rfl) ?_
            refine lv_iconst (v := (0 : Int32)) C0.1 C0.2.1 dX5_best_59 (by decide) ?_
            refine lv_iload_n C0.1 C0.2.1 dX5_best_60 rfl (lv_at hl 4 rfl) ?_
            obtain ⟨r13, h12, hF⟩ := bd_some hF
            refine y_vi (rest := []) C0 hM hl.1 ok_md (ent5 ok_md) rfl (k_X5_canAct l G M4 (0 : Int32) l3_3 h12) cw_RX5_129 rfl rfl ⟨Nat.le_of_ble_eq_true rfl, Nat.le_of_ble_eq_true rfl⟩ rfl (Nat.le_of_ble_eq_true rfl) ⟨Nat.le_of_ble_eq_true rfl, Nat.le_of_ble_eq_true rfl⟩ dX5_best_61 (fun H locs hM => ?_)
            refine lv_if_eq (tgt := 110) C0.1 C0.2.1 dX5_best_64 (by decide) (fun c14 => ?_) (fun c14 => ?_)
            · have hF := if_t c14 hF
              obtain ⟨x15, ex15, hF⟩ := nm_some hF
              refine lv_iinc (v := x15) (lv' := [(3, .int x15), (4, .int s8), (0, .ref (gad G 220)), (1, .int l1_1), (2, .int l2_2)]) C0.1 C0.2.1 dX5_best_110 hl (k := 4) rfl (by rw [ex15]; rfl) (by decide) rfl (fun ls hl => ?_)
              refine lv_goto (tgt := 6) C0.1 C0.2.1 dX5_best_113 (by decide) ?_
              exact ih6 l1_1 l2_2 x15 M4 _ _ _ hM (lv_sub hl [2, 3, 4, 0] rfl) hF
            · have hF := if_f c14 hF
              refine lv_aload_n C0.1 C0.2.1 dX5_best_67 rfl (lv_at hl 1 rfl) ?_
              obtain ⟨M17, h16, hF⟩ := bd_some hF
              refine y_vv (rest := []) C0 hM hl.1 ok_md (ent5 ok_md) rfl (k_X5_putAside l G M4 h16) cw_RX5_222 rfl rfl ⟨Nat.le_of_ble_eq_true rfl, Nat.le_of_ble_eq_true rfl⟩ rfl (Nat.le_of_ble_eq_true rfl) ⟨Nat.le_of_ble_eq_true rfl, Nat.le_of_ble_eq_true rfl⟩ dX5_best_68 (fun H locs hM => ?_)
              refine lv_aload_n C0.1 C0.2.1 dX5_best_71 rfl (lv_at hl 1 rfl) ?_
              refine lv_iconst (v := (0 : Int32)) C0.1 C0.2.1 dX5_best_72 (by decide) ?_
              refine lv_iload_n C0.1 C0.2.1 dX5_best_73 rfl (lv_at hl 4 rfl) ?_
              refine lv_iconst (v := (0 : Int32)) C0.1 C0.2.1 dX5_best_74 (by decide) ?_
              refine lv_iconst (v := (0 : Int32)) C0.1 C0.2.1 dX5_best_75 (by decide) ?_
              obtain ⟨r20, M19, h18, hF⟩ := bd2_some hF
              refine y_vi (rest := []) C0 hM hl.1 ok_md (ent5 ok_md) rfl (k_X5_act l G M17 (0 : Int32) l3_3 (0 : Int32) (0 : Int32) h18) cw_RX5_135 rfl rfl ⟨Nat.le_of_ble_eq_true rfl, Nat.le_of_ble_eq_true rfl⟩ rfl (Nat.le_of_ble_eq_true rfl) ⟨Nat.le_of_ble_eq_true rfl, Nat.le_of_ble_eq_true rfl⟩ dX5_best_76 (fun H locs hM => ?_)
              refine lv_istore (lv' := [(5, .int r20), (4, .int s8), (0, .ref (gad G 220)), (1, .int l1_1), (2, .int l2_2), (3, .int l3_3)]) C0.1 C0.2.1 dX5_best_79 hl (by decide) rfl (fun ls hl => ?_)
              refine lv_aload_n C0.1 C0.2.1 dX5_best_81 rfl (lv_at hl 2 rfl) ?_
              obtain ⟨M22, h21, hF⟩ := bd_some hF
              refine y_vv (rest := []) C0 hM hl.1 ok_md (ent5 ok_md) rfl (k_X5_bringBack l G M19 h21) cw_RX5_225 rfl rfl ⟨Nat.le_of_ble_eq_true rfl, Nat.le_of_ble_eq_true rfl⟩ rfl (Nat.le_of_ble_eq_true rfl) ⟨Nat.le_of_ble_eq_true rfl, Nat.le_of_ble_eq_true rfl⟩ dX5_best_82 (fun H locs hM => ?_)
              refine lv_iload C0.1 C0.2.1 dX5_best_85 (lv_at hl 0 rfl) ?_
              refine lv_iload_n C0.1 C0.2.1 dX5_best_87 rfl (lv_at hl 4 rfl) ?_
              obtain ⟨j96_23, ej96_23, hF⟩ := nm_some hF
              have J96 : ∀ (s23 : Int32) (H : Heap) (locs : List Loc) (ls : Array Slot), MX G M22 s H locs → lv_has ls 6 [(0, .ref (gad G 220)), (1, .int l1_1), (2, .int l2_2), (3, .int l3_3), (4, .int s8), (5, .int r20)] → j96_23 s23 = some (r, Mf) → W p l e (Rm 6) s m ([.ref (gad G 220)] : List Value).toArray below meth c H locs 0 0 (QI below ([.ref (gad G 220)] : List Value).toArray s G sz r Mf) (F0 m 96 ls [.int s23]) := by
                intro s23 H locs ls hM hl hF
                rw [ej96_23] at hF
                refine lv_istore_n (lv' := [(1, .int s23), (0, .ref (gad G 220)), (2, .int l2_2), (3, .int l3_3), (4, .int s8), (5, .int r20)]) C0.1 C0.2.1 dX5_best_96 rfl hl (by decide) rfl (fun ls hl => ?_)
                refine lv_iload C0.1 C0.2.1 dX5_best_97 (lv_at hl 5 rfl) ?_
                refine lv_iload_n C0.1 C0.2.1 dX5_best_99 rfl (lv_at hl 2 rfl) ?_
                refine lv_icmp_le (tgt := 108) C0.1 C0.2.1 dX5_best_100 (by decide) (fun c25 => ?_) (fun c25 => ?_)
                · have hF := if_t c25 hF
                  refine lv_iload_n C0.1 C0.2.1 dX5_best_108 rfl (lv_at hl 2 rfl) ?_
                  refine lv_istore_n (lv' := [(2, .int l2_2), (1, .int s23), (0, .ref (gad G 220)), (3, .int l3_3), (4, .int s8), (5, .int r20)]) C0.1 C0.2.1 dX5_best_109 rfl hl (by decide) rfl (fun ls hl => ?_)
                  obtain ⟨x26, ex26, hF⟩ := nm_some hF
                  refine lv_iinc (v := x26) (lv' := [(3, .int x26), (2, .int l2_2), (1, .int s23), (0, .ref (gad G 220)), (4, .int s8), (5, .int r20)]) C0.1 C0.2.1 dX5_best_110 hl (k := 3) rfl (by rw [ex26]; rfl) (by decide) rfl (fun ls hl => ?_)
                  refine lv_goto (tgt := 6) C0.1 C0.2.1 dX5_best_113 (by decide) ?_
                  exact ih6 s23 l2_2 x26 M22 _ _ _ hM (lv_sub hl [3, 2, 1, 0] rfl) hF
                · have hF := if_f c25 hF
                  refine lv_iload C0.1 C0.2.1 dX5_best_103 (lv_at hl 5 rfl) ?_
                  refine lv_goto (tgt := 109) C0.1 C0.2.1 dX5_best_105 (by decide) ?_
                  refine lv_istore_n (lv' := [(2, .int r20), (1, .int s23), (0, .ref (gad G 220)), (3, .int l3_3), (4, .int s8), (5, .int r20)]) C0.1 C0.2.1 dX5_best_109 rfl hl (by decide) rfl (fun ls hl => ?_)
                  obtain ⟨x27, ex27, hF⟩ := nm_some hF
                  refine lv_iinc (v := x27) (lv' := [(3, .int x27), (2, .int r20), (1, .int s23), (0, .ref (gad G 220)), (4, .int s8), (5, .int r20)]) C0.1 C0.2.1 dX5_best_110 hl (k := 3) rfl (by rw [ex27]; rfl) (by decide) rfl (fun ls hl => ?_)
                  refine lv_goto (tgt := 6) C0.1 C0.2.1 dX5_best_113 (by decide) ?_
                  exact ih6 s23 r20 x27 M22 _ _ _ hM (lv_sub hl [3, 2, 1, 0] rfl) hF
              refine lv_icmp_le (tgt := 95) C0.1 C0.2.1 dX5_best_88 (by decide) (fun c28 => ?_) (fun c28 => ?_)
              · have hF := if_t c28 hF
                refine lv_iload_n C0.1 C0.2.1 dX5_best_95 rfl (lv_at hl 3 rfl) ?_
                exact J96 l1_1 _ _ _ hM (lv_sub hl [2, 3, 4, 5, 1, 0] rfl) hF
              · have hF := if_f c28 hF
                refine lv_iload_n C0.1 C0.2.1 dX5_best_91 rfl (lv_at hl 5 rfl) ?_
                refine lv_goto (tgt := 96) C0.1 C0.2.1 dX5_best_92 (by decide) ?_
                exact J96 l3_3 _ _ _ hM (lv_sub hl [2, 3, 4, 5, 1, 0] rfl) hF
        refine lv_icmp_eq (tgt := 50) C0.1 C0.2.1 dX5_best_23 (by decide) (fun c29 => ?_) (fun c29 => ?_)
        · have hF := if_t c29 hF
          refine lv_iconst (v := (0 : Int32)) C0.1 C0.2.1 dX5_best_50 (by decide) ?_
          exact J51 (0 : Int32) _ _ _ hM (lv_sub hl [0, 1, 2, 3] rfl) hF
        · have hF := if_f c29 hF
          refine lv_aload_n C0.1 C0.2.1 dX5_best_26 rfl (lv_at hl 0 rfl) ?_
          refine lv_iload_n C0.1 C0.2.1 dX5_best_27 rfl (lv_at hl 3 rfl) ?_
          refine lv_iconst (v := (0 : Int32)) C0.1 C0.2.1 dX5_best_28 (by decide) ?_
          obtain ⟨r31, h30, hF⟩ := bd_some hF
          refine y_vi (rest := []) C0 hM hl.1 ok_md (ent5 ok_md) rfl (k_X5_of l G M4 l3_3 (0 : Int32) h30) cw_RX5_32 rfl rfl ⟨Nat.le_of_ble_eq_true rfl, Nat.le_of_ble_eq_true rfl⟩ rfl (Nat.le_of_ble_eq_true rfl) ⟨Nat.le_of_ble_eq_true rfl, Nat.le_of_ble_eq_true rfl⟩ dX5_best_29 (fun H locs hM => ?_)
          refine lv_aload_n C0.1 C0.2.1 dX5_best_32 rfl (lv_at hl 0 rfl) ?_
          refine lv_aload_n C0.1 C0.2.1 dX5_best_33 rfl (lv_at hl 0 rfl) ?_
          refine gf5_1 C0 hM ok_md fl_RX5_7 dX5_best_34 ?_
          refine lv_iconst (v := (2 : Int32)) C0.1 C0.2.1 dX5_best_37 (by decide) ?_
          obtain ⟨g32, hF⟩ := gdb_some hF
          refine y_iald C0 hM oka_z g32 dX5_best_38 ?_
          refine lv_iconst (v := (0 : Int32)) C0.1 C0.2.1 dX5_best_39 (by decide) ?_
          obtain ⟨r34, h33, hF⟩ := bd_some hF
          refine y_vi (rest := [.int r31]) C0 hM hl.1 ok_md (ent5 ok_md) rfl (k_X5_of l G M4 (rA M4 221 (Int32.toNatClampNeg (2 : Int32))) (0 : Int32) h33) cw_RX5_32 rfl rfl ⟨Nat.le_of_ble_eq_true rfl, Nat.le_of_ble_eq_true rfl⟩ rfl (Nat.le_of_ble_eq_true rfl) ⟨Nat.le_of_ble_eq_true rfl, Nat.le_of_ble_eq_true rfl⟩ dX5_best_40 (fun H locs hM => ?_)
          refine lv_icmp_eq (tgt := 50) C0.1 C0.2.1 dX5_best_43 (by decide) (fun c35 => ?_) (fun c35 => ?_)
          · have hF := if_t c35 hF
            refine lv_iconst (v := (0 : Int32)) C0.1 C0.2.1 dX5_best_50 (by decide) ?_
            exact J51 (0 : Int32) _ _ _ hM (lv_sub hl [0, 1, 2, 3] rfl) hF
          · have hF := if_f c35 hF
            refine lv_iconst (v := (1 : Int32)) C0.1 C0.2.1 dX5_best_46 (by decide) ?_
            refine lv_goto (tgt := 51) C0.1 C0.2.1 dX5_best_47 (by decide) ?_
            exact J51 (1 : Int32) _ _ _ hM (lv_sub hl [0, 1, 2, 3] rfl) hF
  exact L6 FU (-1 : Int32) (-1 : Int32) (0 : Int32) M _ _ _ hM (lv_sub hl [3, 2, 1, 0] rfl) hF

def F_X5_bestStrike (M : MS) : Option (Int32 × MS) := (nm (wF M 80 220 (0 : Int32)) fun M1 => (bd2 (F_X5_best M1) fun r4 M3 => (some (r4, M3))))

set_option maxHeartbeats 4000000 in
set_option maxRecDepth 100000 in
theorem k_X5_bestStrike (l : Launch) (G : GG) (M : MS) {r : Int32} {Mf : MS} (hF : F_X5_bestStrike M = some (r, Mf)) : KI l yX5_bestStrike (WS yX5_bestStrike cX5_bestStrike 1 (some .int)) (Rm 7) G [.ref (gad G 220)] M r Mf := by
  intro sz
  refine y_met (by decide +kernel) (Nat.le_of_ble_eq_true rfl) rfl (fun p e s m below meth c ls hsz C0 hM hl => ?_)
  have hl : lv_has ls 1 [(0, .ref (gad G 220))] := hl
  have C0 : CX p s m meth c ([.ref (gad G 220)] : List Value).toArray cX5_bestStrike RX5 1 (some .int) := C0
  rw [F_X5_bestStrike] at hF
  refine lv_aload_n C0.1 C0.2.1 dX5_bestStrike_0 rfl (lv_at hl 0 rfl) ?_
  refine lv_iconst (v := (0 : Int32)) C0.1 C0.2.1 dX5_bestStrike_1 (by decide) ?_
  refine pf5_0 C0 hM ok_md fl_RX5_28 dX5_bestStrike_2 (fun H locs hM => ?_)
  obtain ⟨M1, eM1, hF⟩ := nm_some hF
  have hM := y_mn eM1 hM
  refine lv_aload_n C0.1 C0.2.1 dX5_bestStrike_5 rfl (lv_at hl 0 rfl) ?_
  obtain ⟨r4, M3, h2, hF⟩ := bd2_some hF
  refine y_vi (rest := []) C0 hM hl.1 ok_md (ent5 ok_md) rfl (k_X5_best l G M1 h2) cw_RX5_235 rfl rfl ⟨Nat.le_of_ble_eq_true rfl, Nat.le_of_ble_eq_true rfl⟩ rfl (Nat.le_of_ble_eq_true rfl) ⟨Nat.le_of_ble_eq_true rfl, Nat.le_of_ble_eq_true rfl⟩ dX5_bestStrike_6 (fun H locs hM => ?_)
  obtain ⟨e8, e9⟩ := y_2 hF
  subst e8
  subst e9
  exact y_iret C0 hM hsz dX5_bestStrike_9

def F_X5_share (M : MS) : Option UInt64 := (bd (F_X5_lifeOf M (0 : Int32)) fun r2 => (bd (F_X5_lifeOf M (1 : Int32)) fun r4 => (nm (r2 + r4) fun x5 => (if ¬ x5 = 0 then (bd (F_X5_lifeOf M (0 : Int32)) fun r8 => (gdb (nnb (FP.ddiv (FP.i2d r8) (FP.i2d x5))) (some (FP.ddiv (FP.i2d r8) (FP.i2d x5))))) else (some (4602678819172646912 : UInt64))))))

set_option maxHeartbeats 4000000 in
set_option maxRecDepth 100000 in
theorem k_X5_share (l : Launch) (G : GG) (M : MS) {r : UInt64} (hF : F_X5_share M = some r) : KDd l yX5_share (WS yX5_share cX5_share 2 (some .double)) (Rm 2) G [.ref (gad G 220)] M r M := by
  intro sz
  refine y_met (by decide +kernel) (Nat.le_of_ble_eq_true rfl) rfl (fun p e s m below meth c ls hsz C0 hM hl => ?_)
  have hl : lv_has ls 2 [(0, .ref (gad G 220))] := hl
  have C0 : CX p s m meth c ([.ref (gad G 220)] : List Value).toArray cX5_share RX5 2 (some .double) := C0
  rw [F_X5_share] at hF
  refine lv_aload_n C0.1 C0.2.1 dX5_share_0 rfl (lv_at hl 0 rfl) ?_
  refine lv_iconst (v := (0 : Int32)) C0.1 C0.2.1 dX5_share_1 (by decide) ?_
  obtain ⟨r2, h1, hF⟩ := bd_some hF
  refine y_vi (rest := []) C0 hM hl.1 ok_md (ent5 ok_md) rfl (k_X5_lifeOf l G M (0 : Int32) h1) cw_RX5_216 rfl rfl ⟨Nat.le_of_ble_eq_true rfl, Nat.le_of_ble_eq_true rfl⟩ rfl (Nat.le_of_ble_eq_true rfl) ⟨Nat.le_of_ble_eq_true rfl, Nat.le_of_ble_eq_true rfl⟩ dX5_share_2 (fun H locs hM => ?_)
  refine lv_aload_n C0.1 C0.2.1 dX5_share_5 rfl (lv_at hl 0 rfl) ?_
  refine lv_iconst (v := (1 : Int32)) C0.1 C0.2.1 dX5_share_6 (by decide) ?_
  obtain ⟨r4, h3, hF⟩ := bd_some hF
  refine y_vi (rest := [.int r2]) C0 hM hl.1 ok_md (ent5 ok_md) rfl (k_X5_lifeOf l G M (1 : Int32) h3) cw_RX5_216 rfl rfl ⟨Nat.le_of_ble_eq_true rfl, Nat.le_of_ble_eq_true rfl⟩ rfl (Nat.le_of_ble_eq_true rfl) ⟨Nat.le_of_ble_eq_true rfl, Nat.le_of_ble_eq_true rfl⟩ dX5_share_7 (fun H locs hM => ?_)
  refine lv_iadd C0.1 C0.2.1 dX5_share_10 ?_
  obtain ⟨x5, ex5, hF⟩ := nm_some hF
  refine y_topi ex5 ?_
  refine lv_istore_n (lv' := [(1, .int x5), (0, .ref (gad G 220))]) C0.1 C0.2.1 dX5_share_11 rfl hl (by decide) rfl (fun ls hl => ?_)
  refine lv_iload_n C0.1 C0.2.1 dX5_share_12 rfl (lv_at hl 0 rfl) ?_
  refine lv_if_ne (tgt := 22) C0.1 C0.2.1 dX5_share_13 (by decide) (fun c6 => ?_) (fun c6 => ?_)
  · have hF := if_t c6 hF
    refine lv_aload_n C0.1 C0.2.1 dX5_share_22 rfl (lv_at hl 1 rfl) ?_
    refine lv_iconst (v := (0 : Int32)) C0.1 C0.2.1 dX5_share_23 (by decide) ?_
    obtain ⟨r8, h7, hF⟩ := bd_some hF
    refine y_vi (rest := []) C0 hM hl.1 ok_md (ent5 ok_md) rfl (k_X5_lifeOf l G M (0 : Int32) h7) cw_RX5_216 rfl rfl ⟨Nat.le_of_ble_eq_true rfl, Nat.le_of_ble_eq_true rfl⟩ rfl (Nat.le_of_ble_eq_true rfl) ⟨Nat.le_of_ble_eq_true rfl, Nat.le_of_ble_eq_true rfl⟩ dX5_share_24 (fun H locs hM => ?_)
    refine lv_i2d C0.1 C0.2.1 dX5_share_27 ?_
    refine lv_iload_n C0.1 C0.2.1 dX5_share_28 rfl (lv_at hl 0 rfl) ?_
    refine lv_i2d C0.1 C0.2.1 dX5_share_29 ?_
    obtain ⟨g9, hF⟩ := gdb_some hF
    refine lv_ddiv C0.1 C0.2.1 dX5_share_30 (nnb_n g9) ?_
    have e8 := y_1 hF
    subst e8
    exact y_dret C0 hM hsz dX5_share_31
  · have hF := if_f (fun q => q c6) hF
    refine lv_ldc2d (v := (4602678819172646912 : UInt64)) C0.1 C0.2.1 C0.2.2.2.1 (C0.2.2.2.2.1 _ (tb1 1187 (by decide +kernel) (by decide +kernel))) dX5_share_16 ?_
    refine lv_goto (tgt := 31) C0.1 C0.2.1 dX5_share_19 (by decide) ?_
    have e8 := y_1 hF
    subst e8
    exact y_dret C0 hM hsz dX5_share_31

def F_X5_standing (M : MS) : Option (UInt64 × MS) := (nm (wF M 80 220 (0 : Int32)) fun M1 => (bd (F_X5_share M1) fun r3 => (some (r3, M1))))

set_option maxHeartbeats 4000000 in
set_option maxRecDepth 100000 in
theorem k_X5_standing (l : Launch) (G : GG) (M : MS) {r : UInt64} {Mf : MS} (hF : F_X5_standing M = some (r, Mf)) : KDd l yX5_standing (WS yX5_standing cX5_standing 1 (some .double)) (Rm 3) G [.ref (gad G 220)] M r Mf := by
  intro sz
  refine y_met (by decide +kernel) (Nat.le_of_ble_eq_true rfl) rfl (fun p e s m below meth c ls hsz C0 hM hl => ?_)
  have hl : lv_has ls 1 [(0, .ref (gad G 220))] := hl
  have C0 : CX p s m meth c ([.ref (gad G 220)] : List Value).toArray cX5_standing RX5 1 (some .double) := C0
  rw [F_X5_standing] at hF
  refine lv_aload_n C0.1 C0.2.1 dX5_standing_0 rfl (lv_at hl 0 rfl) ?_
  refine lv_iconst (v := (0 : Int32)) C0.1 C0.2.1 dX5_standing_1 (by decide) ?_
  refine pf5_0 C0 hM ok_md fl_RX5_28 dX5_standing_2 (fun H locs hM => ?_)
  obtain ⟨M1, eM1, hF⟩ := nm_some hF
  have hM := y_mn eM1 hM
  refine lv_aload_n C0.1 C0.2.1 dX5_standing_5 rfl (lv_at hl 0 rfl) ?_
  obtain ⟨r3, h2, hF⟩ := bd_some hF
  refine y_vd (rest := []) C0 hM hl.1 ok_md (ent5 ok_md) rfl (k_X5_share l G M1 h2) cw_RX5_240 rfl rfl ⟨Nat.le_of_ble_eq_true rfl, Nat.le_of_ble_eq_true rfl⟩ rfl (Nat.le_of_ble_eq_true rfl) ⟨Nat.le_of_ble_eq_true rfl, Nat.le_of_ble_eq_true rfl⟩ dX5_standing_6 (fun H locs hM => ?_)
  obtain ⟨e8, e9⟩ := y_2 hF
  subst e8
  subst e9
  exact y_dret C0 hM hsz dX5_standing_9

def F_X5_bitsOf_l38 : Nat → UInt64 → Int64 → Option Int64
  | 0, _, _ => none
  | n38 + 1, l2_5, l4_6 => (if 0 ≤ (Op.cmpValue (FP.dcmp l2_5 FP.dconst1) .g) then (gdb (nnb (FP.dmul l2_5 (4841369599423283200 : UInt64))) (some (((l4_6 <<< (Int32.toInt64 (52 : Int32) &&& 63)) + (FP.d2l (FP.dmul l2_5 (4841369599423283200 : UInt64)))) - (4503599627370496 : Int64)))) else (gdb (nnb (FP.dmul l2_5 (4611686018427387904 : UInt64))) (nm (FP.dmul l2_5 (4611686018427387904 : UInt64)) fun z10 => (nm (l4_6 - (1 : Int64)) fun y11 => (F_X5_bitsOf_l38 n38 z10 y11)))))

def F_X5_bitsOf_l15 : Nat → UInt64 → Int64 → Option Int64
  | 0, _, _ => none
  | n15 + 1, l2_2, l4_3 => (if (Op.cmpValue (FP.dcmp l2_2 (4611686018427387904 : UInt64)) .l) < 0 then (F_X5_bitsOf_l38 FU l2_2 l4_3) else (gdb (nnb (FP.ddiv l2_2 (4611686018427387904 : UInt64))) (nm (FP.ddiv l2_2 (4611686018427387904 : UInt64)) fun z13 => (nm (l4_3 + (1 : Int64)) fun y14 => (F_X5_bitsOf_l15 n15 z13 y14)))))

def F_X5_bitsOf (M : MS) (a0 : UInt64) : Option Int64 := (if ¬ (Op.cmpValue (FP.dcmp a0 FP.dconst0) .l) = 0 then (F_X5_bitsOf_l15 FU a0 (1023 : Int64)) else (some (0 : Int64)))

set_option maxHeartbeats 4000000 in
set_option maxRecDepth 100000 in
theorem k_X5_bitsOf (l : Launch) (G : GG) (M : MS) (a0 : UInt64) {r : Int64} (hF : F_X5_bitsOf M a0 = some r) : KL l yX5_bitsOf (WS yX5_bitsOf cX5_bitsOf 6 (some .long)) (Rm 0) G [.double a0] M r M := by
  intro sz
  refine y_met (by decide +kernel) (Nat.le_of_ble_eq_true rfl) rfl (fun p e s m below meth c ls hsz C0 hM hl => ?_)
  have hl : lv_has ls 6 [(0, .double a0)] := hl
  have C0 : CX p s m meth c ([.double a0] : List Value).toArray cX5_bitsOf RX5 6 (some .long) := C0
  rw [F_X5_bitsOf] at hF
  refine lv_dload_n C0.1 C0.2.1 dX5_bitsOf_0 rfl (lv_at hl 0 rfl) ?_
  refine lv_dconst0 C0.1 C0.2.1 dX5_bitsOf_1 ?_
  refine lv_dcmp C0.1 C0.2.1 dX5_bitsOf_2 ?_
  refine lv_if_ne (tgt := 8) C0.1 C0.2.1 dX5_bitsOf_3 (by decide) (fun c1 => ?_) (fun c1 => ?_)
  · have hF := if_t c1 hF
    refine lv_dload_n C0.1 C0.2.1 dX5_bitsOf_8 rfl (lv_at hl 0 rfl) ?_
    refine lv_dstore_n (lv' := [(2, .double a0), (0, .double a0)]) C0.1 C0.2.1 dX5_bitsOf_9 rfl hl (by decide) rfl (fun ls hl => ?_)
    refine lv_ldc2 (v := (1023 : Int64)) C0.1 C0.2.1 C0.2.2.2.1 (C0.2.2.2.2.1 _ (tb1 1209 (by decide +kernel) (by decide +kernel))) dX5_bitsOf_10 ?_
    refine lv_lstore (lv' := [(4, .long (1023 : Int64)), (2, .double a0), (0, .double a0)]) C0.1 C0.2.1 dX5_bitsOf_13 hl (by decide) rfl (fun ls hl => ?_)
    have L15 : ∀ (n : Nat) (l2_2 : UInt64) (l4_3 : Int64) (H : Heap) (locs : List Loc) (ls : Array Slot), MX G M s H locs → lv_has ls 6 [(0, .double a0), (2, .double l2_2), (4, .long l4_3)] → F_X5_bitsOf_l15 n l2_2 l4_3 = some r → W p l e (Rm 0) s m ([.double a0] : List Value).toArray below meth c H locs 0 0 (QL below ([.double a0] : List Value).toArray s G sz r M) (F0 m 15 ls []) := by
      intro n
      induction n with
      | zero => intro l2_2 l4_3 H locs ls hM hl hF; rw [F_X5_bitsOf_l15] at hF; cases hF
      | succ n15 ih15 =>
        intro l2_2 l4_3 H locs ls hM hl hF
        rw [F_X5_bitsOf_l15] at hF
        refine lv_dload_n C0.1 C0.2.1 dX5_bitsOf_15 rfl (lv_at hl 1 rfl) ?_
        refine lv_ldc2d (v := (4611686018427387904 : UInt64)) C0.1 C0.2.1 C0.2.2.2.1 (C0.2.2.2.2.1 _ (tb1 1210 (by decide +kernel) (by decide +kernel))) dX5_bitsOf_16 ?_
        refine lv_dcmp C0.1 C0.2.1 dX5_bitsOf_19 ?_
        refine lv_if_lt (tgt := 38) C0.1 C0.2.1 dX5_bitsOf_20 (by decide) (fun c4 => ?_) (fun c4 => ?_)
        · have hF := if_t c4 hF
          have L38 : ∀ (n : Nat) (l2_5 : UInt64) (l4_6 : Int64) (H : Heap) (locs : List Loc) (ls : Array Slot), MX G M s H locs → lv_has ls 6 [(0, .double a0), (2, .double l2_5), (4, .long l4_6)] → F_X5_bitsOf_l38 n l2_5 l4_6 = some r → W p l e (Rm 0) s m ([.double a0] : List Value).toArray below meth c H locs 0 0 (QL below ([.double a0] : List Value).toArray s G sz r M) (F0 m 38 ls []) := by
            intro n
            induction n with
            | zero => intro l2_5 l4_6 H locs ls hM hl hF; rw [F_X5_bitsOf_l38] at hF; cases hF
            | succ n38 ih38 =>
              intro l2_5 l4_6 H locs ls hM hl hF
              rw [F_X5_bitsOf_l38] at hF
              refine lv_dload_n C0.1 C0.2.1 dX5_bitsOf_38 rfl (lv_at hl 1 rfl) ?_
              refine lv_dconst1 C0.1 C0.2.1 dX5_bitsOf_39 ?_
              refine lv_dcmp C0.1 C0.2.1 dX5_bitsOf_40 ?_
              refine lv_if_ge (tgt := 59) C0.1 C0.2.1 dX5_bitsOf_41 (by decide) (fun c7 => ?_) (fun c7 => ?_)
              · have hF := if_t c7 hF
                refine lv_lload C0.1 C0.2.1 dX5_bitsOf_59 (lv_at hl 2 rfl) ?_
                refine lv_bipush (v := (52 : Int32)) C0.1 C0.2.1 dX5_bitsOf_61 (by decide) ?_
                refine lv_lshl (v := (l4_6 <<< (Int32.toInt64 (52 : Int32) &&& 63))) C0.1 C0.2.1 dX5_bitsOf_63 rfl ?_
                refine lv_dload_n C0.1 C0.2.1 dX5_bitsOf_64 rfl (lv_at hl 1 rfl) ?_
                refine lv_ldc2d (v := (4841369599423283200 : UInt64)) C0.1 C0.2.1 C0.2.2.2.1 (C0.2.2.2.2.1 _ (tb1 1211 (by decide +kernel) (by decide +kernel))) dX5_bitsOf_65 ?_
                obtain ⟨g8, hF⟩ := gdb_some hF
                refine lv_dmul C0.1 C0.2.1 dX5_bitsOf_68 (nnb_n g8) ?_
                refine lv_d2l C0.1 C0.2.1 dX5_bitsOf_69 ?_
                refine lv_ladd C0.1 C0.2.1 dX5_bitsOf_70 ?_
                refine lv_ldc2 (v := (4503599627370496 : Int64)) C0.1 C0.2.1 C0.2.2.2.1 (C0.2.2.2.2.1 _ (tb1 1212 (by decide +kernel) (by decide +kernel))) dX5_bitsOf_71 ?_
                refine lv_lsub C0.1 C0.2.1 dX5_bitsOf_74 ?_
                have e8 := y_1 hF
                subst e8
                exact y_lret C0 hM hsz dX5_bitsOf_75
              · have hF := if_f c7 hF
                refine lv_dload_n C0.1 C0.2.1 dX5_bitsOf_44 rfl (lv_at hl 1 rfl) ?_
                refine lv_ldc2d (v := (4611686018427387904 : UInt64)) C0.1 C0.2.1 C0.2.2.2.1 (C0.2.2.2.2.1 _ (tb1 1210 (by decide +kernel) (by decide +kernel))) dX5_bitsOf_45 ?_
                obtain ⟨g9, hF⟩ := gdb_some hF
                refine lv_dmul C0.1 C0.2.1 dX5_bitsOf_48 (nnb_n g9) ?_
                obtain ⟨z10, ez10, hF⟩ := nm_some hF
                refine y_topd ez10 ?_
                refine lv_dstore_n (lv' := [(2, .double z10), (0, .double a0), (4, .long l4_6)]) C0.1 C0.2.1 dX5_bitsOf_49 rfl hl (by decide) rfl (fun ls hl => ?_)
                refine lv_lload C0.1 C0.2.1 dX5_bitsOf_50 (lv_at hl 2 rfl) ?_
                refine lv_lconst (v := (1 : Int64)) C0.1 C0.2.1 dX5_bitsOf_52 (by decide) ?_
                refine lv_lsub C0.1 C0.2.1 dX5_bitsOf_53 ?_
                obtain ⟨y11, ey11, hF⟩ := nm_some hF
                refine y_topl ey11 ?_
                refine lv_lstore (lv' := [(4, .long y11), (2, .double z10), (0, .double a0)]) C0.1 C0.2.1 dX5_bitsOf_54 hl (by decide) rfl (fun ls hl => ?_)
                refine lv_goto (tgt := 38) C0.1 C0.2.1 dX5_bitsOf_56 (by decide) ?_
                exact ih38 z10 y11 _ _ _ hM (lv_sub hl [2, 1, 0] rfl) hF
          exact L38 FU l2_2 l4_3 _ _ _ hM (lv_sub hl [0, 1, 2] rfl) hF
        · have hF := if_f c4 hF
          refine lv_dload_n C0.1 C0.2.1 dX5_bitsOf_23 rfl (lv_at hl 1 rfl) ?_
          refine lv_ldc2d (v := (4611686018427387904 : UInt64)) C0.1 C0.2.1 C0.2.2.2.1 (C0.2.2.2.2.1 _ (tb1 1210 (by decide +kernel) (by decide +kernel))) dX5_bitsOf_24 ?_
          obtain ⟨g12, hF⟩ := gdb_some hF
          refine lv_ddiv C0.1 C0.2.1 dX5_bitsOf_27 (nnb_n g12) ?_
          obtain ⟨z13, ez13, hF⟩ := nm_some hF
          refine y_topd ez13 ?_
          refine lv_dstore_n (lv' := [(2, .double z13), (0, .double a0), (4, .long l4_3)]) C0.1 C0.2.1 dX5_bitsOf_28 rfl hl (by decide) rfl (fun ls hl => ?_)
          refine lv_lload C0.1 C0.2.1 dX5_bitsOf_29 (lv_at hl 2 rfl) ?_
          refine lv_lconst (v := (1 : Int64)) C0.1 C0.2.1 dX5_bitsOf_31 (by decide) ?_
          refine lv_ladd C0.1 C0.2.1 dX5_bitsOf_32 ?_
          obtain ⟨y14, ey14, hF⟩ := nm_some hF
          refine y_topl ey14 ?_
          refine lv_lstore (lv' := [(4, .long y14), (2, .double z13), (0, .double a0)]) C0.1 C0.2.1 dX5_bitsOf_33 hl (by decide) rfl (fun ls hl => ?_)
          refine lv_goto (tgt := 15) C0.1 C0.2.1 dX5_bitsOf_35 (by decide) ?_
          exact ih15 z13 y14 _ _ _ hM (lv_sub hl [2, 1, 0] rfl) hF
    exact L15 FU a0 (1023 : Int64) _ _ _ hM (lv_sub hl [2, 1, 0] rfl) hF
  · have hF := if_f (fun q => q c1) hF
    refine lv_lconst (v := (0 : Int64)) C0.1 C0.2.1 dX5_bitsOf_6 (by decide) ?_
    have e8 := y_1 hF
    subst e8
    exact y_lret C0 hM hsz dX5_bitsOf_7

def F_X5_mix (M : MS) (a0 : Int64) : Option MS := (nm (wH M (((31 : Int64) * (rH M)) + a0)) fun M1 => (some M1))

set_option maxHeartbeats 4000000 in
set_option maxRecDepth 100000 in
theorem k_X5_mix (l : Launch) (G : GG) (M : MS) (a0 : Int64) {Mf : MS} (hF : F_X5_mix M a0 = some Mf) : KV l yX5_mix (WS yX5_mix cX5_mix 3 none) (Rm 0) G [.ref (gad G 220), .long a0] M Mf := by
  intro sz
  refine y_met (by decide +kernel) (Nat.le_of_ble_eq_true rfl) rfl (fun p e s m below meth c ls hsz C0 hM hl => ?_)
  have hl : lv_has ls 3 [(0, .ref (gad G 220)), (1, .long a0)] := hl
  have C0 : CX p s m meth c ([.ref (gad G 220), .long a0] : List Value).toArray cX5_mix RX5 3 none := C0
  rw [F_X5_mix] at hF
  refine lv_aload_n C0.1 C0.2.1 dX5_mix_0 rfl (lv_at hl 0 rfl) ?_
  refine lv_ldc2 (v := (31 : Int64)) C0.1 C0.2.1 C0.2.2.2.1 (C0.2.2.2.2.1 _ (tb1 1197 (by decide +kernel) (by decide +kernel))) dX5_mix_1 ?_
  refine lv_aload_n C0.1 C0.2.1 dX5_mix_4 rfl (lv_at hl 0 rfl) ?_
  refine gf5_13 C0 hM ok_md fl_RX5_254 dX5_mix_5 ?_
  refine lv_lmul C0.1 C0.2.1 dX5_mix_8 ?_
  refine lv_lload_n C0.1 C0.2.1 dX5_mix_9 rfl (lv_at hl 1 rfl) ?_
  refine lv_ladd C0.1 C0.2.1 dX5_mix_10 ?_
  refine y_lput C0 hM ok_md fl_RX5_254 dX5_mix_11 (fun H locs hM => ?_)
  obtain ⟨M1, eM1, hF⟩ := nm_some hF
  have hM := y_mn eM1 hM
  have e9 := y_1 hF
  subst e9
  exact y_vret C0 hM hsz dX5_mix_14

def F_X5_mixDone_l2 (a0 : Int32) (a1 : Int32) : Nat → Int32 → MS → Option MS
  | 0, _, _ => none
  | n2 + 1, l3_1, M2 => (if (3 : Int32) < l3_1 then (some M2) else (bd2 (F_X5_wouldDo M2 a0 a1 l3_1) fun r6 M5 => (bd (F_X5_mix M5 (Int32.toInt64 r6)) fun M8 => (nm (l3_1 + (1 : Int32)) fun x9 => (F_X5_mixDone_l2 a0 a1 n2 x9 M8)))))

def F_X5_mixDone (M : MS) (a0 : Int32) (a1 : Int32) : Option MS := (F_X5_mixDone_l2 a0 a1 FU (0 : Int32) M)

set_option maxHeartbeats 4000000 in
set_option maxRecDepth 100000 in
theorem k_X5_mixDone (l : Launch) (G : GG) (M : MS) (a0 : Int32) (a1 : Int32) {Mf : MS} (hF : F_X5_mixDone M a0 a1 = some Mf) : KV l yX5_mixDone (WS yX5_mixDone cX5_mixDone 4 none) (Rm 7) G [.ref (gad G 220), .int a0, .int a1] M Mf := by
  intro sz
  refine y_met (by decide +kernel) (Nat.le_of_ble_eq_true rfl) rfl (fun p e s m below meth c ls hsz C0 hM hl => ?_)
  have hl : lv_has ls 4 [(0, .ref (gad G 220)), (1, .int a0), (2, .int a1)] := hl
  have C0 : CX p s m meth c ([.ref (gad G 220), .int a0, .int a1] : List Value).toArray cX5_mixDone RX5 4 none := C0
  rw [F_X5_mixDone] at hF
  refine lv_iconst (v := (0 : Int32)) C0.1 C0.2.1 dX5_mixDone_0 (by decide) ?_
  refine lv_istore_n (lv' := [(3, .int (0 : Int32)), (0, .ref (gad G 220)), (1, .int a0), (2, .int a1)]) C0.1 C0.2.1 dX5_mixDone_1 rfl hl (by decide) rfl (fun ls hl => ?_)
  have L2 : ∀ (n : Nat) (l3_1 : Int32) (M2 : MS) (H : Heap) (locs : List Loc) (ls : Array Slot), MX G M2 s H locs → lv_has ls 4 [(0, .ref (gad G 220)), (1, .int a0), (2, .int a1), (3, .int l3_1)] → F_X5_mixDone_l2 a0 a1 n l3_1 M2 = some Mf → W p l e (Rm 7) s m ([.ref (gad G 220), .int a0, .int a1] : List Value).toArray below meth c H locs 0 0 (QV below ([.ref (gad G 220), .int a0, .int a1] : List Value).toArray s G sz Mf) (F0 m 2 ls []) := by
    intro n
    induction n with
    | zero => intro l3_1 M2 H locs ls hM hl hF; rw [F_X5_mixDone_l2] at hF; cases hF
    | succ n2 ih2 =>
      intro l3_1 M2 H locs ls hM hl hF
      rw [F_X5_mixDone_l2] at hF
      refine lv_iload_n C0.1 C0.2.1 dX5_mixDone_2 rfl (lv_at hl 3 rfl) ?_
      refine lv_iconst (v := (3 : Int32)) C0.1 C0.2.1 dX5_mixDone_3 (by decide) ?_
      refine lv_icmp_gt (tgt := 25) C0.1 C0.2.1 dX5_mixDone_4 (by decide) (fun c3 => ?_) (fun c3 => ?_)
      · have hF := if_t c3 hF
        have e9 := y_1 hF
        subst e9
        exact y_vret C0 hM hsz dX5_mixDone_25
      · have hF := if_f c3 hF
        refine lv_aload_n C0.1 C0.2.1 dX5_mixDone_7 rfl (lv_at hl 0 rfl) ?_
        refine lv_aload_n C0.1 C0.2.1 dX5_mixDone_8 rfl (lv_at hl 0 rfl) ?_
        refine lv_iload_n C0.1 C0.2.1 dX5_mixDone_9 rfl (lv_at hl 1 rfl) ?_
        refine lv_iload_n C0.1 C0.2.1 dX5_mixDone_10 rfl (lv_at hl 2 rfl) ?_
        refine lv_iload_n C0.1 C0.2.1 dX5_mixDone_11 rfl (lv_at hl 3 rfl) ?_
        obtain ⟨r6, M5, h4, hF⟩ := bd2_some hF
        refine y_vi (rest := [.ref (gad G 220)]) C0 hM hl.1 ok_md (ent5 ok_md) rfl (k_X5_wouldDo l G M2 a0 a1 l3_1 h4) cw_RX5_228 rfl rfl ⟨Nat.le_of_ble_eq_true rfl, Nat.le_of_ble_eq_true rfl⟩ rfl (Nat.le_of_ble_eq_true rfl) ⟨Nat.le_of_ble_eq_true rfl, Nat.le_of_ble_eq_true rfl⟩ dX5_mixDone_12 (fun H locs hM => ?_)
        refine lv_i2l (v := Int32.toInt64 r6) C0.1 C0.2.1 dX5_mixDone_15 rfl ?_
        obtain ⟨M8, h7, hF⟩ := bd_some hF
        refine y_vv (rest := []) C0 hM hl.1 ok_md (ent5 ok_md) rfl (k_X5_mix l G M5 (Int32.toInt64 r6) h7) cw_RX5_258 rfl rfl ⟨Nat.le_of_ble_eq_true rfl, Nat.le_of_ble_eq_true rfl⟩ rfl (Nat.le_of_ble_eq_true rfl) ⟨Nat.le_of_ble_eq_true rfl, Nat.le_of_ble_eq_true rfl⟩ dX5_mixDone_16 (fun H locs hM => ?_)
        obtain ⟨x9, ex9, hF⟩ := nm_some hF
        refine lv_iinc (v := x9) (lv' := [(3, .int x9), (0, .ref (gad G 220)), (1, .int a0), (2, .int a1)]) C0.1 C0.2.1 dX5_mixDone_19 hl (k := 3) rfl (by rw [ex9]; rfl) (by decide) rfl (fun ls hl => ?_)
        refine lv_goto (tgt := 2) C0.1 C0.2.1 dX5_mixDone_22 (by decide) ?_
        exact ih2 x9 M8 _ _ _ hM (lv_sub hl [1, 2, 3, 0] rfl) hF
  exact L2 FU (0 : Int32) M _ _ _ hM (lv_sub hl [1, 2, 3, 0] rfl) hF

def F_X5_mixFighter_l27 (a0 : Int32) : Nat → Int32 → MS → Option MS
  | 0, _, _ => none
  | n27 + 1, l2_4, M5 => (if (3 : Int32) < l2_4 then (bd (F_X5_mixDone M5 (0 : Int32) a0) fun M8 => (bd (F_X5_mixDone M8 (2 : Int32) a0) fun M10 => (bd (F_X5_mixDone M10 (3 : Int32) a0) fun M12 => (some M12)))) else (bd (F_X5_of M5 a0 ((7 : Int32) + l2_4)) fun r14 => (bd (F_X5_mix M5 (Int32.toInt64 r14)) fun M16 => (nm (l2_4 + (1 : Int32)) fun x17 => (F_X5_mixFighter_l27 a0 n27 x17 M16)))))

def F_X5_mixFighter_l2 (a0 : Int32) : Nat → Int32 → MS → Option MS
  | 0, _, _ => none
  | n2 + 1, l2_1, M2 => (if (13 : Int32) < l2_1 then (F_X5_mixFighter_l27 a0 FU (0 : Int32) M2) else (bd (F_X5_told M2 a0 l2_1) fun r19 => (bd (F_X5_mix M2 (Int32.toInt64 r19)) fun M21 => (nm (l2_1 + (1 : Int32)) fun x22 => (F_X5_mixFighter_l2 a0 n2 x22 M21)))))

def F_X5_mixFighter (M : MS) (a0 : Int32) : Option MS := (F_X5_mixFighter_l2 a0 FU (0 : Int32) M)

set_option maxHeartbeats 4000000 in
set_option maxRecDepth 100000 in
theorem k_X5_mixFighter (l : Launch) (G : GG) (M : MS) (a0 : Int32) {Mf : MS} (hF : F_X5_mixFighter M a0 = some Mf) : KV l yX5_mixFighter (WS yX5_mixFighter cX5_mixFighter 3 none) (Rm 8) G [.ref (gad G 220), .int a0] M Mf := by
  intro sz
  refine y_met (by decide +kernel) (Nat.le_of_ble_eq_true rfl) rfl (fun p e s m below meth c ls hsz C0 hM hl => ?_)
  have hl : lv_has ls 3 [(0, .ref (gad G 220)), (1, .int a0)] := hl
  have C0 : CX p s m meth c ([.ref (gad G 220), .int a0] : List Value).toArray cX5_mixFighter RX5 3 none := C0
  rw [F_X5_mixFighter] at hF
  refine lv_iconst (v := (0 : Int32)) C0.1 C0.2.1 dX5_mixFighter_0 (by decide) ?_
  refine lv_istore_n (lv' := [(2, .int (0 : Int32)), (0, .ref (gad G 220)), (1, .int a0)]) C0.1 C0.2.1 dX5_mixFighter_1 rfl hl (by decide) rfl (fun ls hl => ?_)
  have L2 : ∀ (n : Nat) (l2_1 : Int32) (M2 : MS) (H : Heap) (locs : List Loc) (ls : Array Slot), MX G M2 s H locs → lv_has ls 3 [(0, .ref (gad G 220)), (1, .int a0), (2, .int l2_1)] → F_X5_mixFighter_l2 a0 n l2_1 M2 = some Mf → W p l e (Rm 8) s m ([.ref (gad G 220), .int a0] : List Value).toArray below meth c H locs 0 0 (QV below ([.ref (gad G 220), .int a0] : List Value).toArray s G sz Mf) (F0 m 2 ls []) := by
    intro n
    induction n with
    | zero => intro l2_1 M2 H locs ls hM hl hF; rw [F_X5_mixFighter_l2] at hF; cases hF
    | succ n2 ih2 =>
      intro l2_1 M2 H locs ls hM hl hF
      rw [F_X5_mixFighter_l2] at hF
      refine lv_iload_n C0.1 C0.2.1 dX5_mixFighter_2 rfl (lv_at hl 2 rfl) ?_
      refine lv_bipush (v := (13 : Int32)) C0.1 C0.2.1 dX5_mixFighter_3 (by decide) ?_
      refine lv_icmp_gt (tgt := 25) C0.1 C0.2.1 dX5_mixFighter_5 (by decide) (fun c3 => ?_) (fun c3 => ?_)
      · have hF := if_t c3 hF
        refine lv_iconst (v := (0 : Int32)) C0.1 C0.2.1 dX5_mixFighter_25 (by decide) ?_
        refine lv_istore_n (lv' := [(2, .int (0 : Int32)), (0, .ref (gad G 220)), (1, .int a0)]) C0.1 C0.2.1 dX5_mixFighter_26 rfl hl (by decide) rfl (fun ls hl => ?_)
        have L27 : ∀ (n : Nat) (l2_4 : Int32) (M5 : MS) (H : Heap) (locs : List Loc) (ls : Array Slot), MX G M5 s H locs → lv_has ls 3 [(0, .ref (gad G 220)), (1, .int a0), (2, .int l2_4)] → F_X5_mixFighter_l27 a0 n l2_4 M5 = some Mf → W p l e (Rm 8) s m ([.ref (gad G 220), .int a0] : List Value).toArray below meth c H locs 0 0 (QV below ([.ref (gad G 220), .int a0] : List Value).toArray s G sz Mf) (F0 m 27 ls []) := by
          intro n
          induction n with
          | zero => intro l2_4 M5 H locs ls hM hl hF; rw [F_X5_mixFighter_l27] at hF; cases hF
          | succ n27 ih27 =>
            intro l2_4 M5 H locs ls hM hl hF
            rw [F_X5_mixFighter_l27] at hF
            refine lv_iload_n C0.1 C0.2.1 dX5_mixFighter_27 rfl (lv_at hl 2 rfl) ?_
            refine lv_iconst (v := (3 : Int32)) C0.1 C0.2.1 dX5_mixFighter_28 (by decide) ?_
            refine lv_icmp_gt (tgt := 52) C0.1 C0.2.1 dX5_mixFighter_29 (by decide) (fun c6 => ?_) (fun c6 => ?_)
            · have hF := if_t c6 hF
              refine lv_aload_n C0.1 C0.2.1 dX5_mixFighter_52 rfl (lv_at hl 0 rfl) ?_
              refine lv_iconst (v := (0 : Int32)) C0.1 C0.2.1 dX5_mixFighter_53 (by decide) ?_
              refine lv_iload_n C0.1 C0.2.1 dX5_mixFighter_54 rfl (lv_at hl 1 rfl) ?_
              obtain ⟨M8, h7, hF⟩ := bd_some hF
              refine y_vv (rest := []) C0 hM hl.1 ok_md (ent5 ok_md) rfl (k_X5_mixDone l G M5 (0 : Int32) a0 h7) cw_RX5_262 rfl rfl ⟨Nat.le_of_ble_eq_true rfl, Nat.le_of_ble_eq_true rfl⟩ rfl (Nat.le_of_ble_eq_true rfl) ⟨Nat.le_of_ble_eq_true rfl, Nat.le_of_ble_eq_true rfl⟩ dX5_mixFighter_55 (fun H locs hM => ?_)
              refine lv_aload_n C0.1 C0.2.1 dX5_mixFighter_58 rfl (lv_at hl 0 rfl) ?_
              refine lv_iconst (v := (2 : Int32)) C0.1 C0.2.1 dX5_mixFighter_59 (by decide) ?_
              refine lv_iload_n C0.1 C0.2.1 dX5_mixFighter_60 rfl (lv_at hl 1 rfl) ?_
              obtain ⟨M10, h9, hF⟩ := bd_some hF
              refine y_vv (rest := []) C0 hM hl.1 ok_md (ent5 ok_md) rfl (k_X5_mixDone l G M8 (2 : Int32) a0 h9) cw_RX5_262 rfl rfl ⟨Nat.le_of_ble_eq_true rfl, Nat.le_of_ble_eq_true rfl⟩ rfl (Nat.le_of_ble_eq_true rfl) ⟨Nat.le_of_ble_eq_true rfl, Nat.le_of_ble_eq_true rfl⟩ dX5_mixFighter_61 (fun H locs hM => ?_)
              refine lv_aload_n C0.1 C0.2.1 dX5_mixFighter_64 rfl (lv_at hl 0 rfl) ?_
              refine lv_iconst (v := (3 : Int32)) C0.1 C0.2.1 dX5_mixFighter_65 (by decide) ?_
              refine lv_iload_n C0.1 C0.2.1 dX5_mixFighter_66 rfl (lv_at hl 1 rfl) ?_
              obtain ⟨M12, h11, hF⟩ := bd_some hF
              refine y_vv (rest := []) C0 hM hl.1 ok_md (ent5 ok_md) rfl (k_X5_mixDone l G M10 (3 : Int32) a0 h11) cw_RX5_262 rfl rfl ⟨Nat.le_of_ble_eq_true rfl, Nat.le_of_ble_eq_true rfl⟩ rfl (Nat.le_of_ble_eq_true rfl) ⟨Nat.le_of_ble_eq_true rfl, Nat.le_of_ble_eq_true rfl⟩ dX5_mixFighter_67 (fun H locs hM => ?_)
              have e9 := y_1 hF
              subst e9
              exact y_vret C0 hM hsz dX5_mixFighter_70
            · have hF := if_f c6 hF
              refine lv_aload_n C0.1 C0.2.1 dX5_mixFighter_32 rfl (lv_at hl 0 rfl) ?_
              refine lv_aload_n C0.1 C0.2.1 dX5_mixFighter_33 rfl (lv_at hl 0 rfl) ?_
              refine lv_iload_n C0.1 C0.2.1 dX5_mixFighter_34 rfl (lv_at hl 1 rfl) ?_
              refine lv_bipush (v := (7 : Int32)) C0.1 C0.2.1 dX5_mixFighter_35 (by decide) ?_
              refine lv_iload_n C0.1 C0.2.1 dX5_mixFighter_37 rfl (lv_at hl 2 rfl) ?_
              refine lv_iadd C0.1 C0.2.1 dX5_mixFighter_38 ?_
              obtain ⟨r14, h13, hF⟩ := bd_some hF
              refine y_vi (rest := [.ref (gad G 220)]) C0 hM hl.1 ok_md (ent5 ok_md) rfl (k_X5_of l G M5 a0 ((7 : Int32) + l2_4) h13) cw_RX5_32 rfl rfl ⟨Nat.le_of_ble_eq_true rfl, Nat.le_of_ble_eq_true rfl⟩ rfl (Nat.le_of_ble_eq_true rfl) ⟨Nat.le_of_ble_eq_true rfl, Nat.le_of_ble_eq_true rfl⟩ dX5_mixFighter_39 (fun H locs hM => ?_)
              refine lv_i2l (v := Int32.toInt64 r14) C0.1 C0.2.1 dX5_mixFighter_42 rfl ?_
              obtain ⟨M16, h15, hF⟩ := bd_some hF
              refine y_vv (rest := []) C0 hM hl.1 ok_md (ent5 ok_md) rfl (k_X5_mix l G M5 (Int32.toInt64 r14) h15) cw_RX5_258 rfl rfl ⟨Nat.le_of_ble_eq_true rfl, Nat.le_of_ble_eq_true rfl⟩ rfl (Nat.le_of_ble_eq_true rfl) ⟨Nat.le_of_ble_eq_true rfl, Nat.le_of_ble_eq_true rfl⟩ dX5_mixFighter_43 (fun H locs hM => ?_)
              obtain ⟨x17, ex17, hF⟩ := nm_some hF
              refine lv_iinc (v := x17) (lv' := [(2, .int x17), (0, .ref (gad G 220)), (1, .int a0)]) C0.1 C0.2.1 dX5_mixFighter_46 hl (k := 2) rfl (by rw [ex17]; rfl) (by decide) rfl (fun ls hl => ?_)
              refine lv_goto (tgt := 27) C0.1 C0.2.1 dX5_mixFighter_49 (by decide) ?_
              exact ih27 x17 M16 _ _ _ hM (lv_sub hl [1, 2, 0] rfl) hF
        exact L27 FU (0 : Int32) M2 _ _ _ hM (lv_sub hl [1, 2, 0] rfl) hF
      · have hF := if_f c3 hF
        refine lv_aload_n C0.1 C0.2.1 dX5_mixFighter_8 rfl (lv_at hl 0 rfl) ?_
        refine lv_aload_n C0.1 C0.2.1 dX5_mixFighter_9 rfl (lv_at hl 0 rfl) ?_
        refine lv_iload_n C0.1 C0.2.1 dX5_mixFighter_10 rfl (lv_at hl 1 rfl) ?_
        refine lv_iload_n C0.1 C0.2.1 dX5_mixFighter_11 rfl (lv_at hl 2 rfl) ?_
        obtain ⟨r19, h18, hF⟩ := bd_some hF
        refine y_vi (rest := [.ref (gad G 220)]) C0 hM hl.1 ok_md (ent5 ok_md) rfl (k_X5_told l G M2 a0 l2_1 h18) cw_RX5_203 rfl rfl ⟨Nat.le_of_ble_eq_true rfl, Nat.le_of_ble_eq_true rfl⟩ rfl (Nat.le_of_ble_eq_true rfl) ⟨Nat.le_of_ble_eq_true rfl, Nat.le_of_ble_eq_true rfl⟩ dX5_mixFighter_12 (fun H locs hM => ?_)
        refine lv_i2l (v := Int32.toInt64 r19) C0.1 C0.2.1 dX5_mixFighter_15 rfl ?_
        obtain ⟨M21, h20, hF⟩ := bd_some hF
        refine y_vv (rest := []) C0 hM hl.1 ok_md (ent5 ok_md) rfl (k_X5_mix l G M2 (Int32.toInt64 r19) h20) cw_RX5_258 rfl rfl ⟨Nat.le_of_ble_eq_true rfl, Nat.le_of_ble_eq_true rfl⟩ rfl (Nat.le_of_ble_eq_true rfl) ⟨Nat.le_of_ble_eq_true rfl, Nat.le_of_ble_eq_true rfl⟩ dX5_mixFighter_16 (fun H locs hM => ?_)
        obtain ⟨x22, ex22, hF⟩ := nm_some hF
        refine lv_iinc (v := x22) (lv' := [(2, .int x22), (0, .ref (gad G 220)), (1, .int a0)]) C0.1 C0.2.1 dX5_mixFighter_19 hl (k := 2) rfl (by rw [ex22]; rfl) (by decide) rfl (fun ls hl => ?_)
        refine lv_goto (tgt := 2) C0.1 C0.2.1 dX5_mixFighter_22 (by decide) ?_
        exact ih2 x22 M21 _ _ _ hM (lv_sub hl [1, 2, 0] rfl) hF
  exact L2 FU (0 : Int32) M _ _ _ hM (lv_sub hl [1, 2, 0] rfl) hF

def F_X5_digest_l144 : Nat → Int32 → MS → Option (Int64 × MS)
  | 0, _, _ => none
  | n144 + 1, l1_31, M32 => (if (rF M32 86 220) ≤ l1_31 then (some ((rH M32), M32)) else (gdb (inb l1_31 60) (bd (F_X5_mix M32 (Int32.toInt64 (rA M32 224 (Int32.toNatClampNeg l1_31)))) fun M36 => (nm (l1_31 + (1 : Int32)) fun x37 => (F_X5_digest_l144 n144 x37 M36)))))

def F_X5_digest_l91 : Nat → Int32 → MS → Option (Int64 × MS)
  | 0, _, _ => none
  | n91 + 1, l1_15, M16 => (if (12 : Int32) < l1_15 then (bd2 (F_X5_best M16) fun r20 M19 => (bd (F_X5_mix M19 (Int32.toInt64 r20)) fun M22 => (bd (F_X5_share M22) fun r24 => (bd (F_X5_bitsOf M22 r24) fun r26 => (bd (F_X5_mix M22 r26) fun M28 => (bd (F_X5_mix M28 (Int32.toInt64 (rF M28 86 220))) fun M30 => (F_X5_digest_l144 FU (0 : Int32) M30))))))) else (bd2 (F_X5_wouldEnd M16 l1_15) fun r40 M39 => (bd (F_X5_mix M39 (Int32.toInt64 r40)) fun M42 => (nm (l1_15 + (1 : Int32)) fun x43 => (F_X5_digest_l91 n91 x43 M42)))))

def F_X5_digest_l61 : Nat → Int32 → MS → Option (Int64 × MS)
  | 0, _, _ => none
  | n61 + 1, l1_10, M11 => (if (9 : Int32) < l1_10 then (bd (F_X5_mixDone M11 (1 : Int32) (5 : Int32)) fun M14 => (F_X5_digest_l91 FU (0 : Int32) M14)) else (bd (F_X5_rowAt M11 l1_10) fun r45 => (bd (F_X5_mix M11 (Int32.toInt64 r45)) fun M47 => (nm (l1_10 + (1 : Int32)) fun x48 => (F_X5_digest_l61 n61 x48 M47)))))

def F_X5_digest_l38 : Nat → Int32 → MS → Option (Int64 × MS)
  | 0, _, _ => none
  | n38 + 1, l1_6, M7 => (gdb (inb (0 : Int32) 186) (if (rA M7 221 (Int32.toNatClampNeg (0 : Int32))) ≤ l1_6 then (F_X5_digest_l61 FU (0 : Int32) M7) else (bd (F_X5_mixFighter M7 l1_6) fun M50 => (nm (l1_6 + (1 : Int32)) fun x51 => (F_X5_digest_l38 n38 x51 M50)))))

def F_X5_digest_l14 : Nat → Int32 → MS → Option (Int64 × MS)
  | 0, _, _ => none
  | n14 + 1, l1_3, M4 => (if (12 : Int32) < l1_3 then (F_X5_digest_l38 FU (0 : Int32) M4) else (bd (F_X5_counted M4 l1_3) fun r53 => (bd (F_X5_mix M4 (Int32.toInt64 r53)) fun M55 => (nm (l1_3 + (1 : Int32)) fun x56 => (F_X5_digest_l14 n14 x56 M55)))))

def F_X5_digest (M : MS) : Option (Int64 × MS) := (nm (wF M 80 220 (0 : Int32)) fun M1 => (nm (wH M1 (2767 : Int64)) fun M2 => (F_X5_digest_l14 FU (0 : Int32) M2)))

set_option maxHeartbeats 4000000 in
set_option maxRecDepth 100000 in
theorem k_X5_digest (l : Launch) (G : GG) (M : MS) {r : Int64} {Mf : MS} (hF : F_X5_digest M = some (r, Mf)) : KL l yX5_digest (WS yX5_digest cX5_digest 2 (some .long)) (Rm 9) G [.ref (gad G 220)] M r Mf := by
  intro sz
  refine y_met (by decide +kernel) (Nat.le_of_ble_eq_true rfl) rfl (fun p e s m below meth c ls hsz C0 hM hl => ?_)
  have hl : lv_has ls 2 [(0, .ref (gad G 220))] := hl
  have C0 : CX p s m meth c ([.ref (gad G 220)] : List Value).toArray cX5_digest RX5 2 (some .long) := C0
  rw [F_X5_digest] at hF
  refine lv_aload_n C0.1 C0.2.1 dX5_digest_0 rfl (lv_at hl 0 rfl) ?_
  refine lv_iconst (v := (0 : Int32)) C0.1 C0.2.1 dX5_digest_1 (by decide) ?_
  refine pf5_0 C0 hM ok_md fl_RX5_28 dX5_digest_2 (fun H locs hM => ?_)
  obtain ⟨M1, eM1, hF⟩ := nm_some hF
  have hM := y_mn eM1 hM
  refine lv_aload_n C0.1 C0.2.1 dX5_digest_5 rfl (lv_at hl 0 rfl) ?_
  refine lv_ldc2 (v := (2767 : Int64)) C0.1 C0.2.1 C0.2.2.2.1 (C0.2.2.2.2.1 _ (tb1 1192 (by decide +kernel) (by decide +kernel))) dX5_digest_6 ?_
  refine y_lput C0 hM ok_md fl_RX5_254 dX5_digest_9 (fun H locs hM => ?_)
  obtain ⟨M2, eM2, hF⟩ := nm_some hF
  have hM := y_mn eM2 hM
  refine lv_iconst (v := (0 : Int32)) C0.1 C0.2.1 dX5_digest_12 (by decide) ?_
  refine lv_istore_n (lv' := [(1, .int (0 : Int32)), (0, .ref (gad G 220))]) C0.1 C0.2.1 dX5_digest_13 rfl hl (by decide) rfl (fun ls hl => ?_)
  have L14 : ∀ (n : Nat) (l1_3 : Int32) (M4 : MS) (H : Heap) (locs : List Loc) (ls : Array Slot), MX G M4 s H locs → lv_has ls 2 [(0, .ref (gad G 220)), (1, .int l1_3)] → F_X5_digest_l14 n l1_3 M4 = some (r, Mf) → W p l e (Rm 9) s m ([.ref (gad G 220)] : List Value).toArray below meth c H locs 0 0 (QL below ([.ref (gad G 220)] : List Value).toArray s G sz r Mf) (F0 m 14 ls []) := by
    intro n
    induction n with
    | zero => intro l1_3 M4 H locs ls hM hl hF; rw [F_X5_digest_l14] at hF; cases hF
    | succ n14 ih14 =>
      intro l1_3 M4 H locs ls hM hl hF
      rw [F_X5_digest_l14] at hF
      refine lv_iload_n C0.1 C0.2.1 dX5_digest_14 rfl (lv_at hl 1 rfl) ?_
      refine lv_bipush (v := (12 : Int32)) C0.1 C0.2.1 dX5_digest_15 (by decide) ?_
      refine lv_icmp_gt (tgt := 36) C0.1 C0.2.1 dX5_digest_17 (by decide) (fun c5 => ?_) (fun c5 => ?_)
      · have hF := if_t c5 hF
        refine lv_iconst (v := (0 : Int32)) C0.1 C0.2.1 dX5_digest_36 (by decide) ?_
        refine lv_istore_n (lv' := [(1, .int (0 : Int32)), (0, .ref (gad G 220))]) C0.1 C0.2.1 dX5_digest_37 rfl hl (by decide) rfl (fun ls hl => ?_)
        have L38 : ∀ (n : Nat) (l1_6 : Int32) (M7 : MS) (H : Heap) (locs : List Loc) (ls : Array Slot), MX G M7 s H locs → lv_has ls 2 [(0, .ref (gad G 220)), (1, .int l1_6)] → F_X5_digest_l38 n l1_6 M7 = some (r, Mf) → W p l e (Rm 9) s m ([.ref (gad G 220)] : List Value).toArray below meth c H locs 0 0 (QL below ([.ref (gad G 220)] : List Value).toArray s G sz r Mf) (F0 m 38 ls []) := by
          intro n
          induction n with
          | zero => intro l1_6 M7 H locs ls hM hl hF; rw [F_X5_digest_l38] at hF; cases hF
          | succ n38 ih38 =>
            intro l1_6 M7 H locs ls hM hl hF
            rw [F_X5_digest_l38] at hF
            refine lv_iload_n C0.1 C0.2.1 dX5_digest_38 rfl (lv_at hl 1 rfl) ?_
            refine lv_aload_n C0.1 C0.2.1 dX5_digest_39 rfl (lv_at hl 0 rfl) ?_
            refine gf5_1 C0 hM ok_md fl_RX5_7 dX5_digest_40 ?_
            refine lv_iconst (v := (0 : Int32)) C0.1 C0.2.1 dX5_digest_43 (by decide) ?_
            obtain ⟨g8, hF⟩ := gdb_some hF
            refine y_iald C0 hM oka_z g8 dX5_digest_44 ?_
            refine lv_icmp_ge (tgt := 59) C0.1 C0.2.1 dX5_digest_45 (by decide) (fun c9 => ?_) (fun c9 => ?_)
            · have hF := if_t c9 hF
              refine lv_iconst (v := (0 : Int32)) C0.1 C0.2.1 dX5_digest_59 (by decide) ?_
              refine lv_istore_n (lv' := [(1, .int (0 : Int32)), (0, .ref (gad G 220))]) C0.1 C0.2.1 dX5_digest_60 rfl hl (by decide) rfl (fun ls hl => ?_)
              have L61 : ∀ (n : Nat) (l1_10 : Int32) (M11 : MS) (H : Heap) (locs : List Loc) (ls : Array Slot), MX G M11 s H locs → lv_has ls 2 [(0, .ref (gad G 220)), (1, .int l1_10)] → F_X5_digest_l61 n l1_10 M11 = some (r, Mf) → W p l e (Rm 9) s m ([.ref (gad G 220)] : List Value).toArray below meth c H locs 0 0 (QL below ([.ref (gad G 220)] : List Value).toArray s G sz r Mf) (F0 m 61 ls []) := by
                intro n
                induction n with
                | zero => intro l1_10 M11 H locs ls hM hl hF; rw [F_X5_digest_l61] at hF; cases hF
                | succ n61 ih61 =>
                  intro l1_10 M11 H locs ls hM hl hF
                  rw [F_X5_digest_l61] at hF
                  refine lv_iload_n C0.1 C0.2.1 dX5_digest_61 rfl (lv_at hl 1 rfl) ?_
                  refine lv_bipush (v := (9 : Int32)) C0.1 C0.2.1 dX5_digest_62 (by decide) ?_
                  refine lv_icmp_gt (tgt := 83) C0.1 C0.2.1 dX5_digest_64 (by decide) (fun c12 => ?_) (fun c12 => ?_)
                  · have hF := if_t c12 hF
                    refine lv_aload_n C0.1 C0.2.1 dX5_digest_83 rfl (lv_at hl 0 rfl) ?_
                    refine lv_iconst (v := (1 : Int32)) C0.1 C0.2.1 dX5_digest_84 (by decide) ?_
                    refine lv_iconst (v := (5 : Int32)) C0.1 C0.2.1 dX5_digest_85 (by decide) ?_
                    obtain ⟨M14, h13, hF⟩ := bd_some hF
                    refine y_vv (rest := []) C0 hM hl.1 ok_md (ent5 ok_md) rfl (k_X5_mixDone l G M11 (1 : Int32) (5 : Int32) h13) cw_RX5_262 rfl rfl ⟨Nat.le_of_ble_eq_true rfl, Nat.le_of_ble_eq_true rfl⟩ rfl (Nat.le_of_ble_eq_true rfl) ⟨Nat.le_of_ble_eq_true rfl, Nat.le_of_ble_eq_true rfl⟩ dX5_digest_86 (fun H locs hM => ?_)
                    refine lv_iconst (v := (0 : Int32)) C0.1 C0.2.1 dX5_digest_89 (by decide) ?_
                    refine lv_istore_n (lv' := [(1, .int (0 : Int32)), (0, .ref (gad G 220))]) C0.1 C0.2.1 dX5_digest_90 rfl hl (by decide) rfl (fun ls hl => ?_)
                    have L91 : ∀ (n : Nat) (l1_15 : Int32) (M16 : MS) (H : Heap) (locs : List Loc) (ls : Array Slot), MX G M16 s H locs → lv_has ls 2 [(0, .ref (gad G 220)), (1, .int l1_15)] → F_X5_digest_l91 n l1_15 M16 = some (r, Mf) → W p l e (Rm 9) s m ([.ref (gad G 220)] : List Value).toArray below meth c H locs 0 0 (QL below ([.ref (gad G 220)] : List Value).toArray s G sz r Mf) (F0 m 91 ls []) := by
                      intro n
                      induction n with
                      | zero => intro l1_15 M16 H locs ls hM hl hF; rw [F_X5_digest_l91] at hF; cases hF
                      | succ n91 ih91 =>
                        intro l1_15 M16 H locs ls hM hl hF
                        rw [F_X5_digest_l91] at hF
                        refine lv_iload_n C0.1 C0.2.1 dX5_digest_91 rfl (lv_at hl 1 rfl) ?_
                        refine lv_bipush (v := (12 : Int32)) C0.1 C0.2.1 dX5_digest_92 (by decide) ?_
                        refine lv_icmp_gt (tgt := 113) C0.1 C0.2.1 dX5_digest_94 (by decide) (fun c17 => ?_) (fun c17 => ?_)
                        · have hF := if_t c17 hF
                          refine lv_aload_n C0.1 C0.2.1 dX5_digest_113 rfl (lv_at hl 0 rfl) ?_
                          refine lv_aload_n C0.1 C0.2.1 dX5_digest_114 rfl (lv_at hl 0 rfl) ?_
                          obtain ⟨r20, M19, h18, hF⟩ := bd2_some hF
                          refine y_vi (rest := [.ref (gad G 220)]) C0 hM hl.1 ok_md (ent5 ok_md) rfl (k_X5_best l G M16 h18) cw_RX5_235 rfl rfl ⟨Nat.le_of_ble_eq_true rfl, Nat.le_of_ble_eq_true rfl⟩ rfl (Nat.le_of_ble_eq_true rfl) ⟨Nat.le_of_ble_eq_true rfl, Nat.le_of_ble_eq_true rfl⟩ dX5_digest_115 (fun H locs hM => ?_)
                          refine lv_i2l (v := Int32.toInt64 r20) C0.1 C0.2.1 dX5_digest_118 rfl ?_
                          obtain ⟨M22, h21, hF⟩ := bd_some hF
                          refine y_vv (rest := []) C0 hM hl.1 ok_md (ent5 ok_md) rfl (k_X5_mix l G M19 (Int32.toInt64 r20) h21) cw_RX5_258 rfl rfl ⟨Nat.le_of_ble_eq_true rfl, Nat.le_of_ble_eq_true rfl⟩ rfl (Nat.le_of_ble_eq_true rfl) ⟨Nat.le_of_ble_eq_true rfl, Nat.le_of_ble_eq_true rfl⟩ dX5_digest_119 (fun H locs hM => ?_)
                          refine lv_aload_n C0.1 C0.2.1 dX5_digest_122 rfl (lv_at hl 0 rfl) ?_
                          refine lv_aload_n C0.1 C0.2.1 dX5_digest_123 rfl (lv_at hl 0 rfl) ?_
                          obtain ⟨r24, h23, hF⟩ := bd_some hF
                          refine y_vd (rest := [.ref (gad G 220)]) C0 hM hl.1 ok_md (ent5 ok_md) rfl (k_X5_share l G M22 h23) cw_RX5_240 rfl rfl ⟨Nat.le_of_ble_eq_true rfl, Nat.le_of_ble_eq_true rfl⟩ rfl (Nat.le_of_ble_eq_true rfl) ⟨Nat.le_of_ble_eq_true rfl, Nat.le_of_ble_eq_true rfl⟩ dX5_digest_124 (fun H locs hM => ?_)
                          obtain ⟨r26, h25, hF⟩ := bd_some hF
                          refine y_sl (rest := [.ref (gad G 220)]) C0 hM hl.1 (k_X5_bitsOf l G M22 r24 h25) cw_RX5_270 rfl rfl ⟨Nat.le_of_ble_eq_true rfl, Nat.le_of_ble_eq_true rfl⟩ rfl (Nat.le_of_ble_eq_true rfl) ⟨Nat.le_of_ble_eq_true rfl, Nat.le_of_ble_eq_true rfl⟩ dX5_digest_127 (fun H locs hM => ?_)
                          obtain ⟨M28, h27, hF⟩ := bd_some hF
                          refine y_vv (rest := []) C0 hM hl.1 ok_md (ent5 ok_md) rfl (k_X5_mix l G M22 r26 h27) cw_RX5_258 rfl rfl ⟨Nat.le_of_ble_eq_true rfl, Nat.le_of_ble_eq_true rfl⟩ rfl (Nat.le_of_ble_eq_true rfl) ⟨Nat.le_of_ble_eq_true rfl, Nat.le_of_ble_eq_true rfl⟩ dX5_digest_130 (fun H locs hM => ?_)
                          refine lv_aload_n C0.1 C0.2.1 dX5_digest_133 rfl (lv_at hl 0 rfl) ?_
                          refine lv_aload_n C0.1 C0.2.1 dX5_digest_134 rfl (lv_at hl 0 rfl) ?_
                          refine gf5_6 C0 hM ok_md fl_RX5_157 dX5_digest_135 ?_
                          refine lv_i2l (v := Int32.toInt64 (rF M28 86 220)) C0.1 C0.2.1 dX5_digest_138 rfl ?_
                          obtain ⟨M30, h29, hF⟩ := bd_some hF
                          refine y_vv (rest := []) C0 hM hl.1 ok_md (ent5 ok_md) rfl (k_X5_mix l G M28 (Int32.toInt64 (rF M28 86 220)) h29) cw_RX5_258 rfl rfl ⟨Nat.le_of_ble_eq_true rfl, Nat.le_of_ble_eq_true rfl⟩ rfl (Nat.le_of_ble_eq_true rfl) ⟨Nat.le_of_ble_eq_true rfl, Nat.le_of_ble_eq_true rfl⟩ dX5_digest_139 (fun H locs hM => ?_)
                          refine lv_iconst (v := (0 : Int32)) C0.1 C0.2.1 dX5_digest_142 (by decide) ?_
                          refine lv_istore_n (lv' := [(1, .int (0 : Int32)), (0, .ref (gad G 220))]) C0.1 C0.2.1 dX5_digest_143 rfl hl (by decide) rfl (fun ls hl => ?_)
                          have L144 : ∀ (n : Nat) (l1_31 : Int32) (M32 : MS) (H : Heap) (locs : List Loc) (ls : Array Slot), MX G M32 s H locs → lv_has ls 2 [(0, .ref (gad G 220)), (1, .int l1_31)] → F_X5_digest_l144 n l1_31 M32 = some (r, Mf) → W p l e (Rm 9) s m ([.ref (gad G 220)] : List Value).toArray below meth c H locs 0 0 (QL below ([.ref (gad G 220)] : List Value).toArray s G sz r Mf) (F0 m 144 ls []) := by
                            intro n
                            induction n with
                            | zero => intro l1_31 M32 H locs ls hM hl hF; rw [F_X5_digest_l144] at hF; cases hF
                            | succ n144 ih144 =>
                              intro l1_31 M32 H locs ls hM hl hF
                              rw [F_X5_digest_l144] at hF
                              refine lv_iload_n C0.1 C0.2.1 dX5_digest_144 rfl (lv_at hl 1 rfl) ?_
                              refine lv_aload_n C0.1 C0.2.1 dX5_digest_145 rfl (lv_at hl 0 rfl) ?_
                              refine gf5_6 C0 hM ok_md fl_RX5_157 dX5_digest_146 ?_
                              refine lv_icmp_ge (tgt := 169) C0.1 C0.2.1 dX5_digest_149 (by decide) (fun c33 => ?_) (fun c33 => ?_)
                              · have hF := if_t c33 hF
                                refine lv_aload_n C0.1 C0.2.1 dX5_digest_169 rfl (lv_at hl 0 rfl) ?_
                                refine gf5_13 C0 hM ok_md fl_RX5_254 dX5_digest_170 ?_
                                obtain ⟨e8, e9⟩ := y_2 hF
                                subst e8
                                subst e9
                                exact y_lret C0 hM hsz dX5_digest_173
                              · have hF := if_f c33 hF
                                refine lv_aload_n C0.1 C0.2.1 dX5_digest_152 rfl (lv_at hl 0 rfl) ?_
                                refine lv_aload_n C0.1 C0.2.1 dX5_digest_153 rfl (lv_at hl 0 rfl) ?_
                                refine gf5_5 C0 hM ok_md fl_RX5_19 dX5_digest_154 ?_
                                refine lv_iload_n C0.1 C0.2.1 dX5_digest_157 rfl (lv_at hl 1 rfl) ?_
                                obtain ⟨g34, hF⟩ := gdb_some hF
                                refine y_iald C0 hM oka_buffer g34 dX5_digest_158 ?_
                                refine lv_i2l (v := Int32.toInt64 (rA M32 224 (Int32.toNatClampNeg l1_31))) C0.1 C0.2.1 dX5_digest_159 rfl ?_
                                obtain ⟨M36, h35, hF⟩ := bd_some hF
                                refine y_vv (rest := []) C0 hM hl.1 ok_md (ent5 ok_md) rfl (k_X5_mix l G M32 (Int32.toInt64 (rA M32 224 (Int32.toNatClampNeg l1_31))) h35) cw_RX5_258 rfl rfl ⟨Nat.le_of_ble_eq_true rfl, Nat.le_of_ble_eq_true rfl⟩ rfl (Nat.le_of_ble_eq_true rfl) ⟨Nat.le_of_ble_eq_true rfl, Nat.le_of_ble_eq_true rfl⟩ dX5_digest_160 (fun H locs hM => ?_)
                                obtain ⟨x37, ex37, hF⟩ := nm_some hF
                                refine lv_iinc (v := x37) (lv' := [(1, .int x37), (0, .ref (gad G 220))]) C0.1 C0.2.1 dX5_digest_163 hl (k := 1) rfl (by rw [ex37]; rfl) (by decide) rfl (fun ls hl => ?_)
                                refine lv_goto (tgt := 144) C0.1 C0.2.1 dX5_digest_166 (by decide) ?_
                                exact ih144 x37 M36 _ _ _ hM (lv_sub hl [1, 0] rfl) hF
                          exact L144 FU (0 : Int32) M30 _ _ _ hM (lv_sub hl [1, 0] rfl) hF
                        · have hF := if_f c17 hF
                          refine lv_aload_n C0.1 C0.2.1 dX5_digest_97 rfl (lv_at hl 0 rfl) ?_
                          refine lv_aload_n C0.1 C0.2.1 dX5_digest_98 rfl (lv_at hl 0 rfl) ?_
                          refine lv_iload_n C0.1 C0.2.1 dX5_digest_99 rfl (lv_at hl 1 rfl) ?_
                          obtain ⟨r40, M39, h38, hF⟩ := bd2_some hF
                          refine y_vi (rest := [.ref (gad G 220)]) C0 hM hl.1 ok_md (ent5 ok_md) rfl (k_X5_wouldEnd l G M16 l1_15 h38) cw_RX5_232 rfl rfl ⟨Nat.le_of_ble_eq_true rfl, Nat.le_of_ble_eq_true rfl⟩ rfl (Nat.le_of_ble_eq_true rfl) ⟨Nat.le_of_ble_eq_true rfl, Nat.le_of_ble_eq_true rfl⟩ dX5_digest_100 (fun H locs hM => ?_)
                          refine lv_i2l (v := Int32.toInt64 r40) C0.1 C0.2.1 dX5_digest_103 rfl ?_
                          obtain ⟨M42, h41, hF⟩ := bd_some hF
                          refine y_vv (rest := []) C0 hM hl.1 ok_md (ent5 ok_md) rfl (k_X5_mix l G M39 (Int32.toInt64 r40) h41) cw_RX5_258 rfl rfl ⟨Nat.le_of_ble_eq_true rfl, Nat.le_of_ble_eq_true rfl⟩ rfl (Nat.le_of_ble_eq_true rfl) ⟨Nat.le_of_ble_eq_true rfl, Nat.le_of_ble_eq_true rfl⟩ dX5_digest_104 (fun H locs hM => ?_)
                          obtain ⟨x43, ex43, hF⟩ := nm_some hF
                          refine lv_iinc (v := x43) (lv' := [(1, .int x43), (0, .ref (gad G 220))]) C0.1 C0.2.1 dX5_digest_107 hl (k := 1) rfl (by rw [ex43]; rfl) (by decide) rfl (fun ls hl => ?_)
                          refine lv_goto (tgt := 91) C0.1 C0.2.1 dX5_digest_110 (by decide) ?_
                          exact ih91 x43 M42 _ _ _ hM (lv_sub hl [1, 0] rfl) hF
                    exact L91 FU (0 : Int32) M14 _ _ _ hM (lv_sub hl [1, 0] rfl) hF
                  · have hF := if_f c12 hF
                    refine lv_aload_n C0.1 C0.2.1 dX5_digest_67 rfl (lv_at hl 0 rfl) ?_
                    refine lv_aload_n C0.1 C0.2.1 dX5_digest_68 rfl (lv_at hl 0 rfl) ?_
                    refine lv_iload_n C0.1 C0.2.1 dX5_digest_69 rfl (lv_at hl 1 rfl) ?_
                    obtain ⟨r45, h44, hF⟩ := bd_some hF
                    refine y_vi (rest := [.ref (gad G 220)]) C0 hM hl.1 ok_md (ent5 ok_md) rfl (k_X5_rowAt l G M11 l1_10 h44) cw_RX5_206 rfl rfl ⟨Nat.le_of_ble_eq_true rfl, Nat.le_of_ble_eq_true rfl⟩ rfl (Nat.le_of_ble_eq_true rfl) ⟨Nat.le_of_ble_eq_true rfl, Nat.le_of_ble_eq_true rfl⟩ dX5_digest_70 (fun H locs hM => ?_)
                    refine lv_i2l (v := Int32.toInt64 r45) C0.1 C0.2.1 dX5_digest_73 rfl ?_
                    obtain ⟨M47, h46, hF⟩ := bd_some hF
                    refine y_vv (rest := []) C0 hM hl.1 ok_md (ent5 ok_md) rfl (k_X5_mix l G M11 (Int32.toInt64 r45) h46) cw_RX5_258 rfl rfl ⟨Nat.le_of_ble_eq_true rfl, Nat.le_of_ble_eq_true rfl⟩ rfl (Nat.le_of_ble_eq_true rfl) ⟨Nat.le_of_ble_eq_true rfl, Nat.le_of_ble_eq_true rfl⟩ dX5_digest_74 (fun H locs hM => ?_)
                    obtain ⟨x48, ex48, hF⟩ := nm_some hF
                    refine lv_iinc (v := x48) (lv' := [(1, .int x48), (0, .ref (gad G 220))]) C0.1 C0.2.1 dX5_digest_77 hl (k := 1) rfl (by rw [ex48]; rfl) (by decide) rfl (fun ls hl => ?_)
                    refine lv_goto (tgt := 61) C0.1 C0.2.1 dX5_digest_80 (by decide) ?_
                    exact ih61 x48 M47 _ _ _ hM (lv_sub hl [1, 0] rfl) hF
              exact L61 FU (0 : Int32) M7 _ _ _ hM (lv_sub hl [1, 0] rfl) hF
            · have hF := if_f c9 hF
              refine lv_aload_n C0.1 C0.2.1 dX5_digest_48 rfl (lv_at hl 0 rfl) ?_
              refine lv_iload_n C0.1 C0.2.1 dX5_digest_49 rfl (lv_at hl 1 rfl) ?_
              obtain ⟨M50, h49, hF⟩ := bd_some hF
              refine y_vv (rest := []) C0 hM hl.1 ok_md (ent5 ok_md) rfl (k_X5_mixFighter l G M7 l1_6 h49) cw_RX5_267 rfl rfl ⟨Nat.le_of_ble_eq_true rfl, Nat.le_of_ble_eq_true rfl⟩ rfl (Nat.le_of_ble_eq_true rfl) ⟨Nat.le_of_ble_eq_true rfl, Nat.le_of_ble_eq_true rfl⟩ dX5_digest_50 (fun H locs hM => ?_)
              obtain ⟨x51, ex51, hF⟩ := nm_some hF
              refine lv_iinc (v := x51) (lv' := [(1, .int x51), (0, .ref (gad G 220))]) C0.1 C0.2.1 dX5_digest_53 hl (k := 1) rfl (by rw [ex51]; rfl) (by decide) rfl (fun ls hl => ?_)
              refine lv_goto (tgt := 38) C0.1 C0.2.1 dX5_digest_56 (by decide) ?_
              exact ih38 x51 M50 _ _ _ hM (lv_sub hl [1, 0] rfl) hF
        exact L38 FU (0 : Int32) M4 _ _ _ hM (lv_sub hl [1, 0] rfl) hF
      · have hF := if_f c5 hF
        refine lv_aload_n C0.1 C0.2.1 dX5_digest_20 rfl (lv_at hl 0 rfl) ?_
        refine lv_aload_n C0.1 C0.2.1 dX5_digest_21 rfl (lv_at hl 0 rfl) ?_
        refine lv_iload_n C0.1 C0.2.1 dX5_digest_22 rfl (lv_at hl 1 rfl) ?_
        obtain ⟨r53, h52, hF⟩ := bd_some hF
        refine y_vi (rest := [.ref (gad G 220)]) C0 hM hl.1 ok_md (ent5 ok_md) rfl (k_X5_counted l G M4 l1_3 h52) cw_RX5_219 rfl rfl ⟨Nat.le_of_ble_eq_true rfl, Nat.le_of_ble_eq_true rfl⟩ rfl (Nat.le_of_ble_eq_true rfl) ⟨Nat.le_of_ble_eq_true rfl, Nat.le_of_ble_eq_true rfl⟩ dX5_digest_23 (fun H locs hM => ?_)
        refine lv_i2l (v := Int32.toInt64 r53) C0.1 C0.2.1 dX5_digest_26 rfl ?_
        obtain ⟨M55, h54, hF⟩ := bd_some hF
        refine y_vv (rest := []) C0 hM hl.1 ok_md (ent5 ok_md) rfl (k_X5_mix l G M4 (Int32.toInt64 r53) h54) cw_RX5_258 rfl rfl ⟨Nat.le_of_ble_eq_true rfl, Nat.le_of_ble_eq_true rfl⟩ rfl (Nat.le_of_ble_eq_true rfl) ⟨Nat.le_of_ble_eq_true rfl, Nat.le_of_ble_eq_true rfl⟩ dX5_digest_27 (fun H locs hM => ?_)
        obtain ⟨x56, ex56, hF⟩ := nm_some hF
        refine lv_iinc (v := x56) (lv' := [(1, .int x56), (0, .ref (gad G 220))]) C0.1 C0.2.1 dX5_digest_30 hl (k := 1) rfl (by rw [ex56]; rfl) (by decide) rfl (fun ls hl => ?_)
        refine lv_goto (tgt := 14) C0.1 C0.2.1 dX5_digest_33 (by decide) ?_
        exact ih14 x56 M55 _ _ _ hM (lv_sub hl [1, 0] rfl) hF
  exact L14 FU (0 : Int32) M2 _ _ _ hM (lv_sub hl [1, 0] rfl) hF
