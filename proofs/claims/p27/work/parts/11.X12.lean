def F_X2_copyFrom (M : MS) (v : Nat) (w0 : Nat) : Option MS := (nm (wC M (w0 + 1) (v + 1) (Int32.toNatClampNeg (0 : Int32)) (Int32.toNatClampNeg (0 : Int32)) (Int32.toNatClampNeg (10 : Int32))) fun M1 => (nm (wF M1 33 v (rF M1 33 w0)) fun M2 => (some M2)))

set_option maxHeartbeats 4000000 in
set_option maxRecDepth 100000 in
theorem k_X2_copyFrom (l : Launch) (G : GG) (M : MS) (v : Nat) (w0 : Nat) {Mf : MS} (hF : F_X2_copyFrom M v w0 = some Mf) (hv : ok 2 v) (hw0 : ok 2 w0) : KV l yX2_copyFrom (WS yX2_copyFrom cX2_copyFrom 2 none) (Rm 1) G [.ref (gad G v), .ref (gad G w0)] M Mf := by
  intro sz
  refine y_met (by decide +kernel) (Nat.le_of_ble_eq_true rfl) rfl (fun p e s m below meth c ls hsz C0 hM hl => ?_)
  have hl : lv_has ls 2 [(0, .ref (gad G v)), (1, .ref (gad G w0))] := hl
  have C0 : CX p s m meth c ([.ref (gad G v), .ref (gad G w0)] : List Value).toArray cX2_copyFrom RX2 2 none := C0
  rw [F_X2_copyFrom] at hF
  refine lv_aload_n C0.1 C0.2.1 dX2_copyFrom_0 rfl (lv_at hl 1 rfl) ?_
  refine gf2_0 C0 hM hw0 fl_RX2_9 dX2_copyFrom_1 ?_
  refine lv_iconst (v := (0 : Int32)) C0.1 C0.2.1 dX2_copyFrom_4 (by decide) ?_
  refine lv_aload_n C0.1 C0.2.1 dX2_copyFrom_5 rfl (lv_at hl 0 rfl) ?_
  refine gf2_0 C0 hM hv fl_RX2_9 dX2_copyFrom_6 ?_
  refine lv_iconst (v := (0 : Int32)) C0.1 C0.2.1 dX2_copyFrom_9 (by decide) ?_
  refine lv_bipush (v := (10 : Int32)) C0.1 C0.2.1 dX2_copyFrom_10 (by decide) ?_
  refine y_copy C0 hM hl.1 cp_RX2_19 (oka_numbers hw0) (oka_numbers hv) (by decide) (by decide) (by decide) (by decide) (by decide) (Nat.le_of_ble_eq_true rfl) (by decide) dX2_copyFrom_12 (fun H locs hM => ?_)
  obtain ⟨M1, eM1, hF⟩ := nm_some hF
  have hM := y_mn eM1 hM
  refine lv_aload_n C0.1 C0.2.1 dX2_copyFrom_15 rfl (lv_at hl 0 rfl) ?_
  refine lv_aload_n C0.1 C0.2.1 dX2_copyFrom_16 rfl (lv_at hl 1 rfl) ?_
  refine gf2_1 C0 hM hw0 fl_RX2_15 dX2_copyFrom_17 ?_
  refine pf2_1 C0 hM hv fl_RX2_15 dX2_copyFrom_20 (fun H locs hM => ?_)
  obtain ⟨M2, eM2, hF⟩ := nm_some hF
  have hM := y_mn eM2 hM
  have e9 := y_1 hF
  subst e9
  exact y_vret C0 hM hsz dX2_copyFrom_23

def F_X2_numberAt (M : MS) (v : Nat) (a0 : Int32) : Option Int32 := (if a0 < 0 then (some (-1 : Int32)) else (if (rF M 33 v) ≤ a0 then (some (-1 : Int32)) else (if (10 : Int32) ≤ a0 then (some (-1 : Int32)) else (gdb (inb a0 10) (some (rA M (v + 1) (Int32.toNatClampNeg a0)))))))

set_option maxHeartbeats 4000000 in
set_option maxRecDepth 100000 in
theorem k_X2_numberAt (l : Launch) (G : GG) (M : MS) (v : Nat) (a0 : Int32) {r : Int32} (hF : F_X2_numberAt M v a0 = some r) (hv : ok 2 v) : KI l yX2_numberAt (WS yX2_numberAt cX2_numberAt 2 (some .int)) (Rm 0) G [.ref (gad G v), .int a0] M r M := by
  intro sz
  refine y_met (by decide +kernel) (Nat.le_of_ble_eq_true rfl) rfl (fun p e s m below meth c ls hsz C0 hM hl => ?_)
  have hl : lv_has ls 2 [(0, .ref (gad G v)), (1, .int a0)] := hl
  have C0 : CX p s m meth c ([.ref (gad G v), .int a0] : List Value).toArray cX2_numberAt RX2 2 (some .int) := C0
  rw [F_X2_numberAt] at hF
  refine lv_iload_n C0.1 C0.2.1 dX2_numberAt_0 rfl (lv_at hl 1 rfl) ?_
  refine lv_if_lt (tgt := 30) C0.1 C0.2.1 dX2_numberAt_1 (by decide) (fun c1 => ?_) (fun c1 => ?_)
  · have hF := if_t c1 hF
    refine lv_iconst (v := (-1 : Int32)) C0.1 C0.2.1 dX2_numberAt_30 (by decide) ?_
    have e8 := y_1 hF
    subst e8
    exact y_iret C0 hM hsz dX2_numberAt_31
  · have hF := if_f c1 hF
    refine lv_iload_n C0.1 C0.2.1 dX2_numberAt_4 rfl (lv_at hl 1 rfl) ?_
    refine lv_aload_n C0.1 C0.2.1 dX2_numberAt_5 rfl (lv_at hl 0 rfl) ?_
    refine gf2_1 C0 hM hv fl_RX2_15 dX2_numberAt_6 ?_
    refine lv_icmp_ge (tgt := 30) C0.1 C0.2.1 dX2_numberAt_9 (by decide) (fun c2 => ?_) (fun c2 => ?_)
    · have hF := if_t c2 hF
      refine lv_iconst (v := (-1 : Int32)) C0.1 C0.2.1 dX2_numberAt_30 (by decide) ?_
      have e8 := y_1 hF
      subst e8
      exact y_iret C0 hM hsz dX2_numberAt_31
    · have hF := if_f c2 hF
      refine lv_iload_n C0.1 C0.2.1 dX2_numberAt_12 rfl (lv_at hl 1 rfl) ?_
      refine lv_aload_n C0.1 C0.2.1 dX2_numberAt_13 rfl (lv_at hl 0 rfl) ?_
      refine gf2_0 C0 hM hv fl_RX2_9 dX2_numberAt_14 ?_
      refine y_alen (x := (10 : Int32)) C0 hM (oka_numbers hv) rfl dX2_numberAt_17 ?_
      refine lv_icmp_ge (tgt := 30) C0.1 C0.2.1 dX2_numberAt_18 (by decide) (fun c3 => ?_) (fun c3 => ?_)
      · have hF := if_t c3 hF
        refine lv_iconst (v := (-1 : Int32)) C0.1 C0.2.1 dX2_numberAt_30 (by decide) ?_
        have e8 := y_1 hF
        subst e8
        exact y_iret C0 hM hsz dX2_numberAt_31
      · have hF := if_f c3 hF
        refine lv_aload_n C0.1 C0.2.1 dX2_numberAt_21 rfl (lv_at hl 0 rfl) ?_
        refine gf2_0 C0 hM hv fl_RX2_9 dX2_numberAt_22 ?_
        refine lv_iload_n C0.1 C0.2.1 dX2_numberAt_25 rfl (lv_at hl 1 rfl) ?_
        obtain ⟨g4, hF⟩ := gdb_some hF
        refine y_iald C0 hM (oka_numbers hv) g4 dX2_numberAt_26 ?_
        refine lv_goto (tgt := 31) C0.1 C0.2.1 dX2_numberAt_27 (by decide) ?_
        have e8 := y_1 hF
        subst e8
        exact y_iret C0 hM hsz dX2_numberAt_31

def F_X2_placeOf_l2 (v : Nat) (a0 : Int32) (M : MS) : Nat → Int32 → Option Int32
  | 0, _ => none
  | n2 + 1, l2_1 => (if (rF M 33 v) ≤ l2_1 then (some (-1 : Int32)) else (bd (F_X2_numberAt M v l2_1) fun r4 => (if ¬ r4 = a0 then (nm (l2_1 + (1 : Int32)) fun x6 => (F_X2_placeOf_l2 v a0 M n2 x6)) else (some l2_1))))

def F_X2_placeOf (M : MS) (v : Nat) (a0 : Int32) : Option Int32 := (F_X2_placeOf_l2 v a0 M FU (0 : Int32))

set_option maxHeartbeats 4000000 in
set_option maxRecDepth 100000 in
theorem k_X2_placeOf (l : Launch) (G : GG) (M : MS) (v : Nat) (a0 : Int32) {r : Int32} (hF : F_X2_placeOf M v a0 = some r) (hv : ok 2 v) : KI l yX2_placeOf (WS yX2_placeOf cX2_placeOf 3 (some .int)) (Rm 1) G [.ref (gad G v), .int a0] M r M := by
  intro sz
  refine y_met (by decide +kernel) (Nat.le_of_ble_eq_true rfl) rfl (fun p e s m below meth c ls hsz C0 hM hl => ?_)
  have hl : lv_has ls 3 [(0, .ref (gad G v)), (1, .int a0)] := hl
  have C0 : CX p s m meth c ([.ref (gad G v), .int a0] : List Value).toArray cX2_placeOf RX2 3 (some .int) := C0
  rw [F_X2_placeOf] at hF
  refine lv_iconst (v := (0 : Int32)) C0.1 C0.2.1 dX2_placeOf_0 (by decide) ?_
  refine lv_istore_n (lv' := [(2, .int (0 : Int32)), (0, .ref (gad G v)), (1, .int a0)]) C0.1 C0.2.1 dX2_placeOf_1 rfl hl (by decide) rfl (fun ls hl => ?_)
  have L2 : ∀ (n : Nat) (l2_1 : Int32) (H : Heap) (locs : List Loc) (ls : Array Slot), MX G M s H locs → lv_has ls 3 [(0, .ref (gad G v)), (1, .int a0), (2, .int l2_1)] → F_X2_placeOf_l2 v a0 M n l2_1 = some r → W p l e (Rm 1) s m ([.ref (gad G v), .int a0] : List Value).toArray below meth c H locs 0 0 (QI below ([.ref (gad G v), .int a0] : List Value).toArray s G sz r M) (F0 m 2 ls []) := by
    intro n
    induction n with
    | zero => intro l2_1 H locs ls hM hl hF; rw [F_X2_placeOf_l2] at hF; cases hF
    | succ n2 ih2 =>
      intro l2_1 H locs ls hM hl hF
      rw [F_X2_placeOf_l2] at hF
      refine lv_iload_n C0.1 C0.2.1 dX2_placeOf_2 rfl (lv_at hl 2 rfl) ?_
      refine lv_aload_n C0.1 C0.2.1 dX2_placeOf_3 rfl (lv_at hl 0 rfl) ?_
      refine gf2_1 C0 hM hv fl_RX2_15 dX2_placeOf_4 ?_
      refine lv_icmp_ge (tgt := 27) C0.1 C0.2.1 dX2_placeOf_7 (by decide) (fun c2 => ?_) (fun c2 => ?_)
      · have hF := if_t c2 hF
        refine lv_iconst (v := (-1 : Int32)) C0.1 C0.2.1 dX2_placeOf_27 (by decide) ?_
        have e8 := y_1 hF
        subst e8
        exact y_iret C0 hM hsz dX2_placeOf_28
      · have hF := if_f c2 hF
        refine lv_aload_n C0.1 C0.2.1 dX2_placeOf_10 rfl (lv_at hl 0 rfl) ?_
        refine lv_iload_n C0.1 C0.2.1 dX2_placeOf_11 rfl (lv_at hl 2 rfl) ?_
        obtain ⟨r4, h3, hF⟩ := bd_some hF
        refine y_vi (rest := []) C0 hM hl.1 hv (ent2 hv) rfl (k_X2_numberAt l G M v l2_1 h3 hv) cw_RX2_25 rfl rfl ⟨Nat.le_of_ble_eq_true rfl, Nat.le_of_ble_eq_true rfl⟩ rfl (Nat.le_of_ble_eq_true rfl) ⟨Nat.le_of_ble_eq_true rfl, Nat.le_of_ble_eq_true rfl⟩ dX2_placeOf_12 (fun H locs hM => ?_)
        refine lv_iload_n C0.1 C0.2.1 dX2_placeOf_15 rfl (lv_at hl 1 rfl) ?_
        refine lv_icmp_ne (tgt := 21) C0.1 C0.2.1 dX2_placeOf_16 (by decide) (fun c5 => ?_) (fun c5 => ?_)
        · have hF := if_t c5 hF
          obtain ⟨x6, ex6, hF⟩ := nm_some hF
          refine lv_iinc (v := x6) (lv' := [(2, .int x6), (0, .ref (gad G v)), (1, .int a0)]) C0.1 C0.2.1 dX2_placeOf_21 hl (k := 2) rfl (by rw [ex6]; rfl) (by decide) rfl (fun ls hl => ?_)
          refine lv_goto (tgt := 2) C0.1 C0.2.1 dX2_placeOf_24 (by decide) ?_
          exact ih2 x6 _ _ _ hM (lv_sub hl [1, 2, 0] rfl) hF
        · have hF := if_f (fun q => q c5) hF
          refine lv_iload_n C0.1 C0.2.1 dX2_placeOf_19 rfl (lv_at hl 2 rfl) ?_
          have e8 := y_1 hF
          subst e8
          exact y_iret C0 hM hsz dX2_placeOf_20
  exact L2 FU (0 : Int32) _ _ _ hM (lv_sub hl [1, 2, 0] rfl) hF

def F_X2_insert_l30 (v : Nat) (a0 : Int32) (a1 : Int32) : Nat → Int32 → MS → Option MS
  | 0, _, _ => none
  | n30 + 1, l3_5, M6 => (if l3_5 ≤ a1 then (gdb (inb a1 10) (nm (wA M6 (v + 1) (Int32.toNatClampNeg a1) a0) fun M9 => (nm (wF M9 33 v ((rF M9 33 v) + (1 : Int32))) fun M10 => (some M10)))) else (gdb (inb (l3_5 - (1 : Int32)) 10) (gdb (inb l3_5 10) (nm (wA M6 (v + 1) (Int32.toNatClampNeg l3_5) (rA M6 (v + 1) (Int32.toNatClampNeg (l3_5 - (1 : Int32))))) fun M13 => (nm (l3_5 + (-1 : Int32)) fun x14 => (F_X2_insert_l30 v a0 a1 n30 x14 M13))))))

def F_X2_insert (M : MS) (v : Nat) (a0 : Int32) (a1 : Int32) : Option MS := (if a1 < 0 then (some M) else (if (rF M 33 v) < a1 then (some M) else (if (rF M 33 v) < (10 : Int32) then (nm (rF M 33 v) fun x4 => (F_X2_insert_l30 v a0 a1 FU x4 M)) else (some M))))

set_option maxHeartbeats 4000000 in
set_option maxRecDepth 100000 in
theorem k_X2_insert (l : Launch) (G : GG) (M : MS) (v : Nat) (a0 : Int32) (a1 : Int32) {Mf : MS} (hF : F_X2_insert M v a0 a1 = some Mf) (hv : ok 2 v) : KV l yX2_insert (WS yX2_insert cX2_insert 4 none) (Rm 0) G [.ref (gad G v), .int a0, .int a1] M Mf := by
  intro sz
  refine y_met (by decide +kernel) (Nat.le_of_ble_eq_true rfl) rfl (fun p e s m below meth c ls hsz C0 hM hl => ?_)
  have hl : lv_has ls 4 [(0, .ref (gad G v)), (1, .int a0), (2, .int a1)] := hl
  have C0 : CX p s m meth c ([.ref (gad G v), .int a0, .int a1] : List Value).toArray cX2_insert RX2 4 none := C0
  rw [F_X2_insert] at hF
  refine lv_iload_n C0.1 C0.2.1 dX2_insert_0 rfl (lv_at hl 2 rfl) ?_
  refine lv_if_lt (tgt := 24) C0.1 C0.2.1 dX2_insert_1 (by decide) (fun c1 => ?_) (fun c1 => ?_)
  · have hF := if_t c1 hF
    have e9 := y_1 hF
    subst e9
    exact y_vret C0 hM hsz dX2_insert_24
  · have hF := if_f c1 hF
    refine lv_iload_n C0.1 C0.2.1 dX2_insert_4 rfl (lv_at hl 2 rfl) ?_
    refine lv_aload_n C0.1 C0.2.1 dX2_insert_5 rfl (lv_at hl 0 rfl) ?_
    refine gf2_1 C0 hM hv fl_RX2_15 dX2_insert_6 ?_
    refine lv_icmp_gt (tgt := 24) C0.1 C0.2.1 dX2_insert_9 (by decide) (fun c2 => ?_) (fun c2 => ?_)
    · have hF := if_t c2 hF
      have e9 := y_1 hF
      subst e9
      exact y_vret C0 hM hsz dX2_insert_24
    · have hF := if_f c2 hF
      refine lv_aload_n C0.1 C0.2.1 dX2_insert_12 rfl (lv_at hl 0 rfl) ?_
      refine gf2_1 C0 hM hv fl_RX2_15 dX2_insert_13 ?_
      refine lv_aload_n C0.1 C0.2.1 dX2_insert_16 rfl (lv_at hl 0 rfl) ?_
      refine gf2_0 C0 hM hv fl_RX2_9 dX2_insert_17 ?_
      refine y_alen (x := (10 : Int32)) C0 hM (oka_numbers hv) rfl dX2_insert_20 ?_
      refine lv_icmp_lt (tgt := 25) C0.1 C0.2.1 dX2_insert_21 (by decide) (fun c3 => ?_) (fun c3 => ?_)
      · have hF := if_t c3 hF
        refine lv_aload_n C0.1 C0.2.1 dX2_insert_25 rfl (lv_at hl 0 rfl) ?_
        refine gf2_1 C0 hM hv fl_RX2_15 dX2_insert_26 ?_
        obtain ⟨x4, ex4, hF⟩ := nm_some hF
        refine y_topi ex4 ?_
        refine lv_istore_n (lv' := [(3, .int x4), (0, .ref (gad G v)), (1, .int a0), (2, .int a1)]) C0.1 C0.2.1 dX2_insert_29 rfl hl (by decide) rfl (fun ls hl => ?_)
        have L30 : ∀ (n : Nat) (l3_5 : Int32) (M6 : MS) (H : Heap) (locs : List Loc) (ls : Array Slot), MX G M6 s H locs → lv_has ls 4 [(0, .ref (gad G v)), (1, .int a0), (2, .int a1), (3, .int l3_5)] → F_X2_insert_l30 v a0 a1 n l3_5 M6 = some Mf → W p l e (Rm 0) s m ([.ref (gad G v), .int a0, .int a1] : List Value).toArray below meth c H locs 0 0 (QV below ([.ref (gad G v), .int a0, .int a1] : List Value).toArray s G sz Mf) (F0 m 30 ls []) := by
          intro n
          induction n with
          | zero => intro l3_5 M6 H locs ls hM hl hF; rw [F_X2_insert_l30] at hF; cases hF
          | succ n30 ih30 =>
            intro l3_5 M6 H locs ls hM hl hF
            rw [F_X2_insert_l30] at hF
            refine lv_iload_n C0.1 C0.2.1 dX2_insert_30 rfl (lv_at hl 3 rfl) ?_
            refine lv_iload_n C0.1 C0.2.1 dX2_insert_31 rfl (lv_at hl 2 rfl) ?_
            refine lv_icmp_le (tgt := 55) C0.1 C0.2.1 dX2_insert_32 (by decide) (fun c7 => ?_) (fun c7 => ?_)
            · have hF := if_t c7 hF
              refine lv_aload_n C0.1 C0.2.1 dX2_insert_55 rfl (lv_at hl 0 rfl) ?_
              refine gf2_0 C0 hM hv fl_RX2_9 dX2_insert_56 ?_
              refine lv_iload_n C0.1 C0.2.1 dX2_insert_59 rfl (lv_at hl 2 rfl) ?_
              refine lv_iload_n C0.1 C0.2.1 dX2_insert_60 rfl (lv_at hl 1 rfl) ?_
              obtain ⟨g8, hF⟩ := gdb_some hF
              refine y_iast C0 hM (oka_numbers hv) g8 dX2_insert_61 (fun H locs hM => ?_)
              obtain ⟨M9, eM9, hF⟩ := nm_some hF
              have hM := y_mn eM9 hM
              refine lv_aload_n C0.1 C0.2.1 dX2_insert_62 rfl (lv_at hl 0 rfl) ?_
              refine lv_dup C0.1 C0.2.1 dX2_insert_63 rfl ?_
              refine gf2_1 C0 hM hv fl_RX2_15 dX2_insert_64 ?_
              refine lv_iconst (v := (1 : Int32)) C0.1 C0.2.1 dX2_insert_67 (by decide) ?_
              refine lv_iadd C0.1 C0.2.1 dX2_insert_68 ?_
              refine pf2_1 C0 hM hv fl_RX2_15 dX2_insert_69 (fun H locs hM => ?_)
              obtain ⟨M10, eM10, hF⟩ := nm_some hF
              have hM := y_mn eM10 hM
              have e9 := y_1 hF
              subst e9
              exact y_vret C0 hM hsz dX2_insert_72
            · have hF := if_f c7 hF
              refine lv_aload_n C0.1 C0.2.1 dX2_insert_35 rfl (lv_at hl 0 rfl) ?_
              refine gf2_0 C0 hM hv fl_RX2_9 dX2_insert_36 ?_
              refine lv_iload_n C0.1 C0.2.1 dX2_insert_39 rfl (lv_at hl 3 rfl) ?_
              refine lv_aload_n C0.1 C0.2.1 dX2_insert_40 rfl (lv_at hl 0 rfl) ?_
              refine gf2_0 C0 hM hv fl_RX2_9 dX2_insert_41 ?_
              refine lv_iload_n C0.1 C0.2.1 dX2_insert_44 rfl (lv_at hl 3 rfl) ?_
              refine lv_iconst (v := (1 : Int32)) C0.1 C0.2.1 dX2_insert_45 (by decide) ?_
              refine lv_isub C0.1 C0.2.1 dX2_insert_46 ?_
              obtain ⟨g11, hF⟩ := gdb_some hF
              refine y_iald C0 hM (oka_numbers hv) g11 dX2_insert_47 ?_
              obtain ⟨g12, hF⟩ := gdb_some hF
              refine y_iast C0 hM (oka_numbers hv) g12 dX2_insert_48 (fun H locs hM => ?_)
              obtain ⟨M13, eM13, hF⟩ := nm_some hF
              have hM := y_mn eM13 hM
              obtain ⟨x14, ex14, hF⟩ := nm_some hF
              refine lv_iinc (v := x14) (lv' := [(3, .int x14), (0, .ref (gad G v)), (1, .int a0), (2, .int a1)]) C0.1 C0.2.1 dX2_insert_49 hl (k := 3) rfl (by rw [ex14]; rfl) (by decide) rfl (fun ls hl => ?_)
              refine lv_goto (tgt := 30) C0.1 C0.2.1 dX2_insert_52 (by decide) ?_
              exact ih30 x14 M13 _ _ _ hM (lv_sub hl [1, 2, 3, 0] rfl) hF
        exact L30 FU x4 M _ _ _ hM (lv_sub hl [1, 2, 3, 0] rfl) hF
      · have hF := if_f c3 hF
        have e9 := y_1 hF
        subst e9
        exact y_vret C0 hM hsz dX2_insert_24

def F_X2_takeOut_l4 (v : Nat) (a0 : Int32) : Nat → Int32 → Int32 → MS → Option MS
  | 0, _, _, _ => none
  | n4 + 1, l2_1, l3_2, M3 => (nm (nm (wF M3 33 v l2_1) fun M5 => (some M5)) fun j52_3 => (if (rF M3 33 v) ≤ l3_2 then j52_3 else (if (10 : Int32) ≤ l3_2 then j52_3 else (gdb (inb l3_2 10) (if (rA M3 (v + 1) (Int32.toNatClampNeg l3_2)) = a0 then (nm (l3_2 + (1 : Int32)) fun x10 => (F_X2_takeOut_l4 v a0 n4 l2_1 x10 M3)) else (gdb (inb l3_2 10) (gdb (inb l2_1 10) (nm (wA M3 (v + 1) (Int32.toNatClampNeg l2_1) (rA M3 (v + 1) (Int32.toNatClampNeg l3_2))) fun M13 => (nm (l2_1 + (1 : Int32)) fun x14 => (nm (l3_2 + (1 : Int32)) fun x15 => (F_X2_takeOut_l4 v a0 n4 x14 x15 M13)))))))))))

def F_X2_takeOut (M : MS) (v : Nat) (a0 : Int32) : Option MS := (F_X2_takeOut_l4 v a0 FU (0 : Int32) (0 : Int32) M)

set_option maxHeartbeats 4000000 in
set_option maxRecDepth 100000 in
theorem k_X2_takeOut (l : Launch) (G : GG) (M : MS) (v : Nat) (a0 : Int32) {Mf : MS} (hF : F_X2_takeOut M v a0 = some Mf) (hv : ok 2 v) : KV l yX2_takeOut (WS yX2_takeOut cX2_takeOut 4 none) (Rm 0) G [.ref (gad G v), .int a0] M Mf := by
  intro sz
  refine y_met (by decide +kernel) (Nat.le_of_ble_eq_true rfl) rfl (fun p e s m below meth c ls hsz C0 hM hl => ?_)
  have hl : lv_has ls 4 [(0, .ref (gad G v)), (1, .int a0)] := hl
  have C0 : CX p s m meth c ([.ref (gad G v), .int a0] : List Value).toArray cX2_takeOut RX2 4 none := C0
  rw [F_X2_takeOut] at hF
  refine lv_iconst (v := (0 : Int32)) C0.1 C0.2.1 dX2_takeOut_0 (by decide) ?_
  refine lv_istore_n (lv' := [(2, .int (0 : Int32)), (0, .ref (gad G v)), (1, .int a0)]) C0.1 C0.2.1 dX2_takeOut_1 rfl hl (by decide) rfl (fun ls hl => ?_)
  refine lv_iconst (v := (0 : Int32)) C0.1 C0.2.1 dX2_takeOut_2 (by decide) ?_
  refine lv_istore_n (lv' := [(3, .int (0 : Int32)), (2, .int (0 : Int32)), (0, .ref (gad G v)), (1, .int a0)]) C0.1 C0.2.1 dX2_takeOut_3 rfl hl (by decide) rfl (fun ls hl => ?_)
  have L4 : ∀ (n : Nat) (l2_1 : Int32) (l3_2 : Int32) (M3 : MS) (H : Heap) (locs : List Loc) (ls : Array Slot), MX G M3 s H locs → lv_has ls 4 [(0, .ref (gad G v)), (1, .int a0), (2, .int l2_1), (3, .int l3_2)] → F_X2_takeOut_l4 v a0 n l2_1 l3_2 M3 = some Mf → W p l e (Rm 0) s m ([.ref (gad G v), .int a0] : List Value).toArray below meth c H locs 0 0 (QV below ([.ref (gad G v), .int a0] : List Value).toArray s G sz Mf) (F0 m 4 ls []) := by
    intro n
    induction n with
    | zero => intro l2_1 l3_2 M3 H locs ls hM hl hF; rw [F_X2_takeOut_l4] at hF; cases hF
    | succ n4 ih4 =>
      intro l2_1 l3_2 M3 H locs ls hM hl hF
      rw [F_X2_takeOut_l4] at hF
      refine lv_iload_n C0.1 C0.2.1 dX2_takeOut_4 rfl (lv_at hl 3 rfl) ?_
      refine lv_aload_n C0.1 C0.2.1 dX2_takeOut_5 rfl (lv_at hl 0 rfl) ?_
      refine gf2_1 C0 hM hv fl_RX2_15 dX2_takeOut_6 ?_
      obtain ⟨j52_3, ej52_3, hF⟩ := nm_some hF
      have J52 : ∀ (H : Heap) (locs : List Loc) (ls : Array Slot), MX G M3 s H locs → lv_has ls 4 [(0, .ref (gad G v)), (1, .int a0), (2, .int l2_1), (3, .int l3_2)] → j52_3 = some Mf → W p l e (Rm 0) s m ([.ref (gad G v), .int a0] : List Value).toArray below meth c H locs 0 0 (QV below ([.ref (gad G v), .int a0] : List Value).toArray s G sz Mf) (F0 m 52 ls []) := by
        intro H locs ls hM hl hF
        rw [ej52_3] at hF
        refine lv_aload_n C0.1 C0.2.1 dX2_takeOut_52 rfl (lv_at hl 0 rfl) ?_
        refine lv_iload_n C0.1 C0.2.1 dX2_takeOut_53 rfl (lv_at hl 2 rfl) ?_
        refine pf2_1 C0 hM hv fl_RX2_15 dX2_takeOut_54 (fun H locs hM => ?_)
        obtain ⟨M5, eM5, hF⟩ := nm_some hF
        have hM := y_mn eM5 hM
        have e9 := y_1 hF
        subst e9
        exact y_vret C0 hM hsz dX2_takeOut_57
      refine lv_icmp_ge (tgt := 52) C0.1 C0.2.1 dX2_takeOut_9 (by decide) (fun c6 => ?_) (fun c6 => ?_)
      · have hF := if_t c6 hF
        exact J52  _ _ _ hM (lv_sub hl [0, 1, 2, 3] rfl) hF
      · have hF := if_f c6 hF
        refine lv_iload_n C0.1 C0.2.1 dX2_takeOut_12 rfl (lv_at hl 3 rfl) ?_
        refine lv_aload_n C0.1 C0.2.1 dX2_takeOut_13 rfl (lv_at hl 0 rfl) ?_
        refine gf2_0 C0 hM hv fl_RX2_9 dX2_takeOut_14 ?_
        refine y_alen (x := (10 : Int32)) C0 hM (oka_numbers hv) rfl dX2_takeOut_17 ?_
        refine lv_icmp_ge (tgt := 52) C0.1 C0.2.1 dX2_takeOut_18 (by decide) (fun c7 => ?_) (fun c7 => ?_)
        · have hF := if_t c7 hF
          exact J52  _ _ _ hM (lv_sub hl [0, 1, 2, 3] rfl) hF
        · have hF := if_f c7 hF
          refine lv_aload_n C0.1 C0.2.1 dX2_takeOut_21 rfl (lv_at hl 0 rfl) ?_
          refine gf2_0 C0 hM hv fl_RX2_9 dX2_takeOut_22 ?_
          refine lv_iload_n C0.1 C0.2.1 dX2_takeOut_25 rfl (lv_at hl 3 rfl) ?_
          obtain ⟨g8, hF⟩ := gdb_some hF
          refine y_iald C0 hM (oka_numbers hv) g8 dX2_takeOut_26 ?_
          refine lv_iload_n C0.1 C0.2.1 dX2_takeOut_27 rfl (lv_at hl 1 rfl) ?_
          refine lv_icmp_eq (tgt := 46) C0.1 C0.2.1 dX2_takeOut_28 (by decide) (fun c9 => ?_) (fun c9 => ?_)
          · have hF := if_t c9 hF
            obtain ⟨x10, ex10, hF⟩ := nm_some hF
            refine lv_iinc (v := x10) (lv' := [(3, .int x10), (0, .ref (gad G v)), (1, .int a0), (2, .int l2_1)]) C0.1 C0.2.1 dX2_takeOut_46 hl (k := 3) rfl (by rw [ex10]; rfl) (by decide) rfl (fun ls hl => ?_)
            refine lv_goto (tgt := 4) C0.1 C0.2.1 dX2_takeOut_49 (by decide) ?_
            exact ih4 l2_1 x10 M3 _ _ _ hM (lv_sub hl [1, 2, 3, 0] rfl) hF
          · have hF := if_f c9 hF
            refine lv_aload_n C0.1 C0.2.1 dX2_takeOut_31 rfl (lv_at hl 0 rfl) ?_
            refine gf2_0 C0 hM hv fl_RX2_9 dX2_takeOut_32 ?_
            refine lv_iload_n C0.1 C0.2.1 dX2_takeOut_35 rfl (lv_at hl 2 rfl) ?_
            refine lv_aload_n C0.1 C0.2.1 dX2_takeOut_36 rfl (lv_at hl 0 rfl) ?_
            refine gf2_0 C0 hM hv fl_RX2_9 dX2_takeOut_37 ?_
            refine lv_iload_n C0.1 C0.2.1 dX2_takeOut_40 rfl (lv_at hl 3 rfl) ?_
            obtain ⟨g11, hF⟩ := gdb_some hF
            refine y_iald C0 hM (oka_numbers hv) g11 dX2_takeOut_41 ?_
            obtain ⟨g12, hF⟩ := gdb_some hF
            refine y_iast C0 hM (oka_numbers hv) g12 dX2_takeOut_42 (fun H locs hM => ?_)
            obtain ⟨M13, eM13, hF⟩ := nm_some hF
            have hM := y_mn eM13 hM
            obtain ⟨x14, ex14, hF⟩ := nm_some hF
            refine lv_iinc (v := x14) (lv' := [(2, .int x14), (0, .ref (gad G v)), (1, .int a0), (3, .int l3_2)]) C0.1 C0.2.1 dX2_takeOut_43 hl (k := 2) rfl (by rw [ex14]; rfl) (by decide) rfl (fun ls hl => ?_)
            obtain ⟨x15, ex15, hF⟩ := nm_some hF
            refine lv_iinc (v := x15) (lv' := [(3, .int x15), (2, .int x14), (0, .ref (gad G v)), (1, .int a0)]) C0.1 C0.2.1 dX2_takeOut_46 hl (k := 3) rfl (by rw [ex15]; rfl) (by decide) rfl (fun ls hl => ?_)
            refine lv_goto (tgt := 4) C0.1 C0.2.1 dX2_takeOut_49 (by decide) ?_
            exact ih4 x14 x15 M13 _ _ _ hM (lv_sub hl [2, 3, 1, 0] rfl) hF
  exact L4 FU (0 : Int32) (0 : Int32) M _ _ _ hM (lv_sub hl [2, 3, 1, 0] rfl) hF

def F_X2_moveAheadOf (M : MS) (v : Nat) (a0 : Int32) (a1 : Int32) : Option MS := (bd (F_X2_takeOut M v a0) fun M2 => (bd (F_X2_placeOf M2 v a1) fun r4 => (bd (F_X2_insert M2 v a0 r4) fun M6 => (some M6))))

set_option maxHeartbeats 4000000 in
set_option maxRecDepth 100000 in
theorem k_X2_moveAheadOf (l : Launch) (G : GG) (M : MS) (v : Nat) (a0 : Int32) (a1 : Int32) {Mf : MS} (hF : F_X2_moveAheadOf M v a0 a1 = some Mf) (hv : ok 2 v) : KV l yX2_moveAheadOf (WS yX2_moveAheadOf cX2_moveAheadOf 3 none) (Rm 2) G [.ref (gad G v), .int a0, .int a1] M Mf := by
  intro sz
  refine y_met (by decide +kernel) (Nat.le_of_ble_eq_true rfl) rfl (fun p e s m below meth c ls hsz C0 hM hl => ?_)
  have hl : lv_has ls 3 [(0, .ref (gad G v)), (1, .int a0), (2, .int a1)] := hl
  have C0 : CX p s m meth c ([.ref (gad G v), .int a0, .int a1] : List Value).toArray cX2_moveAheadOf RX2 3 none := C0
  rw [F_X2_moveAheadOf] at hF
  refine lv_aload_n C0.1 C0.2.1 dX2_moveAheadOf_0 rfl (lv_at hl 0 rfl) ?_
  refine lv_iload_n C0.1 C0.2.1 dX2_moveAheadOf_1 rfl (lv_at hl 1 rfl) ?_
  obtain ⟨M2, h1, hF⟩ := bd_some hF
  refine y_vv (rest := []) C0 hM hl.1 hv (ent2 hv) rfl (k_X2_takeOut l G M v a0 h1 hv) cw_RX2_29 rfl rfl ⟨Nat.le_of_ble_eq_true rfl, Nat.le_of_ble_eq_true rfl⟩ rfl (Nat.le_of_ble_eq_true rfl) ⟨Nat.le_of_ble_eq_true rfl, Nat.le_of_ble_eq_true rfl⟩ dX2_moveAheadOf_2 (fun H locs hM => ?_)
  refine lv_aload_n C0.1 C0.2.1 dX2_moveAheadOf_5 rfl (lv_at hl 0 rfl) ?_
  refine lv_iload_n C0.1 C0.2.1 dX2_moveAheadOf_6 rfl (lv_at hl 1 rfl) ?_
  refine lv_aload_n C0.1 C0.2.1 dX2_moveAheadOf_7 rfl (lv_at hl 0 rfl) ?_
  refine lv_iload_n C0.1 C0.2.1 dX2_moveAheadOf_8 rfl (lv_at hl 2 rfl) ?_
  obtain ⟨r4, h3, hF⟩ := bd_some hF
  refine y_vi (rest := [.int a0, .ref (gad G v)]) C0 hM hl.1 hv (ent2 hv) rfl (k_X2_placeOf l G M2 v a1 h3 hv) cw_RX2_33 rfl rfl ⟨Nat.le_of_ble_eq_true rfl, Nat.le_of_ble_eq_true rfl⟩ rfl (Nat.le_of_ble_eq_true rfl) ⟨Nat.le_of_ble_eq_true rfl, Nat.le_of_ble_eq_true rfl⟩ dX2_moveAheadOf_9 (fun H locs hM => ?_)
  obtain ⟨M6, h5, hF⟩ := bd_some hF
  refine y_vv (rest := []) C0 hM hl.1 hv (ent2 hv) rfl (k_X2_insert l G M2 v a0 r4 h5 hv) cw_RX2_36 rfl rfl ⟨Nat.le_of_ble_eq_true rfl, Nat.le_of_ble_eq_true rfl⟩ rfl (Nat.le_of_ble_eq_true rfl) ⟨Nat.le_of_ble_eq_true rfl, Nat.le_of_ble_eq_true rfl⟩ dX2_moveAheadOf_12 (fun H locs hM => ?_)
  have e9 := y_1 hF
  subst e9
  exact y_vret C0 hM hsz dX2_moveAheadOf_15

def F_X2_moveBehind (M : MS) (v : Nat) (a0 : Int32) (a1 : Int32) : Option MS := (bd (F_X2_takeOut M v a0) fun M2 => (bd (F_X2_placeOf M2 v a1) fun r4 => (bd (F_X2_insert M2 v a0 (r4 + (1 : Int32))) fun M6 => (some M6))))

set_option maxHeartbeats 4000000 in
set_option maxRecDepth 100000 in
theorem k_X2_moveBehind (l : Launch) (G : GG) (M : MS) (v : Nat) (a0 : Int32) (a1 : Int32) {Mf : MS} (hF : F_X2_moveBehind M v a0 a1 = some Mf) (hv : ok 2 v) : KV l yX2_moveBehind (WS yX2_moveBehind cX2_moveBehind 3 none) (Rm 2) G [.ref (gad G v), .int a0, .int a1] M Mf := by
  intro sz
  refine y_met (by decide +kernel) (Nat.le_of_ble_eq_true rfl) rfl (fun p e s m below meth c ls hsz C0 hM hl => ?_)
  have hl : lv_has ls 3 [(0, .ref (gad G v)), (1, .int a0), (2, .int a1)] := hl
  have C0 : CX p s m meth c ([.ref (gad G v), .int a0, .int a1] : List Value).toArray cX2_moveBehind RX2 3 none := C0
  rw [F_X2_moveBehind] at hF
  refine lv_aload_n C0.1 C0.2.1 dX2_moveBehind_0 rfl (lv_at hl 0 rfl) ?_
  refine lv_iload_n C0.1 C0.2.1 dX2_moveBehind_1 rfl (lv_at hl 1 rfl) ?_
  obtain ⟨M2, h1, hF⟩ := bd_some hF
  refine y_vv (rest := []) C0 hM hl.1 hv (ent2 hv) rfl (k_X2_takeOut l G M v a0 h1 hv) cw_RX2_29 rfl rfl ⟨Nat.le_of_ble_eq_true rfl, Nat.le_of_ble_eq_true rfl⟩ rfl (Nat.le_of_ble_eq_true rfl) ⟨Nat.le_of_ble_eq_true rfl, Nat.le_of_ble_eq_true rfl⟩ dX2_moveBehind_2 (fun H locs hM => ?_)
  refine lv_aload_n C0.1 C0.2.1 dX2_moveBehind_5 rfl (lv_at hl 0 rfl) ?_
  refine lv_iload_n C0.1 C0.2.1 dX2_moveBehind_6 rfl (lv_at hl 1 rfl) ?_
  refine lv_aload_n C0.1 C0.2.1 dX2_moveBehind_7 rfl (lv_at hl 0 rfl) ?_
  refine lv_iload_n C0.1 C0.2.1 dX2_moveBehind_8 rfl (lv_at hl 2 rfl) ?_
  obtain ⟨r4, h3, hF⟩ := bd_some hF
  refine y_vi (rest := [.int a0, .ref (gad G v)]) C0 hM hl.1 hv (ent2 hv) rfl (k_X2_placeOf l G M2 v a1 h3 hv) cw_RX2_33 rfl rfl ⟨Nat.le_of_ble_eq_true rfl, Nat.le_of_ble_eq_true rfl⟩ rfl (Nat.le_of_ble_eq_true rfl) ⟨Nat.le_of_ble_eq_true rfl, Nat.le_of_ble_eq_true rfl⟩ dX2_moveBehind_9 (fun H locs hM => ?_)
  refine lv_iconst (v := (1 : Int32)) C0.1 C0.2.1 dX2_moveBehind_12 (by decide) ?_
  refine lv_iadd C0.1 C0.2.1 dX2_moveBehind_13 ?_
  obtain ⟨M6, h5, hF⟩ := bd_some hF
  refine y_vv (rest := []) C0 hM hl.1 hv (ent2 hv) rfl (k_X2_insert l G M2 v a0 (r4 + (1 : Int32)) h5 hv) cw_RX2_36 rfl rfl ⟨Nat.le_of_ble_eq_true rfl, Nat.le_of_ble_eq_true rfl⟩ rfl (Nat.le_of_ble_eq_true rfl) ⟨Nat.le_of_ble_eq_true rfl, Nat.le_of_ble_eq_true rfl⟩ dX2_moveBehind_14 (fun H locs hM => ?_)
  have e9 := y_1 hF
  subst e9
  exact y_vret C0 hM hsz dX2_moveBehind_17
