def F_X3_copyFrom_l10 (v : Nat) (w0 : Nat) : Nat → Int32 → MS → Option MS
  | 0, _, _ => none
  | n10 + 1, l2_2, M3 => (nm (bd (F_X2_copyFrom M3 (v + 2) (w0 + 2)) fun M6 => (nm (wF M6 53 v (rF M6 53 w0)) fun M7 => (nm (wF M7 54 v (rF M7 54 w0)) fun M8 => (nm (wF M8 55 v (rF M8 55 w0)) fun M9 => (nm (wF M9 56 v (rF M9 56 w0)) fun M10 => (nm (wF M10 57 v (rF M10 57 w0)) fun M11 => (some M11))))))) fun j48_3 => (if (rF M3 52 v) ≤ l2_2 then j48_3 else (if (10 : Int32) ≤ l2_2 then j48_3 else (gdb (inb l2_2 10) (gdb (inb l2_2 10) (bd (F_X0_copyFrom M3 ((v + 1) + 4 + Int32.toNatClampNeg l2_2) ((w0 + 1) + 4 + Int32.toNatClampNeg l2_2)) fun M17 => (nm (l2_2 + (1 : Int32)) fun x18 => (F_X3_copyFrom_l10 v w0 n10 x18 M17))))))))

def F_X3_copyFrom (M : MS) (v : Nat) (w0 : Nat) : Option MS := (nm (wF M 52 v (rF M 52 w0)) fun M1 => (F_X3_copyFrom_l10 v w0 FU (0 : Int32) M1))

set_option maxHeartbeats 4000000 in
set_option maxRecDepth 100000 in
theorem k_X3_copyFrom (l : Launch) (G : GG) (M : MS) (v : Nat) (w0 : Nat) {Mf : MS} (hF : F_X3_copyFrom M v w0 = some Mf) (hv : ok 3 v) (hw0 : ok 3 w0) : KV l yX3_copyFrom (WS yX3_copyFrom cX3_copyFrom 3 none) (Rm 2) G [.ref (gad G v), .ref (gad G w0)] M Mf := by
  intro sz
  refine y_met (by decide +kernel) (Nat.le_of_ble_eq_true rfl) rfl (fun p e s m below meth c ls hsz C0 hM hl => ?_)
  have hl : lv_has ls 3 [(0, .ref (gad G v)), (1, .ref (gad G w0))] := hl
  have C0 : CX p s m meth c ([.ref (gad G v), .ref (gad G w0)] : List Value).toArray cX3_copyFrom RX3 3 none := C0
  rw [F_X3_copyFrom] at hF
  refine lv_aload_n C0.1 C0.2.1 dX3_copyFrom_0 rfl (lv_at hl 0 rfl) ?_
  refine lv_aload_n C0.1 C0.2.1 dX3_copyFrom_1 rfl (lv_at hl 1 rfl) ?_
  refine gf3_4 C0 hM hw0 fl_RX3_33 dX3_copyFrom_2 ?_
  refine pf3_4 C0 hM hv fl_RX3_33 dX3_copyFrom_5 (fun H locs hM => ?_)
  obtain ⟨M1, eM1, hF⟩ := nm_some hF
  have hM := y_mn eM1 hM
  refine lv_iconst (v := (0 : Int32)) C0.1 C0.2.1 dX3_copyFrom_8 (by decide) ?_
  refine lv_istore_n (lv' := [(2, .int (0 : Int32)), (0, .ref (gad G v)), (1, .ref (gad G w0))]) C0.1 C0.2.1 dX3_copyFrom_9 rfl hl (by decide) rfl (fun ls hl => ?_)
  have L10 : ∀ (n : Nat) (l2_2 : Int32) (M3 : MS) (H : Heap) (locs : List Loc) (ls : Array Slot), MX G M3 s H locs → lv_has ls 3 [(0, .ref (gad G v)), (1, .ref (gad G w0)), (2, .int l2_2)] → F_X3_copyFrom_l10 v w0 n l2_2 M3 = some Mf → W p l e (Rm 2) s m ([.ref (gad G v), .ref (gad G w0)] : List Value).toArray below meth c H locs 0 0 (QV below ([.ref (gad G v), .ref (gad G w0)] : List Value).toArray s G sz Mf) (F0 m 10 ls []) := by
    intro n
    induction n with
    | zero => intro l2_2 M3 H locs ls hM hl hF; rw [F_X3_copyFrom_l10] at hF; cases hF
    | succ n10 ih10 =>
      intro l2_2 M3 H locs ls hM hl hF
      rw [F_X3_copyFrom_l10] at hF
      refine lv_iload_n C0.1 C0.2.1 dX3_copyFrom_10 rfl (lv_at hl 2 rfl) ?_
      refine lv_aload_n C0.1 C0.2.1 dX3_copyFrom_11 rfl (lv_at hl 0 rfl) ?_
      refine gf3_4 C0 hM hv fl_RX3_33 dX3_copyFrom_12 ?_
      obtain ⟨j48_3, ej48_3, hF⟩ := nm_some hF
      have J48 : ∀ (H : Heap) (locs : List Loc) (ls : Array Slot), MX G M3 s H locs → lv_has ls 3 [(0, .ref (gad G v)), (1, .ref (gad G w0)), (2, .int l2_2)] → j48_3 = some Mf → W p l e (Rm 2) s m ([.ref (gad G v), .ref (gad G w0)] : List Value).toArray below meth c H locs 0 0 (QV below ([.ref (gad G v), .ref (gad G w0)] : List Value).toArray s G sz Mf) (F0 m 48 ls []) := by
        intro H locs ls hM hl hF
        rw [ej48_3] at hF
        refine lv_aload_n C0.1 C0.2.1 dX3_copyFrom_48 rfl (lv_at hl 0 rfl) ?_
        refine gf3_2 C0 hM hv fl_RX3_25 dX3_copyFrom_49 ?_
        refine lv_aload_n C0.1 C0.2.1 dX3_copyFrom_52 rfl (lv_at hl 1 rfl) ?_
        refine gf3_2 C0 hM hw0 fl_RX3_25 dX3_copyFrom_53 ?_
        obtain ⟨M6, h5, hF⟩ := bd_some hF
        refine y_vv (rest := []) C0 hM hl.1 (ok_row hv) (ent2 (ok_row hv)) rfl (k_X2_copyFrom l G M3 (v + 2) (w0 + 2) h5 (ok_row hv) (ok_row hw0)) cw_RX3_56 rfl rfl ⟨Nat.le_of_ble_eq_true rfl, Nat.le_of_ble_eq_true rfl⟩ rfl (Nat.le_of_ble_eq_true rfl) ⟨Nat.le_of_ble_eq_true rfl, Nat.le_of_ble_eq_true rfl⟩ dX3_copyFrom_56 (fun H locs hM => ?_)
        refine lv_aload_n C0.1 C0.2.1 dX3_copyFrom_59 rfl (lv_at hl 0 rfl) ?_
        refine lv_aload_n C0.1 C0.2.1 dX3_copyFrom_60 rfl (lv_at hl 1 rfl) ?_
        refine gf3_5 C0 hM hw0 fl_RX3_37 dX3_copyFrom_61 ?_
        refine pf3_5 C0 hM hv fl_RX3_37 dX3_copyFrom_64 (fun H locs hM => ?_)
        obtain ⟨M7, eM7, hF⟩ := nm_some hF
        have hM := y_mn eM7 hM
        refine lv_aload_n C0.1 C0.2.1 dX3_copyFrom_67 rfl (lv_at hl 0 rfl) ?_
        refine lv_aload_n C0.1 C0.2.1 dX3_copyFrom_68 rfl (lv_at hl 1 rfl) ?_
        refine gf3_6 C0 hM hw0 fl_RX3_40 dX3_copyFrom_69 ?_
        refine pf3_6 C0 hM hv fl_RX3_40 dX3_copyFrom_72 (fun H locs hM => ?_)
        obtain ⟨M8, eM8, hF⟩ := nm_some hF
        have hM := y_mn eM8 hM
        refine lv_aload_n C0.1 C0.2.1 dX3_copyFrom_75 rfl (lv_at hl 0 rfl) ?_
        refine lv_aload_n C0.1 C0.2.1 dX3_copyFrom_76 rfl (lv_at hl 1 rfl) ?_
        refine gf3_7 C0 hM hw0 fl_RX3_43 dX3_copyFrom_77 ?_
        refine pf3_7 C0 hM hv fl_RX3_43 dX3_copyFrom_80 (fun H locs hM => ?_)
        obtain ⟨M9, eM9, hF⟩ := nm_some hF
        have hM := y_mn eM9 hM
        refine lv_aload_n C0.1 C0.2.1 dX3_copyFrom_83 rfl (lv_at hl 0 rfl) ?_
        refine lv_aload_n C0.1 C0.2.1 dX3_copyFrom_84 rfl (lv_at hl 1 rfl) ?_
        refine gf3_8 C0 hM hw0 fl_RX3_46 dX3_copyFrom_85 ?_
        refine pf3_8 C0 hM hv fl_RX3_46 dX3_copyFrom_88 (fun H locs hM => ?_)
        obtain ⟨M10, eM10, hF⟩ := nm_some hF
        have hM := y_mn eM10 hM
        refine lv_aload_n C0.1 C0.2.1 dX3_copyFrom_91 rfl (lv_at hl 0 rfl) ?_
        refine lv_aload_n C0.1 C0.2.1 dX3_copyFrom_92 rfl (lv_at hl 1 rfl) ?_
        refine gf3_9 C0 hM hw0 fl_RX3_49 dX3_copyFrom_93 ?_
        refine pf3_9 C0 hM hv fl_RX3_49 dX3_copyFrom_96 (fun H locs hM => ?_)
        obtain ⟨M11, eM11, hF⟩ := nm_some hF
        have hM := y_mn eM11 hM
        have e9 := y_1 hF
        subst e9
        exact y_vret C0 hM hsz dX3_copyFrom_99
      refine lv_icmp_ge (tgt := 48) C0.1 C0.2.1 dX3_copyFrom_15 (by decide) (fun c12 => ?_) (fun c12 => ?_)
      · have hF := if_t c12 hF
        exact J48  _ _ _ hM (lv_sub hl [0, 1, 2] rfl) hF
      · have hF := if_f c12 hF
        refine lv_iload_n C0.1 C0.2.1 dX3_copyFrom_18 rfl (lv_at hl 2 rfl) ?_
        refine lv_aload_n C0.1 C0.2.1 dX3_copyFrom_19 rfl (lv_at hl 0 rfl) ?_
        refine gf3_0 C0 hM hv fl_RX3_11 dX3_copyFrom_20 ?_
        refine y_alen7 C0 hM (ok_fighters hv) dX3_copyFrom_23 ?_
        refine lv_icmp_ge (tgt := 48) C0.1 C0.2.1 dX3_copyFrom_24 (by decide) (fun c13 => ?_) (fun c13 => ?_)
        · have hF := if_t c13 hF
          exact J48  _ _ _ hM (lv_sub hl [0, 1, 2] rfl) hF
        · have hF := if_f c13 hF
          refine lv_aload_n C0.1 C0.2.1 dX3_copyFrom_27 rfl (lv_at hl 0 rfl) ?_
          refine gf3_0 C0 hM hv fl_RX3_11 dX3_copyFrom_28 ?_
          refine lv_iload_n C0.1 C0.2.1 dX3_copyFrom_31 rfl (lv_at hl 2 rfl) ?_
          obtain ⟨g14, hF⟩ := gdb_some hF
          refine y_aald7 C0 hM (ok_fighters hv) g14 dX3_copyFrom_32 ?_
          refine lv_aload_n C0.1 C0.2.1 dX3_copyFrom_33 rfl (lv_at hl 1 rfl) ?_
          refine gf3_0 C0 hM hw0 fl_RX3_11 dX3_copyFrom_34 ?_
          refine lv_iload_n C0.1 C0.2.1 dX3_copyFrom_37 rfl (lv_at hl 2 rfl) ?_
          obtain ⟨g15, hF⟩ := gdb_some hF
          refine y_aald7 C0 hM (ok_fighters hw0) g15 dX3_copyFrom_38 ?_
          obtain ⟨M17, h16, hF⟩ := bd_some hF
          refine y_vv (rest := []) C0 hM hl.1 (ok_elem (ok_fighters hv) (inb_lt g14)) (ent0 (ok_elem (ok_fighters hv) (inb_lt g14))) rfl (k_X0_copyFrom l G M3 ((v + 1) + 4 + Int32.toNatClampNeg l2_2) ((w0 + 1) + 4 + Int32.toNatClampNeg l2_2) h16 (ok_elem (ok_fighters hv) (inb_lt g14)) (ok_elem (ok_fighters hw0) (inb_lt g15))) cw_RX3_52 rfl rfl ⟨Nat.le_of_ble_eq_true rfl, Nat.le_of_ble_eq_true rfl⟩ rfl (Nat.le_of_ble_eq_true rfl) ⟨Nat.le_of_ble_eq_true rfl, Nat.le_of_ble_eq_true rfl⟩ dX3_copyFrom_39 (fun H locs hM => ?_)
          obtain ⟨x18, ex18, hF⟩ := nm_some hF
          refine lv_iinc (v := x18) (lv' := [(2, .int x18), (0, .ref (gad G v)), (1, .ref (gad G w0))]) C0.1 C0.2.1 dX3_copyFrom_42 hl (k := 2) rfl (by rw [ex18]; rfl) (by decide) rfl (fun ls hl => ?_)
          refine lv_goto (tgt := 10) C0.1 C0.2.1 dX3_copyFrom_45 (by decide) ?_
          exact ih10 x18 M17 _ _ _ hM (lv_sub hl [1, 2, 0] rfl) hF
  exact L10 FU (0 : Int32) M1 _ _ _ hM (lv_sub hl [1, 2, 0] rfl) hF

def F_X3_isFighter (M : MS) (v : Nat) (a0 : Int32) : Option Int32 := (if a0 < 0 then (some (0 : Int32)) else (if (rF M 52 v) ≤ a0 then (some (0 : Int32)) else (some (1 : Int32))))

set_option maxHeartbeats 4000000 in
set_option maxRecDepth 100000 in
theorem k_X3_isFighter (l : Launch) (G : GG) (M : MS) (v : Nat) (a0 : Int32) {r : Int32} (hF : F_X3_isFighter M v a0 = some r) (hv : ok 3 v) : KI l yX3_isFighter (WS yX3_isFighter cX3_isFighter 2 (some .boolean)) (Rm 0) G [.ref (gad G v), .int a0] M r M := by
  intro sz
  refine y_met (by decide +kernel) (Nat.le_of_ble_eq_true rfl) rfl (fun p e s m below meth c ls hsz C0 hM hl => ?_)
  have hl : lv_has ls 2 [(0, .ref (gad G v)), (1, .int a0)] := hl
  have C0 : CX p s m meth c ([.ref (gad G v), .int a0] : List Value).toArray cX3_isFighter RX3 2 (some .boolean) := C0
  rw [F_X3_isFighter] at hF
  refine lv_iload_n C0.1 C0.2.1 dX3_isFighter_0 rfl (lv_at hl 1 rfl) ?_
  refine lv_if_lt (tgt := 16) C0.1 C0.2.1 dX3_isFighter_1 (by decide) (fun c1 => ?_) (fun c1 => ?_)
  · have hF := if_t c1 hF
    refine lv_iconst (v := (0 : Int32)) C0.1 C0.2.1 dX3_isFighter_16 (by decide) ?_
    have e8 := y_1 hF
    subst e8
    exact y_zret C0 hM hsz rfl dX3_isFighter_17
  · have hF := if_f c1 hF
    refine lv_iload_n C0.1 C0.2.1 dX3_isFighter_4 rfl (lv_at hl 1 rfl) ?_
    refine lv_aload_n C0.1 C0.2.1 dX3_isFighter_5 rfl (lv_at hl 0 rfl) ?_
    refine gf3_4 C0 hM hv fl_RX3_33 dX3_isFighter_6 ?_
    refine lv_icmp_ge (tgt := 16) C0.1 C0.2.1 dX3_isFighter_9 (by decide) (fun c2 => ?_) (fun c2 => ?_)
    · have hF := if_t c2 hF
      refine lv_iconst (v := (0 : Int32)) C0.1 C0.2.1 dX3_isFighter_16 (by decide) ?_
      have e8 := y_1 hF
      subst e8
      exact y_zret C0 hM hsz rfl dX3_isFighter_17
    · have hF := if_f c2 hF
      refine lv_iconst (v := (1 : Int32)) C0.1 C0.2.1 dX3_isFighter_12 (by decide) ?_
      refine lv_goto (tgt := 17) C0.1 C0.2.1 dX3_isFighter_13 (by decide) ?_
      have e8 := y_1 hF
      subst e8
      exact y_zret C0 hM hsz rfl dX3_isFighter_17

def F_X3_at (M : MS) (v : Nat) (a0 : Int32) : Option Nat := (if a0 < 0 then (some (v + 15)) else (if (rF M 52 v) ≤ a0 then (some (v + 15)) else (if (10 : Int32) ≤ a0 then (some (v + 15)) else (gdb (inb a0 10) (some ((v + 1) + 4 + Int32.toNatClampNeg a0))))))

set_option maxHeartbeats 4000000 in
set_option maxRecDepth 100000 in
theorem k_X3_at (l : Launch) (G : GG) (M : MS) (v : Nat) (a0 : Int32) {r : Nat} (hF : F_X3_at M v a0 = some r) (hv : ok 3 v) : KR l yX3_at (WS yX3_at cX3_at 2 (some (.object "TurnTracker$Fighter"))) (Rm 0) G [.ref (gad G v), .int a0] M r M := by
  intro sz
  refine y_met (by decide +kernel) (Nat.le_of_ble_eq_true rfl) rfl (fun p e s m below meth c ls hsz C0 hM hl => ?_)
  have hl : lv_has ls 2 [(0, .ref (gad G v)), (1, .int a0)] := hl
  have C0 : CX p s m meth c ([.ref (gad G v), .int a0] : List Value).toArray cX3_at RX3 2 (some (.object "TurnTracker$Fighter")) := C0
  rw [F_X3_at] at hF
  refine lv_iload_n C0.1 C0.2.1 dX3_at_0 rfl (lv_at hl 1 rfl) ?_
  refine lv_if_lt (tgt := 30) C0.1 C0.2.1 dX3_at_1 (by decide) (fun c1 => ?_) (fun c1 => ?_)
  · have hF := if_t c1 hF
    refine lv_aload_n C0.1 C0.2.1 dX3_at_30 rfl (lv_at hl 0 rfl) ?_
    refine gf3_1 C0 hM hv fl_RX3_18 dX3_at_31 ?_
    have e8 := y_1 hF
    subst e8
    exact y_aret C0 hM hsz dX3_at_34
  · have hF := if_f c1 hF
    refine lv_iload_n C0.1 C0.2.1 dX3_at_4 rfl (lv_at hl 1 rfl) ?_
    refine lv_aload_n C0.1 C0.2.1 dX3_at_5 rfl (lv_at hl 0 rfl) ?_
    refine gf3_4 C0 hM hv fl_RX3_33 dX3_at_6 ?_
    refine lv_icmp_ge (tgt := 30) C0.1 C0.2.1 dX3_at_9 (by decide) (fun c2 => ?_) (fun c2 => ?_)
    · have hF := if_t c2 hF
      refine lv_aload_n C0.1 C0.2.1 dX3_at_30 rfl (lv_at hl 0 rfl) ?_
      refine gf3_1 C0 hM hv fl_RX3_18 dX3_at_31 ?_
      have e8 := y_1 hF
      subst e8
      exact y_aret C0 hM hsz dX3_at_34
    · have hF := if_f c2 hF
      refine lv_iload_n C0.1 C0.2.1 dX3_at_12 rfl (lv_at hl 1 rfl) ?_
      refine lv_aload_n C0.1 C0.2.1 dX3_at_13 rfl (lv_at hl 0 rfl) ?_
      refine gf3_0 C0 hM hv fl_RX3_11 dX3_at_14 ?_
      refine y_alen7 C0 hM (ok_fighters hv) dX3_at_17 ?_
      refine lv_icmp_ge (tgt := 30) C0.1 C0.2.1 dX3_at_18 (by decide) (fun c3 => ?_) (fun c3 => ?_)
      · have hF := if_t c3 hF
        refine lv_aload_n C0.1 C0.2.1 dX3_at_30 rfl (lv_at hl 0 rfl) ?_
        refine gf3_1 C0 hM hv fl_RX3_18 dX3_at_31 ?_
        have e8 := y_1 hF
        subst e8
        exact y_aret C0 hM hsz dX3_at_34
      · have hF := if_f c3 hF
        refine lv_aload_n C0.1 C0.2.1 dX3_at_21 rfl (lv_at hl 0 rfl) ?_
        refine gf3_0 C0 hM hv fl_RX3_11 dX3_at_22 ?_
        refine lv_iload_n C0.1 C0.2.1 dX3_at_25 rfl (lv_at hl 1 rfl) ?_
        obtain ⟨g4, hF⟩ := gdb_some hF
        refine y_aald7 C0 hM (ok_fighters hv) g4 dX3_at_26 ?_
        refine lv_goto (tgt := 34) C0.1 C0.2.1 dX3_at_27 (by decide) ?_
        have e8 := y_1 hF
        subst e8
        exact y_aret C0 hM hsz dX3_at_34
theorem at_ok {M : MS} {v : Nat} {a0 : Int32} {r : Nat} (h : F_X3_at M v a0 = some r) (hv : ok 3 v) : ok 0 r := by
  rw [F_X3_at] at h
  by_cases c1 : a0 < 0
  · have e := y_1 (if_t c1 h); subst e; exact ok_nobody hv
  · have h := if_f c1 h
    by_cases c2 : rF M 52 v ≤ a0
    · have e := y_1 (if_t c2 h); subst e; exact ok_nobody hv
    · have h := if_f c2 h
      by_cases c3 : (10 : Int32) ≤ a0
      · have e := y_1 (if_t c3 h); subst e; exact ok_nobody hv
      · obtain ⟨g, h⟩ := gdb_some (if_f c3 h)
        have e := y_1 h; subst e; exact ok_elem (ok_fighters hv) (inb_lt g)

def F_X3_lineUp_l11 (v : Nat) (a0 : Int32) (M : MS) (x3 : Int32) : Nat → Int32 → Option MS
  | 0, _ => none
  | n11 + 1, l3_4 => (nm (bd (F_X2_insert M (v + 2) a0 l3_4) fun M7 => (some M7)) fun j47_4 => (if (rF M 33 (v + 2)) ≤ l3_4 then j47_4 else (bd (F_X2_numberAt M (v + 2) l3_4) fun r10 => (bd (F_X3_at M v r10) fun r12 => (if (rF M 1 r12) < x3 then j47_4 else (nm (l3_4 + (1 : Int32)) fun x14 => (F_X3_lineUp_l11 v a0 M x3 n11 x14)))))))

def F_X3_lineUp (M : MS) (v : Nat) (a0 : Int32) : Option MS := (bd (F_X3_at M v a0) fun r2 => (nm (rF M 1 r2) fun x3 => (F_X3_lineUp_l11 v a0 M x3 FU (0 : Int32))))

set_option maxHeartbeats 4000000 in
set_option maxRecDepth 100000 in
theorem k_X3_lineUp (l : Launch) (G : GG) (M : MS) (v : Nat) (a0 : Int32) {Mf : MS} (hF : F_X3_lineUp M v a0 = some Mf) (hv : ok 3 v) : KV l yX3_lineUp (WS yX3_lineUp cX3_lineUp 4 none) (Rm 1) G [.ref (gad G v), .int a0] M Mf := by
  intro sz
  refine y_met (by decide +kernel) (Nat.le_of_ble_eq_true rfl) rfl (fun p e s m below meth c ls hsz C0 hM hl => ?_)
  have hl : lv_has ls 4 [(0, .ref (gad G v)), (1, .int a0)] := hl
  have C0 : CX p s m meth c ([.ref (gad G v), .int a0] : List Value).toArray cX3_lineUp RX3 4 none := C0
  rw [F_X3_lineUp] at hF
  refine lv_aload_n C0.1 C0.2.1 dX3_lineUp_0 rfl (lv_at hl 0 rfl) ?_
  refine lv_iload_n C0.1 C0.2.1 dX3_lineUp_1 rfl (lv_at hl 1 rfl) ?_
  obtain ⟨r2, h1, hF⟩ := bd_some hF
  refine y_vr (rest := []) C0 hM hl.1 hv (ent3 hv) rfl (k_X3_at l G M v a0 h1 hv) cw_RX3_59 rfl rfl ⟨Nat.le_of_ble_eq_true rfl, Nat.le_of_ble_eq_true rfl⟩ rfl (Nat.le_of_ble_eq_true rfl) ⟨Nat.le_of_ble_eq_true rfl, Nat.le_of_ble_eq_true rfl⟩ dX3_lineUp_2 (fun H locs hM => ?_)
  refine gf0_1 C0 hM (at_ok h1 hv) fl_RX3_74 dX3_lineUp_5 ?_
  obtain ⟨x3, ex3, hF⟩ := nm_some hF
  refine y_topi ex3 ?_
  refine lv_istore_n (lv' := [(2, .int x3), (0, .ref (gad G v)), (1, .int a0)]) C0.1 C0.2.1 dX3_lineUp_8 rfl hl (by decide) rfl (fun ls hl => ?_)
  refine lv_iconst (v := (0 : Int32)) C0.1 C0.2.1 dX3_lineUp_9 (by decide) ?_
  refine lv_istore_n (lv' := [(3, .int (0 : Int32)), (2, .int x3), (0, .ref (gad G v)), (1, .int a0)]) C0.1 C0.2.1 dX3_lineUp_10 rfl hl (by decide) rfl (fun ls hl => ?_)
  have L11 : ∀ (n : Nat) (l3_4 : Int32) (H : Heap) (locs : List Loc) (ls : Array Slot), MX G M s H locs → lv_has ls 4 [(0, .ref (gad G v)), (1, .int a0), (2, .int x3), (3, .int l3_4)] → F_X3_lineUp_l11 v a0 M x3 n l3_4 = some Mf → W p l e (Rm 1) s m ([.ref (gad G v), .int a0] : List Value).toArray below meth c H locs 0 0 (QV below ([.ref (gad G v), .int a0] : List Value).toArray s G sz Mf) (F0 m 11 ls []) := by
    intro n
    induction n with
    | zero => intro l3_4 H locs ls hM hl hF; rw [F_X3_lineUp_l11] at hF; cases hF
    | succ n11 ih11 =>
      intro l3_4 H locs ls hM hl hF
      rw [F_X3_lineUp_l11] at hF
      refine lv_iload_n C0.1 C0.2.1 dX3_lineUp_11 rfl (lv_at hl 3 rfl) ?_
      refine lv_aload_n C0.1 C0.2.1 dX3_lineUp_12 rfl (lv_at hl 0 rfl) ?_
      refine gf3_2 C0 hM hv fl_RX3_25 dX3_lineUp_13 ?_
      refine gf2_1 C0 hM (ok_row hv) fl_RX3_77 dX3_lineUp_16 ?_
      obtain ⟨j47_4, ej47_4, hF⟩ := nm_some hF
      have J47 : ∀ (H : Heap) (locs : List Loc) (ls : Array Slot), MX G M s H locs → lv_has ls 4 [(0, .ref (gad G v)), (1, .int a0), (2, .int x3), (3, .int l3_4)] → j47_4 = some Mf → W p l e (Rm 1) s m ([.ref (gad G v), .int a0] : List Value).toArray below meth c H locs 0 0 (QV below ([.ref (gad G v), .int a0] : List Value).toArray s G sz Mf) (F0 m 47 ls []) := by
        intro H locs ls hM hl hF
        rw [ej47_4] at hF
        refine lv_aload_n C0.1 C0.2.1 dX3_lineUp_47 rfl (lv_at hl 0 rfl) ?_
        refine gf3_2 C0 hM hv fl_RX3_25 dX3_lineUp_48 ?_
        refine lv_iload_n C0.1 C0.2.1 dX3_lineUp_51 rfl (lv_at hl 1 rfl) ?_
        refine lv_iload_n C0.1 C0.2.1 dX3_lineUp_52 rfl (lv_at hl 3 rfl) ?_
        obtain ⟨M7, h6, hF⟩ := bd_some hF
        refine y_vv (rest := []) C0 hM hl.1 (ok_row hv) (ent2 (ok_row hv)) rfl (k_X2_insert l G M (v + 2) a0 l3_4 h6 (ok_row hv)) cw_RX3_84 rfl rfl ⟨Nat.le_of_ble_eq_true rfl, Nat.le_of_ble_eq_true rfl⟩ rfl (Nat.le_of_ble_eq_true rfl) ⟨Nat.le_of_ble_eq_true rfl, Nat.le_of_ble_eq_true rfl⟩ dX3_lineUp_53 (fun H locs hM => ?_)
        have e9 := y_1 hF
        subst e9
        exact y_vret C0 hM hsz dX3_lineUp_56
      refine lv_icmp_ge (tgt := 47) C0.1 C0.2.1 dX3_lineUp_19 (by decide) (fun c8 => ?_) (fun c8 => ?_)
      · have hF := if_t c8 hF
        exact J47  _ _ _ hM (lv_sub hl [0, 1, 2, 3] rfl) hF
      · have hF := if_f c8 hF
        refine lv_aload_n C0.1 C0.2.1 dX3_lineUp_22 rfl (lv_at hl 0 rfl) ?_
        refine lv_aload_n C0.1 C0.2.1 dX3_lineUp_23 rfl (lv_at hl 0 rfl) ?_
        refine gf3_2 C0 hM hv fl_RX3_25 dX3_lineUp_24 ?_
        refine lv_iload_n C0.1 C0.2.1 dX3_lineUp_27 rfl (lv_at hl 3 rfl) ?_
        obtain ⟨r10, h9, hF⟩ := bd_some hF
        refine y_vi (rest := [.ref (gad G v)]) C0 hM hl.1 (ok_row hv) (ent2 (ok_row hv)) rfl (k_X2_numberAt l G M (v + 2) l3_4 h9 (ok_row hv)) cw_RX3_80 rfl rfl ⟨Nat.le_of_ble_eq_true rfl, Nat.le_of_ble_eq_true rfl⟩ rfl (Nat.le_of_ble_eq_true rfl) ⟨Nat.le_of_ble_eq_true rfl, Nat.le_of_ble_eq_true rfl⟩ dX3_lineUp_28 (fun H locs hM => ?_)
        obtain ⟨r12, h11, hF⟩ := bd_some hF
        refine y_vr (rest := []) C0 hM hl.1 hv (ent3 hv) rfl (k_X3_at l G M v r10 h11 hv) cw_RX3_59 rfl rfl ⟨Nat.le_of_ble_eq_true rfl, Nat.le_of_ble_eq_true rfl⟩ rfl (Nat.le_of_ble_eq_true rfl) ⟨Nat.le_of_ble_eq_true rfl, Nat.le_of_ble_eq_true rfl⟩ dX3_lineUp_31 (fun H locs hM => ?_)
        refine gf0_1 C0 hM (at_ok h11 hv) fl_RX3_74 dX3_lineUp_34 ?_
        refine lv_iload_n C0.1 C0.2.1 dX3_lineUp_37 rfl (lv_at hl 2 rfl) ?_
        refine lv_icmp_lt (tgt := 47) C0.1 C0.2.1 dX3_lineUp_38 (by decide) (fun c13 => ?_) (fun c13 => ?_)
        · have hF := if_t c13 hF
          exact J47  _ _ _ hM (lv_sub hl [0, 1, 2, 3] rfl) hF
        · have hF := if_f c13 hF
          obtain ⟨x14, ex14, hF⟩ := nm_some hF
          refine lv_iinc (v := x14) (lv' := [(3, .int x14), (0, .ref (gad G v)), (1, .int a0), (2, .int x3)]) C0.1 C0.2.1 dX3_lineUp_41 hl (k := 3) rfl (by rw [ex14]; rfl) (by decide) rfl (fun ls hl => ?_)
          refine lv_goto (tgt := 11) C0.1 C0.2.1 dX3_lineUp_44 (by decide) ?_
          exact ih11 x14 _ _ _ hM (lv_sub hl [1, 2, 3, 0] rfl) hF
  exact L11 FU (0 : Int32) _ _ _ hM (lv_sub hl [2, 3, 1, 0] rfl) hF

def F_X3_enter (M : MS) (v : Nat) (a0 : Int32) (a1 : Int32) (a2 : Int32) (a3 : Int32) : Option (Int32 × MS) := (if (rF M 52 v) < 0 then (some ((-1 : Int32), M)) else (if (rF M 52 v) < (10 : Int32) then (nm (rF M 52 v) fun x3 => (gdb (inb x3 10) (bd (F_X0_reset M ((v + 1) + 4 + Int32.toNatClampNeg x3) a0 a1 a2 a3) fun M6 => (nm (wF M6 52 v ((rF M6 52 v) + (1 : Int32))) fun M7 => (bd (F_X3_lineUp M7 v x3) fun M9 => (some (x3, M9))))))) else (some ((-1 : Int32), M))))

set_option maxHeartbeats 4000000 in
set_option maxRecDepth 100000 in
theorem k_X3_enter (l : Launch) (G : GG) (M : MS) (v : Nat) (a0 : Int32) (a1 : Int32) (a2 : Int32) (a3 : Int32) {r : Int32} {Mf : MS} (hF : F_X3_enter M v a0 a1 a2 a3 = some (r, Mf)) (hv : ok 3 v) : KI l yX3_enter (WS yX3_enter cX3_enter 6 (some .int)) (Rm 2) G [.ref (gad G v), .int a0, .int a1, .int a2, .int a3] M r Mf := by
  intro sz
  refine y_met (by decide +kernel) (Nat.le_of_ble_eq_true rfl) rfl (fun p e s m below meth c ls hsz C0 hM hl => ?_)
  have hl : lv_has ls 6 [(0, .ref (gad G v)), (1, .int a0), (2, .int a1), (3, .int a2), (4, .int a3)] := hl
  have C0 : CX p s m meth c ([.ref (gad G v), .int a0, .int a1, .int a2, .int a3] : List Value).toArray cX3_enter RX3 6 (some .int) := C0
  rw [F_X3_enter] at hF
  refine lv_aload_n C0.1 C0.2.1 dX3_enter_0 rfl (lv_at hl 0 rfl) ?_
  refine gf3_4 C0 hM hv fl_RX3_33 dX3_enter_1 ?_
  refine lv_if_lt (tgt := 19) C0.1 C0.2.1 dX3_enter_4 (by decide) (fun c1 => ?_) (fun c1 => ?_)
  · have hF := if_t c1 hF
    refine lv_iconst (v := (-1 : Int32)) C0.1 C0.2.1 dX3_enter_19 (by decide) ?_
    obtain ⟨e8, e9⟩ := y_2 hF
    subst e8
    subst e9
    exact y_iret C0 hM hsz dX3_enter_20
  · have hF := if_f c1 hF
    refine lv_aload_n C0.1 C0.2.1 dX3_enter_7 rfl (lv_at hl 0 rfl) ?_
    refine gf3_4 C0 hM hv fl_RX3_33 dX3_enter_8 ?_
    refine lv_aload_n C0.1 C0.2.1 dX3_enter_11 rfl (lv_at hl 0 rfl) ?_
    refine gf3_0 C0 hM hv fl_RX3_11 dX3_enter_12 ?_
    refine y_alen7 C0 hM (ok_fighters hv) dX3_enter_15 ?_
    refine lv_icmp_lt (tgt := 21) C0.1 C0.2.1 dX3_enter_16 (by decide) (fun c2 => ?_) (fun c2 => ?_)
    · have hF := if_t c2 hF
      refine lv_aload_n C0.1 C0.2.1 dX3_enter_21 rfl (lv_at hl 0 rfl) ?_
      refine gf3_4 C0 hM hv fl_RX3_33 dX3_enter_22 ?_
      obtain ⟨x3, ex3, hF⟩ := nm_some hF
      refine y_topi ex3 ?_
      refine lv_istore (lv' := [(5, .int x3), (0, .ref (gad G v)), (1, .int a0), (2, .int a1), (3, .int a2), (4, .int a3)]) C0.1 C0.2.1 dX3_enter_25 hl (by decide) rfl (fun ls hl => ?_)
      refine lv_aload_n C0.1 C0.2.1 dX3_enter_27 rfl (lv_at hl 1 rfl) ?_
      refine gf3_0 C0 hM hv fl_RX3_11 dX3_enter_28 ?_
      refine lv_iload C0.1 C0.2.1 dX3_enter_31 (lv_at hl 0 rfl) ?_
      obtain ⟨g4, hF⟩ := gdb_some hF
      refine y_aald7 C0 hM (ok_fighters hv) g4 dX3_enter_33 ?_
      refine lv_iload_n C0.1 C0.2.1 dX3_enter_34 rfl (lv_at hl 2 rfl) ?_
      refine lv_iload_n C0.1 C0.2.1 dX3_enter_35 rfl (lv_at hl 3 rfl) ?_
      refine lv_iload_n C0.1 C0.2.1 dX3_enter_36 rfl (lv_at hl 4 rfl) ?_
      refine lv_iload C0.1 C0.2.1 dX3_enter_37 (lv_at hl 5 rfl) ?_
      obtain ⟨M6, h5, hF⟩ := bd_some hF
      refine y_vv (rest := []) C0 hM hl.1 (ok_elem (ok_fighters hv) (inb_lt g4)) (ent0 (ok_elem (ok_fighters hv) (inb_lt g4))) rfl (k_X0_reset l G M ((v + 1) + 4 + Int32.toNatClampNeg x3) a0 a1 a2 a3 h5 (ok_elem (ok_fighters hv) (inb_lt g4))) cw_RX3_66 rfl rfl ⟨Nat.le_of_ble_eq_true rfl, Nat.le_of_ble_eq_true rfl⟩ rfl (Nat.le_of_ble_eq_true rfl) ⟨Nat.le_of_ble_eq_true rfl, Nat.le_of_ble_eq_true rfl⟩ dX3_enter_39 (fun H locs hM => ?_)
      refine lv_aload_n C0.1 C0.2.1 dX3_enter_42 rfl (lv_at hl 1 rfl) ?_
      refine lv_dup C0.1 C0.2.1 dX3_enter_43 rfl ?_
      refine gf3_4 C0 hM hv fl_RX3_33 dX3_enter_44 ?_
      refine lv_iconst (v := (1 : Int32)) C0.1 C0.2.1 dX3_enter_47 (by decide) ?_
      refine lv_iadd C0.1 C0.2.1 dX3_enter_48 ?_
      refine pf3_4 C0 hM hv fl_RX3_33 dX3_enter_49 (fun H locs hM => ?_)
      obtain ⟨M7, eM7, hF⟩ := nm_some hF
      have hM := y_mn eM7 hM
      refine lv_aload_n C0.1 C0.2.1 dX3_enter_52 rfl (lv_at hl 1 rfl) ?_
      refine lv_iload C0.1 C0.2.1 dX3_enter_53 (lv_at hl 0 rfl) ?_
      obtain ⟨M9, h8, hF⟩ := bd_some hF
      refine y_vv (rest := []) C0 hM hl.1 hv (ent3 hv) rfl (k_X3_lineUp l G M7 v x3 h8 hv) cw_RX3_70 rfl rfl ⟨Nat.le_of_ble_eq_true rfl, Nat.le_of_ble_eq_true rfl⟩ rfl (Nat.le_of_ble_eq_true rfl) ⟨Nat.le_of_ble_eq_true rfl, Nat.le_of_ble_eq_true rfl⟩ dX3_enter_55 (fun H locs hM => ?_)
      refine lv_iload C0.1 C0.2.1 dX3_enter_58 (lv_at hl 0 rfl) ?_
      obtain ⟨e8, e9⟩ := y_2 hF
      subst e8
      subst e9
      exact y_iret C0 hM hsz dX3_enter_60
    · have hF := if_f c2 hF
      refine lv_iconst (v := (-1 : Int32)) C0.1 C0.2.1 dX3_enter_19 (by decide) ?_
      obtain ⟨e8, e9⟩ := y_2 hF
      subst e8
      subst e9
      exact y_iret C0 hM hsz dX3_enter_20

def F_X3_endDelays_l2 (v : Nat) : Nat → Int32 → MS → Option MS
  | 0, _, _ => none
  | n2 + 1, l1_1, M2 => (if (rF M2 52 v) ≤ l1_1 then (some M2) else (bd (F_X3_at M2 v l1_1) fun r5 => (nm (wF M2 7 r5 (0 : Int32)) fun M6 => (nm (l1_1 + (1 : Int32)) fun x7 => (F_X3_endDelays_l2 v n2 x7 M6)))))

def F_X3_endDelays (M : MS) (v : Nat) : Option MS := (F_X3_endDelays_l2 v FU (0 : Int32) M)

set_option maxHeartbeats 4000000 in
set_option maxRecDepth 100000 in
theorem k_X3_endDelays (l : Launch) (G : GG) (M : MS) (v : Nat) {Mf : MS} (hF : F_X3_endDelays M v = some Mf) (hv : ok 3 v) : KV l yX3_endDelays (WS yX3_endDelays cX3_endDelays 2 none) (Rm 1) G [.ref (gad G v)] M Mf := by
  intro sz
  refine y_met (by decide +kernel) (Nat.le_of_ble_eq_true rfl) rfl (fun p e s m below meth c ls hsz C0 hM hl => ?_)
  have hl : lv_has ls 2 [(0, .ref (gad G v))] := hl
  have C0 : CX p s m meth c ([.ref (gad G v)] : List Value).toArray cX3_endDelays RX3 2 none := C0
  rw [F_X3_endDelays] at hF
  refine lv_iconst (v := (0 : Int32)) C0.1 C0.2.1 dX3_endDelays_0 (by decide) ?_
  refine lv_istore_n (lv' := [(1, .int (0 : Int32)), (0, .ref (gad G v))]) C0.1 C0.2.1 dX3_endDelays_1 rfl hl (by decide) rfl (fun ls hl => ?_)
  have L2 : ∀ (n : Nat) (l1_1 : Int32) (M2 : MS) (H : Heap) (locs : List Loc) (ls : Array Slot), MX G M2 s H locs → lv_has ls 2 [(0, .ref (gad G v)), (1, .int l1_1)] → F_X3_endDelays_l2 v n l1_1 M2 = some Mf → W p l e (Rm 1) s m ([.ref (gad G v)] : List Value).toArray below meth c H locs 0 0 (QV below ([.ref (gad G v)] : List Value).toArray s G sz Mf) (F0 m 2 ls []) := by
    intro n
    induction n with
    | zero => intro l1_1 M2 H locs ls hM hl hF; rw [F_X3_endDelays_l2] at hF; cases hF
    | succ n2 ih2 =>
      intro l1_1 M2 H locs ls hM hl hF
      rw [F_X3_endDelays_l2] at hF
      refine lv_iload_n C0.1 C0.2.1 dX3_endDelays_2 rfl (lv_at hl 1 rfl) ?_
      refine lv_aload_n C0.1 C0.2.1 dX3_endDelays_3 rfl (lv_at hl 0 rfl) ?_
      refine gf3_4 C0 hM hv fl_RX3_33 dX3_endDelays_4 ?_
      refine lv_icmp_ge (tgt := 25) C0.1 C0.2.1 dX3_endDelays_7 (by decide) (fun c3 => ?_) (fun c3 => ?_)
      · have hF := if_t c3 hF
        have e9 := y_1 hF
        subst e9
        exact y_vret C0 hM hsz dX3_endDelays_25
      · have hF := if_f c3 hF
        refine lv_aload_n C0.1 C0.2.1 dX3_endDelays_10 rfl (lv_at hl 0 rfl) ?_
        refine lv_iload_n C0.1 C0.2.1 dX3_endDelays_11 rfl (lv_at hl 1 rfl) ?_
        obtain ⟨r5, h4, hF⟩ := bd_some hF
        refine y_vr (rest := []) C0 hM hl.1 hv (ent3 hv) rfl (k_X3_at l G M2 v l1_1 h4 hv) cw_RX3_59 rfl rfl ⟨Nat.le_of_ble_eq_true rfl, Nat.le_of_ble_eq_true rfl⟩ rfl (Nat.le_of_ble_eq_true rfl) ⟨Nat.le_of_ble_eq_true rfl, Nat.le_of_ble_eq_true rfl⟩ dX3_endDelays_12 (fun H locs hM => ?_)
        refine lv_iconst (v := (0 : Int32)) C0.1 C0.2.1 dX3_endDelays_15 (by decide) ?_
        refine pf0_7 C0 hM (at_ok h4 hv) rfl rfl fl_RX3_104 dX3_endDelays_16 (fun H locs hM => ?_)
        obtain ⟨M6, eM6, hF⟩ := nm_some hF
        have hM := y_mn eM6 hM
        obtain ⟨x7, ex7, hF⟩ := nm_some hF
        refine lv_iinc (v := x7) (lv' := [(1, .int x7), (0, .ref (gad G v))]) C0.1 C0.2.1 dX3_endDelays_19 hl (k := 1) rfl (by rw [ex7]; rfl) (by decide) rfl (fun ls hl => ?_)
        refine lv_goto (tgt := 2) C0.1 C0.2.1 dX3_endDelays_22 (by decide) ?_
        exact ih2 x7 M6 _ _ _ hM (lv_sub hl [1, 0] rfl) hF
  exact L2 FU (0 : Int32) M _ _ _ hM (lv_sub hl [1, 0] rfl) hF

def F_X3_nextFrom_l2 (v : Nat) (M : MS) : Nat → Int32 → Option Int32
  | 0, _ => none
  | n2 + 1, l2_1 => (if (rF M 33 (v + 2)) ≤ l2_1 then (some (-1 : Int32)) else (bd (F_X2_numberAt M (v + 2) l2_1) fun r4 => (bd (F_X3_at M v r4) fun r6 => (bd (F_X0_hasFallen M r6) fun r8 => (if ¬ r8 = 0 then (nm (l2_1 + (1 : Int32)) fun x10 => (F_X3_nextFrom_l2 v M n2 x10)) else (if ¬ (rF M 7 r6) = 0 then (nm (l2_1 + (1 : Int32)) fun x12 => (F_X3_nextFrom_l2 v M n2 x12)) else (bd (F_X2_numberAt M (v + 2) l2_1) fun r14 => (some r14))))))))

def F_X3_nextFrom (M : MS) (v : Nat) (a0 : Int32) : Option Int32 := (F_X3_nextFrom_l2 v M FU a0)

set_option maxHeartbeats 4000000 in
set_option maxRecDepth 100000 in
theorem k_X3_nextFrom (l : Launch) (G : GG) (M : MS) (v : Nat) (a0 : Int32) {r : Int32} (hF : F_X3_nextFrom M v a0 = some r) (hv : ok 3 v) : KI l yX3_nextFrom (WS yX3_nextFrom cX3_nextFrom 4 (some .int)) (Rm 1) G [.ref (gad G v), .int a0] M r M := by
  intro sz
  refine y_met (by decide +kernel) (Nat.le_of_ble_eq_true rfl) rfl (fun p e s m below meth c ls hsz C0 hM hl => ?_)
  have hl : lv_has ls 4 [(0, .ref (gad G v)), (1, .int a0)] := hl
  have C0 : CX p s m meth c ([.ref (gad G v), .int a0] : List Value).toArray cX3_nextFrom RX3 4 (some .int) := C0
  rw [F_X3_nextFrom] at hF
  refine lv_iload_n C0.1 C0.2.1 dX3_nextFrom_0 rfl (lv_at hl 1 rfl) ?_
  refine lv_istore_n (lv' := [(2, .int a0), (0, .ref (gad G v)), (1, .int a0)]) C0.1 C0.2.1 dX3_nextFrom_1 rfl hl (by decide) rfl (fun ls hl => ?_)
  have L2 : ∀ (n : Nat) (l2_1 : Int32) (H : Heap) (locs : List Loc) (ls : Array Slot), MX G M s H locs → lv_has ls 4 [(0, .ref (gad G v)), (1, .int a0), (2, .int l2_1)] → F_X3_nextFrom_l2 v M n l2_1 = some r → W p l e (Rm 1) s m ([.ref (gad G v), .int a0] : List Value).toArray below meth c H locs 0 0 (QI below ([.ref (gad G v), .int a0] : List Value).toArray s G sz r M) (F0 m 2 ls []) := by
    intro n
    induction n with
    | zero => intro l2_1 H locs ls hM hl hF; rw [F_X3_nextFrom_l2] at hF; cases hF
    | succ n2 ih2 =>
      intro l2_1 H locs ls hM hl hF
      rw [F_X3_nextFrom_l2] at hF
      refine lv_iload_n C0.1 C0.2.1 dX3_nextFrom_2 rfl (lv_at hl 2 rfl) ?_
      refine lv_aload_n C0.1 C0.2.1 dX3_nextFrom_3 rfl (lv_at hl 0 rfl) ?_
      refine gf3_2 C0 hM hv fl_RX3_25 dX3_nextFrom_4 ?_
      refine gf2_1 C0 hM (ok_row hv) fl_RX3_77 dX3_nextFrom_7 ?_
      refine lv_icmp_ge (tgt := 55) C0.1 C0.2.1 dX3_nextFrom_10 (by decide) (fun c2 => ?_) (fun c2 => ?_)
      · have hF := if_t c2 hF
        refine lv_iconst (v := (-1 : Int32)) C0.1 C0.2.1 dX3_nextFrom_55 (by decide) ?_
        have e8 := y_1 hF
        subst e8
        exact y_iret C0 hM hsz dX3_nextFrom_56
      · have hF := if_f c2 hF
        refine lv_aload_n C0.1 C0.2.1 dX3_nextFrom_13 rfl (lv_at hl 0 rfl) ?_
        refine lv_aload_n C0.1 C0.2.1 dX3_nextFrom_14 rfl (lv_at hl 0 rfl) ?_
        refine gf3_2 C0 hM hv fl_RX3_25 dX3_nextFrom_15 ?_
        refine lv_iload_n C0.1 C0.2.1 dX3_nextFrom_18 rfl (lv_at hl 2 rfl) ?_
        obtain ⟨r4, h3, hF⟩ := bd_some hF
        refine y_vi (rest := [.ref (gad G v)]) C0 hM hl.1 (ok_row hv) (ent2 (ok_row hv)) rfl (k_X2_numberAt l G M (v + 2) l2_1 h3 (ok_row hv)) cw_RX3_80 rfl rfl ⟨Nat.le_of_ble_eq_true rfl, Nat.le_of_ble_eq_true rfl⟩ rfl (Nat.le_of_ble_eq_true rfl) ⟨Nat.le_of_ble_eq_true rfl, Nat.le_of_ble_eq_true rfl⟩ dX3_nextFrom_19 (fun H locs hM => ?_)
        obtain ⟨r6, h5, hF⟩ := bd_some hF
        refine y_vr (rest := []) C0 hM hl.1 hv (ent3 hv) rfl (k_X3_at l G M v r4 h5 hv) cw_RX3_59 rfl rfl ⟨Nat.le_of_ble_eq_true rfl, Nat.le_of_ble_eq_true rfl⟩ rfl (Nat.le_of_ble_eq_true rfl) ⟨Nat.le_of_ble_eq_true rfl, Nat.le_of_ble_eq_true rfl⟩ dX3_nextFrom_22 (fun H locs hM => ?_)
        refine lv_astore_n (lv' := [(3, .ref (gad G r6)), (0, .ref (gad G v)), (1, .int a0), (2, .int l2_1)]) C0.1 C0.2.1 dX3_nextFrom_25 rfl hl (by decide) rfl (fun ls hl => ?_)
        refine lv_aload_n C0.1 C0.2.1 dX3_nextFrom_26 rfl (lv_at hl 0 rfl) ?_
        obtain ⟨r8, h7, hF⟩ := bd_some hF
        refine y_vi (rest := []) C0 hM hl.1 (at_ok h5 hv) (ent0 (at_ok h5 hv)) rfl (k_X0_hasFallen l G M r6 h7 (at_ok h5 hv)) cw_RX3_108 rfl rfl ⟨Nat.le_of_ble_eq_true rfl, Nat.le_of_ble_eq_true rfl⟩ rfl (Nat.le_of_ble_eq_true rfl) ⟨Nat.le_of_ble_eq_true rfl, Nat.le_of_ble_eq_true rfl⟩ dX3_nextFrom_27 (fun H locs hM => ?_)
        refine lv_if_ne (tgt := 49) C0.1 C0.2.1 dX3_nextFrom_30 (by decide) (fun c9 => ?_) (fun c9 => ?_)
        · have hF := if_t c9 hF
          obtain ⟨x10, ex10, hF⟩ := nm_some hF
          refine lv_iinc (v := x10) (lv' := [(2, .int x10), (3, .ref (gad G r6)), (0, .ref (gad G v)), (1, .int a0)]) C0.1 C0.2.1 dX3_nextFrom_49 hl (k := 3) rfl (by rw [ex10]; rfl) (by decide) rfl (fun ls hl => ?_)
          refine lv_goto (tgt := 2) C0.1 C0.2.1 dX3_nextFrom_52 (by decide) ?_
          exact ih2 x10 _ _ _ hM (lv_sub hl [2, 3, 0] rfl) hF
        · have hF := if_f (fun q => q c9) hF
          refine lv_aload_n C0.1 C0.2.1 dX3_nextFrom_33 rfl (lv_at hl 0 rfl) ?_
          refine gf0_7 C0 hM (at_ok h5 hv) fl_RX3_104 dX3_nextFrom_34 ?_
          refine lv_if_ne (tgt := 49) C0.1 C0.2.1 dX3_nextFrom_37 (by decide) (fun c11 => ?_) (fun c11 => ?_)
          · have hF := if_t c11 hF
            obtain ⟨x12, ex12, hF⟩ := nm_some hF
            refine lv_iinc (v := x12) (lv' := [(2, .int x12), (3, .ref (gad G r6)), (0, .ref (gad G v)), (1, .int a0)]) C0.1 C0.2.1 dX3_nextFrom_49 hl (k := 3) rfl (by rw [ex12]; rfl) (by decide) rfl (fun ls hl => ?_)
            refine lv_goto (tgt := 2) C0.1 C0.2.1 dX3_nextFrom_52 (by decide) ?_
            exact ih2 x12 _ _ _ hM (lv_sub hl [2, 3, 0] rfl) hF
          · have hF := if_f (fun q => q c11) hF
            refine lv_aload_n C0.1 C0.2.1 dX3_nextFrom_40 rfl (lv_at hl 1 rfl) ?_
            refine gf3_2 C0 hM hv fl_RX3_25 dX3_nextFrom_41 ?_
            refine lv_iload_n C0.1 C0.2.1 dX3_nextFrom_44 rfl (lv_at hl 3 rfl) ?_
            obtain ⟨r14, h13, hF⟩ := bd_some hF
            refine y_vi (rest := []) C0 hM hl.1 (ok_row hv) (ent2 (ok_row hv)) rfl (k_X2_numberAt l G M (v + 2) l2_1 h13 (ok_row hv)) cw_RX3_80 rfl rfl ⟨Nat.le_of_ble_eq_true rfl, Nat.le_of_ble_eq_true rfl⟩ rfl (Nat.le_of_ble_eq_true rfl) ⟨Nat.le_of_ble_eq_true rfl, Nat.le_of_ble_eq_true rfl⟩ dX3_nextFrom_45 (fun H locs hM => ?_)
            have e8 := y_1 hF
            subst e8
            exact y_iret C0 hM hsz dX3_nextFrom_48
  exact L2 FU a0 _ _ _ hM (lv_sub hl [1, 2, 0] rfl) hF

def F_X3_beginTurn (M : MS) (v : Nat) : Option (Int32 × MS) := (bd (F_X3_at M v (rF M 54 v)) fun r2 => (nm (wF M 55 v ((rF M 55 v) + (1 : Int32))) fun M3 => (bd (F_X0_forgetReadied M3 r2) fun M5 => (bd (F_X0_bleed M5 r2) fun M7 => (bd (F_X0_hasFallen M7 r2) fun r9 => (if ¬ r9 = 0 then (some ((0 : Int32), M7)) else (bd (F_X0_roundsOf M7 r2 (0 : Int32)) fun r12 => (if ¬ r12 = 0 then (some ((0 : Int32), M7)) else (some ((1 : Int32), M7))))))))))

set_option maxHeartbeats 4000000 in
set_option maxRecDepth 100000 in
theorem k_X3_beginTurn (l : Launch) (G : GG) (M : MS) (v : Nat) {r : Int32} {Mf : MS} (hF : F_X3_beginTurn M v = some (r, Mf)) (hv : ok 3 v) : KI l yX3_beginTurn (WS yX3_beginTurn cX3_beginTurn 2 (some .boolean)) (Rm 2) G [.ref (gad G v)] M r Mf := by
  intro sz
  refine y_met (by decide +kernel) (Nat.le_of_ble_eq_true rfl) rfl (fun p e s m below meth c ls hsz C0 hM hl => ?_)
  have hl : lv_has ls 2 [(0, .ref (gad G v))] := hl
  have C0 : CX p s m meth c ([.ref (gad G v)] : List Value).toArray cX3_beginTurn RX3 2 (some .boolean) := C0
  rw [F_X3_beginTurn] at hF
  refine lv_aload_n C0.1 C0.2.1 dX3_beginTurn_0 rfl (lv_at hl 0 rfl) ?_
  refine lv_aload_n C0.1 C0.2.1 dX3_beginTurn_1 rfl (lv_at hl 0 rfl) ?_
  refine gf3_6 C0 hM hv fl_RX3_40 dX3_beginTurn_2 ?_
  obtain ⟨r2, h1, hF⟩ := bd_some hF
  refine y_vr (rest := []) C0 hM hl.1 hv (ent3 hv) rfl (k_X3_at l G M v (rF M 54 v) h1 hv) cw_RX3_59 rfl rfl ⟨Nat.le_of_ble_eq_true rfl, Nat.le_of_ble_eq_true rfl⟩ rfl (Nat.le_of_ble_eq_true rfl) ⟨Nat.le_of_ble_eq_true rfl, Nat.le_of_ble_eq_true rfl⟩ dX3_beginTurn_5 (fun H locs hM => ?_)
  refine lv_astore_n (lv' := [(1, .ref (gad G r2)), (0, .ref (gad G v))]) C0.1 C0.2.1 dX3_beginTurn_8 rfl hl (by decide) rfl (fun ls hl => ?_)
  refine lv_aload_n C0.1 C0.2.1 dX3_beginTurn_9 rfl (lv_at hl 1 rfl) ?_
  refine lv_dup C0.1 C0.2.1 dX3_beginTurn_10 rfl ?_
  refine gf3_7 C0 hM hv fl_RX3_43 dX3_beginTurn_11 ?_
  refine lv_iconst (v := (1 : Int32)) C0.1 C0.2.1 dX3_beginTurn_14 (by decide) ?_
  refine lv_iadd C0.1 C0.2.1 dX3_beginTurn_15 ?_
  refine pf3_7 C0 hM hv fl_RX3_43 dX3_beginTurn_16 (fun H locs hM => ?_)
  obtain ⟨M3, eM3, hF⟩ := nm_some hF
  have hM := y_mn eM3 hM
  refine lv_aload_n C0.1 C0.2.1 dX3_beginTurn_19 rfl (lv_at hl 0 rfl) ?_
  obtain ⟨M5, h4, hF⟩ := bd_some hF
  refine y_vv (rest := []) C0 hM hl.1 (at_ok h1 hv) (ent0 (at_ok h1 hv)) rfl (k_X0_forgetReadied l G M3 r2 h4 (at_ok h1 hv)) cw_RX3_88 rfl rfl ⟨Nat.le_of_ble_eq_true rfl, Nat.le_of_ble_eq_true rfl⟩ rfl (Nat.le_of_ble_eq_true rfl) ⟨Nat.le_of_ble_eq_true rfl, Nat.le_of_ble_eq_true rfl⟩ dX3_beginTurn_20 (fun H locs hM => ?_)
  refine lv_aload_n C0.1 C0.2.1 dX3_beginTurn_23 rfl (lv_at hl 0 rfl) ?_
  obtain ⟨M7, h6, hF⟩ := bd_some hF
  refine y_vv (rest := []) C0 hM hl.1 (at_ok h1 hv) (ent0 (at_ok h1 hv)) rfl (k_X0_bleed l G M5 r2 h6 (at_ok h1 hv)) cw_RX3_111 rfl rfl ⟨Nat.le_of_ble_eq_true rfl, Nat.le_of_ble_eq_true rfl⟩ rfl (Nat.le_of_ble_eq_true rfl) ⟨Nat.le_of_ble_eq_true rfl, Nat.le_of_ble_eq_true rfl⟩ dX3_beginTurn_24 (fun H locs hM => ?_)
  refine lv_aload_n C0.1 C0.2.1 dX3_beginTurn_27 rfl (lv_at hl 0 rfl) ?_
  obtain ⟨r9, h8, hF⟩ := bd_some hF
  refine y_vi (rest := []) C0 hM hl.1 (at_ok h1 hv) (ent0 (at_ok h1 hv)) rfl (k_X0_hasFallen l G M7 r2 h8 (at_ok h1 hv)) cw_RX3_108 rfl rfl ⟨Nat.le_of_ble_eq_true rfl, Nat.le_of_ble_eq_true rfl⟩ rfl (Nat.le_of_ble_eq_true rfl) ⟨Nat.le_of_ble_eq_true rfl, Nat.le_of_ble_eq_true rfl⟩ dX3_beginTurn_28 (fun H locs hM => ?_)
  refine lv_if_ne (tgt := 46) C0.1 C0.2.1 dX3_beginTurn_31 (by decide) (fun c10 => ?_) (fun c10 => ?_)
  · have hF := if_t c10 hF
    refine lv_iconst (v := (0 : Int32)) C0.1 C0.2.1 dX3_beginTurn_46 (by decide) ?_
    obtain ⟨e8, e9⟩ := y_2 hF
    subst e8
    subst e9
    exact y_zret C0 hM hsz rfl dX3_beginTurn_47
  · have hF := if_f (fun q => q c10) hF
    refine lv_aload_n C0.1 C0.2.1 dX3_beginTurn_34 rfl (lv_at hl 0 rfl) ?_
    refine lv_iconst (v := (0 : Int32)) C0.1 C0.2.1 dX3_beginTurn_35 (by decide) ?_
    obtain ⟨r12, h11, hF⟩ := bd_some hF
    refine y_vi (rest := []) C0 hM hl.1 (at_ok h1 hv) (ent0 (at_ok h1 hv)) rfl (k_X0_roundsOf l G M7 r2 (0 : Int32) h11 (at_ok h1 hv)) cw_RX3_114 rfl rfl ⟨Nat.le_of_ble_eq_true rfl, Nat.le_of_ble_eq_true rfl⟩ rfl (Nat.le_of_ble_eq_true rfl) ⟨Nat.le_of_ble_eq_true rfl, Nat.le_of_ble_eq_true rfl⟩ dX3_beginTurn_36 (fun H locs hM => ?_)
    refine lv_if_ne (tgt := 46) C0.1 C0.2.1 dX3_beginTurn_39 (by decide) (fun c13 => ?_) (fun c13 => ?_)
    · have hF := if_t c13 hF
      refine lv_iconst (v := (0 : Int32)) C0.1 C0.2.1 dX3_beginTurn_46 (by decide) ?_
      obtain ⟨e8, e9⟩ := y_2 hF
      subst e8
      subst e9
      exact y_zret C0 hM hsz rfl dX3_beginTurn_47
    · have hF := if_f (fun q => q c13) hF
      refine lv_iconst (v := (1 : Int32)) C0.1 C0.2.1 dX3_beginTurn_42 (by decide) ?_
      refine lv_goto (tgt := 47) C0.1 C0.2.1 dX3_beginTurn_43 (by decide) ?_
      obtain ⟨e8, e9⟩ := y_2 hF
      subst e8
      subst e9
      exact y_zret C0 hM hsz rfl dX3_beginTurn_47

def F_X3_standingOf_l4 (v : Nat) (a0 : Int32) (M : MS) : Nat → Int32 → Int32 → Option Int32
  | 0, _, _ => none
  | n4 + 1, l2_1, l3_2 => (if (rF M 52 v) ≤ l3_2 then (some l2_1) else (bd (F_X3_at M v l3_2) fun r5 => (if ¬ (rF M 0 r5) = a0 then (nm (l3_2 + (1 : Int32)) fun x7 => (F_X3_standingOf_l4 v a0 M n4 l2_1 x7)) else (bd (F_X3_at M v l3_2) fun r9 => (bd (F_X0_hasFallen M r9) fun r11 => (if ¬ r11 = 0 then (nm (l3_2 + (1 : Int32)) fun x13 => (F_X3_standingOf_l4 v a0 M n4 l2_1 x13)) else (nm (l2_1 + (1 : Int32)) fun x14 => (nm (l3_2 + (1 : Int32)) fun x15 => (F_X3_standingOf_l4 v a0 M n4 x14 x15)))))))))

def F_X3_standingOf (M : MS) (v : Nat) (a0 : Int32) : Option Int32 := (F_X3_standingOf_l4 v a0 M FU (0 : Int32) (0 : Int32))

set_option maxHeartbeats 4000000 in
set_option maxRecDepth 100000 in
theorem k_X3_standingOf (l : Launch) (G : GG) (M : MS) (v : Nat) (a0 : Int32) {r : Int32} (hF : F_X3_standingOf M v a0 = some r) (hv : ok 3 v) : KI l yX3_standingOf (WS yX3_standingOf cX3_standingOf 4 (some .int)) (Rm 1) G [.ref (gad G v), .int a0] M r M := by
  intro sz
  refine y_met (by decide +kernel) (Nat.le_of_ble_eq_true rfl) rfl (fun p e s m below meth c ls hsz C0 hM hl => ?_)
  have hl : lv_has ls 4 [(0, .ref (gad G v)), (1, .int a0)] := hl
  have C0 : CX p s m meth c ([.ref (gad G v), .int a0] : List Value).toArray cX3_standingOf RX3 4 (some .int) := C0
  rw [F_X3_standingOf] at hF
  refine lv_iconst (v := (0 : Int32)) C0.1 C0.2.1 dX3_standingOf_0 (by decide) ?_
  refine lv_istore_n (lv' := [(2, .int (0 : Int32)), (0, .ref (gad G v)), (1, .int a0)]) C0.1 C0.2.1 dX3_standingOf_1 rfl hl (by decide) rfl (fun ls hl => ?_)
  refine lv_iconst (v := (0 : Int32)) C0.1 C0.2.1 dX3_standingOf_2 (by decide) ?_
  refine lv_istore_n (lv' := [(3, .int (0 : Int32)), (2, .int (0 : Int32)), (0, .ref (gad G v)), (1, .int a0)]) C0.1 C0.2.1 dX3_standingOf_3 rfl hl (by decide) rfl (fun ls hl => ?_)
  have L4 : ∀ (n : Nat) (l2_1 : Int32) (l3_2 : Int32) (H : Heap) (locs : List Loc) (ls : Array Slot), MX G M s H locs → lv_has ls 4 [(0, .ref (gad G v)), (1, .int a0), (2, .int l2_1), (3, .int l3_2)] → F_X3_standingOf_l4 v a0 M n l2_1 l3_2 = some r → W p l e (Rm 1) s m ([.ref (gad G v), .int a0] : List Value).toArray below meth c H locs 0 0 (QI below ([.ref (gad G v), .int a0] : List Value).toArray s G sz r M) (F0 m 4 ls []) := by
    intro n
    induction n with
    | zero => intro l2_1 l3_2 H locs ls hM hl hF; rw [F_X3_standingOf_l4] at hF; cases hF
    | succ n4 ih4 =>
      intro l2_1 l3_2 H locs ls hM hl hF
      rw [F_X3_standingOf_l4] at hF
      refine lv_iload_n C0.1 C0.2.1 dX3_standingOf_4 rfl (lv_at hl 3 rfl) ?_
      refine lv_aload_n C0.1 C0.2.1 dX3_standingOf_5 rfl (lv_at hl 0 rfl) ?_
      refine gf3_4 C0 hM hv fl_RX3_33 dX3_standingOf_6 ?_
      refine lv_icmp_ge (tgt := 44) C0.1 C0.2.1 dX3_standingOf_9 (by decide) (fun c3 => ?_) (fun c3 => ?_)
      · have hF := if_t c3 hF
        refine lv_iload_n C0.1 C0.2.1 dX3_standingOf_44 rfl (lv_at hl 2 rfl) ?_
        have e8 := y_1 hF
        subst e8
        exact y_iret C0 hM hsz dX3_standingOf_45
      · have hF := if_f c3 hF
        refine lv_aload_n C0.1 C0.2.1 dX3_standingOf_12 rfl (lv_at hl 0 rfl) ?_
        refine lv_iload_n C0.1 C0.2.1 dX3_standingOf_13 rfl (lv_at hl 3 rfl) ?_
        obtain ⟨r5, h4, hF⟩ := bd_some hF
        refine y_vr (rest := []) C0 hM hl.1 hv (ent3 hv) rfl (k_X3_at l G M v l3_2 h4 hv) cw_RX3_59 rfl rfl ⟨Nat.le_of_ble_eq_true rfl, Nat.le_of_ble_eq_true rfl⟩ rfl (Nat.le_of_ble_eq_true rfl) ⟨Nat.le_of_ble_eq_true rfl, Nat.le_of_ble_eq_true rfl⟩ dX3_standingOf_14 (fun H locs hM => ?_)
        refine gf0_0 C0 hM (at_ok h4 hv) fl_RX3_63 dX3_standingOf_17 ?_
        refine lv_iload_n C0.1 C0.2.1 dX3_standingOf_20 rfl (lv_at hl 1 rfl) ?_
        refine lv_icmp_ne (tgt := 38) C0.1 C0.2.1 dX3_standingOf_21 (by decide) (fun c6 => ?_) (fun c6 => ?_)
        · have hF := if_t c6 hF
          obtain ⟨x7, ex7, hF⟩ := nm_some hF
          refine lv_iinc (v := x7) (lv' := [(3, .int x7), (0, .ref (gad G v)), (1, .int a0), (2, .int l2_1)]) C0.1 C0.2.1 dX3_standingOf_38 hl (k := 3) rfl (by rw [ex7]; rfl) (by decide) rfl (fun ls hl => ?_)
          refine lv_goto (tgt := 4) C0.1 C0.2.1 dX3_standingOf_41 (by decide) ?_
          exact ih4 l2_1 x7 _ _ _ hM (lv_sub hl [1, 2, 3, 0] rfl) hF
        · have hF := if_f (fun q => q c6) hF
          refine lv_aload_n C0.1 C0.2.1 dX3_standingOf_24 rfl (lv_at hl 0 rfl) ?_
          refine lv_iload_n C0.1 C0.2.1 dX3_standingOf_25 rfl (lv_at hl 3 rfl) ?_
          obtain ⟨r9, h8, hF⟩ := bd_some hF
          refine y_vr (rest := []) C0 hM hl.1 hv (ent3 hv) rfl (k_X3_at l G M v l3_2 h8 hv) cw_RX3_59 rfl rfl ⟨Nat.le_of_ble_eq_true rfl, Nat.le_of_ble_eq_true rfl⟩ rfl (Nat.le_of_ble_eq_true rfl) ⟨Nat.le_of_ble_eq_true rfl, Nat.le_of_ble_eq_true rfl⟩ dX3_standingOf_26 (fun H locs hM => ?_)
          obtain ⟨r11, h10, hF⟩ := bd_some hF
          refine y_vi (rest := []) C0 hM hl.1 (at_ok h8 hv) (ent0 (at_ok h8 hv)) rfl (k_X0_hasFallen l G M r9 h10 (at_ok h8 hv)) cw_RX3_108 rfl rfl ⟨Nat.le_of_ble_eq_true rfl, Nat.le_of_ble_eq_true rfl⟩ rfl (Nat.le_of_ble_eq_true rfl) ⟨Nat.le_of_ble_eq_true rfl, Nat.le_of_ble_eq_true rfl⟩ dX3_standingOf_29 (fun H locs hM => ?_)
          refine lv_if_ne (tgt := 38) C0.1 C0.2.1 dX3_standingOf_32 (by decide) (fun c12 => ?_) (fun c12 => ?_)
          · have hF := if_t c12 hF
            obtain ⟨x13, ex13, hF⟩ := nm_some hF
            refine lv_iinc (v := x13) (lv' := [(3, .int x13), (0, .ref (gad G v)), (1, .int a0), (2, .int l2_1)]) C0.1 C0.2.1 dX3_standingOf_38 hl (k := 3) rfl (by rw [ex13]; rfl) (by decide) rfl (fun ls hl => ?_)
            refine lv_goto (tgt := 4) C0.1 C0.2.1 dX3_standingOf_41 (by decide) ?_
            exact ih4 l2_1 x13 _ _ _ hM (lv_sub hl [1, 2, 3, 0] rfl) hF
          · have hF := if_f (fun q => q c12) hF
            obtain ⟨x14, ex14, hF⟩ := nm_some hF
            refine lv_iinc (v := x14) (lv' := [(2, .int x14), (0, .ref (gad G v)), (1, .int a0), (3, .int l3_2)]) C0.1 C0.2.1 dX3_standingOf_35 hl (k := 2) rfl (by rw [ex14]; rfl) (by decide) rfl (fun ls hl => ?_)
            obtain ⟨x15, ex15, hF⟩ := nm_some hF
            refine lv_iinc (v := x15) (lv' := [(3, .int x15), (2, .int x14), (0, .ref (gad G v)), (1, .int a0)]) C0.1 C0.2.1 dX3_standingOf_38 hl (k := 3) rfl (by rw [ex15]; rfl) (by decide) rfl (fun ls hl => ?_)
            refine lv_goto (tgt := 4) C0.1 C0.2.1 dX3_standingOf_41 (by decide) ?_
            exact ih4 x14 x15 _ _ _ hM (lv_sub hl [2, 3, 1, 0] rfl) hF
  exact L4 FU (0 : Int32) (0 : Int32) _ _ _ hM (lv_sub hl [2, 3, 1, 0] rfl) hF

def F_X3_nextTurn (M : MS) (v : Nat) : Option (Int32 × MS) := (bd (F_X2_placeOf M (v + 2) (rF M 54 v)) fun r2 => (bd (F_X3_nextFrom M v (r2 + (1 : Int32))) fun r4 => (if ¬ r4 = (-1 : Int32) then (some (r4, M)) else (bd (F_X3_standingOf M v (0 : Int32)) fun r7 => (bd (F_X3_standingOf M v (1 : Int32)) fun r9 => (if ¬ (r7 + r9) = 0 then (nm (wF M 53 v ((rF M 53 v) + (1 : Int32))) fun M11 => (bd (F_X3_endDelays M11 v) fun M13 => (bd (F_X3_nextFrom M13 v (0 : Int32)) fun r15 => (some (r15, M13))))) else (some (r4, M))))))))

set_option maxHeartbeats 4000000 in
set_option maxRecDepth 100000 in
theorem k_X3_nextTurn (l : Launch) (G : GG) (M : MS) (v : Nat) {r : Int32} {Mf : MS} (hF : F_X3_nextTurn M v = some (r, Mf)) (hv : ok 3 v) : KI l yX3_nextTurn (WS yX3_nextTurn cX3_nextTurn 2 (some .int)) (Rm 2) G [.ref (gad G v)] M r Mf := by
  intro sz
  refine y_met (by decide +kernel) (Nat.le_of_ble_eq_true rfl) rfl (fun p e s m below meth c ls hsz C0 hM hl => ?_)
  have hl : lv_has ls 2 [(0, .ref (gad G v))] := hl
  have C0 : CX p s m meth c ([.ref (gad G v)] : List Value).toArray cX3_nextTurn RX3 2 (some .int) := C0
  rw [F_X3_nextTurn] at hF
  refine lv_aload_n C0.1 C0.2.1 dX3_nextTurn_0 rfl (lv_at hl 0 rfl) ?_
  refine lv_aload_n C0.1 C0.2.1 dX3_nextTurn_1 rfl (lv_at hl 0 rfl) ?_
  refine gf3_2 C0 hM hv fl_RX3_25 dX3_nextTurn_2 ?_
  refine lv_aload_n C0.1 C0.2.1 dX3_nextTurn_5 rfl (lv_at hl 0 rfl) ?_
  refine gf3_6 C0 hM hv fl_RX3_40 dX3_nextTurn_6 ?_
  obtain ⟨r2, h1, hF⟩ := bd_some hF
  refine y_vi (rest := [.ref (gad G v)]) C0 hM hl.1 (ok_row hv) (ent2 (ok_row hv)) rfl (k_X2_placeOf l G M (v + 2) (rF M 54 v) h1 (ok_row hv)) cw_RX3_124 rfl rfl ⟨Nat.le_of_ble_eq_true rfl, Nat.le_of_ble_eq_true rfl⟩ rfl (Nat.le_of_ble_eq_true rfl) ⟨Nat.le_of_ble_eq_true rfl, Nat.le_of_ble_eq_true rfl⟩ dX3_nextTurn_9 (fun H locs hM => ?_)
  refine lv_iconst (v := (1 : Int32)) C0.1 C0.2.1 dX3_nextTurn_12 (by decide) ?_
  refine lv_iadd C0.1 C0.2.1 dX3_nextTurn_13 ?_
  obtain ⟨r4, h3, hF⟩ := bd_some hF
  refine y_vi (rest := []) C0 hM hl.1 hv (ent3 hv) rfl (k_X3_nextFrom l G M v (r2 + (1 : Int32)) h3 hv) cw_RX3_94 rfl rfl ⟨Nat.le_of_ble_eq_true rfl, Nat.le_of_ble_eq_true rfl⟩ rfl (Nat.le_of_ble_eq_true rfl) ⟨Nat.le_of_ble_eq_true rfl, Nat.le_of_ble_eq_true rfl⟩ dX3_nextTurn_14 (fun H locs hM => ?_)
  refine lv_istore_n (lv' := [(1, .int r4), (0, .ref (gad G v))]) C0.1 C0.2.1 dX3_nextTurn_17 rfl hl (by decide) rfl (fun ls hl => ?_)
  refine lv_iload_n C0.1 C0.2.1 dX3_nextTurn_18 rfl (lv_at hl 0 rfl) ?_
  refine lv_iconst (v := (-1 : Int32)) C0.1 C0.2.1 dX3_nextTurn_19 (by decide) ?_
  refine lv_icmp_ne (tgt := 37) C0.1 C0.2.1 dX3_nextTurn_20 (by decide) (fun c5 => ?_) (fun c5 => ?_)
  · have hF := if_t c5 hF
    refine lv_iload_n C0.1 C0.2.1 dX3_nextTurn_37 rfl (lv_at hl 0 rfl) ?_
    obtain ⟨e8, e9⟩ := y_2 hF
    subst e8
    subst e9
    exact y_iret C0 hM hsz dX3_nextTurn_38
  · have hF := if_f (fun q => q c5) hF
    refine lv_aload_n C0.1 C0.2.1 dX3_nextTurn_23 rfl (lv_at hl 1 rfl) ?_
    refine lv_iconst (v := (0 : Int32)) C0.1 C0.2.1 dX3_nextTurn_24 (by decide) ?_
    obtain ⟨r7, h6, hF⟩ := bd_some hF
    refine y_vi (rest := []) C0 hM hl.1 hv (ent3 hv) rfl (k_X3_standingOf l G M v (0 : Int32) h6 hv) cw_RX3_127 rfl rfl ⟨Nat.le_of_ble_eq_true rfl, Nat.le_of_ble_eq_true rfl⟩ rfl (Nat.le_of_ble_eq_true rfl) ⟨Nat.le_of_ble_eq_true rfl, Nat.le_of_ble_eq_true rfl⟩ dX3_nextTurn_25 (fun H locs hM => ?_)
    refine lv_aload_n C0.1 C0.2.1 dX3_nextTurn_28 rfl (lv_at hl 1 rfl) ?_
    refine lv_iconst (v := (1 : Int32)) C0.1 C0.2.1 dX3_nextTurn_29 (by decide) ?_
    obtain ⟨r9, h8, hF⟩ := bd_some hF
    refine y_vi (rest := [.int r7]) C0 hM hl.1 hv (ent3 hv) rfl (k_X3_standingOf l G M v (1 : Int32) h8 hv) cw_RX3_127 rfl rfl ⟨Nat.le_of_ble_eq_true rfl, Nat.le_of_ble_eq_true rfl⟩ rfl (Nat.le_of_ble_eq_true rfl) ⟨Nat.le_of_ble_eq_true rfl, Nat.le_of_ble_eq_true rfl⟩ dX3_nextTurn_30 (fun H locs hM => ?_)
    refine lv_iadd C0.1 C0.2.1 dX3_nextTurn_33 ?_
    refine lv_if_ne (tgt := 39) C0.1 C0.2.1 dX3_nextTurn_34 (by decide) (fun c10 => ?_) (fun c10 => ?_)
    · have hF := if_t c10 hF
      refine lv_aload_n C0.1 C0.2.1 dX3_nextTurn_39 rfl (lv_at hl 1 rfl) ?_
      refine lv_dup C0.1 C0.2.1 dX3_nextTurn_40 rfl ?_
      refine gf3_5 C0 hM hv fl_RX3_37 dX3_nextTurn_41 ?_
      refine lv_iconst (v := (1 : Int32)) C0.1 C0.2.1 dX3_nextTurn_44 (by decide) ?_
      refine lv_iadd C0.1 C0.2.1 dX3_nextTurn_45 ?_
      refine pf3_5 C0 hM hv fl_RX3_37 dX3_nextTurn_46 (fun H locs hM => ?_)
      obtain ⟨M11, eM11, hF⟩ := nm_some hF
      have hM := y_mn eM11 hM
      refine lv_aload_n C0.1 C0.2.1 dX3_nextTurn_49 rfl (lv_at hl 1 rfl) ?_
      obtain ⟨M13, h12, hF⟩ := bd_some hF
      refine y_vv (rest := []) C0 hM hl.1 hv (ent3 hv) rfl (k_X3_endDelays l G M11 v h12 hv) cw_RX3_91 rfl rfl ⟨Nat.le_of_ble_eq_true rfl, Nat.le_of_ble_eq_true rfl⟩ rfl (Nat.le_of_ble_eq_true rfl) ⟨Nat.le_of_ble_eq_true rfl, Nat.le_of_ble_eq_true rfl⟩ dX3_nextTurn_50 (fun H locs hM => ?_)
      refine lv_aload_n C0.1 C0.2.1 dX3_nextTurn_53 rfl (lv_at hl 1 rfl) ?_
      refine lv_iconst (v := (0 : Int32)) C0.1 C0.2.1 dX3_nextTurn_54 (by decide) ?_
      obtain ⟨r15, h14, hF⟩ := bd_some hF
      refine y_vi (rest := []) C0 hM hl.1 hv (ent3 hv) rfl (k_X3_nextFrom l G M13 v (0 : Int32) h14 hv) cw_RX3_94 rfl rfl ⟨Nat.le_of_ble_eq_true rfl, Nat.le_of_ble_eq_true rfl⟩ rfl (Nat.le_of_ble_eq_true rfl) ⟨Nat.le_of_ble_eq_true rfl, Nat.le_of_ble_eq_true rfl⟩ dX3_nextTurn_55 (fun H locs hM => ?_)
      obtain ⟨e8, e9⟩ := y_2 hF
      subst e8
      subst e9
      exact y_iret C0 hM hsz dX3_nextTurn_58
    · have hF := if_f (fun q => q c10) hF
      refine lv_iload_n C0.1 C0.2.1 dX3_nextTurn_37 rfl (lv_at hl 0 rfl) ?_
      obtain ⟨e8, e9⟩ := y_2 hF
      subst e8
      subst e9
      exact y_iret C0 hM hsz dX3_nextTurn_38

def F_X3_endTurn_l2 (v : Nat) : Nat → Int32 → MS → Option MS
  | 0, _, _ => none
  | n2 + 1, l1_1, M2 => (if (1000 : Int32) ≤ l1_1 then (some M2) else (if (rF M2 54 v) = (-1 : Int32) then (some M2) else (bd (F_X3_at M2 v (rF M2 54 v)) fun r6 => (bd (F_X0_passRound M2 r6) fun M8 => (bd2 (F_X3_nextTurn M8 v) fun r11 M10 => (nm (wF M10 54 v r11) fun M12 => (if (rF M12 54 v) = (-1 : Int32) then (nm (l1_1 + (1 : Int32)) fun x14 => (F_X3_endTurn_l2 v n2 x14 M12)) else (bd2 (F_X3_beginTurn M12 v) fun r17 M16 => (if r17 = 0 then (nm (l1_1 + (1 : Int32)) fun x19 => (F_X3_endTurn_l2 v n2 x19 M16)) else (some M16))))))))))

def F_X3_endTurn (M : MS) (v : Nat) : Option MS := (F_X3_endTurn_l2 v FU (0 : Int32) M)

set_option maxHeartbeats 4000000 in
set_option maxRecDepth 100000 in
theorem k_X3_endTurn (l : Launch) (G : GG) (M : MS) (v : Nat) {Mf : MS} (hF : F_X3_endTurn M v = some Mf) (hv : ok 3 v) : KV l yX3_endTurn (WS yX3_endTurn cX3_endTurn 2 none) (Rm 3) G [.ref (gad G v)] M Mf := by
  intro sz
  refine y_met (by decide +kernel) (Nat.le_of_ble_eq_true rfl) rfl (fun p e s m below meth c ls hsz C0 hM hl => ?_)
  have hl : lv_has ls 2 [(0, .ref (gad G v))] := hl
  have C0 : CX p s m meth c ([.ref (gad G v)] : List Value).toArray cX3_endTurn RX3 2 none := C0
  rw [F_X3_endTurn] at hF
  refine lv_iconst (v := (0 : Int32)) C0.1 C0.2.1 dX3_endTurn_0 (by decide) ?_
  refine lv_istore_n (lv' := [(1, .int (0 : Int32)), (0, .ref (gad G v))]) C0.1 C0.2.1 dX3_endTurn_1 rfl hl (by decide) rfl (fun ls hl => ?_)
  have L2 : ∀ (n : Nat) (l1_1 : Int32) (M2 : MS) (H : Heap) (locs : List Loc) (ls : Array Slot), MX G M2 s H locs → lv_has ls 2 [(0, .ref (gad G v)), (1, .int l1_1)] → F_X3_endTurn_l2 v n l1_1 M2 = some Mf → W p l e (Rm 3) s m ([.ref (gad G v)] : List Value).toArray below meth c H locs 0 0 (QV below ([.ref (gad G v)] : List Value).toArray s G sz Mf) (F0 m 2 ls []) := by
    intro n
    induction n with
    | zero => intro l1_1 M2 H locs ls hM hl hF; rw [F_X3_endTurn_l2] at hF; cases hF
    | succ n2 ih2 =>
      intro l1_1 M2 H locs ls hM hl hF
      rw [F_X3_endTurn_l2] at hF
      refine lv_iload_n C0.1 C0.2.1 dX3_endTurn_2 rfl (lv_at hl 1 rfl) ?_
      refine lv_sipush (v := (1000 : Int32)) C0.1 C0.2.1 dX3_endTurn_3 (by decide) ?_
      refine lv_icmp_ge (tgt := 58) C0.1 C0.2.1 dX3_endTurn_6 (by decide) (fun c3 => ?_) (fun c3 => ?_)
      · have hF := if_t c3 hF
        have e9 := y_1 hF
        subst e9
        exact y_vret C0 hM hsz dX3_endTurn_58
      · have hF := if_f c3 hF
        refine lv_aload_n C0.1 C0.2.1 dX3_endTurn_9 rfl (lv_at hl 0 rfl) ?_
        refine gf3_6 C0 hM hv fl_RX3_40 dX3_endTurn_10 ?_
        refine lv_iconst (v := (-1 : Int32)) C0.1 C0.2.1 dX3_endTurn_13 (by decide) ?_
        refine lv_icmp_eq (tgt := 58) C0.1 C0.2.1 dX3_endTurn_14 (by decide) (fun c4 => ?_) (fun c4 => ?_)
        · have hF := if_t c4 hF
          have e9 := y_1 hF
          subst e9
          exact y_vret C0 hM hsz dX3_endTurn_58
        · have hF := if_f c4 hF
          refine lv_aload_n C0.1 C0.2.1 dX3_endTurn_17 rfl (lv_at hl 0 rfl) ?_
          refine lv_aload_n C0.1 C0.2.1 dX3_endTurn_18 rfl (lv_at hl 0 rfl) ?_
          refine gf3_6 C0 hM hv fl_RX3_40 dX3_endTurn_19 ?_
          obtain ⟨r6, h5, hF⟩ := bd_some hF
          refine y_vr (rest := []) C0 hM hl.1 hv (ent3 hv) rfl (k_X3_at l G M2 v (rF M2 54 v) h5 hv) cw_RX3_59 rfl rfl ⟨Nat.le_of_ble_eq_true rfl, Nat.le_of_ble_eq_true rfl⟩ rfl (Nat.le_of_ble_eq_true rfl) ⟨Nat.le_of_ble_eq_true rfl, Nat.le_of_ble_eq_true rfl⟩ dX3_endTurn_22 (fun H locs hM => ?_)
          obtain ⟨M8, h7, hF⟩ := bd_some hF
          refine y_vv (rest := []) C0 hM hl.1 (at_ok h5 hv) (ent0 (at_ok h5 hv)) rfl (k_X0_passRound l G M2 r6 h7 (at_ok h5 hv)) cw_RX3_117 rfl rfl ⟨Nat.le_of_ble_eq_true rfl, Nat.le_of_ble_eq_true rfl⟩ rfl (Nat.le_of_ble_eq_true rfl) ⟨Nat.le_of_ble_eq_true rfl, Nat.le_of_ble_eq_true rfl⟩ dX3_endTurn_25 (fun H locs hM => ?_)
          refine lv_aload_n C0.1 C0.2.1 dX3_endTurn_28 rfl (lv_at hl 0 rfl) ?_
          refine lv_aload_n C0.1 C0.2.1 dX3_endTurn_29 rfl (lv_at hl 0 rfl) ?_
          obtain ⟨r11, M10, h9, hF⟩ := bd2_some hF
          refine y_vi (rest := [.ref (gad G v)]) C0 hM hl.1 hv (ent3 hv) rfl (k_X3_nextTurn l G M8 v h9 hv) cw_RX3_120 rfl rfl ⟨Nat.le_of_ble_eq_true rfl, Nat.le_of_ble_eq_true rfl⟩ rfl (Nat.le_of_ble_eq_true rfl) ⟨Nat.le_of_ble_eq_true rfl, Nat.le_of_ble_eq_true rfl⟩ dX3_endTurn_30 (fun H locs hM => ?_)
          refine pf3_6 C0 hM hv fl_RX3_40 dX3_endTurn_33 (fun H locs hM => ?_)
          obtain ⟨M12, eM12, hF⟩ := nm_some hF
          have hM := y_mn eM12 hM
          refine lv_aload_n C0.1 C0.2.1 dX3_endTurn_36 rfl (lv_at hl 0 rfl) ?_
          refine gf3_6 C0 hM hv fl_RX3_40 dX3_endTurn_37 ?_
          refine lv_iconst (v := (-1 : Int32)) C0.1 C0.2.1 dX3_endTurn_40 (by decide) ?_
          refine lv_icmp_eq (tgt := 52) C0.1 C0.2.1 dX3_endTurn_41 (by decide) (fun c13 => ?_) (fun c13 => ?_)
          · have hF := if_t c13 hF
            obtain ⟨x14, ex14, hF⟩ := nm_some hF
            refine lv_iinc (v := x14) (lv' := [(1, .int x14), (0, .ref (gad G v))]) C0.1 C0.2.1 dX3_endTurn_52 hl (k := 1) rfl (by rw [ex14]; rfl) (by decide) rfl (fun ls hl => ?_)
            refine lv_goto (tgt := 2) C0.1 C0.2.1 dX3_endTurn_55 (by decide) ?_
            exact ih2 x14 M12 _ _ _ hM (lv_sub hl [1, 0] rfl) hF
          · have hF := if_f c13 hF
            refine lv_aload_n C0.1 C0.2.1 dX3_endTurn_44 rfl (lv_at hl 0 rfl) ?_
            obtain ⟨r17, M16, h15, hF⟩ := bd2_some hF
            refine y_vi (rest := []) C0 hM hl.1 hv (ent3 hv) rfl (k_X3_beginTurn l G M12 v h15 hv) cw_RX3_97 rfl rfl ⟨Nat.le_of_ble_eq_true rfl, Nat.le_of_ble_eq_true rfl⟩ rfl (Nat.le_of_ble_eq_true rfl) ⟨Nat.le_of_ble_eq_true rfl, Nat.le_of_ble_eq_true rfl⟩ dX3_endTurn_45 (fun H locs hM => ?_)
            refine lv_if_eq (tgt := 52) C0.1 C0.2.1 dX3_endTurn_48 (by decide) (fun c18 => ?_) (fun c18 => ?_)
            · have hF := if_t c18 hF
              obtain ⟨x19, ex19, hF⟩ := nm_some hF
              refine lv_iinc (v := x19) (lv' := [(1, .int x19), (0, .ref (gad G v))]) C0.1 C0.2.1 dX3_endTurn_52 hl (k := 1) rfl (by rw [ex19]; rfl) (by decide) rfl (fun ls hl => ?_)
              refine lv_goto (tgt := 2) C0.1 C0.2.1 dX3_endTurn_55 (by decide) ?_
              exact ih2 x19 M16 _ _ _ hM (lv_sub hl [1, 0] rfl) hF
            · have hF := if_f c18 hF
              have e9 := y_1 hF
              subst e9
              exact y_vret C0 hM hsz dX3_endTurn_51
  exact L2 FU (0 : Int32) M _ _ _ hM (lv_sub hl [1, 0] rfl) hF

def F_X3_beginAnew_l10 (v : Nat) : Nat → Int32 → MS → Option MS
  | 0, _, _ => none
  | n10 + 1, l1_2, M3 => (if (rF M3 52 v) ≤ l1_2 then (nm (wF M3 53 v (1 : Int32)) fun M5 => (bd (F_X3_endDelays M5 v) fun M7 => (bd (F_X3_nextFrom M7 v (0 : Int32)) fun r9 => (nm (wF M7 54 v r9) fun M10 => (if (rF M10 54 v) = (-1 : Int32) then (some M10) else (bd2 (F_X3_beginTurn M10 v) fun r14 M13 => (if ¬ r14 = 0 then (some M13) else (bd (F_X3_endTurn M13 v) fun M17 => (some M17))))))))) else (bd (F_X3_at M3 v l1_2) fun r19 => (bd (F_X0_forgetReadied M3 r19) fun M21 => (bd (F_X3_lineUp M21 v l1_2) fun M23 => (nm (l1_2 + (1 : Int32)) fun x24 => (F_X3_beginAnew_l10 v n10 x24 M23))))))

def F_X3_beginAnew (M : MS) (v : Nat) : Option MS := (nm (wF M 33 (v + 2) (0 : Int32)) fun M1 => (F_X3_beginAnew_l10 v FU (0 : Int32) M1))

set_option maxHeartbeats 4000000 in
set_option maxRecDepth 100000 in
theorem k_X3_beginAnew (l : Launch) (G : GG) (M : MS) (v : Nat) {Mf : MS} (hF : F_X3_beginAnew M v = some Mf) (hv : ok 3 v) : KV l yX3_beginAnew (WS yX3_beginAnew cX3_beginAnew 2 none) (Rm 4) G [.ref (gad G v)] M Mf := by
  intro sz
  refine y_met (by decide +kernel) (Nat.le_of_ble_eq_true rfl) rfl (fun p e s m below meth c ls hsz C0 hM hl => ?_)
  have hl : lv_has ls 2 [(0, .ref (gad G v))] := hl
  have C0 : CX p s m meth c ([.ref (gad G v)] : List Value).toArray cX3_beginAnew RX3 2 none := C0
  rw [F_X3_beginAnew] at hF
  refine lv_aload_n C0.1 C0.2.1 dX3_beginAnew_0 rfl (lv_at hl 0 rfl) ?_
  refine gf3_2 C0 hM hv fl_RX3_25 dX3_beginAnew_1 ?_
  refine lv_iconst (v := (0 : Int32)) C0.1 C0.2.1 dX3_beginAnew_4 (by decide) ?_
  refine pf2_1 C0 hM (ok_row hv) fl_RX3_77 dX3_beginAnew_5 (fun H locs hM => ?_)
  obtain ⟨M1, eM1, hF⟩ := nm_some hF
  have hM := y_mn eM1 hM
  refine lv_iconst (v := (0 : Int32)) C0.1 C0.2.1 dX3_beginAnew_8 (by decide) ?_
  refine lv_istore_n (lv' := [(1, .int (0 : Int32)), (0, .ref (gad G v))]) C0.1 C0.2.1 dX3_beginAnew_9 rfl hl (by decide) rfl (fun ls hl => ?_)
  have L10 : ∀ (n : Nat) (l1_2 : Int32) (M3 : MS) (H : Heap) (locs : List Loc) (ls : Array Slot), MX G M3 s H locs → lv_has ls 2 [(0, .ref (gad G v)), (1, .int l1_2)] → F_X3_beginAnew_l10 v n l1_2 M3 = some Mf → W p l e (Rm 4) s m ([.ref (gad G v)] : List Value).toArray below meth c H locs 0 0 (QV below ([.ref (gad G v)] : List Value).toArray s G sz Mf) (F0 m 10 ls []) := by
    intro n
    induction n with
    | zero => intro l1_2 M3 H locs ls hM hl hF; rw [F_X3_beginAnew_l10] at hF; cases hF
    | succ n10 ih10 =>
      intro l1_2 M3 H locs ls hM hl hF
      rw [F_X3_beginAnew_l10] at hF
      refine lv_iload_n C0.1 C0.2.1 dX3_beginAnew_10 rfl (lv_at hl 1 rfl) ?_
      refine lv_aload_n C0.1 C0.2.1 dX3_beginAnew_11 rfl (lv_at hl 0 rfl) ?_
      refine gf3_4 C0 hM hv fl_RX3_33 dX3_beginAnew_12 ?_
      refine lv_icmp_ge (tgt := 37) C0.1 C0.2.1 dX3_beginAnew_15 (by decide) (fun c4 => ?_) (fun c4 => ?_)
      · have hF := if_t c4 hF
        refine lv_aload_n C0.1 C0.2.1 dX3_beginAnew_37 rfl (lv_at hl 0 rfl) ?_
        refine lv_iconst (v := (1 : Int32)) C0.1 C0.2.1 dX3_beginAnew_38 (by decide) ?_
        refine pf3_5 C0 hM hv fl_RX3_37 dX3_beginAnew_39 (fun H locs hM => ?_)
        obtain ⟨M5, eM5, hF⟩ := nm_some hF
        have hM := y_mn eM5 hM
        refine lv_aload_n C0.1 C0.2.1 dX3_beginAnew_42 rfl (lv_at hl 0 rfl) ?_
        obtain ⟨M7, h6, hF⟩ := bd_some hF
        refine y_vv (rest := []) C0 hM hl.1 hv (ent3 hv) rfl (k_X3_endDelays l G M5 v h6 hv) cw_RX3_91 rfl rfl ⟨Nat.le_of_ble_eq_true rfl, Nat.le_of_ble_eq_true rfl⟩ rfl (Nat.le_of_ble_eq_true rfl) ⟨Nat.le_of_ble_eq_true rfl, Nat.le_of_ble_eq_true rfl⟩ dX3_beginAnew_43 (fun H locs hM => ?_)
        refine lv_aload_n C0.1 C0.2.1 dX3_beginAnew_46 rfl (lv_at hl 0 rfl) ?_
        refine lv_aload_n C0.1 C0.2.1 dX3_beginAnew_47 rfl (lv_at hl 0 rfl) ?_
        refine lv_iconst (v := (0 : Int32)) C0.1 C0.2.1 dX3_beginAnew_48 (by decide) ?_
        obtain ⟨r9, h8, hF⟩ := bd_some hF
        refine y_vi (rest := [.ref (gad G v)]) C0 hM hl.1 hv (ent3 hv) rfl (k_X3_nextFrom l G M7 v (0 : Int32) h8 hv) cw_RX3_94 rfl rfl ⟨Nat.le_of_ble_eq_true rfl, Nat.le_of_ble_eq_true rfl⟩ rfl (Nat.le_of_ble_eq_true rfl) ⟨Nat.le_of_ble_eq_true rfl, Nat.le_of_ble_eq_true rfl⟩ dX3_beginAnew_49 (fun H locs hM => ?_)
        refine pf3_6 C0 hM hv fl_RX3_40 dX3_beginAnew_52 (fun H locs hM => ?_)
        obtain ⟨M10, eM10, hF⟩ := nm_some hF
        have hM := y_mn eM10 hM
        refine lv_aload_n C0.1 C0.2.1 dX3_beginAnew_55 rfl (lv_at hl 0 rfl) ?_
        refine gf3_6 C0 hM hv fl_RX3_40 dX3_beginAnew_56 ?_
        refine lv_iconst (v := (-1 : Int32)) C0.1 C0.2.1 dX3_beginAnew_59 (by decide) ?_
        refine lv_icmp_eq (tgt := 74) C0.1 C0.2.1 dX3_beginAnew_60 (by decide) (fun c11 => ?_) (fun c11 => ?_)
        · have hF := if_t c11 hF
          have e9 := y_1 hF
          subst e9
          exact y_vret C0 hM hsz dX3_beginAnew_74
        · have hF := if_f c11 hF
          refine lv_aload_n C0.1 C0.2.1 dX3_beginAnew_63 rfl (lv_at hl 0 rfl) ?_
          obtain ⟨r14, M13, h12, hF⟩ := bd2_some hF
          refine y_vi (rest := []) C0 hM hl.1 hv (ent3 hv) rfl (k_X3_beginTurn l G M10 v h12 hv) cw_RX3_97 rfl rfl ⟨Nat.le_of_ble_eq_true rfl, Nat.le_of_ble_eq_true rfl⟩ rfl (Nat.le_of_ble_eq_true rfl) ⟨Nat.le_of_ble_eq_true rfl, Nat.le_of_ble_eq_true rfl⟩ dX3_beginAnew_64 (fun H locs hM => ?_)
          refine lv_if_ne (tgt := 74) C0.1 C0.2.1 dX3_beginAnew_67 (by decide) (fun c15 => ?_) (fun c15 => ?_)
          · have hF := if_t c15 hF
            have e9 := y_1 hF
            subst e9
            exact y_vret C0 hM hsz dX3_beginAnew_74
          · have hF := if_f (fun q => q c15) hF
            refine lv_aload_n C0.1 C0.2.1 dX3_beginAnew_70 rfl (lv_at hl 0 rfl) ?_
            obtain ⟨M17, h16, hF⟩ := bd_some hF
            refine y_vv (rest := []) C0 hM hl.1 hv (ent3 hv) rfl (k_X3_endTurn l G M13 v h16 hv) cw_RX3_101 rfl rfl ⟨Nat.le_of_ble_eq_true rfl, Nat.le_of_ble_eq_true rfl⟩ rfl (Nat.le_of_ble_eq_true rfl) ⟨Nat.le_of_ble_eq_true rfl, Nat.le_of_ble_eq_true rfl⟩ dX3_beginAnew_71 (fun H locs hM => ?_)
            have e9 := y_1 hF
            subst e9
            exact y_vret C0 hM hsz dX3_beginAnew_74
      · have hF := if_f c4 hF
        refine lv_aload_n C0.1 C0.2.1 dX3_beginAnew_18 rfl (lv_at hl 0 rfl) ?_
        refine lv_iload_n C0.1 C0.2.1 dX3_beginAnew_19 rfl (lv_at hl 1 rfl) ?_
        obtain ⟨r19, h18, hF⟩ := bd_some hF
        refine y_vr (rest := []) C0 hM hl.1 hv (ent3 hv) rfl (k_X3_at l G M3 v l1_2 h18 hv) cw_RX3_59 rfl rfl ⟨Nat.le_of_ble_eq_true rfl, Nat.le_of_ble_eq_true rfl⟩ rfl (Nat.le_of_ble_eq_true rfl) ⟨Nat.le_of_ble_eq_true rfl, Nat.le_of_ble_eq_true rfl⟩ dX3_beginAnew_20 (fun H locs hM => ?_)
        obtain ⟨M21, h20, hF⟩ := bd_some hF
        refine y_vv (rest := []) C0 hM hl.1 (at_ok h18 hv) (ent0 (at_ok h18 hv)) rfl (k_X0_forgetReadied l G M3 r19 h20 (at_ok h18 hv)) cw_RX3_88 rfl rfl ⟨Nat.le_of_ble_eq_true rfl, Nat.le_of_ble_eq_true rfl⟩ rfl (Nat.le_of_ble_eq_true rfl) ⟨Nat.le_of_ble_eq_true rfl, Nat.le_of_ble_eq_true rfl⟩ dX3_beginAnew_23 (fun H locs hM => ?_)
        refine lv_aload_n C0.1 C0.2.1 dX3_beginAnew_26 rfl (lv_at hl 0 rfl) ?_
        refine lv_iload_n C0.1 C0.2.1 dX3_beginAnew_27 rfl (lv_at hl 1 rfl) ?_
        obtain ⟨M23, h22, hF⟩ := bd_some hF
        refine y_vv (rest := []) C0 hM hl.1 hv (ent3 hv) rfl (k_X3_lineUp l G M21 v l1_2 h22 hv) cw_RX3_70 rfl rfl ⟨Nat.le_of_ble_eq_true rfl, Nat.le_of_ble_eq_true rfl⟩ rfl (Nat.le_of_ble_eq_true rfl) ⟨Nat.le_of_ble_eq_true rfl, Nat.le_of_ble_eq_true rfl⟩ dX3_beginAnew_28 (fun H locs hM => ?_)
        obtain ⟨x24, ex24, hF⟩ := nm_some hF
        refine lv_iinc (v := x24) (lv' := [(1, .int x24), (0, .ref (gad G v))]) C0.1 C0.2.1 dX3_beginAnew_31 hl (k := 1) rfl (by rw [ex24]; rfl) (by decide) rfl (fun ls hl => ?_)
        refine lv_goto (tgt := 10) C0.1 C0.2.1 dX3_beginAnew_34 (by decide) ?_
        exact ih10 x24 M23 _ _ _ hM (lv_sub hl [1, 0] rfl) hF
  exact L10 FU (0 : Int32) M1 _ _ _ hM (lv_sub hl [1, 0] rfl) hF

def F_X3_delayTurn (M : MS) (v : Nat) : Option MS := (bd (F_X3_at M v (rF M 54 v)) fun r2 => (nm (wF M 7 r2 (1 : Int32)) fun M3 => (bd (F_X3_endTurn M3 v) fun M5 => (some M5))))

set_option maxHeartbeats 4000000 in
set_option maxRecDepth 100000 in
theorem k_X3_delayTurn (l : Launch) (G : GG) (M : MS) (v : Nat) {Mf : MS} (hF : F_X3_delayTurn M v = some Mf) (hv : ok 3 v) : KV l yX3_delayTurn (WS yX3_delayTurn cX3_delayTurn 1 none) (Rm 4) G [.ref (gad G v)] M Mf := by
  intro sz
  refine y_met (by decide +kernel) (Nat.le_of_ble_eq_true rfl) rfl (fun p e s m below meth c ls hsz C0 hM hl => ?_)
  have hl : lv_has ls 1 [(0, .ref (gad G v))] := hl
  have C0 : CX p s m meth c ([.ref (gad G v)] : List Value).toArray cX3_delayTurn RX3 1 none := C0
  rw [F_X3_delayTurn] at hF
  refine lv_aload_n C0.1 C0.2.1 dX3_delayTurn_0 rfl (lv_at hl 0 rfl) ?_
  refine lv_aload_n C0.1 C0.2.1 dX3_delayTurn_1 rfl (lv_at hl 0 rfl) ?_
  refine gf3_6 C0 hM hv fl_RX3_40 dX3_delayTurn_2 ?_
  obtain ⟨r2, h1, hF⟩ := bd_some hF
  refine y_vr (rest := []) C0 hM hl.1 hv (ent3 hv) rfl (k_X3_at l G M v (rF M 54 v) h1 hv) cw_RX3_59 rfl rfl ⟨Nat.le_of_ble_eq_true rfl, Nat.le_of_ble_eq_true rfl⟩ rfl (Nat.le_of_ble_eq_true rfl) ⟨Nat.le_of_ble_eq_true rfl, Nat.le_of_ble_eq_true rfl⟩ dX3_delayTurn_5 (fun H locs hM => ?_)
  refine lv_iconst (v := (1 : Int32)) C0.1 C0.2.1 dX3_delayTurn_8 (by decide) ?_
  refine pf0_7 C0 hM (at_ok h1 hv) rfl rfl fl_RX3_104 dX3_delayTurn_9 (fun H locs hM => ?_)
  obtain ⟨M3, eM3, hF⟩ := nm_some hF
  have hM := y_mn eM3 hM
  refine lv_aload_n C0.1 C0.2.1 dX3_delayTurn_12 rfl (lv_at hl 0 rfl) ?_
  obtain ⟨M5, h4, hF⟩ := bd_some hF
  refine y_vv (rest := []) C0 hM hl.1 hv (ent3 hv) rfl (k_X3_endTurn l G M3 v h4 hv) cw_RX3_101 rfl rfl ⟨Nat.le_of_ble_eq_true rfl, Nat.le_of_ble_eq_true rfl⟩ rfl (Nat.le_of_ble_eq_true rfl) ⟨Nat.le_of_ble_eq_true rfl, Nat.le_of_ble_eq_true rfl⟩ dX3_delayTurn_13 (fun H locs hM => ?_)
  have e9 := y_1 hF
  subst e9
  exact y_vret C0 hM hsz dX3_delayTurn_16

def F_X3_canBeLetIn (M : MS) (v : Nat) (a0 : Int32) : Option Int32 := (if (rF M 54 v) = (-1 : Int32) then (some (0 : Int32)) else (bd (F_X3_at M v a0) fun r3 => (if (rF M 7 r3) = 0 then (some (0 : Int32)) else (bd (F_X3_at M v a0) fun r6 => (bd (F_X0_hasFallen M r6) fun r8 => (if ¬ r8 = 0 then (some (0 : Int32)) else (some (1 : Int32))))))))

set_option maxHeartbeats 4000000 in
set_option maxRecDepth 100000 in
theorem k_X3_canBeLetIn (l : Launch) (G : GG) (M : MS) (v : Nat) (a0 : Int32) {r : Int32} (hF : F_X3_canBeLetIn M v a0 = some r) (hv : ok 3 v) : KI l yX3_canBeLetIn (WS yX3_canBeLetIn cX3_canBeLetIn 2 (some .boolean)) (Rm 1) G [.ref (gad G v), .int a0] M r M := by
  intro sz
  refine y_met (by decide +kernel) (Nat.le_of_ble_eq_true rfl) rfl (fun p e s m below meth c ls hsz C0 hM hl => ?_)
  have hl : lv_has ls 2 [(0, .ref (gad G v)), (1, .int a0)] := hl
  have C0 : CX p s m meth c ([.ref (gad G v), .int a0] : List Value).toArray cX3_canBeLetIn RX3 2 (some .boolean) := C0
  rw [F_X3_canBeLetIn] at hF
  refine lv_aload_n C0.1 C0.2.1 dX3_canBeLetIn_0 rfl (lv_at hl 0 rfl) ?_
  refine gf3_6 C0 hM hv fl_RX3_40 dX3_canBeLetIn_1 ?_
  refine lv_iconst (v := (-1 : Int32)) C0.1 C0.2.1 dX3_canBeLetIn_4 (by decide) ?_
  refine lv_icmp_eq (tgt := 34) C0.1 C0.2.1 dX3_canBeLetIn_5 (by decide) (fun c1 => ?_) (fun c1 => ?_)
  · have hF := if_t c1 hF
    refine lv_iconst (v := (0 : Int32)) C0.1 C0.2.1 dX3_canBeLetIn_34 (by decide) ?_
    have e8 := y_1 hF
    subst e8
    exact y_zret C0 hM hsz rfl dX3_canBeLetIn_35
  · have hF := if_f c1 hF
    refine lv_aload_n C0.1 C0.2.1 dX3_canBeLetIn_8 rfl (lv_at hl 0 rfl) ?_
    refine lv_iload_n C0.1 C0.2.1 dX3_canBeLetIn_9 rfl (lv_at hl 1 rfl) ?_
    obtain ⟨r3, h2, hF⟩ := bd_some hF
    refine y_vr (rest := []) C0 hM hl.1 hv (ent3 hv) rfl (k_X3_at l G M v a0 h2 hv) cw_RX3_59 rfl rfl ⟨Nat.le_of_ble_eq_true rfl, Nat.le_of_ble_eq_true rfl⟩ rfl (Nat.le_of_ble_eq_true rfl) ⟨Nat.le_of_ble_eq_true rfl, Nat.le_of_ble_eq_true rfl⟩ dX3_canBeLetIn_10 (fun H locs hM => ?_)
    refine gf0_7 C0 hM (at_ok h2 hv) fl_RX3_104 dX3_canBeLetIn_13 ?_
    refine lv_if_eq (tgt := 34) C0.1 C0.2.1 dX3_canBeLetIn_16 (by decide) (fun c4 => ?_) (fun c4 => ?_)
    · have hF := if_t c4 hF
      refine lv_iconst (v := (0 : Int32)) C0.1 C0.2.1 dX3_canBeLetIn_34 (by decide) ?_
      have e8 := y_1 hF
      subst e8
      exact y_zret C0 hM hsz rfl dX3_canBeLetIn_35
    · have hF := if_f c4 hF
      refine lv_aload_n C0.1 C0.2.1 dX3_canBeLetIn_19 rfl (lv_at hl 0 rfl) ?_
      refine lv_iload_n C0.1 C0.2.1 dX3_canBeLetIn_20 rfl (lv_at hl 1 rfl) ?_
      obtain ⟨r6, h5, hF⟩ := bd_some hF
      refine y_vr (rest := []) C0 hM hl.1 hv (ent3 hv) rfl (k_X3_at l G M v a0 h5 hv) cw_RX3_59 rfl rfl ⟨Nat.le_of_ble_eq_true rfl, Nat.le_of_ble_eq_true rfl⟩ rfl (Nat.le_of_ble_eq_true rfl) ⟨Nat.le_of_ble_eq_true rfl, Nat.le_of_ble_eq_true rfl⟩ dX3_canBeLetIn_21 (fun H locs hM => ?_)
      obtain ⟨r8, h7, hF⟩ := bd_some hF
      refine y_vi (rest := []) C0 hM hl.1 (at_ok h5 hv) (ent0 (at_ok h5 hv)) rfl (k_X0_hasFallen l G M r6 h7 (at_ok h5 hv)) cw_RX3_108 rfl rfl ⟨Nat.le_of_ble_eq_true rfl, Nat.le_of_ble_eq_true rfl⟩ rfl (Nat.le_of_ble_eq_true rfl) ⟨Nat.le_of_ble_eq_true rfl, Nat.le_of_ble_eq_true rfl⟩ dX3_canBeLetIn_24 (fun H locs hM => ?_)
      refine lv_if_ne (tgt := 34) C0.1 C0.2.1 dX3_canBeLetIn_27 (by decide) (fun c9 => ?_) (fun c9 => ?_)
      · have hF := if_t c9 hF
        refine lv_iconst (v := (0 : Int32)) C0.1 C0.2.1 dX3_canBeLetIn_34 (by decide) ?_
        have e8 := y_1 hF
        subst e8
        exact y_zret C0 hM hsz rfl dX3_canBeLetIn_35
      · have hF := if_f (fun q => q c9) hF
        refine lv_iconst (v := (1 : Int32)) C0.1 C0.2.1 dX3_canBeLetIn_30 (by decide) ?_
        refine lv_goto (tgt := 35) C0.1 C0.2.1 dX3_canBeLetIn_31 (by decide) ?_
        have e8 := y_1 hF
        subst e8
        exact y_zret C0 hM hsz rfl dX3_canBeLetIn_35

def F_X3_letIn (M : MS) (v : Nat) (a0 : Int32) : Option (Int32 × MS) := (bd (F_X3_at M v a0) fun r2 => (bd (F_X2_moveBehind M (v + 2) a0 (rF M 54 v)) fun M4 => (bd (F_X3_at M4 v (rF M4 54 v)) fun r6 => (nm (wF M4 1 r2 (rF M4 1 r6)) fun M7 => (nm (wF M7 7 r2 (0 : Int32)) fun M8 => (some ((rF M8 1 r2), M8)))))))

set_option maxHeartbeats 4000000 in
set_option maxRecDepth 100000 in
theorem k_X3_letIn (l : Launch) (G : GG) (M : MS) (v : Nat) (a0 : Int32) {r : Int32} {Mf : MS} (hF : F_X3_letIn M v a0 = some (r, Mf)) (hv : ok 3 v) : KI l yX3_letIn (WS yX3_letIn cX3_letIn 3 (some .int)) (Rm 3) G [.ref (gad G v), .int a0] M r Mf := by
  intro sz
  refine y_met (by decide +kernel) (Nat.le_of_ble_eq_true rfl) rfl (fun p e s m below meth c ls hsz C0 hM hl => ?_)
  have hl : lv_has ls 3 [(0, .ref (gad G v)), (1, .int a0)] := hl
  have C0 : CX p s m meth c ([.ref (gad G v), .int a0] : List Value).toArray cX3_letIn RX3 3 (some .int) := C0
  rw [F_X3_letIn] at hF
  refine lv_aload_n C0.1 C0.2.1 dX3_letIn_0 rfl (lv_at hl 0 rfl) ?_
  refine lv_iload_n C0.1 C0.2.1 dX3_letIn_1 rfl (lv_at hl 1 rfl) ?_
  obtain ⟨r2, h1, hF⟩ := bd_some hF
  refine y_vr (rest := []) C0 hM hl.1 hv (ent3 hv) rfl (k_X3_at l G M v a0 h1 hv) cw_RX3_59 rfl rfl ⟨Nat.le_of_ble_eq_true rfl, Nat.le_of_ble_eq_true rfl⟩ rfl (Nat.le_of_ble_eq_true rfl) ⟨Nat.le_of_ble_eq_true rfl, Nat.le_of_ble_eq_true rfl⟩ dX3_letIn_2 (fun H locs hM => ?_)
  refine lv_astore_n (lv' := [(2, .ref (gad G r2)), (0, .ref (gad G v)), (1, .int a0)]) C0.1 C0.2.1 dX3_letIn_5 rfl hl (by decide) rfl (fun ls hl => ?_)
  refine lv_aload_n C0.1 C0.2.1 dX3_letIn_6 rfl (lv_at hl 1 rfl) ?_
  refine gf3_2 C0 hM hv fl_RX3_25 dX3_letIn_7 ?_
  refine lv_iload_n C0.1 C0.2.1 dX3_letIn_10 rfl (lv_at hl 2 rfl) ?_
  refine lv_aload_n C0.1 C0.2.1 dX3_letIn_11 rfl (lv_at hl 1 rfl) ?_
  refine gf3_6 C0 hM hv fl_RX3_40 dX3_letIn_12 ?_
  obtain ⟨M4, h3, hF⟩ := bd_some hF
  refine y_vv (rest := []) C0 hM hl.1 (ok_row hv) (ent2 (ok_row hv)) rfl (k_X2_moveBehind l G M (v + 2) a0 (rF M 54 v) h3 (ok_row hv)) cw_RX3_130 rfl rfl ⟨Nat.le_of_ble_eq_true rfl, Nat.le_of_ble_eq_true rfl⟩ rfl (Nat.le_of_ble_eq_true rfl) ⟨Nat.le_of_ble_eq_true rfl, Nat.le_of_ble_eq_true rfl⟩ dX3_letIn_15 (fun H locs hM => ?_)
  refine lv_aload_n C0.1 C0.2.1 dX3_letIn_18 rfl (lv_at hl 0 rfl) ?_
  refine lv_aload_n C0.1 C0.2.1 dX3_letIn_19 rfl (lv_at hl 1 rfl) ?_
  refine lv_aload_n C0.1 C0.2.1 dX3_letIn_20 rfl (lv_at hl 1 rfl) ?_
  refine gf3_6 C0 hM hv fl_RX3_40 dX3_letIn_21 ?_
  obtain ⟨r6, h5, hF⟩ := bd_some hF
  refine y_vr (rest := [.ref (gad G r2)]) C0 hM hl.1 hv (ent3 hv) rfl (k_X3_at l G M4 v (rF M4 54 v) h5 hv) cw_RX3_59 rfl rfl ⟨Nat.le_of_ble_eq_true rfl, Nat.le_of_ble_eq_true rfl⟩ rfl (Nat.le_of_ble_eq_true rfl) ⟨Nat.le_of_ble_eq_true rfl, Nat.le_of_ble_eq_true rfl⟩ dX3_letIn_24 (fun H locs hM => ?_)
  refine gf0_1 C0 hM (at_ok h5 hv) fl_RX3_74 dX3_letIn_27 ?_
  refine pf0_1 C0 hM (at_ok h1 hv) fl_RX3_74 dX3_letIn_30 (fun H locs hM => ?_)
  obtain ⟨M7, eM7, hF⟩ := nm_some hF
  have hM := y_mn eM7 hM
  refine lv_aload_n C0.1 C0.2.1 dX3_letIn_33 rfl (lv_at hl 0 rfl) ?_
  refine lv_iconst (v := (0 : Int32)) C0.1 C0.2.1 dX3_letIn_34 (by decide) ?_
  refine pf0_7 C0 hM (at_ok h1 hv) rfl rfl fl_RX3_104 dX3_letIn_35 (fun H locs hM => ?_)
  obtain ⟨M8, eM8, hF⟩ := nm_some hF
  have hM := y_mn eM8 hM
  refine lv_aload_n C0.1 C0.2.1 dX3_letIn_38 rfl (lv_at hl 0 rfl) ?_
  refine gf0_1 C0 hM (at_ok h1 hv) fl_RX3_74 dX3_letIn_39 ?_
  obtain ⟨e8, e9⟩ := y_2 hF
  subst e8
  subst e9
  exact y_iret C0 hM hsz dX3_letIn_42

def F_X3_readyAct (M : MS) (v : Nat) (a0 : Int32) (a1 : Int32) (a2 : Int32) (a3 : Int32) : Option MS := (bd (F_X3_at M v (rF M 54 v)) fun r2 => (nm (wF M 8 r2 a0) fun M3 => (nm (wF M3 9 r2 a1) fun M4 => (nm (wF M4 10 r2 a2) fun M5 => (nm (wF M5 11 r2 a3) fun M6 => (bd (F_X3_endTurn M6 v) fun M8 => (some M8)))))))

set_option maxHeartbeats 4000000 in
set_option maxRecDepth 100000 in
theorem k_X3_readyAct (l : Launch) (G : GG) (M : MS) (v : Nat) (a0 : Int32) (a1 : Int32) (a2 : Int32) (a3 : Int32) {Mf : MS} (hF : F_X3_readyAct M v a0 a1 a2 a3 = some Mf) (hv : ok 3 v) : KV l yX3_readyAct (WS yX3_readyAct cX3_readyAct 6 none) (Rm 4) G [.ref (gad G v), .int a0, .int a1, .int a2, .int a3] M Mf := by
  intro sz
  refine y_met (by decide +kernel) (Nat.le_of_ble_eq_true rfl) rfl (fun p e s m below meth c ls hsz C0 hM hl => ?_)
  have hl : lv_has ls 6 [(0, .ref (gad G v)), (1, .int a0), (2, .int a1), (3, .int a2), (4, .int a3)] := hl
  have C0 : CX p s m meth c ([.ref (gad G v), .int a0, .int a1, .int a2, .int a3] : List Value).toArray cX3_readyAct RX3 6 none := C0
  rw [F_X3_readyAct] at hF
  refine lv_aload_n C0.1 C0.2.1 dX3_readyAct_0 rfl (lv_at hl 0 rfl) ?_
  refine lv_aload_n C0.1 C0.2.1 dX3_readyAct_1 rfl (lv_at hl 0 rfl) ?_
  refine gf3_6 C0 hM hv fl_RX3_40 dX3_readyAct_2 ?_
  obtain ⟨r2, h1, hF⟩ := bd_some hF
  refine y_vr (rest := []) C0 hM hl.1 hv (ent3 hv) rfl (k_X3_at l G M v (rF M 54 v) h1 hv) cw_RX3_59 rfl rfl ⟨Nat.le_of_ble_eq_true rfl, Nat.le_of_ble_eq_true rfl⟩ rfl (Nat.le_of_ble_eq_true rfl) ⟨Nat.le_of_ble_eq_true rfl, Nat.le_of_ble_eq_true rfl⟩ dX3_readyAct_5 (fun H locs hM => ?_)
  refine lv_astore (lv' := [(5, .ref (gad G r2)), (0, .ref (gad G v)), (1, .int a0), (2, .int a1), (3, .int a2), (4, .int a3)]) C0.1 C0.2.1 dX3_readyAct_8 hl (by decide) rfl (fun ls hl => ?_)
  refine lv_aload C0.1 C0.2.1 dX3_readyAct_10 (lv_at hl 0 rfl) ?_
  refine lv_iload_n C0.1 C0.2.1 dX3_readyAct_12 rfl (lv_at hl 2 rfl) ?_
  refine pf0_8 C0 hM (at_ok h1 hv) fl_RX3_133 dX3_readyAct_13 (fun H locs hM => ?_)
  obtain ⟨M3, eM3, hF⟩ := nm_some hF
  have hM := y_mn eM3 hM
  refine lv_aload C0.1 C0.2.1 dX3_readyAct_16 (lv_at hl 0 rfl) ?_
  refine lv_iload_n C0.1 C0.2.1 dX3_readyAct_18 rfl (lv_at hl 3 rfl) ?_
  refine pf0_9 C0 hM (at_ok h1 hv) fl_RX3_136 dX3_readyAct_19 (fun H locs hM => ?_)
  obtain ⟨M4, eM4, hF⟩ := nm_some hF
  have hM := y_mn eM4 hM
  refine lv_aload C0.1 C0.2.1 dX3_readyAct_22 (lv_at hl 0 rfl) ?_
  refine lv_iload_n C0.1 C0.2.1 dX3_readyAct_24 rfl (lv_at hl 4 rfl) ?_
  refine pf0_10 C0 hM (at_ok h1 hv) fl_RX3_139 dX3_readyAct_25 (fun H locs hM => ?_)
  obtain ⟨M5, eM5, hF⟩ := nm_some hF
  have hM := y_mn eM5 hM
  refine lv_aload C0.1 C0.2.1 dX3_readyAct_28 (lv_at hl 0 rfl) ?_
  refine lv_iload C0.1 C0.2.1 dX3_readyAct_30 (lv_at hl 5 rfl) ?_
  refine pf0_11 C0 hM (at_ok h1 hv) fl_RX3_142 dX3_readyAct_32 (fun H locs hM => ?_)
  obtain ⟨M6, eM6, hF⟩ := nm_some hF
  have hM := y_mn eM6 hM
  refine lv_aload_n C0.1 C0.2.1 dX3_readyAct_35 rfl (lv_at hl 1 rfl) ?_
  obtain ⟨M8, h7, hF⟩ := bd_some hF
  refine y_vv (rest := []) C0 hM hl.1 hv (ent3 hv) rfl (k_X3_endTurn l G M6 v h7 hv) cw_RX3_101 rfl rfl ⟨Nat.le_of_ble_eq_true rfl, Nat.le_of_ble_eq_true rfl⟩ rfl (Nat.le_of_ble_eq_true rfl) ⟨Nat.le_of_ble_eq_true rfl, Nat.le_of_ble_eq_true rfl⟩ dX3_readyAct_36 (fun H locs hM => ?_)
  have e9 := y_1 hF
  subst e9
  exact y_vret C0 hM hsz dX3_readyAct_39

def F_X3_isPossible (M : MS) (v : Nat) (a0 : Int32) (a1 : Int32) (a2 : Int32) : Option Int32 := (bd (F_X3_at M v a0) fun r2 => (bd (F_X0_hasFallen M r2) fun r4 => (if r4 = 0 then (if ¬ a1 = (1 : Int32) then (bd (F_X3_at M v a2) fun r8 => (bd (F_X0_hasFallen M r8) fun r10 => (if ¬ r10 = 0 then (some (0 : Int32)) else (if ¬ a2 = a0 then (nm ((if 0 ≤ ((rF M 5 r8) - (rF M 5 r2)) then ((rF M 5 r8) - (rF M 5 r2)) else 0 - ((rF M 5 r8) - (rF M 5 r2))) : Int32) fun x13 => (nm (fun (s14 : Int32) => (if a1 = (0 : Int32) then (gdb (s14 == 0 || s14 == 1) (some s14)) else (if a1 = (2 : Int32) then (if s14 = 0 then (some (0 : Int32)) else (if ¬ (rF M 0 r8) = (rF M 0 r2) then (some (0 : Int32)) else (some (1 : Int32)))) else (if a1 = (3 : Int32) then (if (rF M 0 r8) = (rF M 0 r2) then (some (0 : Int32)) else (some (1 : Int32))) else (some (0 : Int32)))))) fun j114_14 => (if (2 : Int32) < x13 then (j114_14 (0 : Int32)) else (j114_14 (1 : Int32))))) else (some (0 : Int32)))))) else (bd (F_X0_roundsOf M r2 (1 : Int32)) fun r25 => (nm (fun (s26 : Int32) => (if a2 < 0 then (some (0 : Int32)) else (if (9 : Int32) < a2 then (some (0 : Int32)) else (nm ((if 0 ≤ (a2 - (rF M 5 r2)) then (a2 - (rF M 5 r2)) else 0 - (a2 - (rF M 5 r2))) : Int32) fun x30 => (if s26 < x30 then (some (0 : Int32)) else (some (1 : Int32))))))) fun j36_26 => (if r25 ≤ 0 then (j36_26 (3 : Int32)) else (j36_26 (1 : Int32)))))) else (some (0 : Int32)))))

set_option maxHeartbeats 4000000 in
set_option maxRecDepth 100000 in
theorem k_X3_isPossible (l : Launch) (G : GG) (M : MS) (v : Nat) (a0 : Int32) (a1 : Int32) (a2 : Int32) {r : Int32} (hF : F_X3_isPossible M v a0 a1 a2 = some r) (hv : ok 3 v) : KI l yX3_isPossible (WS yX3_isPossible cX3_isPossible 7 (some .boolean)) (Rm 1) G [.ref (gad G v), .int a0, .int a1, .int a2] M r M := by
  intro sz
  refine y_met (by decide +kernel) (Nat.le_of_ble_eq_true rfl) rfl (fun p e s m below meth c ls hsz C0 hM hl => ?_)
  have hl : lv_has ls 7 [(0, .ref (gad G v)), (1, .int a0), (2, .int a1), (3, .int a2)] := hl
  have C0 : CX p s m meth c ([.ref (gad G v), .int a0, .int a1, .int a2] : List Value).toArray cX3_isPossible RX3 7 (some .boolean) := C0
  rw [F_X3_isPossible] at hF
  refine lv_aload_n C0.1 C0.2.1 dX3_isPossible_0 rfl (lv_at hl 0 rfl) ?_
  refine lv_iload_n C0.1 C0.2.1 dX3_isPossible_1 rfl (lv_at hl 1 rfl) ?_
  obtain ⟨r2, h1, hF⟩ := bd_some hF
  refine y_vr (rest := []) C0 hM hl.1 hv (ent3 hv) rfl (k_X3_at l G M v a0 h1 hv) cw_RX3_59 rfl rfl ⟨Nat.le_of_ble_eq_true rfl, Nat.le_of_ble_eq_true rfl⟩ rfl (Nat.le_of_ble_eq_true rfl) ⟨Nat.le_of_ble_eq_true rfl, Nat.le_of_ble_eq_true rfl⟩ dX3_isPossible_2 (fun H locs hM => ?_)
  refine lv_astore (lv' := [(4, .ref (gad G r2)), (0, .ref (gad G v)), (1, .int a0), (2, .int a1), (3, .int a2)]) C0.1 C0.2.1 dX3_isPossible_5 hl (by decide) rfl (fun ls hl => ?_)
  refine lv_aload C0.1 C0.2.1 dX3_isPossible_7 (lv_at hl 0 rfl) ?_
  obtain ⟨r4, h3, hF⟩ := bd_some hF
  refine y_vi (rest := []) C0 hM hl.1 (at_ok h1 hv) (ent0 (at_ok h1 hv)) rfl (k_X0_hasFallen l G M r2 h3 (at_ok h1 hv)) cw_RX3_108 rfl rfl ⟨Nat.le_of_ble_eq_true rfl, Nat.le_of_ble_eq_true rfl⟩ rfl (Nat.le_of_ble_eq_true rfl) ⟨Nat.le_of_ble_eq_true rfl, Nat.le_of_ble_eq_true rfl⟩ dX3_isPossible_9 (fun H locs hM => ?_)
  refine lv_if_eq (tgt := 17) C0.1 C0.2.1 dX3_isPossible_12 (by decide) (fun c5 => ?_) (fun c5 => ?_)
  · have hF := if_t c5 hF
    refine lv_iload_n C0.1 C0.2.1 dX3_isPossible_17 rfl (lv_at hl 3 rfl) ?_
    refine lv_iconst (v := (1 : Int32)) C0.1 C0.2.1 dX3_isPossible_18 (by decide) ?_
    refine lv_icmp_ne (tgt := 69) C0.1 C0.2.1 dX3_isPossible_19 (by decide) (fun c6 => ?_) (fun c6 => ?_)
    · have hF := if_t c6 hF
      refine lv_aload_n C0.1 C0.2.1 dX3_isPossible_69 rfl (lv_at hl 1 rfl) ?_
      refine lv_iload_n C0.1 C0.2.1 dX3_isPossible_70 rfl (lv_at hl 4 rfl) ?_
      obtain ⟨r8, h7, hF⟩ := bd_some hF
      refine y_vr (rest := []) C0 hM hl.1 hv (ent3 hv) rfl (k_X3_at l G M v a2 h7 hv) cw_RX3_59 rfl rfl ⟨Nat.le_of_ble_eq_true rfl, Nat.le_of_ble_eq_true rfl⟩ rfl (Nat.le_of_ble_eq_true rfl) ⟨Nat.le_of_ble_eq_true rfl, Nat.le_of_ble_eq_true rfl⟩ dX3_isPossible_71 (fun H locs hM => ?_)
      refine lv_astore (lv' := [(5, .ref (gad G r8)), (4, .ref (gad G r2)), (0, .ref (gad G v)), (1, .int a0), (2, .int a1), (3, .int a2)]) C0.1 C0.2.1 dX3_isPossible_74 hl (by decide) rfl (fun ls hl => ?_)
      refine lv_aload C0.1 C0.2.1 dX3_isPossible_76 (lv_at hl 0 rfl) ?_
      obtain ⟨r10, h9, hF⟩ := bd_some hF
      refine y_vi (rest := []) C0 hM hl.1 (at_ok h7 hv) (ent0 (at_ok h7 hv)) rfl (k_X0_hasFallen l G M r8 h9 (at_ok h7 hv)) cw_RX3_108 rfl rfl ⟨Nat.le_of_ble_eq_true rfl, Nat.le_of_ble_eq_true rfl⟩ rfl (Nat.le_of_ble_eq_true rfl) ⟨Nat.le_of_ble_eq_true rfl, Nat.le_of_ble_eq_true rfl⟩ dX3_isPossible_78 (fun H locs hM => ?_)
      refine lv_if_ne (tgt := 89) C0.1 C0.2.1 dX3_isPossible_81 (by decide) (fun c11 => ?_) (fun c11 => ?_)
      · have hF := if_t c11 hF
        refine lv_iconst (v := (0 : Int32)) C0.1 C0.2.1 dX3_isPossible_89 (by decide) ?_
        have e8 := y_1 hF
        subst e8
        exact y_zret C0 hM hsz rfl dX3_isPossible_90
      · have hF := if_f (fun q => q c11) hF
        refine lv_iload_n C0.1 C0.2.1 dX3_isPossible_84 rfl (lv_at hl 5 rfl) ?_
        refine lv_iload_n C0.1 C0.2.1 dX3_isPossible_85 rfl (lv_at hl 3 rfl) ?_
        refine lv_icmp_ne (tgt := 91) C0.1 C0.2.1 dX3_isPossible_86 (by decide) (fun c12 => ?_) (fun c12 => ?_)
        · have hF := if_t c12 hF
          refine lv_aload C0.1 C0.2.1 dX3_isPossible_91 (lv_at hl 0 rfl) ?_
          refine gf0_5 C0 hM (at_ok h7 hv) fl_RX3_145 dX3_isPossible_93 ?_
          refine lv_aload C0.1 C0.2.1 dX3_isPossible_96 (lv_at hl 1 rfl) ?_
          refine gf0_5 C0 hM (at_ok h1 hv) fl_RX3_145 dX3_isPossible_98 ?_
          refine lv_isub C0.1 C0.2.1 dX3_isPossible_101 ?_
          refine y_mabs C0 hl.1 mw_RX3_148 (Nat.le_of_ble_eq_true rfl) (Nat.le_of_ble_eq_true rfl) ⟨Nat.le_of_ble_eq_true rfl, Nat.le_of_ble_eq_true rfl⟩ dX3_isPossible_102 ?_
          obtain ⟨x13, ex13, hF⟩ := nm_some hF
          refine y_topi ex13 ?_
          refine lv_iconst (v := (2 : Int32)) C0.1 C0.2.1 dX3_isPossible_105 (by decide) ?_
          obtain ⟨j114_14, ej114_14, hF⟩ := nm_some hF
          have J114 : ∀ (s14 : Int32) (H : Heap) (locs : List Loc) (ls : Array Slot), MX G M s H locs → lv_has ls 7 [(0, .ref (gad G v)), (1, .int a0), (2, .int a1), (3, .int a2), (4, .ref (gad G r2)), (5, .ref (gad G r8))] → j114_14 s14 = some r → W p l e (Rm 1) s m ([.ref (gad G v), .int a0, .int a1, .int a2] : List Value).toArray below meth c H locs 0 0 (QI below ([.ref (gad G v), .int a0, .int a1, .int a2] : List Value).toArray s G sz r M) (F0 m 114 ls [.int s14]) := by
            intro s14 H locs ls hM hl hF
            rw [ej114_14] at hF
            refine lv_istore (lv' := [(6, .int s14), (0, .ref (gad G v)), (1, .int a0), (2, .int a1), (3, .int a2), (4, .ref (gad G r2)), (5, .ref (gad G r8))]) C0.1 C0.2.1 dX3_isPossible_114 hl (by decide) rfl (fun ls hl => ?_)
            refine lv_iload_n C0.1 C0.2.1 dX3_isPossible_116 rfl (lv_at hl 3 rfl) ?_
            by_cases c16 : a1 = (0 : Int32)
            · have hF := if_t c16 hF
              refine y_tsw (tgt := 148) (off := 31) C0 dX3_isPossible_117 (by decide) (by rw [c16]; decide) (by decide) ?_
              refine lv_iload C0.1 C0.2.1 dX3_isPossible_148 (lv_at hl 0 rfl) ?_
              obtain ⟨g17, hF⟩ := gdb_some hF
              have e8 := y_1 hF
              subst e8
              exact y_zret C0 hM hsz (zob_n g17) dX3_isPossible_150
            · have hF := if_f c16 hF
              by_cases c18 : a1 = (2 : Int32)
              · have hF := if_t c18 hF
                refine y_tsw (tgt := 151) (off := 34) C0 dX3_isPossible_117 (by decide) (by rw [c18]; decide) (by decide) ?_
                refine lv_iload C0.1 C0.2.1 dX3_isPossible_151 (lv_at hl 0 rfl) ?_
                refine lv_if_eq (tgt := 173) C0.1 C0.2.1 dX3_isPossible_153 (by decide) (fun c19 => ?_) (fun c19 => ?_)
                · have hF := if_t c19 hF
                  refine lv_iconst (v := (0 : Int32)) C0.1 C0.2.1 dX3_isPossible_173 (by decide) ?_
                  have e8 := y_1 hF
                  subst e8
                  exact y_zret C0 hM hsz rfl dX3_isPossible_174
                · have hF := if_f c19 hF
                  refine lv_aload C0.1 C0.2.1 dX3_isPossible_156 (lv_at hl 6 rfl) ?_
                  refine gf0_0 C0 hM (at_ok h7 hv) fl_RX3_63 dX3_isPossible_158 ?_
                  refine lv_aload C0.1 C0.2.1 dX3_isPossible_161 (lv_at hl 5 rfl) ?_
                  refine gf0_0 C0 hM (at_ok h1 hv) fl_RX3_63 dX3_isPossible_163 ?_
                  refine lv_icmp_ne (tgt := 173) C0.1 C0.2.1 dX3_isPossible_166 (by decide) (fun c20 => ?_) (fun c20 => ?_)
                  · have hF := if_t c20 hF
                    refine lv_iconst (v := (0 : Int32)) C0.1 C0.2.1 dX3_isPossible_173 (by decide) ?_
                    have e8 := y_1 hF
                    subst e8
                    exact y_zret C0 hM hsz rfl dX3_isPossible_174
                  · have hF := if_f (fun q => q c20) hF
                    refine lv_iconst (v := (1 : Int32)) C0.1 C0.2.1 dX3_isPossible_169 (by decide) ?_
                    refine lv_goto (tgt := 174) C0.1 C0.2.1 dX3_isPossible_170 (by decide) ?_
                    have e8 := y_1 hF
                    subst e8
                    exact y_zret C0 hM hsz rfl dX3_isPossible_174
              · have hF := if_f c18 hF
                by_cases c21 : a1 = (3 : Int32)
                · have hF := if_t c21 hF
                  refine y_tsw (tgt := 175) (off := 58) C0 dX3_isPossible_117 (by decide) (by rw [c21]; decide) (by decide) ?_
                  refine lv_aload C0.1 C0.2.1 dX3_isPossible_175 (lv_at hl 6 rfl) ?_
                  refine gf0_0 C0 hM (at_ok h7 hv) fl_RX3_63 dX3_isPossible_177 ?_
                  refine lv_aload C0.1 C0.2.1 dX3_isPossible_180 (lv_at hl 5 rfl) ?_
                  refine gf0_0 C0 hM (at_ok h1 hv) fl_RX3_63 dX3_isPossible_182 ?_
                  refine lv_icmp_eq (tgt := 192) C0.1 C0.2.1 dX3_isPossible_185 (by decide) (fun c22 => ?_) (fun c22 => ?_)
                  · have hF := if_t c22 hF
                    refine lv_iconst (v := (0 : Int32)) C0.1 C0.2.1 dX3_isPossible_192 (by decide) ?_
                    have e8 := y_1 hF
                    subst e8
                    exact y_zret C0 hM hsz rfl dX3_isPossible_193
                  · have hF := if_f c22 hF
                    refine lv_iconst (v := (1 : Int32)) C0.1 C0.2.1 dX3_isPossible_188 (by decide) ?_
                    refine lv_goto (tgt := 193) C0.1 C0.2.1 dX3_isPossible_189 (by decide) ?_
                    have e8 := y_1 hF
                    subst e8
                    exact y_zret C0 hM hsz rfl dX3_isPossible_193
                · have hF := if_f c21 hF
                  refine y_tsw (tgt := 194) (off := 77) C0 dX3_isPossible_117 (by decide) (ts_d (fun k9 h7 h8 h9 => by
                      have h6 : k9 = 0 ∨ k9 = 1 ∨ k9 = 2 ∨ k9 = 3 := by omega
                      rcases h6 with rfl | rfl | rfl | rfl
                      · exact absurd (Int32.toInt_inj.mp (h9.trans (by decide : (0 : Int) = Int32.toInt 0))) c16
                      · rfl
                      · exact absurd (Int32.toInt_inj.mp (h9.trans (by decide : (2 : Int) = Int32.toInt 2))) c18
                      · exact absurd (Int32.toInt_inj.mp (h9.trans (by decide : (3 : Int) = Int32.toInt 3))) c21)) (by decide) ?_
                  refine lv_iconst (v := (0 : Int32)) C0.1 C0.2.1 dX3_isPossible_194 (by decide) ?_
                  have e8 := y_1 hF
                  subst e8
                  exact y_zret C0 hM hsz rfl dX3_isPossible_195
          refine lv_icmp_gt (tgt := 113) C0.1 C0.2.1 dX3_isPossible_106 (by decide) (fun c23 => ?_) (fun c23 => ?_)
          · have hF := if_t c23 hF
            refine lv_iconst (v := (0 : Int32)) C0.1 C0.2.1 dX3_isPossible_113 (by decide) ?_
            exact J114 (0 : Int32) _ _ _ hM (lv_sub hl [2, 3, 4, 5, 1, 0] rfl) hF
          · have hF := if_f c23 hF
            refine lv_iconst (v := (1 : Int32)) C0.1 C0.2.1 dX3_isPossible_109 (by decide) ?_
            refine lv_goto (tgt := 114) C0.1 C0.2.1 dX3_isPossible_110 (by decide) ?_
            exact J114 (1 : Int32) _ _ _ hM (lv_sub hl [2, 3, 4, 5, 1, 0] rfl) hF
        · have hF := if_f (fun q => q c12) hF
          refine lv_iconst (v := (0 : Int32)) C0.1 C0.2.1 dX3_isPossible_89 (by decide) ?_
          have e8 := y_1 hF
          subst e8
          exact y_zret C0 hM hsz rfl dX3_isPossible_90
    · have hF := if_f (fun q => q c6) hF
      refine lv_aload C0.1 C0.2.1 dX3_isPossible_22 (lv_at hl 0 rfl) ?_
      refine lv_iconst (v := (1 : Int32)) C0.1 C0.2.1 dX3_isPossible_24 (by decide) ?_
      obtain ⟨r25, h24, hF⟩ := bd_some hF
      refine y_vi (rest := []) C0 hM hl.1 (at_ok h1 hv) (ent0 (at_ok h1 hv)) rfl (k_X0_roundsOf l G M r2 (1 : Int32) h24 (at_ok h1 hv)) cw_RX3_114 rfl rfl ⟨Nat.le_of_ble_eq_true rfl, Nat.le_of_ble_eq_true rfl⟩ rfl (Nat.le_of_ble_eq_true rfl) ⟨Nat.le_of_ble_eq_true rfl, Nat.le_of_ble_eq_true rfl⟩ dX3_isPossible_25 (fun H locs hM => ?_)
      obtain ⟨j36_26, ej36_26, hF⟩ := nm_some hF
      have J36 : ∀ (s26 : Int32) (H : Heap) (locs : List Loc) (ls : Array Slot), MX G M s H locs → lv_has ls 7 [(0, .ref (gad G v)), (1, .int a0), (2, .int a1), (3, .int a2), (4, .ref (gad G r2))] → j36_26 s26 = some r → W p l e (Rm 1) s m ([.ref (gad G v), .int a0, .int a1, .int a2] : List Value).toArray below meth c H locs 0 0 (QI below ([.ref (gad G v), .int a0, .int a1, .int a2] : List Value).toArray s G sz r M) (F0 m 36 ls [.int s26]) := by
        intro s26 H locs ls hM hl hF
        rw [ej36_26] at hF
        refine lv_istore (lv' := [(5, .int s26), (0, .ref (gad G v)), (1, .int a0), (2, .int a1), (3, .int a2), (4, .ref (gad G r2))]) C0.1 C0.2.1 dX3_isPossible_36 hl (by decide) rfl (fun ls hl => ?_)
        refine lv_iload_n C0.1 C0.2.1 dX3_isPossible_38 rfl (lv_at hl 4 rfl) ?_
        refine lv_if_lt (tgt := 67) C0.1 C0.2.1 dX3_isPossible_39 (by decide) (fun c28 => ?_) (fun c28 => ?_)
        · have hF := if_t c28 hF
          refine lv_iconst (v := (0 : Int32)) C0.1 C0.2.1 dX3_isPossible_67 (by decide) ?_
          have e8 := y_1 hF
          subst e8
          exact y_zret C0 hM hsz rfl dX3_isPossible_68
        · have hF := if_f c28 hF
          refine lv_iload_n C0.1 C0.2.1 dX3_isPossible_42 rfl (lv_at hl 4 rfl) ?_
          refine lv_bipush (v := (9 : Int32)) C0.1 C0.2.1 dX3_isPossible_43 (by decide) ?_
          refine lv_icmp_gt (tgt := 67) C0.1 C0.2.1 dX3_isPossible_45 (by decide) (fun c29 => ?_) (fun c29 => ?_)
          · have hF := if_t c29 hF
            refine lv_iconst (v := (0 : Int32)) C0.1 C0.2.1 dX3_isPossible_67 (by decide) ?_
            have e8 := y_1 hF
            subst e8
            exact y_zret C0 hM hsz rfl dX3_isPossible_68
          · have hF := if_f c29 hF
            refine lv_iload_n C0.1 C0.2.1 dX3_isPossible_48 rfl (lv_at hl 4 rfl) ?_
            refine lv_aload C0.1 C0.2.1 dX3_isPossible_49 (lv_at hl 5 rfl) ?_
            refine gf0_5 C0 hM (at_ok h1 hv) fl_RX3_145 dX3_isPossible_51 ?_
            refine lv_isub C0.1 C0.2.1 dX3_isPossible_54 ?_
            refine y_mabs C0 hl.1 mw_RX3_148 (Nat.le_of_ble_eq_true rfl) (Nat.le_of_ble_eq_true rfl) ⟨Nat.le_of_ble_eq_true rfl, Nat.le_of_ble_eq_true rfl⟩ dX3_isPossible_55 ?_
            obtain ⟨x30, ex30, hF⟩ := nm_some hF
            refine y_topi ex30 ?_
            refine lv_iload C0.1 C0.2.1 dX3_isPossible_58 (lv_at hl 0 rfl) ?_
            refine lv_icmp_gt (tgt := 67) C0.1 C0.2.1 dX3_isPossible_60 (by decide) (fun c31 => ?_) (fun c31 => ?_)
            · have hF := if_t c31 hF
              refine lv_iconst (v := (0 : Int32)) C0.1 C0.2.1 dX3_isPossible_67 (by decide) ?_
              have e8 := y_1 hF
              subst e8
              exact y_zret C0 hM hsz rfl dX3_isPossible_68
            · have hF := if_f c31 hF
              refine lv_iconst (v := (1 : Int32)) C0.1 C0.2.1 dX3_isPossible_63 (by decide) ?_
              refine lv_goto (tgt := 68) C0.1 C0.2.1 dX3_isPossible_64 (by decide) ?_
              have e8 := y_1 hF
              subst e8
              exact y_zret C0 hM hsz rfl dX3_isPossible_68
      refine lv_if_le (tgt := 35) C0.1 C0.2.1 dX3_isPossible_28 (by decide) (fun c32 => ?_) (fun c32 => ?_)
      · have hF := if_t c32 hF
        refine lv_iconst (v := (3 : Int32)) C0.1 C0.2.1 dX3_isPossible_35 (by decide) ?_
        exact J36 (3 : Int32) _ _ _ hM (lv_sub hl [1, 2, 3, 4, 0] rfl) hF
      · have hF := if_f c32 hF
        refine lv_iconst (v := (1 : Int32)) C0.1 C0.2.1 dX3_isPossible_31 (by decide) ?_
        refine lv_goto (tgt := 36) C0.1 C0.2.1 dX3_isPossible_32 (by decide) ?_
        exact J36 (1 : Int32) _ _ _ hM (lv_sub hl [1, 2, 3, 4, 0] rfl) hF
  · have hF := if_f c5 hF
    refine lv_iconst (v := (0 : Int32)) C0.1 C0.2.1 dX3_isPossible_15 (by decide) ?_
    have e8 := y_1 hF
    subst e8
    exact y_zret C0 hM hsz rfl dX3_isPossible_16

def F_X3_isSetOff (M : MS) (v : Nat) (w0 : Nat) (a1 : Int32) : Option Int32 := (bd (F_X0_hasFallen M w0) fun r2 => (if ¬ r2 = 0 then (some (0 : Int32)) else (bd (F_X0_hasReadied M w0) fun r5 => (if r5 = 0 then (some (0 : Int32)) else (if (rF M 11 w0) = a1 then (if ¬ (rF M 10 w0) = (-1 : Int32) then (if ¬ (rF M 10 w0) = (rF M 54 v) then (some (0 : Int32)) else (some (1 : Int32))) else (bd (F_X3_at M v (rF M 54 v)) fun r11 => (if (rF M 0 w0) = (rF M 0 r11) then (some (0 : Int32)) else (some (1 : Int32))))) else (some (0 : Int32)))))))

set_option maxHeartbeats 4000000 in
set_option maxRecDepth 100000 in
theorem k_X3_isSetOff (l : Launch) (G : GG) (M : MS) (v : Nat) (w0 : Nat) (a1 : Int32) {r : Int32} (hF : F_X3_isSetOff M v w0 a1 = some r) (hv : ok 3 v) (hw0 : ok 0 w0) : KI l yX3_isSetOff (WS yX3_isSetOff cX3_isSetOff 3 (some .boolean)) (Rm 1) G [.ref (gad G v), .ref (gad G w0), .int a1] M r M := by
  intro sz
  refine y_met (by decide +kernel) (Nat.le_of_ble_eq_true rfl) rfl (fun p e s m below meth c ls hsz C0 hM hl => ?_)
  have hl : lv_has ls 3 [(0, .ref (gad G v)), (1, .ref (gad G w0)), (2, .int a1)] := hl
  have C0 : CX p s m meth c ([.ref (gad G v), .ref (gad G w0), .int a1] : List Value).toArray cX3_isSetOff RX3 3 (some .boolean) := C0
  rw [F_X3_isSetOff] at hF
  refine lv_aload_n C0.1 C0.2.1 dX3_isSetOff_0 rfl (lv_at hl 1 rfl) ?_
  obtain ⟨r2, h1, hF⟩ := bd_some hF
  refine y_vi (rest := []) C0 hM hl.1 hw0 (ent0 hw0) rfl (k_X0_hasFallen l G M w0 h1 hw0) cw_RX3_108 rfl rfl ⟨Nat.le_of_ble_eq_true rfl, Nat.le_of_ble_eq_true rfl⟩ rfl (Nat.le_of_ble_eq_true rfl) ⟨Nat.le_of_ble_eq_true rfl, Nat.le_of_ble_eq_true rfl⟩ dX3_isSetOff_1 (fun H locs hM => ?_)
  refine lv_if_ne (tgt := 22) C0.1 C0.2.1 dX3_isSetOff_4 (by decide) (fun c3 => ?_) (fun c3 => ?_)
  · have hF := if_t c3 hF
    refine lv_iconst (v := (0 : Int32)) C0.1 C0.2.1 dX3_isSetOff_22 (by decide) ?_
    have e8 := y_1 hF
    subst e8
    exact y_zret C0 hM hsz rfl dX3_isSetOff_23
  · have hF := if_f (fun q => q c3) hF
    refine lv_aload_n C0.1 C0.2.1 dX3_isSetOff_7 rfl (lv_at hl 1 rfl) ?_
    obtain ⟨r5, h4, hF⟩ := bd_some hF
    refine y_vi (rest := []) C0 hM hl.1 hw0 (ent0 hw0) rfl (k_X0_hasReadied l G M w0 h4 hw0) cw_RX3_182 rfl rfl ⟨Nat.le_of_ble_eq_true rfl, Nat.le_of_ble_eq_true rfl⟩ rfl (Nat.le_of_ble_eq_true rfl) ⟨Nat.le_of_ble_eq_true rfl, Nat.le_of_ble_eq_true rfl⟩ dX3_isSetOff_8 (fun H locs hM => ?_)
    refine lv_if_eq (tgt := 22) C0.1 C0.2.1 dX3_isSetOff_11 (by decide) (fun c6 => ?_) (fun c6 => ?_)
    · have hF := if_t c6 hF
      refine lv_iconst (v := (0 : Int32)) C0.1 C0.2.1 dX3_isSetOff_22 (by decide) ?_
      have e8 := y_1 hF
      subst e8
      exact y_zret C0 hM hsz rfl dX3_isSetOff_23
    · have hF := if_f c6 hF
      refine lv_aload_n C0.1 C0.2.1 dX3_isSetOff_14 rfl (lv_at hl 1 rfl) ?_
      refine gf0_11 C0 hM hw0 fl_RX3_142 dX3_isSetOff_15 ?_
      refine lv_iload_n C0.1 C0.2.1 dX3_isSetOff_18 rfl (lv_at hl 2 rfl) ?_
      refine lv_icmp_eq (tgt := 24) C0.1 C0.2.1 dX3_isSetOff_19 (by decide) (fun c7 => ?_) (fun c7 => ?_)
      · have hF := if_t c7 hF
        refine lv_aload_n C0.1 C0.2.1 dX3_isSetOff_24 rfl (lv_at hl 1 rfl) ?_
        refine gf0_10 C0 hM hw0 fl_RX3_139 dX3_isSetOff_25 ?_
        refine lv_iconst (v := (-1 : Int32)) C0.1 C0.2.1 dX3_isSetOff_28 (by decide) ?_
        refine lv_icmp_ne (tgt := 56) C0.1 C0.2.1 dX3_isSetOff_29 (by decide) (fun c8 => ?_) (fun c8 => ?_)
        · have hF := if_t c8 hF
          refine lv_aload_n C0.1 C0.2.1 dX3_isSetOff_56 rfl (lv_at hl 1 rfl) ?_
          refine gf0_10 C0 hM hw0 fl_RX3_139 dX3_isSetOff_57 ?_
          refine lv_aload_n C0.1 C0.2.1 dX3_isSetOff_60 rfl (lv_at hl 0 rfl) ?_
          refine gf3_6 C0 hM hv fl_RX3_40 dX3_isSetOff_61 ?_
          refine lv_icmp_ne (tgt := 71) C0.1 C0.2.1 dX3_isSetOff_64 (by decide) (fun c9 => ?_) (fun c9 => ?_)
          · have hF := if_t c9 hF
            refine lv_iconst (v := (0 : Int32)) C0.1 C0.2.1 dX3_isSetOff_71 (by decide) ?_
            have e8 := y_1 hF
            subst e8
            exact y_zret C0 hM hsz rfl dX3_isSetOff_72
          · have hF := if_f (fun q => q c9) hF
            refine lv_iconst (v := (1 : Int32)) C0.1 C0.2.1 dX3_isSetOff_67 (by decide) ?_
            refine lv_goto (tgt := 72) C0.1 C0.2.1 dX3_isSetOff_68 (by decide) ?_
            have e8 := y_1 hF
            subst e8
            exact y_zret C0 hM hsz rfl dX3_isSetOff_72
        · have hF := if_f (fun q => q c8) hF
          refine lv_aload_n C0.1 C0.2.1 dX3_isSetOff_32 rfl (lv_at hl 1 rfl) ?_
          refine gf0_0 C0 hM hw0 fl_RX3_63 dX3_isSetOff_33 ?_
          refine lv_aload_n C0.1 C0.2.1 dX3_isSetOff_36 rfl (lv_at hl 0 rfl) ?_
          refine lv_aload_n C0.1 C0.2.1 dX3_isSetOff_37 rfl (lv_at hl 0 rfl) ?_
          refine gf3_6 C0 hM hv fl_RX3_40 dX3_isSetOff_38 ?_
          obtain ⟨r11, h10, hF⟩ := bd_some hF
          refine y_vr (rest := [.int (rF M 0 w0)]) C0 hM hl.1 hv (ent3 hv) rfl (k_X3_at l G M v (rF M 54 v) h10 hv) cw_RX3_59 rfl rfl ⟨Nat.le_of_ble_eq_true rfl, Nat.le_of_ble_eq_true rfl⟩ rfl (Nat.le_of_ble_eq_true rfl) ⟨Nat.le_of_ble_eq_true rfl, Nat.le_of_ble_eq_true rfl⟩ dX3_isSetOff_41 (fun H locs hM => ?_)
          refine gf0_0 C0 hM (at_ok h10 hv) fl_RX3_63 dX3_isSetOff_44 ?_
          refine lv_icmp_eq (tgt := 54) C0.1 C0.2.1 dX3_isSetOff_47 (by decide) (fun c12 => ?_) (fun c12 => ?_)
          · have hF := if_t c12 hF
            refine lv_iconst (v := (0 : Int32)) C0.1 C0.2.1 dX3_isSetOff_54 (by decide) ?_
            have e8 := y_1 hF
            subst e8
            exact y_zret C0 hM hsz rfl dX3_isSetOff_55
          · have hF := if_f c12 hF
            refine lv_iconst (v := (1 : Int32)) C0.1 C0.2.1 dX3_isSetOff_50 (by decide) ?_
            refine lv_goto (tgt := 55) C0.1 C0.2.1 dX3_isSetOff_51 (by decide) ?_
            have e8 := y_1 hF
            subst e8
            exact y_zret C0 hM hsz rfl dX3_isSetOff_55
      · have hF := if_f c7 hF
        refine lv_iconst (v := (0 : Int32)) C0.1 C0.2.1 dX3_isSetOff_22 (by decide) ?_
        have e8 := y_1 hF
        subst e8
        exact y_zret C0 hM hsz rfl dX3_isSetOff_23

def F_X3_attempt (M : MS) (v : Nat) (a0 : Int32) (a1 : Int32) (a2 : Int32) (a3 : Int32) (a4 : Int32) : Option (Int32 × MS) := (bd (F_X3_isPossible M v a0 a1 a2) fun r2 => (if ¬ r2 = 0 then (bd (F_X3_at M v a0) fun r5 => (nm (wF M 56 v ((rF M 56 v) + (1 : Int32))) fun M6 => (nm (wF M6 12 r5 ((rF M6 12 r5) + (1 : Int32))) fun M7 => (if a1 = (0 : Int32) then (bd (F_X3_at M7 v a2) fun r10 => (bd (F_X0_lossAt M7 r5 r10) fun r12 => (bd (F_X3_at M7 v a2) fun r14 => (nm (wF M7 2 r14 ((rF M7 2 r14) - r12)) fun M15 => (nm (wF M15 13 r5 ((rF M15 13 r5) + r12)) fun M16 => (some (r12, M16))))))) else (if a1 = (1 : Int32) then (nm ((if 0 ≤ (a2 - (rF M7 5 r5)) then (a2 - (rF M7 5 r5)) else 0 - (a2 - (rF M7 5 r5))) : Int32) fun x18 => (nm (wF M7 5 r5 a2) fun M19 => (some (x18, M19)))) else (if a1 = (2 : Int32) then (bd (F_X3_at M7 v a2) fun r22 => (bd (F_X0_recover M7 r22) fun M24 => (bd (F_X3_at M24 v a2) fun r26 => (some ((rF M24 2 r26), M24))))) else (bd (F_X3_at M7 v a2) fun r28 => (bd2 (F_X0_lengthen M7 r28 a3 a4) fun r31 M30 => (some (r31, M30)))))))))) else (nm (wF M 57 v ((rF M 57 v) + (1 : Int32))) fun M32 => (some ((-1 : Int32), M32)))))

set_option maxHeartbeats 4000000 in
set_option maxRecDepth 100000 in
theorem k_X3_attempt (l : Launch) (G : GG) (M : MS) (v : Nat) (a0 : Int32) (a1 : Int32) (a2 : Int32) (a3 : Int32) (a4 : Int32) {r : Int32} {Mf : MS} (hF : F_X3_attempt M v a0 a1 a2 a3 a4 = some (r, Mf)) (hv : ok 3 v) : KI l yX3_attempt (WS yX3_attempt cX3_attempt 9 (some .int)) (Rm 2) G [.ref (gad G v), .int a0, .int a1, .int a2, .int a3, .int a4] M r Mf := by
  intro sz
  refine y_met (by decide +kernel) (Nat.le_of_ble_eq_true rfl) rfl (fun p e s m below meth c ls hsz C0 hM hl => ?_)
  have hl : lv_has ls 9 [(0, .ref (gad G v)), (1, .int a0), (2, .int a1), (3, .int a2), (4, .int a3), (5, .int a4)] := hl
  have C0 : CX p s m meth c ([.ref (gad G v), .int a0, .int a1, .int a2, .int a3, .int a4] : List Value).toArray cX3_attempt RX3 9 (some .int) := C0
  rw [F_X3_attempt] at hF
  refine lv_aload_n C0.1 C0.2.1 dX3_attempt_0 rfl (lv_at hl 0 rfl) ?_
  refine lv_iload_n C0.1 C0.2.1 dX3_attempt_1 rfl (lv_at hl 1 rfl) ?_
  refine lv_iload_n C0.1 C0.2.1 dX3_attempt_2 rfl (lv_at hl 2 rfl) ?_
  refine lv_iload_n C0.1 C0.2.1 dX3_attempt_3 rfl (lv_at hl 3 rfl) ?_
  obtain ⟨r2, h1, hF⟩ := bd_some hF
  refine y_vi (rest := []) C0 hM hl.1 hv (ent3 hv) rfl (k_X3_isPossible l G M v a0 a1 a2 h1 hv) cw_RX3_160 rfl rfl ⟨Nat.le_of_ble_eq_true rfl, Nat.le_of_ble_eq_true rfl⟩ rfl (Nat.le_of_ble_eq_true rfl) ⟨Nat.le_of_ble_eq_true rfl, Nat.le_of_ble_eq_true rfl⟩ dX3_attempt_4 (fun H locs hM => ?_)
  refine lv_if_ne (tgt := 22) C0.1 C0.2.1 dX3_attempt_7 (by decide) (fun c3 => ?_) (fun c3 => ?_)
  · have hF := if_t c3 hF
    refine lv_aload_n C0.1 C0.2.1 dX3_attempt_22 rfl (lv_at hl 0 rfl) ?_
    refine lv_iload_n C0.1 C0.2.1 dX3_attempt_23 rfl (lv_at hl 1 rfl) ?_
    obtain ⟨r5, h4, hF⟩ := bd_some hF
    refine y_vr (rest := []) C0 hM hl.1 hv (ent3 hv) rfl (k_X3_at l G M v a0 h4 hv) cw_RX3_59 rfl rfl ⟨Nat.le_of_ble_eq_true rfl, Nat.le_of_ble_eq_true rfl⟩ rfl (Nat.le_of_ble_eq_true rfl) ⟨Nat.le_of_ble_eq_true rfl, Nat.le_of_ble_eq_true rfl⟩ dX3_attempt_24 (fun H locs hM => ?_)
    refine lv_astore (lv' := [(6, .ref (gad G r5)), (0, .ref (gad G v)), (1, .int a0), (2, .int a1), (3, .int a2), (4, .int a3), (5, .int a4)]) C0.1 C0.2.1 dX3_attempt_27 hl (by decide) rfl (fun ls hl => ?_)
    refine lv_aload_n C0.1 C0.2.1 dX3_attempt_29 rfl (lv_at hl 1 rfl) ?_
    refine lv_dup C0.1 C0.2.1 dX3_attempt_30 rfl ?_
    refine gf3_8 C0 hM hv fl_RX3_46 dX3_attempt_31 ?_
    refine lv_iconst (v := (1 : Int32)) C0.1 C0.2.1 dX3_attempt_34 (by decide) ?_
    refine lv_iadd C0.1 C0.2.1 dX3_attempt_35 ?_
    refine pf3_8 C0 hM hv fl_RX3_46 dX3_attempt_36 (fun H locs hM => ?_)
    obtain ⟨M6, eM6, hF⟩ := nm_some hF
    have hM := y_mn eM6 hM
    refine lv_aload C0.1 C0.2.1 dX3_attempt_39 (lv_at hl 0 rfl) ?_
    refine lv_dup C0.1 C0.2.1 dX3_attempt_41 rfl ?_
    refine gf0_12 C0 hM (at_ok h4 hv) fl_RX3_164 dX3_attempt_42 ?_
    refine lv_iconst (v := (1 : Int32)) C0.1 C0.2.1 dX3_attempt_45 (by decide) ?_
    refine lv_iadd C0.1 C0.2.1 dX3_attempt_46 ?_
    refine pf0_12 C0 hM (at_ok h4 hv) fl_RX3_164 dX3_attempt_47 (fun H locs hM => ?_)
    obtain ⟨M7, eM7, hF⟩ := nm_some hF
    have hM := y_mn eM7 hM
    refine lv_iload_n C0.1 C0.2.1 dX3_attempt_50 rfl (lv_at hl 3 rfl) ?_
    by_cases c8 : a1 = (0 : Int32)
    · have hF := if_t c8 hF
      refine y_tsw (tgt := 76) (off := 25) C0 dX3_attempt_51 (by decide) (by rw [c8]; decide) (by decide) ?_
      refine lv_aload C0.1 C0.2.1 dX3_attempt_76 (lv_at hl 0 rfl) ?_
      refine lv_aload_n C0.1 C0.2.1 dX3_attempt_78 rfl (lv_at hl 1 rfl) ?_
      refine lv_iload_n C0.1 C0.2.1 dX3_attempt_79 rfl (lv_at hl 4 rfl) ?_
      obtain ⟨r10, h9, hF⟩ := bd_some hF
      refine y_vr (rest := [.ref (gad G r5)]) C0 hM hl.1 hv (ent3 hv) rfl (k_X3_at l G M7 v a2 h9 hv) cw_RX3_59 rfl rfl ⟨Nat.le_of_ble_eq_true rfl, Nat.le_of_ble_eq_true rfl⟩ rfl (Nat.le_of_ble_eq_true rfl) ⟨Nat.le_of_ble_eq_true rfl, Nat.le_of_ble_eq_true rfl⟩ dX3_attempt_80 (fun H locs hM => ?_)
      obtain ⟨r12, h11, hF⟩ := bd_some hF
      refine y_vi (rest := []) C0 hM hl.1 (at_ok h4 hv) (ent0 (at_ok h4 hv)) rfl (k_X0_lossAt l G M7 r5 r10 h11 (at_ok h4 hv) (at_ok h9 hv)) cw_RX3_165 rfl rfl ⟨Nat.le_of_ble_eq_true rfl, Nat.le_of_ble_eq_true rfl⟩ rfl (Nat.le_of_ble_eq_true rfl) ⟨Nat.le_of_ble_eq_true rfl, Nat.le_of_ble_eq_true rfl⟩ dX3_attempt_83 (fun H locs hM => ?_)
      refine lv_istore (lv' := [(7, .int r12), (6, .ref (gad G r5)), (0, .ref (gad G v)), (1, .int a0), (2, .int a1), (3, .int a2), (4, .int a3), (5, .int a4)]) C0.1 C0.2.1 dX3_attempt_86 hl (by decide) rfl (fun ls hl => ?_)
      refine lv_aload_n C0.1 C0.2.1 dX3_attempt_88 rfl (lv_at hl 2 rfl) ?_
      refine lv_iload_n C0.1 C0.2.1 dX3_attempt_89 rfl (lv_at hl 5 rfl) ?_
      obtain ⟨r14, h13, hF⟩ := bd_some hF
      refine y_vr (rest := []) C0 hM hl.1 hv (ent3 hv) rfl (k_X3_at l G M7 v a2 h13 hv) cw_RX3_59 rfl rfl ⟨Nat.le_of_ble_eq_true rfl, Nat.le_of_ble_eq_true rfl⟩ rfl (Nat.le_of_ble_eq_true rfl) ⟨Nat.le_of_ble_eq_true rfl, Nat.le_of_ble_eq_true rfl⟩ dX3_attempt_90 (fun H locs hM => ?_)
      refine lv_dup C0.1 C0.2.1 dX3_attempt_93 rfl ?_
      refine gf0_2 C0 hM (at_ok h13 hv) fl_RX3_169 dX3_attempt_94 ?_
      refine lv_iload C0.1 C0.2.1 dX3_attempt_97 (lv_at hl 0 rfl) ?_
      refine lv_isub C0.1 C0.2.1 dX3_attempt_99 ?_
      refine pf0_2 C0 hM (at_ok h13 hv) fl_RX3_169 dX3_attempt_100 (fun H locs hM => ?_)
      obtain ⟨M15, eM15, hF⟩ := nm_some hF
      have hM := y_mn eM15 hM
      refine lv_aload C0.1 C0.2.1 dX3_attempt_103 (lv_at hl 1 rfl) ?_
      refine lv_dup C0.1 C0.2.1 dX3_attempt_105 rfl ?_
      refine gf0_13 C0 hM (at_ok h4 hv) fl_RX3_172 dX3_attempt_106 ?_
      refine lv_iload C0.1 C0.2.1 dX3_attempt_109 (lv_at hl 0 rfl) ?_
      refine lv_iadd C0.1 C0.2.1 dX3_attempt_111 ?_
      refine pf0_13 C0 hM (at_ok h4 hv) fl_RX3_172 dX3_attempt_112 (fun H locs hM => ?_)
      obtain ⟨M16, eM16, hF⟩ := nm_some hF
      have hM := y_mn eM16 hM
      refine lv_iload C0.1 C0.2.1 dX3_attempt_115 (lv_at hl 0 rfl) ?_
      obtain ⟨e8, e9⟩ := y_2 hF
      subst e8
      subst e9
      exact y_iret C0 hM hsz dX3_attempt_117
    · have hF := if_f c8 hF
      by_cases c17 : a1 = (1 : Int32)
      · have hF := if_t c17 hF
        refine y_tsw (tgt := 118) (off := 67) C0 dX3_attempt_51 (by decide) (by rw [c17]; decide) (by decide) ?_
        refine lv_iload_n C0.1 C0.2.1 dX3_attempt_118 rfl (lv_at hl 4 rfl) ?_
        refine lv_aload C0.1 C0.2.1 dX3_attempt_119 (lv_at hl 0 rfl) ?_
        refine gf0_5 C0 hM (at_ok h4 hv) fl_RX3_145 dX3_attempt_121 ?_
        refine lv_isub C0.1 C0.2.1 dX3_attempt_124 ?_
        refine y_mabs C0 hl.1 mw_RX3_148 (Nat.le_of_ble_eq_true rfl) (Nat.le_of_ble_eq_true rfl) ⟨Nat.le_of_ble_eq_true rfl, Nat.le_of_ble_eq_true rfl⟩ dX3_attempt_125 ?_
        obtain ⟨x18, ex18, hF⟩ := nm_some hF
        refine y_topi ex18 ?_
        refine lv_istore (lv' := [(8, .int x18), (6, .ref (gad G r5)), (0, .ref (gad G v)), (1, .int a0), (2, .int a1), (3, .int a2), (4, .int a3), (5, .int a4)]) C0.1 C0.2.1 dX3_attempt_128 hl (by decide) rfl (fun ls hl => ?_)
        refine lv_aload C0.1 C0.2.1 dX3_attempt_130 (lv_at hl 1 rfl) ?_
        refine lv_iload_n C0.1 C0.2.1 dX3_attempt_132 rfl (lv_at hl 5 rfl) ?_
        refine pf0_5 C0 hM (at_ok h4 hv) fl_RX3_145 dX3_attempt_133 (fun H locs hM => ?_)
        obtain ⟨M19, eM19, hF⟩ := nm_some hF
        have hM := y_mn eM19 hM
        refine lv_iload C0.1 C0.2.1 dX3_attempt_136 (lv_at hl 0 rfl) ?_
        obtain ⟨e8, e9⟩ := y_2 hF
        subst e8
        subst e9
        exact y_iret C0 hM hsz dX3_attempt_138
      · have hF := if_f c17 hF
        by_cases c20 : a1 = (2 : Int32)
        · have hF := if_t c20 hF
          refine y_tsw (tgt := 139) (off := 88) C0 dX3_attempt_51 (by decide) (by rw [c20]; decide) (by decide) ?_
          refine lv_aload_n C0.1 C0.2.1 dX3_attempt_139 rfl (lv_at hl 1 rfl) ?_
          refine lv_iload_n C0.1 C0.2.1 dX3_attempt_140 rfl (lv_at hl 4 rfl) ?_
          obtain ⟨r22, h21, hF⟩ := bd_some hF
          refine y_vr (rest := []) C0 hM hl.1 hv (ent3 hv) rfl (k_X3_at l G M7 v a2 h21 hv) cw_RX3_59 rfl rfl ⟨Nat.le_of_ble_eq_true rfl, Nat.le_of_ble_eq_true rfl⟩ rfl (Nat.le_of_ble_eq_true rfl) ⟨Nat.le_of_ble_eq_true rfl, Nat.le_of_ble_eq_true rfl⟩ dX3_attempt_141 (fun H locs hM => ?_)
          obtain ⟨M24, h23, hF⟩ := bd_some hF
          refine y_vv (rest := []) C0 hM hl.1 (at_ok h21 hv) (ent0 (at_ok h21 hv)) rfl (k_X0_recover l G M7 r22 h23 (at_ok h21 hv)) cw_RX3_175 rfl rfl ⟨Nat.le_of_ble_eq_true rfl, Nat.le_of_ble_eq_true rfl⟩ rfl (Nat.le_of_ble_eq_true rfl) ⟨Nat.le_of_ble_eq_true rfl, Nat.le_of_ble_eq_true rfl⟩ dX3_attempt_144 (fun H locs hM => ?_)
          refine lv_aload_n C0.1 C0.2.1 dX3_attempt_147 rfl (lv_at hl 1 rfl) ?_
          refine lv_iload_n C0.1 C0.2.1 dX3_attempt_148 rfl (lv_at hl 4 rfl) ?_
          obtain ⟨r26, h25, hF⟩ := bd_some hF
          refine y_vr (rest := []) C0 hM hl.1 hv (ent3 hv) rfl (k_X3_at l G M24 v a2 h25 hv) cw_RX3_59 rfl rfl ⟨Nat.le_of_ble_eq_true rfl, Nat.le_of_ble_eq_true rfl⟩ rfl (Nat.le_of_ble_eq_true rfl) ⟨Nat.le_of_ble_eq_true rfl, Nat.le_of_ble_eq_true rfl⟩ dX3_attempt_149 (fun H locs hM => ?_)
          refine gf0_2 C0 hM (at_ok h25 hv) fl_RX3_169 dX3_attempt_152 ?_
          obtain ⟨e8, e9⟩ := y_2 hF
          subst e8
          subst e9
          exact y_iret C0 hM hsz dX3_attempt_155
        · have hF := if_f c20 hF
          refine y_tsw (tgt := 156) (off := 105) C0 dX3_attempt_51 (by decide) (ts_d (fun k9 h7 h8 h9 => by
              have h6 : k9 = 0 ∨ k9 = 1 ∨ k9 = 2 := by omega
              rcases h6 with rfl | rfl | rfl
              · exact absurd (Int32.toInt_inj.mp (h9.trans (by decide : (0 : Int) = Int32.toInt 0))) c8
              · exact absurd (Int32.toInt_inj.mp (h9.trans (by decide : (1 : Int) = Int32.toInt 1))) c17
              · exact absurd (Int32.toInt_inj.mp (h9.trans (by decide : (2 : Int) = Int32.toInt 2))) c20)) (by decide) ?_
          refine lv_aload_n C0.1 C0.2.1 dX3_attempt_156 rfl (lv_at hl 1 rfl) ?_
          refine lv_iload_n C0.1 C0.2.1 dX3_attempt_157 rfl (lv_at hl 4 rfl) ?_
          obtain ⟨r28, h27, hF⟩ := bd_some hF
          refine y_vr (rest := []) C0 hM hl.1 hv (ent3 hv) rfl (k_X3_at l G M7 v a2 h27 hv) cw_RX3_59 rfl rfl ⟨Nat.le_of_ble_eq_true rfl, Nat.le_of_ble_eq_true rfl⟩ rfl (Nat.le_of_ble_eq_true rfl) ⟨Nat.le_of_ble_eq_true rfl, Nat.le_of_ble_eq_true rfl⟩ dX3_attempt_158 (fun H locs hM => ?_)
          refine lv_iload C0.1 C0.2.1 dX3_attempt_161 (lv_at hl 5 rfl) ?_
          refine lv_iload C0.1 C0.2.1 dX3_attempt_163 (lv_at hl 6 rfl) ?_
          obtain ⟨r31, M30, h29, hF⟩ := bd2_some hF
          refine y_vi (rest := []) C0 hM hl.1 (at_ok h27 hv) (ent0 (at_ok h27 hv)) rfl (k_X0_lengthen l G M7 r28 a3 a4 h29 (at_ok h27 hv)) cw_RX3_178 rfl rfl ⟨Nat.le_of_ble_eq_true rfl, Nat.le_of_ble_eq_true rfl⟩ rfl (Nat.le_of_ble_eq_true rfl) ⟨Nat.le_of_ble_eq_true rfl, Nat.le_of_ble_eq_true rfl⟩ dX3_attempt_165 (fun H locs hM => ?_)
          obtain ⟨e8, e9⟩ := y_2 hF
          subst e8
          subst e9
          exact y_iret C0 hM hsz dX3_attempt_168
  · have hF := if_f (fun q => q c3) hF
    refine lv_aload_n C0.1 C0.2.1 dX3_attempt_10 rfl (lv_at hl 0 rfl) ?_
    refine lv_dup C0.1 C0.2.1 dX3_attempt_11 rfl ?_
    refine gf3_9 C0 hM hv fl_RX3_49 dX3_attempt_12 ?_
    refine lv_iconst (v := (1 : Int32)) C0.1 C0.2.1 dX3_attempt_15 (by decide) ?_
    refine lv_iadd C0.1 C0.2.1 dX3_attempt_16 ?_
    refine pf3_9 C0 hM hv fl_RX3_49 dX3_attempt_17 (fun H locs hM => ?_)
    obtain ⟨M32, eM32, hF⟩ := nm_some hF
    have hM := y_mn eM32 hM
    refine lv_iconst (v := (-1 : Int32)) C0.1 C0.2.1 dX3_attempt_20 (by decide) ?_
    obtain ⟨e8, e9⟩ := y_2 hF
    subst e8
    subst e9
    exact y_iret C0 hM hsz dX3_attempt_21

def F_X3_setOff_l67 (v : Nat) (l2_1 : Int32) : Nat → Int32 → MS → Option MS
  | 0, _, _ => none
  | n67 + 1, l3_5, M6 => (if l2_1 ≤ l3_5 then (some M6) else (if (10 : Int32) ≤ l3_5 then (some M6) else (gdb (inb l3_5 10) (bd (F_X3_at M6 v (rA M6 (v + 4) (Int32.toNatClampNeg l3_5))) fun r11 => (bd (F_X0_roundsOf M6 r11 (0 : Int32)) fun r13 => (nm (fun (M14 : MS) => (bd (F_X0_forgetReadied M14 r11) fun M17 => (bd (F_X3_at M17 v (rF M17 54 v)) fun r19 => (nm (wF M17 1 r11 (rF M17 1 r19)) fun M20 => (gdb (inb l3_5 10) (bd (F_X2_moveAheadOf M20 (v + 2) (rA M20 (v + 4) (Int32.toNatClampNeg l3_5)) (rF M20 54 v)) fun M23 => (nm (l3_5 + (1 : Int32)) fun x24 => (F_X3_setOff_l67 v l2_1 n67 x24 M23)))))))) fun j138_14 => (if r13 ≤ 0 then (gdb (inb l3_5 10) (bd2 (F_X3_attempt M6 v (rA M6 (v + 4) (Int32.toNatClampNeg l3_5)) (rF M6 8 r11) (rF M6 9 r11) (-1 : Int32) (0 : Int32)) fun r29 M28 => (j138_14 M28))) else (nm (wF M6 57 v ((rF M6 57 v) + (1 : Int32))) fun M30 => (j138_14 M30)))))))))

def F_X3_setOff_l4 (v : Nat) (a0 : Int32) : Nat → Int32 → Int32 → MS → Option MS
  | 0, _, _, _ => none
  | n4 + 1, l2_1, l3_2, M3 => (if (rF M3 33 (v + 2)) ≤ l3_2 then (F_X3_setOff_l67 v l2_1 FU (0 : Int32) M3) else (bd (F_X2_numberAt M3 (v + 2) l3_2) fun r32 => (bd (F_X3_at M3 v r32) fun r34 => (bd (F_X3_isSetOff M3 v r34 a0) fun r36 => (if r36 = 0 then (nm (l3_2 + (1 : Int32)) fun x38 => (F_X3_setOff_l4 v a0 n4 l2_1 x38 M3)) else (if (10 : Int32) ≤ l2_1 then (nm (l3_2 + (1 : Int32)) fun x40 => (F_X3_setOff_l4 v a0 n4 l2_1 x40 M3)) else (gdb (inb l2_1 10) (nm (wA M3 (v + 4) (Int32.toNatClampNeg l2_1) r32) fun M42 => (nm (l2_1 + (1 : Int32)) fun x43 => (nm (l3_2 + (1 : Int32)) fun x44 => (F_X3_setOff_l4 v a0 n4 x43 x44 M42)))))))))))

def F_X3_setOff (M : MS) (v : Nat) (a0 : Int32) : Option MS := (F_X3_setOff_l4 v a0 FU (0 : Int32) (0 : Int32) M)

set_option maxHeartbeats 4000000 in
set_option maxRecDepth 100000 in
theorem k_X3_setOff (l : Launch) (G : GG) (M : MS) (v : Nat) (a0 : Int32) {Mf : MS} (hF : F_X3_setOff M v a0 = some Mf) (hv : ok 3 v) : KV l yX3_setOff (WS yX3_setOff cX3_setOff 5 none) (Rm 3) G [.ref (gad G v), .int a0] M Mf := by
  intro sz
  refine y_met (by decide +kernel) (Nat.le_of_ble_eq_true rfl) rfl (fun p e s m below meth c ls hsz C0 hM hl => ?_)
  have hl : lv_has ls 5 [(0, .ref (gad G v)), (1, .int a0)] := hl
  have C0 : CX p s m meth c ([.ref (gad G v), .int a0] : List Value).toArray cX3_setOff RX3 5 none := C0
  rw [F_X3_setOff] at hF
  refine lv_iconst (v := (0 : Int32)) C0.1 C0.2.1 dX3_setOff_0 (by decide) ?_
  refine lv_istore_n (lv' := [(2, .int (0 : Int32)), (0, .ref (gad G v)), (1, .int a0)]) C0.1 C0.2.1 dX3_setOff_1 rfl hl (by decide) rfl (fun ls hl => ?_)
  refine lv_iconst (v := (0 : Int32)) C0.1 C0.2.1 dX3_setOff_2 (by decide) ?_
  refine lv_istore_n (lv' := [(3, .int (0 : Int32)), (2, .int (0 : Int32)), (0, .ref (gad G v)), (1, .int a0)]) C0.1 C0.2.1 dX3_setOff_3 rfl hl (by decide) rfl (fun ls hl => ?_)
  have L4 : ∀ (n : Nat) (l2_1 : Int32) (l3_2 : Int32) (M3 : MS) (H : Heap) (locs : List Loc) (ls : Array Slot), MX G M3 s H locs → lv_has ls 5 [(0, .ref (gad G v)), (1, .int a0), (2, .int l2_1), (3, .int l3_2)] → F_X3_setOff_l4 v a0 n l2_1 l3_2 M3 = some Mf → W p l e (Rm 3) s m ([.ref (gad G v), .int a0] : List Value).toArray below meth c H locs 0 0 (QV below ([.ref (gad G v), .int a0] : List Value).toArray s G sz Mf) (F0 m 4 ls []) := by
    intro n
    induction n with
    | zero => intro l2_1 l3_2 M3 H locs ls hM hl hF; rw [F_X3_setOff_l4] at hF; cases hF
    | succ n4 ih4 =>
      intro l2_1 l3_2 M3 H locs ls hM hl hF
      rw [F_X3_setOff_l4] at hF
      refine lv_iload_n C0.1 C0.2.1 dX3_setOff_4 rfl (lv_at hl 3 rfl) ?_
      refine lv_aload_n C0.1 C0.2.1 dX3_setOff_5 rfl (lv_at hl 0 rfl) ?_
      refine gf3_2 C0 hM hv fl_RX3_25 dX3_setOff_6 ?_
      refine gf2_1 C0 hM (ok_row hv) fl_RX3_77 dX3_setOff_9 ?_
      refine lv_icmp_ge (tgt := 65) C0.1 C0.2.1 dX3_setOff_12 (by decide) (fun c4 => ?_) (fun c4 => ?_)
      · have hF := if_t c4 hF
        refine lv_iconst (v := (0 : Int32)) C0.1 C0.2.1 dX3_setOff_65 (by decide) ?_
        refine lv_istore_n (lv' := [(3, .int (0 : Int32)), (0, .ref (gad G v)), (1, .int a0), (2, .int l2_1)]) C0.1 C0.2.1 dX3_setOff_66 rfl hl (by decide) rfl (fun ls hl => ?_)
        have L67 : ∀ (n : Nat) (l3_5 : Int32) (M6 : MS) (H : Heap) (locs : List Loc) (ls : Array Slot), MX G M6 s H locs → lv_has ls 5 [(0, .ref (gad G v)), (1, .int a0), (2, .int l2_1), (3, .int l3_5)] → F_X3_setOff_l67 v l2_1 n l3_5 M6 = some Mf → W p l e (Rm 3) s m ([.ref (gad G v), .int a0] : List Value).toArray below meth c H locs 0 0 (QV below ([.ref (gad G v), .int a0] : List Value).toArray s G sz Mf) (F0 m 67 ls []) := by
          intro n
          induction n with
          | zero => intro l3_5 M6 H locs ls hM hl hF; rw [F_X3_setOff_l67] at hF; cases hF
          | succ n67 ih67 =>
            intro l3_5 M6 H locs ls hM hl hF
            rw [F_X3_setOff_l67] at hF
            refine lv_iload_n C0.1 C0.2.1 dX3_setOff_67 rfl (lv_at hl 3 rfl) ?_
            refine lv_iload_n C0.1 C0.2.1 dX3_setOff_68 rfl (lv_at hl 2 rfl) ?_
            refine lv_icmp_ge (tgt := 182) C0.1 C0.2.1 dX3_setOff_69 (by decide) (fun c7 => ?_) (fun c7 => ?_)
            · have hF := if_t c7 hF
              have e9 := y_1 hF
              subst e9
              exact y_vret C0 hM hsz dX3_setOff_182
            · have hF := if_f c7 hF
              refine lv_iload_n C0.1 C0.2.1 dX3_setOff_72 rfl (lv_at hl 3 rfl) ?_
              refine lv_aload_n C0.1 C0.2.1 dX3_setOff_73 rfl (lv_at hl 0 rfl) ?_
              refine gf3_3 C0 hM hv fl_RX3_29 dX3_setOff_74 ?_
              refine y_alen (x := (10 : Int32)) C0 hM (oka_readiers hv) rfl dX3_setOff_77 ?_
              refine lv_icmp_ge (tgt := 182) C0.1 C0.2.1 dX3_setOff_78 (by decide) (fun c8 => ?_) (fun c8 => ?_)
              · have hF := if_t c8 hF
                have e9 := y_1 hF
                subst e9
                exact y_vret C0 hM hsz dX3_setOff_182
              · have hF := if_f c8 hF
                refine lv_aload_n C0.1 C0.2.1 dX3_setOff_81 rfl (lv_at hl 0 rfl) ?_
                refine lv_aload_n C0.1 C0.2.1 dX3_setOff_82 rfl (lv_at hl 0 rfl) ?_
                refine gf3_3 C0 hM hv fl_RX3_29 dX3_setOff_83 ?_
                refine lv_iload_n C0.1 C0.2.1 dX3_setOff_86 rfl (lv_at hl 3 rfl) ?_
                obtain ⟨g9, hF⟩ := gdb_some hF
                refine y_iald C0 hM (oka_readiers hv) g9 dX3_setOff_87 ?_
                obtain ⟨r11, h10, hF⟩ := bd_some hF
                refine y_vr (rest := []) C0 hM hl.1 hv (ent3 hv) rfl (k_X3_at l G M6 v (rA M6 (v + 4) (Int32.toNatClampNeg l3_5)) h10 hv) cw_RX3_59 rfl rfl ⟨Nat.le_of_ble_eq_true rfl, Nat.le_of_ble_eq_true rfl⟩ rfl (Nat.le_of_ble_eq_true rfl) ⟨Nat.le_of_ble_eq_true rfl, Nat.le_of_ble_eq_true rfl⟩ dX3_setOff_88 (fun H locs hM => ?_)
                refine lv_astore (lv' := [(4, .ref (gad G r11)), (0, .ref (gad G v)), (1, .int a0), (2, .int l2_1), (3, .int l3_5)]) C0.1 C0.2.1 dX3_setOff_91 hl (by decide) rfl (fun ls hl => ?_)
                refine lv_aload C0.1 C0.2.1 dX3_setOff_93 (lv_at hl 0 rfl) ?_
                refine lv_iconst (v := (0 : Int32)) C0.1 C0.2.1 dX3_setOff_95 (by decide) ?_
                obtain ⟨r13, h12, hF⟩ := bd_some hF
                refine y_vi (rest := []) C0 hM hl.1 (at_ok h10 hv) (ent0 (at_ok h10 hv)) rfl (k_X0_roundsOf l G M6 r11 (0 : Int32) h12 (at_ok h10 hv)) cw_RX3_114 rfl rfl ⟨Nat.le_of_ble_eq_true rfl, Nat.le_of_ble_eq_true rfl⟩ rfl (Nat.le_of_ble_eq_true rfl) ⟨Nat.le_of_ble_eq_true rfl, Nat.le_of_ble_eq_true rfl⟩ dX3_setOff_96 (fun H locs hM => ?_)
                obtain ⟨j138_14, ej138_14, hF⟩ := nm_some hF
                have J138 : ∀ (M14 : MS) (H : Heap) (locs : List Loc) (ls : Array Slot), MX G M14 s H locs → lv_has ls 5 [(0, .ref (gad G v)), (1, .int a0), (2, .int l2_1), (3, .int l3_5), (4, .ref (gad G r11))] → j138_14 M14 = some Mf → W p l e (Rm 3) s m ([.ref (gad G v), .int a0] : List Value).toArray below meth c H locs 0 0 (QV below ([.ref (gad G v), .int a0] : List Value).toArray s G sz Mf) (F0 m 138 ls []) := by
                  intro M14 H locs ls hM hl hF
                  rw [ej138_14] at hF
                  refine lv_aload C0.1 C0.2.1 dX3_setOff_138 (lv_at hl 4 rfl) ?_
                  obtain ⟨M17, h16, hF⟩ := bd_some hF
                  refine y_vv (rest := []) C0 hM hl.1 (at_ok h10 hv) (ent0 (at_ok h10 hv)) rfl (k_X0_forgetReadied l G M14 r11 h16 (at_ok h10 hv)) cw_RX3_88 rfl rfl ⟨Nat.le_of_ble_eq_true rfl, Nat.le_of_ble_eq_true rfl⟩ rfl (Nat.le_of_ble_eq_true rfl) ⟨Nat.le_of_ble_eq_true rfl, Nat.le_of_ble_eq_true rfl⟩ dX3_setOff_140 (fun H locs hM => ?_)
                  refine lv_aload C0.1 C0.2.1 dX3_setOff_143 (lv_at hl 4 rfl) ?_
                  refine lv_aload_n C0.1 C0.2.1 dX3_setOff_145 rfl (lv_at hl 0 rfl) ?_
                  refine lv_aload_n C0.1 C0.2.1 dX3_setOff_146 rfl (lv_at hl 0 rfl) ?_
                  refine gf3_6 C0 hM hv fl_RX3_40 dX3_setOff_147 ?_
                  obtain ⟨r19, h18, hF⟩ := bd_some hF
                  refine y_vr (rest := [.ref (gad G r11)]) C0 hM hl.1 hv (ent3 hv) rfl (k_X3_at l G M17 v (rF M17 54 v) h18 hv) cw_RX3_59 rfl rfl ⟨Nat.le_of_ble_eq_true rfl, Nat.le_of_ble_eq_true rfl⟩ rfl (Nat.le_of_ble_eq_true rfl) ⟨Nat.le_of_ble_eq_true rfl, Nat.le_of_ble_eq_true rfl⟩ dX3_setOff_150 (fun H locs hM => ?_)
                  refine gf0_1 C0 hM (at_ok h18 hv) fl_RX3_74 dX3_setOff_153 ?_
                  refine pf0_1 C0 hM (at_ok h10 hv) fl_RX3_74 dX3_setOff_156 (fun H locs hM => ?_)
                  obtain ⟨M20, eM20, hF⟩ := nm_some hF
                  have hM := y_mn eM20 hM
                  refine lv_aload_n C0.1 C0.2.1 dX3_setOff_159 rfl (lv_at hl 0 rfl) ?_
                  refine gf3_2 C0 hM hv fl_RX3_25 dX3_setOff_160 ?_
                  refine lv_aload_n C0.1 C0.2.1 dX3_setOff_163 rfl (lv_at hl 0 rfl) ?_
                  refine gf3_3 C0 hM hv fl_RX3_29 dX3_setOff_164 ?_
                  refine lv_iload_n C0.1 C0.2.1 dX3_setOff_167 rfl (lv_at hl 3 rfl) ?_
                  obtain ⟨g21, hF⟩ := gdb_some hF
                  refine y_iald C0 hM (oka_readiers hv) g21 dX3_setOff_168 ?_
                  refine lv_aload_n C0.1 C0.2.1 dX3_setOff_169 rfl (lv_at hl 0 rfl) ?_
                  refine gf3_6 C0 hM hv fl_RX3_40 dX3_setOff_170 ?_
                  obtain ⟨M23, h22, hF⟩ := bd_some hF
                  refine y_vv (rest := []) C0 hM hl.1 (ok_row hv) (ent2 (ok_row hv)) rfl (k_X2_moveAheadOf l G M20 (v + 2) (rA M20 (v + 4) (Int32.toNatClampNeg l3_5)) (rF M20 54 v) h22 (ok_row hv)) cw_RX3_189 rfl rfl ⟨Nat.le_of_ble_eq_true rfl, Nat.le_of_ble_eq_true rfl⟩ rfl (Nat.le_of_ble_eq_true rfl) ⟨Nat.le_of_ble_eq_true rfl, Nat.le_of_ble_eq_true rfl⟩ dX3_setOff_173 (fun H locs hM => ?_)
                  obtain ⟨x24, ex24, hF⟩ := nm_some hF
                  refine lv_iinc (v := x24) (lv' := [(3, .int x24), (0, .ref (gad G v)), (1, .int a0), (2, .int l2_1), (4, .ref (gad G r11))]) C0.1 C0.2.1 dX3_setOff_176 hl (k := 3) rfl (by rw [ex24]; rfl) (by decide) rfl (fun ls hl => ?_)
                  refine lv_goto (tgt := 67) C0.1 C0.2.1 dX3_setOff_179 (by decide) ?_
                  exact ih67 x24 M23 _ _ _ hM (lv_sub hl [1, 2, 3, 0] rfl) hF
                refine lv_if_le (tgt := 115) C0.1 C0.2.1 dX3_setOff_99 (by decide) (fun c25 => ?_) (fun c25 => ?_)
                · have hF := if_t c25 hF
                  refine lv_aload_n C0.1 C0.2.1 dX3_setOff_115 rfl (lv_at hl 1 rfl) ?_
                  refine lv_aload_n C0.1 C0.2.1 dX3_setOff_116 rfl (lv_at hl 1 rfl) ?_
                  refine gf3_3 C0 hM hv fl_RX3_29 dX3_setOff_117 ?_
                  refine lv_iload_n C0.1 C0.2.1 dX3_setOff_120 rfl (lv_at hl 4 rfl) ?_
                  obtain ⟨g26, hF⟩ := gdb_some hF
                  refine y_iald C0 hM (oka_readiers hv) g26 dX3_setOff_121 ?_
                  refine lv_aload C0.1 C0.2.1 dX3_setOff_122 (lv_at hl 0 rfl) ?_
                  refine gf0_8 C0 hM (at_ok h10 hv) fl_RX3_133 dX3_setOff_124 ?_
                  refine lv_aload C0.1 C0.2.1 dX3_setOff_127 (lv_at hl 0 rfl) ?_
                  refine gf0_9 C0 hM (at_ok h10 hv) fl_RX3_136 dX3_setOff_129 ?_
                  refine lv_iconst (v := (-1 : Int32)) C0.1 C0.2.1 dX3_setOff_132 (by decide) ?_
                  refine lv_iconst (v := (0 : Int32)) C0.1 C0.2.1 dX3_setOff_133 (by decide) ?_
                  obtain ⟨r29, M28, h27, hF⟩ := bd2_some hF
                  refine y_vi (rest := []) C0 hM hl.1 hv (ent3 hv) rfl (k_X3_attempt l G M6 v (rA M6 (v + 4) (Int32.toNatClampNeg l3_5)) (rF M6 8 r11) (rF M6 9 r11) (-1 : Int32) (0 : Int32) h27 hv) cw_RX3_156 rfl rfl ⟨Nat.le_of_ble_eq_true rfl, Nat.le_of_ble_eq_true rfl⟩ rfl (Nat.le_of_ble_eq_true rfl) ⟨Nat.le_of_ble_eq_true rfl, Nat.le_of_ble_eq_true rfl⟩ dX3_setOff_134 (fun H locs hM => ?_)
                  refine lv_pop C0.1 C0.2.1 dX3_setOff_137 rfl ?_
                  exact J138 M28 _ _ _ hM (lv_sub hl [1, 2, 3, 4, 0] rfl) hF
                · have hF := if_f c25 hF
                  refine lv_aload_n C0.1 C0.2.1 dX3_setOff_102 rfl (lv_at hl 1 rfl) ?_
                  refine lv_dup C0.1 C0.2.1 dX3_setOff_103 rfl ?_
                  refine gf3_9 C0 hM hv fl_RX3_49 dX3_setOff_104 ?_
                  refine lv_iconst (v := (1 : Int32)) C0.1 C0.2.1 dX3_setOff_107 (by decide) ?_
                  refine lv_iadd C0.1 C0.2.1 dX3_setOff_108 ?_
                  refine pf3_9 C0 hM hv fl_RX3_49 dX3_setOff_109 (fun H locs hM => ?_)
                  obtain ⟨M30, eM30, hF⟩ := nm_some hF
                  have hM := y_mn eM30 hM
                  refine lv_goto (tgt := 138) C0.1 C0.2.1 dX3_setOff_112 (by decide) ?_
                  exact J138 M30 _ _ _ hM (lv_sub hl [1, 2, 3, 4, 0] rfl) hF
        exact L67 FU (0 : Int32) M3 _ _ _ hM (lv_sub hl [1, 2, 3, 0] rfl) hF
      · have hF := if_f c4 hF
        refine lv_aload_n C0.1 C0.2.1 dX3_setOff_15 rfl (lv_at hl 0 rfl) ?_
        refine gf3_2 C0 hM hv fl_RX3_25 dX3_setOff_16 ?_
        refine lv_iload_n C0.1 C0.2.1 dX3_setOff_19 rfl (lv_at hl 3 rfl) ?_
        obtain ⟨r32, h31, hF⟩ := bd_some hF
        refine y_vi (rest := []) C0 hM hl.1 (ok_row hv) (ent2 (ok_row hv)) rfl (k_X2_numberAt l G M3 (v + 2) l3_2 h31 (ok_row hv)) cw_RX3_80 rfl rfl ⟨Nat.le_of_ble_eq_true rfl, Nat.le_of_ble_eq_true rfl⟩ rfl (Nat.le_of_ble_eq_true rfl) ⟨Nat.le_of_ble_eq_true rfl, Nat.le_of_ble_eq_true rfl⟩ dX3_setOff_20 (fun H locs hM => ?_)
        refine lv_istore (lv' := [(4, .int r32), (0, .ref (gad G v)), (1, .int a0), (2, .int l2_1), (3, .int l3_2)]) C0.1 C0.2.1 dX3_setOff_23 hl (by decide) rfl (fun ls hl => ?_)
        refine lv_aload_n C0.1 C0.2.1 dX3_setOff_25 rfl (lv_at hl 1 rfl) ?_
        refine lv_aload_n C0.1 C0.2.1 dX3_setOff_26 rfl (lv_at hl 1 rfl) ?_
        refine lv_iload C0.1 C0.2.1 dX3_setOff_27 (lv_at hl 0 rfl) ?_
        obtain ⟨r34, h33, hF⟩ := bd_some hF
        refine y_vr (rest := [.ref (gad G v)]) C0 hM hl.1 hv (ent3 hv) rfl (k_X3_at l G M3 v r32 h33 hv) cw_RX3_59 rfl rfl ⟨Nat.le_of_ble_eq_true rfl, Nat.le_of_ble_eq_true rfl⟩ rfl (Nat.le_of_ble_eq_true rfl) ⟨Nat.le_of_ble_eq_true rfl, Nat.le_of_ble_eq_true rfl⟩ dX3_setOff_29 (fun H locs hM => ?_)
        refine lv_iload_n C0.1 C0.2.1 dX3_setOff_32 rfl (lv_at hl 2 rfl) ?_
        obtain ⟨r36, h35, hF⟩ := bd_some hF
        refine y_vi (rest := []) C0 hM hl.1 hv (ent3 hv) rfl (k_X3_isSetOff l G M3 v r34 a0 h35 hv (at_ok h33 hv)) cw_RX3_185 rfl rfl ⟨Nat.le_of_ble_eq_true rfl, Nat.le_of_ble_eq_true rfl⟩ rfl (Nat.le_of_ble_eq_true rfl) ⟨Nat.le_of_ble_eq_true rfl, Nat.le_of_ble_eq_true rfl⟩ dX3_setOff_33 (fun H locs hM => ?_)
        refine lv_if_eq (tgt := 59) C0.1 C0.2.1 dX3_setOff_36 (by decide) (fun c37 => ?_) (fun c37 => ?_)
        · have hF := if_t c37 hF
          obtain ⟨x38, ex38, hF⟩ := nm_some hF
          refine lv_iinc (v := x38) (lv' := [(3, .int x38), (4, .int r32), (0, .ref (gad G v)), (1, .int a0), (2, .int l2_1)]) C0.1 C0.2.1 dX3_setOff_59 hl (k := 4) rfl (by rw [ex38]; rfl) (by decide) rfl (fun ls hl => ?_)
          refine lv_goto (tgt := 4) C0.1 C0.2.1 dX3_setOff_62 (by decide) ?_
          exact ih4 l2_1 x38 M3 _ _ _ hM (lv_sub hl [2, 3, 4, 0] rfl) hF
        · have hF := if_f c37 hF
          refine lv_iload_n C0.1 C0.2.1 dX3_setOff_39 rfl (lv_at hl 3 rfl) ?_
          refine lv_aload_n C0.1 C0.2.1 dX3_setOff_40 rfl (lv_at hl 1 rfl) ?_
          refine gf3_3 C0 hM hv fl_RX3_29 dX3_setOff_41 ?_
          refine y_alen (x := (10 : Int32)) C0 hM (oka_readiers hv) rfl dX3_setOff_44 ?_
          refine lv_icmp_ge (tgt := 59) C0.1 C0.2.1 dX3_setOff_45 (by decide) (fun c39 => ?_) (fun c39 => ?_)
          · have hF := if_t c39 hF
            obtain ⟨x40, ex40, hF⟩ := nm_some hF
            refine lv_iinc (v := x40) (lv' := [(3, .int x40), (4, .int r32), (0, .ref (gad G v)), (1, .int a0), (2, .int l2_1)]) C0.1 C0.2.1 dX3_setOff_59 hl (k := 4) rfl (by rw [ex40]; rfl) (by decide) rfl (fun ls hl => ?_)
            refine lv_goto (tgt := 4) C0.1 C0.2.1 dX3_setOff_62 (by decide) ?_
            exact ih4 l2_1 x40 M3 _ _ _ hM (lv_sub hl [2, 3, 4, 0] rfl) hF
          · have hF := if_f c39 hF
            refine lv_aload_n C0.1 C0.2.1 dX3_setOff_48 rfl (lv_at hl 1 rfl) ?_
            refine gf3_3 C0 hM hv fl_RX3_29 dX3_setOff_49 ?_
            refine lv_iload_n C0.1 C0.2.1 dX3_setOff_52 rfl (lv_at hl 3 rfl) ?_
            refine lv_iload C0.1 C0.2.1 dX3_setOff_53 (lv_at hl 0 rfl) ?_
            obtain ⟨g41, hF⟩ := gdb_some hF
            refine y_iast C0 hM (oka_readiers hv) g41 dX3_setOff_55 (fun H locs hM => ?_)
            obtain ⟨M42, eM42, hF⟩ := nm_some hF
            have hM := y_mn eM42 hM
            obtain ⟨x43, ex43, hF⟩ := nm_some hF
            refine lv_iinc (v := x43) (lv' := [(2, .int x43), (4, .int r32), (0, .ref (gad G v)), (1, .int a0), (3, .int l3_2)]) C0.1 C0.2.1 dX3_setOff_56 hl (k := 3) rfl (by rw [ex43]; rfl) (by decide) rfl (fun ls hl => ?_)
            obtain ⟨x44, ex44, hF⟩ := nm_some hF
            refine lv_iinc (v := x44) (lv' := [(3, .int x44), (2, .int x43), (4, .int r32), (0, .ref (gad G v)), (1, .int a0)]) C0.1 C0.2.1 dX3_setOff_59 hl (k := 4) rfl (by rw [ex44]; rfl) (by decide) rfl (fun ls hl => ?_)
            refine lv_goto (tgt := 4) C0.1 C0.2.1 dX3_setOff_62 (by decide) ?_
            exact ih4 x43 x44 M42 _ _ _ hM (lv_sub hl [3, 4, 1, 0] rfl) hF
  exact L4 FU (0 : Int32) (0 : Int32) M _ _ _ hM (lv_sub hl [2, 3, 1, 0] rfl) hF

def F_X3_act (M : MS) (v : Nat) (a0 : Int32) (a1 : Int32) (a2 : Int32) (a3 : Int32) : Option (Int32 × MS) := (bd (F_X3_setOff M v a0) fun M2 => (bd2 (F_X3_attempt M2 v (rF M2 54 v) a0 a1 a2 a3) fun r5 M4 => (bd (F_X3_endTurn M4 v) fun M7 => (some (r5, M7)))))

set_option maxHeartbeats 4000000 in
set_option maxRecDepth 100000 in
theorem k_X3_act (l : Launch) (G : GG) (M : MS) (v : Nat) (a0 : Int32) (a1 : Int32) (a2 : Int32) (a3 : Int32) {r : Int32} {Mf : MS} (hF : F_X3_act M v a0 a1 a2 a3 = some (r, Mf)) (hv : ok 3 v) : KI l yX3_act (WS yX3_act cX3_act 6 (some .int)) (Rm 4) G [.ref (gad G v), .int a0, .int a1, .int a2, .int a3] M r Mf := by
  intro sz
  refine y_met (by decide +kernel) (Nat.le_of_ble_eq_true rfl) rfl (fun p e s m below meth c ls hsz C0 hM hl => ?_)
  have hl : lv_has ls 6 [(0, .ref (gad G v)), (1, .int a0), (2, .int a1), (3, .int a2), (4, .int a3)] := hl
  have C0 : CX p s m meth c ([.ref (gad G v), .int a0, .int a1, .int a2, .int a3] : List Value).toArray cX3_act RX3 6 (some .int) := C0
  rw [F_X3_act] at hF
  refine lv_aload_n C0.1 C0.2.1 dX3_act_0 rfl (lv_at hl 0 rfl) ?_
  refine lv_iload_n C0.1 C0.2.1 dX3_act_1 rfl (lv_at hl 1 rfl) ?_
  obtain ⟨M2, h1, hF⟩ := bd_some hF
  refine y_vv (rest := []) C0 hM hl.1 hv (ent3 hv) rfl (k_X3_setOff l G M v a0 h1 hv) cw_RX3_153 rfl rfl ⟨Nat.le_of_ble_eq_true rfl, Nat.le_of_ble_eq_true rfl⟩ rfl (Nat.le_of_ble_eq_true rfl) ⟨Nat.le_of_ble_eq_true rfl, Nat.le_of_ble_eq_true rfl⟩ dX3_act_2 (fun H locs hM => ?_)
  refine lv_aload_n C0.1 C0.2.1 dX3_act_5 rfl (lv_at hl 0 rfl) ?_
  refine lv_aload_n C0.1 C0.2.1 dX3_act_6 rfl (lv_at hl 0 rfl) ?_
  refine gf3_6 C0 hM hv fl_RX3_40 dX3_act_7 ?_
  refine lv_iload_n C0.1 C0.2.1 dX3_act_10 rfl (lv_at hl 1 rfl) ?_
  refine lv_iload_n C0.1 C0.2.1 dX3_act_11 rfl (lv_at hl 2 rfl) ?_
  refine lv_iload_n C0.1 C0.2.1 dX3_act_12 rfl (lv_at hl 3 rfl) ?_
  refine lv_iload C0.1 C0.2.1 dX3_act_13 (lv_at hl 4 rfl) ?_
  obtain ⟨r5, M4, h3, hF⟩ := bd2_some hF
  refine y_vi (rest := []) C0 hM hl.1 hv (ent3 hv) rfl (k_X3_attempt l G M2 v (rF M2 54 v) a0 a1 a2 a3 h3 hv) cw_RX3_156 rfl rfl ⟨Nat.le_of_ble_eq_true rfl, Nat.le_of_ble_eq_true rfl⟩ rfl (Nat.le_of_ble_eq_true rfl) ⟨Nat.le_of_ble_eq_true rfl, Nat.le_of_ble_eq_true rfl⟩ dX3_act_15 (fun H locs hM => ?_)
  refine lv_istore (lv' := [(5, .int r5), (0, .ref (gad G v)), (1, .int a0), (2, .int a1), (3, .int a2), (4, .int a3)]) C0.1 C0.2.1 dX3_act_18 hl (by decide) rfl (fun ls hl => ?_)
  refine lv_aload_n C0.1 C0.2.1 dX3_act_20 rfl (lv_at hl 1 rfl) ?_
  obtain ⟨M7, h6, hF⟩ := bd_some hF
  refine y_vv (rest := []) C0 hM hl.1 hv (ent3 hv) rfl (k_X3_endTurn l G M4 v h6 hv) cw_RX3_101 rfl rfl ⟨Nat.le_of_ble_eq_true rfl, Nat.le_of_ble_eq_true rfl⟩ rfl (Nat.le_of_ble_eq_true rfl) ⟨Nat.le_of_ble_eq_true rfl, Nat.le_of_ble_eq_true rfl⟩ dX3_act_21 (fun H locs hM => ?_)
  refine lv_iload C0.1 C0.2.1 dX3_act_24 (lv_at hl 0 rfl) ?_
  obtain ⟨e8, e9⟩ := y_2 hF
  subst e8
  subst e9
  exact y_iret C0 hM hsz dX3_act_26

def F_X3_numberSetOff_l4 (v : Nat) (a0 : Int32) (M : MS) : Nat → Int32 → Int32 → Option Int32
  | 0, _, _ => none
  | n4 + 1, l2_1, l3_2 => (if (rF M 52 v) ≤ l3_2 then (some l2_1) else (bd (F_X3_at M v l3_2) fun r5 => (bd (F_X3_isSetOff M v r5 a0) fun r7 => (if r7 = 0 then (nm (l3_2 + (1 : Int32)) fun x9 => (F_X3_numberSetOff_l4 v a0 M n4 l2_1 x9)) else (nm (l2_1 + (1 : Int32)) fun x10 => (nm (l3_2 + (1 : Int32)) fun x11 => (F_X3_numberSetOff_l4 v a0 M n4 x10 x11)))))))

def F_X3_numberSetOff (M : MS) (v : Nat) (a0 : Int32) : Option Int32 := (F_X3_numberSetOff_l4 v a0 M FU (0 : Int32) (0 : Int32))

set_option maxHeartbeats 4000000 in
set_option maxRecDepth 100000 in
theorem k_X3_numberSetOff (l : Launch) (G : GG) (M : MS) (v : Nat) (a0 : Int32) {r : Int32} (hF : F_X3_numberSetOff M v a0 = some r) (hv : ok 3 v) : KI l yX3_numberSetOff (WS yX3_numberSetOff cX3_numberSetOff 4 (some .int)) (Rm 2) G [.ref (gad G v), .int a0] M r M := by
  intro sz
  refine y_met (by decide +kernel) (Nat.le_of_ble_eq_true rfl) rfl (fun p e s m below meth c ls hsz C0 hM hl => ?_)
  have hl : lv_has ls 4 [(0, .ref (gad G v)), (1, .int a0)] := hl
  have C0 : CX p s m meth c ([.ref (gad G v), .int a0] : List Value).toArray cX3_numberSetOff RX3 4 (some .int) := C0
  rw [F_X3_numberSetOff] at hF
  refine lv_iconst (v := (0 : Int32)) C0.1 C0.2.1 dX3_numberSetOff_0 (by decide) ?_
  refine lv_istore_n (lv' := [(2, .int (0 : Int32)), (0, .ref (gad G v)), (1, .int a0)]) C0.1 C0.2.1 dX3_numberSetOff_1 rfl hl (by decide) rfl (fun ls hl => ?_)
  refine lv_iconst (v := (0 : Int32)) C0.1 C0.2.1 dX3_numberSetOff_2 (by decide) ?_
  refine lv_istore_n (lv' := [(3, .int (0 : Int32)), (2, .int (0 : Int32)), (0, .ref (gad G v)), (1, .int a0)]) C0.1 C0.2.1 dX3_numberSetOff_3 rfl hl (by decide) rfl (fun ls hl => ?_)
  have L4 : ∀ (n : Nat) (l2_1 : Int32) (l3_2 : Int32) (H : Heap) (locs : List Loc) (ls : Array Slot), MX G M s H locs → lv_has ls 4 [(0, .ref (gad G v)), (1, .int a0), (2, .int l2_1), (3, .int l3_2)] → F_X3_numberSetOff_l4 v a0 M n l2_1 l3_2 = some r → W p l e (Rm 2) s m ([.ref (gad G v), .int a0] : List Value).toArray below meth c H locs 0 0 (QI below ([.ref (gad G v), .int a0] : List Value).toArray s G sz r M) (F0 m 4 ls []) := by
    intro n
    induction n with
    | zero => intro l2_1 l3_2 H locs ls hM hl hF; rw [F_X3_numberSetOff_l4] at hF; cases hF
    | succ n4 ih4 =>
      intro l2_1 l3_2 H locs ls hM hl hF
      rw [F_X3_numberSetOff_l4] at hF
      refine lv_iload_n C0.1 C0.2.1 dX3_numberSetOff_4 rfl (lv_at hl 3 rfl) ?_
      refine lv_aload_n C0.1 C0.2.1 dX3_numberSetOff_5 rfl (lv_at hl 0 rfl) ?_
      refine gf3_4 C0 hM hv fl_RX3_33 dX3_numberSetOff_6 ?_
      refine lv_icmp_ge (tgt := 34) C0.1 C0.2.1 dX3_numberSetOff_9 (by decide) (fun c3 => ?_) (fun c3 => ?_)
      · have hF := if_t c3 hF
        refine lv_iload_n C0.1 C0.2.1 dX3_numberSetOff_34 rfl (lv_at hl 2 rfl) ?_
        have e8 := y_1 hF
        subst e8
        exact y_iret C0 hM hsz dX3_numberSetOff_35
      · have hF := if_f c3 hF
        refine lv_aload_n C0.1 C0.2.1 dX3_numberSetOff_12 rfl (lv_at hl 0 rfl) ?_
        refine lv_aload_n C0.1 C0.2.1 dX3_numberSetOff_13 rfl (lv_at hl 0 rfl) ?_
        refine lv_iload_n C0.1 C0.2.1 dX3_numberSetOff_14 rfl (lv_at hl 3 rfl) ?_
        obtain ⟨r5, h4, hF⟩ := bd_some hF
        refine y_vr (rest := [.ref (gad G v)]) C0 hM hl.1 hv (ent3 hv) rfl (k_X3_at l G M v l3_2 h4 hv) cw_RX3_59 rfl rfl ⟨Nat.le_of_ble_eq_true rfl, Nat.le_of_ble_eq_true rfl⟩ rfl (Nat.le_of_ble_eq_true rfl) ⟨Nat.le_of_ble_eq_true rfl, Nat.le_of_ble_eq_true rfl⟩ dX3_numberSetOff_15 (fun H locs hM => ?_)
        refine lv_iload_n C0.1 C0.2.1 dX3_numberSetOff_18 rfl (lv_at hl 1 rfl) ?_
        obtain ⟨r7, h6, hF⟩ := bd_some hF
        refine y_vi (rest := []) C0 hM hl.1 hv (ent3 hv) rfl (k_X3_isSetOff l G M v r5 a0 h6 hv (at_ok h4 hv)) cw_RX3_185 rfl rfl ⟨Nat.le_of_ble_eq_true rfl, Nat.le_of_ble_eq_true rfl⟩ rfl (Nat.le_of_ble_eq_true rfl) ⟨Nat.le_of_ble_eq_true rfl, Nat.le_of_ble_eq_true rfl⟩ dX3_numberSetOff_19 (fun H locs hM => ?_)
        refine lv_if_eq (tgt := 28) C0.1 C0.2.1 dX3_numberSetOff_22 (by decide) (fun c8 => ?_) (fun c8 => ?_)
        · have hF := if_t c8 hF
          obtain ⟨x9, ex9, hF⟩ := nm_some hF
          refine lv_iinc (v := x9) (lv' := [(3, .int x9), (0, .ref (gad G v)), (1, .int a0), (2, .int l2_1)]) C0.1 C0.2.1 dX3_numberSetOff_28 hl (k := 3) rfl (by rw [ex9]; rfl) (by decide) rfl (fun ls hl => ?_)
          refine lv_goto (tgt := 4) C0.1 C0.2.1 dX3_numberSetOff_31 (by decide) ?_
          exact ih4 l2_1 x9 _ _ _ hM (lv_sub hl [1, 2, 3, 0] rfl) hF
        · have hF := if_f c8 hF
          obtain ⟨x10, ex10, hF⟩ := nm_some hF
          refine lv_iinc (v := x10) (lv' := [(2, .int x10), (0, .ref (gad G v)), (1, .int a0), (3, .int l3_2)]) C0.1 C0.2.1 dX3_numberSetOff_25 hl (k := 2) rfl (by rw [ex10]; rfl) (by decide) rfl (fun ls hl => ?_)
          obtain ⟨x11, ex11, hF⟩ := nm_some hF
          refine lv_iinc (v := x11) (lv' := [(3, .int x11), (2, .int x10), (0, .ref (gad G v)), (1, .int a0)]) C0.1 C0.2.1 dX3_numberSetOff_28 hl (k := 3) rfl (by rw [ex11]; rfl) (by decide) rfl (fun ls hl => ?_)
          refine lv_goto (tgt := 4) C0.1 C0.2.1 dX3_numberSetOff_31 (by decide) ?_
          exact ih4 x10 x11 _ _ _ hM (lv_sub hl [2, 3, 1, 0] rfl) hF
  exact L4 FU (0 : Int32) (0 : Int32) _ _ _ hM (lv_sub hl [2, 3, 1, 0] rfl) hF

def F_X3_property (M : MS) (v : Nat) (a0 : Int32) (a1 : Int32) : Option Int32 := (bd (F_X3_at M v a0) fun r2 => (if a1 = (0 : Int32) then (some (rF M 0 r2)) else (if a1 = (1 : Int32) then (some (rF M 1 r2)) else (if a1 = (2 : Int32) then (some (rF M 2 r2)) else (if a1 = (3 : Int32) then (some (rF M 3 r2)) else (if a1 = (4 : Int32) then (some (rF M 4 r2)) else (if a1 = (5 : Int32) then (some (rF M 5 r2)) else (if a1 = (6 : Int32) then (bd (F_X2_placeOf M (v + 2) a0) fun r11 => (some r11)) else (if a1 = (7 : Int32) then (bd (F_X0_status M r2) fun r14 => (some r14)) else (if a1 = (12 : Int32) then (some (rF M 12 r2)) else (if a1 = (13 : Int32) then (some (rF M 13 r2)) else (bd (F_X0_roundsOf M r2 (a1 - (8 : Int32))) fun r18 => (some r18)))))))))))))

set_option maxHeartbeats 4000000 in
set_option maxRecDepth 100000 in
theorem k_X3_property (l : Launch) (G : GG) (M : MS) (v : Nat) (a0 : Int32) (a1 : Int32) {r : Int32} (hF : F_X3_property M v a0 a1 = some r) (hv : ok 3 v) : KI l yX3_property (WS yX3_property cX3_property 4 (some .int)) (Rm 2) G [.ref (gad G v), .int a0, .int a1] M r M := by
  intro sz
  refine y_met (by decide +kernel) (Nat.le_of_ble_eq_true rfl) rfl (fun p e s m below meth c ls hsz C0 hM hl => ?_)
  have hl : lv_has ls 4 [(0, .ref (gad G v)), (1, .int a0), (2, .int a1)] := hl
  have C0 : CX p s m meth c ([.ref (gad G v), .int a0, .int a1] : List Value).toArray cX3_property RX3 4 (some .int) := C0
  rw [F_X3_property] at hF
  refine lv_aload_n C0.1 C0.2.1 dX3_property_0 rfl (lv_at hl 0 rfl) ?_
  refine lv_iload_n C0.1 C0.2.1 dX3_property_1 rfl (lv_at hl 1 rfl) ?_
  obtain ⟨r2, h1, hF⟩ := bd_some hF
  refine y_vr (rest := []) C0 hM hl.1 hv (ent3 hv) rfl (k_X3_at l G M v a0 h1 hv) cw_RX3_59 rfl rfl ⟨Nat.le_of_ble_eq_true rfl, Nat.le_of_ble_eq_true rfl⟩ rfl (Nat.le_of_ble_eq_true rfl) ⟨Nat.le_of_ble_eq_true rfl, Nat.le_of_ble_eq_true rfl⟩ dX3_property_2 (fun H locs hM => ?_)
  refine lv_astore_n (lv' := [(3, .ref (gad G r2)), (0, .ref (gad G v)), (1, .int a0), (2, .int a1)]) C0.1 C0.2.1 dX3_property_5 rfl hl (by decide) rfl (fun ls hl => ?_)
  refine lv_iload_n C0.1 C0.2.1 dX3_property_6 rfl (lv_at hl 3 rfl) ?_
  by_cases c3 : a1 = (0 : Int32)
  · have hF := if_t c3 hF
    refine y_tsw (tgt := 76) (off := 69) C0 dX3_property_7 (by decide) (by rw [c3]; decide) (by decide) ?_
    refine lv_aload_n C0.1 C0.2.1 dX3_property_76 rfl (lv_at hl 0 rfl) ?_
    refine gf0_0 C0 hM (at_ok h1 hv) fl_RX3_63 dX3_property_77 ?_
    have e8 := y_1 hF
    subst e8
    exact y_iret C0 hM hsz dX3_property_80
  · have hF := if_f c3 hF
    by_cases c4 : a1 = (1 : Int32)
    · have hF := if_t c4 hF
      refine y_tsw (tgt := 81) (off := 74) C0 dX3_property_7 (by decide) (by rw [c4]; decide) (by decide) ?_
      refine lv_aload_n C0.1 C0.2.1 dX3_property_81 rfl (lv_at hl 0 rfl) ?_
      refine gf0_1 C0 hM (at_ok h1 hv) fl_RX3_74 dX3_property_82 ?_
      have e8 := y_1 hF
      subst e8
      exact y_iret C0 hM hsz dX3_property_85
    · have hF := if_f c4 hF
      by_cases c5 : a1 = (2 : Int32)
      · have hF := if_t c5 hF
        refine y_tsw (tgt := 86) (off := 79) C0 dX3_property_7 (by decide) (by rw [c5]; decide) (by decide) ?_
        refine lv_aload_n C0.1 C0.2.1 dX3_property_86 rfl (lv_at hl 0 rfl) ?_
        refine gf0_2 C0 hM (at_ok h1 hv) fl_RX3_169 dX3_property_87 ?_
        have e8 := y_1 hF
        subst e8
        exact y_iret C0 hM hsz dX3_property_90
      · have hF := if_f c5 hF
        by_cases c6 : a1 = (3 : Int32)
        · have hF := if_t c6 hF
          refine y_tsw (tgt := 91) (off := 84) C0 dX3_property_7 (by decide) (by rw [c6]; decide) (by decide) ?_
          refine lv_aload_n C0.1 C0.2.1 dX3_property_91 rfl (lv_at hl 0 rfl) ?_
          refine gf0_3 C0 hM (at_ok h1 hv) fl_RX3_192 dX3_property_92 ?_
          have e8 := y_1 hF
          subst e8
          exact y_iret C0 hM hsz dX3_property_95
        · have hF := if_f c6 hF
          by_cases c7 : a1 = (4 : Int32)
          · have hF := if_t c7 hF
            refine y_tsw (tgt := 96) (off := 89) C0 dX3_property_7 (by decide) (by rw [c7]; decide) (by decide) ?_
            refine lv_aload_n C0.1 C0.2.1 dX3_property_96 rfl (lv_at hl 0 rfl) ?_
            refine gf0_4 C0 hM (at_ok h1 hv) fl_RX3_195 dX3_property_97 ?_
            have e8 := y_1 hF
            subst e8
            exact y_iret C0 hM hsz dX3_property_100
          · have hF := if_f c7 hF
            by_cases c8 : a1 = (5 : Int32)
            · have hF := if_t c8 hF
              refine y_tsw (tgt := 101) (off := 94) C0 dX3_property_7 (by decide) (by rw [c8]; decide) (by decide) ?_
              refine lv_aload_n C0.1 C0.2.1 dX3_property_101 rfl (lv_at hl 0 rfl) ?_
              refine gf0_5 C0 hM (at_ok h1 hv) fl_RX3_145 dX3_property_102 ?_
              have e8 := y_1 hF
              subst e8
              exact y_iret C0 hM hsz dX3_property_105
            · have hF := if_f c8 hF
              by_cases c9 : a1 = (6 : Int32)
              · have hF := if_t c9 hF
                refine y_tsw (tgt := 106) (off := 99) C0 dX3_property_7 (by decide) (by rw [c9]; decide) (by decide) ?_
                refine lv_aload_n C0.1 C0.2.1 dX3_property_106 rfl (lv_at hl 1 rfl) ?_
                refine gf3_2 C0 hM hv fl_RX3_25 dX3_property_107 ?_
                refine lv_iload_n C0.1 C0.2.1 dX3_property_110 rfl (lv_at hl 2 rfl) ?_
                obtain ⟨r11, h10, hF⟩ := bd_some hF
                refine y_vi (rest := []) C0 hM hl.1 (ok_row hv) (ent2 (ok_row hv)) rfl (k_X2_placeOf l G M (v + 2) a0 h10 (ok_row hv)) cw_RX3_124 rfl rfl ⟨Nat.le_of_ble_eq_true rfl, Nat.le_of_ble_eq_true rfl⟩ rfl (Nat.le_of_ble_eq_true rfl) ⟨Nat.le_of_ble_eq_true rfl, Nat.le_of_ble_eq_true rfl⟩ dX3_property_111 (fun H locs hM => ?_)
                have e8 := y_1 hF
                subst e8
                exact y_iret C0 hM hsz dX3_property_114
              · have hF := if_f c9 hF
                by_cases c12 : a1 = (7 : Int32)
                · have hF := if_t c12 hF
                  refine y_tsw (tgt := 115) (off := 108) C0 dX3_property_7 (by decide) (by rw [c12]; decide) (by decide) ?_
                  refine lv_aload_n C0.1 C0.2.1 dX3_property_115 rfl (lv_at hl 0 rfl) ?_
                  obtain ⟨r14, h13, hF⟩ := bd_some hF
                  refine y_vi (rest := []) C0 hM hl.1 (at_ok h1 hv) (ent0 (at_ok h1 hv)) rfl (k_X0_status l G M r2 h13 (at_ok h1 hv)) cw_RX3_198 rfl rfl ⟨Nat.le_of_ble_eq_true rfl, Nat.le_of_ble_eq_true rfl⟩ rfl (Nat.le_of_ble_eq_true rfl) ⟨Nat.le_of_ble_eq_true rfl, Nat.le_of_ble_eq_true rfl⟩ dX3_property_116 (fun H locs hM => ?_)
                  have e8 := y_1 hF
                  subst e8
                  exact y_iret C0 hM hsz dX3_property_119
                · have hF := if_f c12 hF
                  by_cases c15 : a1 = (12 : Int32)
                  · have hF := if_t c15 hF
                    refine y_tsw (tgt := 120) (off := 113) C0 dX3_property_7 (by decide) (by rw [c15]; decide) (by decide) ?_
                    refine lv_aload_n C0.1 C0.2.1 dX3_property_120 rfl (lv_at hl 0 rfl) ?_
                    refine gf0_12 C0 hM (at_ok h1 hv) fl_RX3_164 dX3_property_121 ?_
                    have e8 := y_1 hF
                    subst e8
                    exact y_iret C0 hM hsz dX3_property_124
                  · have hF := if_f c15 hF
                    by_cases c16 : a1 = (13 : Int32)
                    · have hF := if_t c16 hF
                      refine y_tsw (tgt := 125) (off := 118) C0 dX3_property_7 (by decide) (by rw [c16]; decide) (by decide) ?_
                      refine lv_aload_n C0.1 C0.2.1 dX3_property_125 rfl (lv_at hl 0 rfl) ?_
                      refine gf0_13 C0 hM (at_ok h1 hv) fl_RX3_172 dX3_property_126 ?_
                      have e8 := y_1 hF
                      subst e8
                      exact y_iret C0 hM hsz dX3_property_129
                    · have hF := if_f c16 hF
                      refine y_tsw (tgt := 130) (off := 123) C0 dX3_property_7 (by decide) (ts_d (fun k9 h7 h8 h9 => by
                          have h6 : k9 = 0 ∨ k9 = 1 ∨ k9 = 2 ∨ k9 = 3 ∨ k9 = 4 ∨ k9 = 5 ∨ k9 = 6 ∨ k9 = 7 ∨ k9 = 8 ∨ k9 = 9 ∨ k9 = 10 ∨ k9 = 11 ∨ k9 = 12 ∨ k9 = 13 := by omega
                          rcases h6 with rfl | rfl | rfl | rfl | rfl | rfl | rfl | rfl | rfl | rfl | rfl | rfl | rfl | rfl
                          · exact absurd (Int32.toInt_inj.mp (h9.trans (by decide : (0 : Int) = Int32.toInt 0))) c3
                          · exact absurd (Int32.toInt_inj.mp (h9.trans (by decide : (1 : Int) = Int32.toInt 1))) c4
                          · exact absurd (Int32.toInt_inj.mp (h9.trans (by decide : (2 : Int) = Int32.toInt 2))) c5
                          · exact absurd (Int32.toInt_inj.mp (h9.trans (by decide : (3 : Int) = Int32.toInt 3))) c6
                          · exact absurd (Int32.toInt_inj.mp (h9.trans (by decide : (4 : Int) = Int32.toInt 4))) c7
                          · exact absurd (Int32.toInt_inj.mp (h9.trans (by decide : (5 : Int) = Int32.toInt 5))) c8
                          · exact absurd (Int32.toInt_inj.mp (h9.trans (by decide : (6 : Int) = Int32.toInt 6))) c9
                          · exact absurd (Int32.toInt_inj.mp (h9.trans (by decide : (7 : Int) = Int32.toInt 7))) c12
                          · rfl
                          · rfl
                          · rfl
                          · rfl
                          · exact absurd (Int32.toInt_inj.mp (h9.trans (by decide : (12 : Int) = Int32.toInt 12))) c15
                          · exact absurd (Int32.toInt_inj.mp (h9.trans (by decide : (13 : Int) = Int32.toInt 13))) c16)) (by decide) ?_
                      refine lv_aload_n C0.1 C0.2.1 dX3_property_130 rfl (lv_at hl 0 rfl) ?_
                      refine lv_iload_n C0.1 C0.2.1 dX3_property_131 rfl (lv_at hl 3 rfl) ?_
                      refine lv_bipush (v := (8 : Int32)) C0.1 C0.2.1 dX3_property_132 (by decide) ?_
                      refine lv_isub C0.1 C0.2.1 dX3_property_134 ?_
                      obtain ⟨r18, h17, hF⟩ := bd_some hF
                      refine y_vi (rest := []) C0 hM hl.1 (at_ok h1 hv) (ent0 (at_ok h1 hv)) rfl (k_X0_roundsOf l G M r2 (a1 - (8 : Int32)) h17 (at_ok h1 hv)) cw_RX3_114 rfl rfl ⟨Nat.le_of_ble_eq_true rfl, Nat.le_of_ble_eq_true rfl⟩ rfl (Nat.le_of_ble_eq_true rfl) ⟨Nat.le_of_ble_eq_true rfl, Nat.le_of_ble_eq_true rfl⟩ dX3_property_135 (fun H locs hM => ?_)
                      have e8 := y_1 hF
                      subst e8
                      exact y_iret C0 hM hsz dX3_property_138

def F_X3_delaying_l4 (v : Nat) (M : MS) : Nat → Int32 → Int32 → Option Int32
  | 0, _, _ => none
  | n4 + 1, l1_1, l2_2 => (if (rF M 52 v) ≤ l2_2 then (some l1_1) else (bd (F_X3_at M v l2_2) fun r5 => (if (rF M 7 r5) = 0 then (nm (l2_2 + (1 : Int32)) fun x7 => (F_X3_delaying_l4 v M n4 l1_1 x7)) else (bd (F_X3_at M v l2_2) fun r9 => (bd (F_X0_hasFallen M r9) fun r11 => (if ¬ r11 = 0 then (nm (l2_2 + (1 : Int32)) fun x13 => (F_X3_delaying_l4 v M n4 l1_1 x13)) else (nm (l1_1 + (1 : Int32)) fun x14 => (nm (l2_2 + (1 : Int32)) fun x15 => (F_X3_delaying_l4 v M n4 x14 x15)))))))))

def F_X3_delaying (M : MS) (v : Nat) : Option Int32 := (F_X3_delaying_l4 v M FU (0 : Int32) (0 : Int32))

set_option maxHeartbeats 4000000 in
set_option maxRecDepth 100000 in
theorem k_X3_delaying (l : Launch) (G : GG) (M : MS) (v : Nat) {r : Int32} (hF : F_X3_delaying M v = some r) (hv : ok 3 v) : KI l yX3_delaying (WS yX3_delaying cX3_delaying 3 (some .int)) (Rm 1) G [.ref (gad G v)] M r M := by
  intro sz
  refine y_met (by decide +kernel) (Nat.le_of_ble_eq_true rfl) rfl (fun p e s m below meth c ls hsz C0 hM hl => ?_)
  have hl : lv_has ls 3 [(0, .ref (gad G v))] := hl
  have C0 : CX p s m meth c ([.ref (gad G v)] : List Value).toArray cX3_delaying RX3 3 (some .int) := C0
  rw [F_X3_delaying] at hF
  refine lv_iconst (v := (0 : Int32)) C0.1 C0.2.1 dX3_delaying_0 (by decide) ?_
  refine lv_istore_n (lv' := [(1, .int (0 : Int32)), (0, .ref (gad G v))]) C0.1 C0.2.1 dX3_delaying_1 rfl hl (by decide) rfl (fun ls hl => ?_)
  refine lv_iconst (v := (0 : Int32)) C0.1 C0.2.1 dX3_delaying_2 (by decide) ?_
  refine lv_istore_n (lv' := [(2, .int (0 : Int32)), (1, .int (0 : Int32)), (0, .ref (gad G v))]) C0.1 C0.2.1 dX3_delaying_3 rfl hl (by decide) rfl (fun ls hl => ?_)
  have L4 : ∀ (n : Nat) (l1_1 : Int32) (l2_2 : Int32) (H : Heap) (locs : List Loc) (ls : Array Slot), MX G M s H locs → lv_has ls 3 [(0, .ref (gad G v)), (1, .int l1_1), (2, .int l2_2)] → F_X3_delaying_l4 v M n l1_1 l2_2 = some r → W p l e (Rm 1) s m ([.ref (gad G v)] : List Value).toArray below meth c H locs 0 0 (QI below ([.ref (gad G v)] : List Value).toArray s G sz r M) (F0 m 4 ls []) := by
    intro n
    induction n with
    | zero => intro l1_1 l2_2 H locs ls hM hl hF; rw [F_X3_delaying_l4] at hF; cases hF
    | succ n4 ih4 =>
      intro l1_1 l2_2 H locs ls hM hl hF
      rw [F_X3_delaying_l4] at hF
      refine lv_iload_n C0.1 C0.2.1 dX3_delaying_4 rfl (lv_at hl 2 rfl) ?_
      refine lv_aload_n C0.1 C0.2.1 dX3_delaying_5 rfl (lv_at hl 0 rfl) ?_
      refine gf3_4 C0 hM hv fl_RX3_33 dX3_delaying_6 ?_
      refine lv_icmp_ge (tgt := 43) C0.1 C0.2.1 dX3_delaying_9 (by decide) (fun c3 => ?_) (fun c3 => ?_)
      · have hF := if_t c3 hF
        refine lv_iload_n C0.1 C0.2.1 dX3_delaying_43 rfl (lv_at hl 1 rfl) ?_
        have e8 := y_1 hF
        subst e8
        exact y_iret C0 hM hsz dX3_delaying_44
      · have hF := if_f c3 hF
        refine lv_aload_n C0.1 C0.2.1 dX3_delaying_12 rfl (lv_at hl 0 rfl) ?_
        refine lv_iload_n C0.1 C0.2.1 dX3_delaying_13 rfl (lv_at hl 2 rfl) ?_
        obtain ⟨r5, h4, hF⟩ := bd_some hF
        refine y_vr (rest := []) C0 hM hl.1 hv (ent3 hv) rfl (k_X3_at l G M v l2_2 h4 hv) cw_RX3_59 rfl rfl ⟨Nat.le_of_ble_eq_true rfl, Nat.le_of_ble_eq_true rfl⟩ rfl (Nat.le_of_ble_eq_true rfl) ⟨Nat.le_of_ble_eq_true rfl, Nat.le_of_ble_eq_true rfl⟩ dX3_delaying_14 (fun H locs hM => ?_)
        refine gf0_7 C0 hM (at_ok h4 hv) fl_RX3_104 dX3_delaying_17 ?_
        refine lv_if_eq (tgt := 37) C0.1 C0.2.1 dX3_delaying_20 (by decide) (fun c6 => ?_) (fun c6 => ?_)
        · have hF := if_t c6 hF
          obtain ⟨x7, ex7, hF⟩ := nm_some hF
          refine lv_iinc (v := x7) (lv' := [(2, .int x7), (0, .ref (gad G v)), (1, .int l1_1)]) C0.1 C0.2.1 dX3_delaying_37 hl (k := 2) rfl (by rw [ex7]; rfl) (by decide) rfl (fun ls hl => ?_)
          refine lv_goto (tgt := 4) C0.1 C0.2.1 dX3_delaying_40 (by decide) ?_
          exact ih4 l1_1 x7 _ _ _ hM (lv_sub hl [1, 2, 0] rfl) hF
        · have hF := if_f c6 hF
          refine lv_aload_n C0.1 C0.2.1 dX3_delaying_23 rfl (lv_at hl 0 rfl) ?_
          refine lv_iload_n C0.1 C0.2.1 dX3_delaying_24 rfl (lv_at hl 2 rfl) ?_
          obtain ⟨r9, h8, hF⟩ := bd_some hF
          refine y_vr (rest := []) C0 hM hl.1 hv (ent3 hv) rfl (k_X3_at l G M v l2_2 h8 hv) cw_RX3_59 rfl rfl ⟨Nat.le_of_ble_eq_true rfl, Nat.le_of_ble_eq_true rfl⟩ rfl (Nat.le_of_ble_eq_true rfl) ⟨Nat.le_of_ble_eq_true rfl, Nat.le_of_ble_eq_true rfl⟩ dX3_delaying_25 (fun H locs hM => ?_)
          obtain ⟨r11, h10, hF⟩ := bd_some hF
          refine y_vi (rest := []) C0 hM hl.1 (at_ok h8 hv) (ent0 (at_ok h8 hv)) rfl (k_X0_hasFallen l G M r9 h10 (at_ok h8 hv)) cw_RX3_108 rfl rfl ⟨Nat.le_of_ble_eq_true rfl, Nat.le_of_ble_eq_true rfl⟩ rfl (Nat.le_of_ble_eq_true rfl) ⟨Nat.le_of_ble_eq_true rfl, Nat.le_of_ble_eq_true rfl⟩ dX3_delaying_28 (fun H locs hM => ?_)
          refine lv_if_ne (tgt := 37) C0.1 C0.2.1 dX3_delaying_31 (by decide) (fun c12 => ?_) (fun c12 => ?_)
          · have hF := if_t c12 hF
            obtain ⟨x13, ex13, hF⟩ := nm_some hF
            refine lv_iinc (v := x13) (lv' := [(2, .int x13), (0, .ref (gad G v)), (1, .int l1_1)]) C0.1 C0.2.1 dX3_delaying_37 hl (k := 2) rfl (by rw [ex13]; rfl) (by decide) rfl (fun ls hl => ?_)
            refine lv_goto (tgt := 4) C0.1 C0.2.1 dX3_delaying_40 (by decide) ?_
            exact ih4 l1_1 x13 _ _ _ hM (lv_sub hl [1, 2, 0] rfl) hF
          · have hF := if_f (fun q => q c12) hF
            obtain ⟨x14, ex14, hF⟩ := nm_some hF
            refine lv_iinc (v := x14) (lv' := [(1, .int x14), (0, .ref (gad G v)), (2, .int l2_2)]) C0.1 C0.2.1 dX3_delaying_34 hl (k := 1) rfl (by rw [ex14]; rfl) (by decide) rfl (fun ls hl => ?_)
            obtain ⟨x15, ex15, hF⟩ := nm_some hF
            refine lv_iinc (v := x15) (lv' := [(2, .int x15), (1, .int x14), (0, .ref (gad G v))]) C0.1 C0.2.1 dX3_delaying_37 hl (k := 2) rfl (by rw [ex15]; rfl) (by decide) rfl (fun ls hl => ?_)
            refine lv_goto (tgt := 4) C0.1 C0.2.1 dX3_delaying_40 (by decide) ?_
            exact ih4 x14 x15 _ _ _ hM (lv_sub hl [2, 1, 0] rfl) hF
  exact L4 FU (0 : Int32) (0 : Int32) _ _ _ hM (lv_sub hl [2, 1, 0] rfl) hF

def F_X3_readying_l4 (v : Nat) (M : MS) : Nat → Int32 → Int32 → Option Int32
  | 0, _, _ => none
  | n4 + 1, l1_1, l2_2 => (if (rF M 52 v) ≤ l2_2 then (some l1_1) else (bd (F_X3_at M v l2_2) fun r5 => (bd (F_X0_hasReadied M r5) fun r7 => (if r7 = 0 then (nm (l2_2 + (1 : Int32)) fun x9 => (F_X3_readying_l4 v M n4 l1_1 x9)) else (bd (F_X3_at M v l2_2) fun r11 => (bd (F_X0_hasFallen M r11) fun r13 => (if ¬ r13 = 0 then (nm (l2_2 + (1 : Int32)) fun x15 => (F_X3_readying_l4 v M n4 l1_1 x15)) else (nm (l1_1 + (1 : Int32)) fun x16 => (nm (l2_2 + (1 : Int32)) fun x17 => (F_X3_readying_l4 v M n4 x16 x17))))))))))

def F_X3_readying (M : MS) (v : Nat) : Option Int32 := (F_X3_readying_l4 v M FU (0 : Int32) (0 : Int32))

set_option maxHeartbeats 4000000 in
set_option maxRecDepth 100000 in
theorem k_X3_readying (l : Launch) (G : GG) (M : MS) (v : Nat) {r : Int32} (hF : F_X3_readying M v = some r) (hv : ok 3 v) : KI l yX3_readying (WS yX3_readying cX3_readying 3 (some .int)) (Rm 1) G [.ref (gad G v)] M r M := by
  intro sz
  refine y_met (by decide +kernel) (Nat.le_of_ble_eq_true rfl) rfl (fun p e s m below meth c ls hsz C0 hM hl => ?_)
  have hl : lv_has ls 3 [(0, .ref (gad G v))] := hl
  have C0 : CX p s m meth c ([.ref (gad G v)] : List Value).toArray cX3_readying RX3 3 (some .int) := C0
  rw [F_X3_readying] at hF
  refine lv_iconst (v := (0 : Int32)) C0.1 C0.2.1 dX3_readying_0 (by decide) ?_
  refine lv_istore_n (lv' := [(1, .int (0 : Int32)), (0, .ref (gad G v))]) C0.1 C0.2.1 dX3_readying_1 rfl hl (by decide) rfl (fun ls hl => ?_)
  refine lv_iconst (v := (0 : Int32)) C0.1 C0.2.1 dX3_readying_2 (by decide) ?_
  refine lv_istore_n (lv' := [(2, .int (0 : Int32)), (1, .int (0 : Int32)), (0, .ref (gad G v))]) C0.1 C0.2.1 dX3_readying_3 rfl hl (by decide) rfl (fun ls hl => ?_)
  have L4 : ∀ (n : Nat) (l1_1 : Int32) (l2_2 : Int32) (H : Heap) (locs : List Loc) (ls : Array Slot), MX G M s H locs → lv_has ls 3 [(0, .ref (gad G v)), (1, .int l1_1), (2, .int l2_2)] → F_X3_readying_l4 v M n l1_1 l2_2 = some r → W p l e (Rm 1) s m ([.ref (gad G v)] : List Value).toArray below meth c H locs 0 0 (QI below ([.ref (gad G v)] : List Value).toArray s G sz r M) (F0 m 4 ls []) := by
    intro n
    induction n with
    | zero => intro l1_1 l2_2 H locs ls hM hl hF; rw [F_X3_readying_l4] at hF; cases hF
    | succ n4 ih4 =>
      intro l1_1 l2_2 H locs ls hM hl hF
      rw [F_X3_readying_l4] at hF
      refine lv_iload_n C0.1 C0.2.1 dX3_readying_4 rfl (lv_at hl 2 rfl) ?_
      refine lv_aload_n C0.1 C0.2.1 dX3_readying_5 rfl (lv_at hl 0 rfl) ?_
      refine gf3_4 C0 hM hv fl_RX3_33 dX3_readying_6 ?_
      refine lv_icmp_ge (tgt := 43) C0.1 C0.2.1 dX3_readying_9 (by decide) (fun c3 => ?_) (fun c3 => ?_)
      · have hF := if_t c3 hF
        refine lv_iload_n C0.1 C0.2.1 dX3_readying_43 rfl (lv_at hl 1 rfl) ?_
        have e8 := y_1 hF
        subst e8
        exact y_iret C0 hM hsz dX3_readying_44
      · have hF := if_f c3 hF
        refine lv_aload_n C0.1 C0.2.1 dX3_readying_12 rfl (lv_at hl 0 rfl) ?_
        refine lv_iload_n C0.1 C0.2.1 dX3_readying_13 rfl (lv_at hl 2 rfl) ?_
        obtain ⟨r5, h4, hF⟩ := bd_some hF
        refine y_vr (rest := []) C0 hM hl.1 hv (ent3 hv) rfl (k_X3_at l G M v l2_2 h4 hv) cw_RX3_59 rfl rfl ⟨Nat.le_of_ble_eq_true rfl, Nat.le_of_ble_eq_true rfl⟩ rfl (Nat.le_of_ble_eq_true rfl) ⟨Nat.le_of_ble_eq_true rfl, Nat.le_of_ble_eq_true rfl⟩ dX3_readying_14 (fun H locs hM => ?_)
        obtain ⟨r7, h6, hF⟩ := bd_some hF
        refine y_vi (rest := []) C0 hM hl.1 (at_ok h4 hv) (ent0 (at_ok h4 hv)) rfl (k_X0_hasReadied l G M r5 h6 (at_ok h4 hv)) cw_RX3_182 rfl rfl ⟨Nat.le_of_ble_eq_true rfl, Nat.le_of_ble_eq_true rfl⟩ rfl (Nat.le_of_ble_eq_true rfl) ⟨Nat.le_of_ble_eq_true rfl, Nat.le_of_ble_eq_true rfl⟩ dX3_readying_17 (fun H locs hM => ?_)
        refine lv_if_eq (tgt := 37) C0.1 C0.2.1 dX3_readying_20 (by decide) (fun c8 => ?_) (fun c8 => ?_)
        · have hF := if_t c8 hF
          obtain ⟨x9, ex9, hF⟩ := nm_some hF
          refine lv_iinc (v := x9) (lv' := [(2, .int x9), (0, .ref (gad G v)), (1, .int l1_1)]) C0.1 C0.2.1 dX3_readying_37 hl (k := 2) rfl (by rw [ex9]; rfl) (by decide) rfl (fun ls hl => ?_)
          refine lv_goto (tgt := 4) C0.1 C0.2.1 dX3_readying_40 (by decide) ?_
          exact ih4 l1_1 x9 _ _ _ hM (lv_sub hl [1, 2, 0] rfl) hF
        · have hF := if_f c8 hF
          refine lv_aload_n C0.1 C0.2.1 dX3_readying_23 rfl (lv_at hl 0 rfl) ?_
          refine lv_iload_n C0.1 C0.2.1 dX3_readying_24 rfl (lv_at hl 2 rfl) ?_
          obtain ⟨r11, h10, hF⟩ := bd_some hF
          refine y_vr (rest := []) C0 hM hl.1 hv (ent3 hv) rfl (k_X3_at l G M v l2_2 h10 hv) cw_RX3_59 rfl rfl ⟨Nat.le_of_ble_eq_true rfl, Nat.le_of_ble_eq_true rfl⟩ rfl (Nat.le_of_ble_eq_true rfl) ⟨Nat.le_of_ble_eq_true rfl, Nat.le_of_ble_eq_true rfl⟩ dX3_readying_25 (fun H locs hM => ?_)
          obtain ⟨r13, h12, hF⟩ := bd_some hF
          refine y_vi (rest := []) C0 hM hl.1 (at_ok h10 hv) (ent0 (at_ok h10 hv)) rfl (k_X0_hasFallen l G M r11 h12 (at_ok h10 hv)) cw_RX3_108 rfl rfl ⟨Nat.le_of_ble_eq_true rfl, Nat.le_of_ble_eq_true rfl⟩ rfl (Nat.le_of_ble_eq_true rfl) ⟨Nat.le_of_ble_eq_true rfl, Nat.le_of_ble_eq_true rfl⟩ dX3_readying_28 (fun H locs hM => ?_)
          refine lv_if_ne (tgt := 37) C0.1 C0.2.1 dX3_readying_31 (by decide) (fun c14 => ?_) (fun c14 => ?_)
          · have hF := if_t c14 hF
            obtain ⟨x15, ex15, hF⟩ := nm_some hF
            refine lv_iinc (v := x15) (lv' := [(2, .int x15), (0, .ref (gad G v)), (1, .int l1_1)]) C0.1 C0.2.1 dX3_readying_37 hl (k := 2) rfl (by rw [ex15]; rfl) (by decide) rfl (fun ls hl => ?_)
            refine lv_goto (tgt := 4) C0.1 C0.2.1 dX3_readying_40 (by decide) ?_
            exact ih4 l1_1 x15 _ _ _ hM (lv_sub hl [1, 2, 0] rfl) hF
          · have hF := if_f (fun q => q c14) hF
            obtain ⟨x16, ex16, hF⟩ := nm_some hF
            refine lv_iinc (v := x16) (lv' := [(1, .int x16), (0, .ref (gad G v)), (2, .int l2_2)]) C0.1 C0.2.1 dX3_readying_34 hl (k := 1) rfl (by rw [ex16]; rfl) (by decide) rfl (fun ls hl => ?_)
            obtain ⟨x17, ex17, hF⟩ := nm_some hF
            refine lv_iinc (v := x17) (lv' := [(2, .int x17), (1, .int x16), (0, .ref (gad G v))]) C0.1 C0.2.1 dX3_readying_37 hl (k := 2) rfl (by rw [ex17]; rfl) (by decide) rfl (fun ls hl => ?_)
            refine lv_goto (tgt := 4) C0.1 C0.2.1 dX3_readying_40 (by decide) ?_
            exact ih4 x16 x17 _ _ _ hM (lv_sub hl [2, 1, 0] rfl) hF
  exact L4 FU (0 : Int32) (0 : Int32) _ _ _ hM (lv_sub hl [2, 1, 0] rfl) hF

def F_X3_lifeOf_l4 (v : Nat) (a0 : Int32) (M : MS) : Nat → Int32 → Int32 → Option Int32
  | 0, _, _ => none
  | n4 + 1, l2_1, l3_2 => (if (rF M 52 v) ≤ l3_2 then (some l2_1) else (bd (F_X3_at M v l3_2) fun r5 => (if ¬ (rF M 0 r5) = a0 then (nm (l3_2 + (1 : Int32)) fun x7 => (F_X3_lifeOf_l4 v a0 M n4 l2_1 x7)) else (bd (F_X3_at M v l3_2) fun r9 => (nm (l2_1 + (rF M 2 r9)) fun x10 => (nm (l3_2 + (1 : Int32)) fun x11 => (F_X3_lifeOf_l4 v a0 M n4 x10 x11)))))))

def F_X3_lifeOf (M : MS) (v : Nat) (a0 : Int32) : Option Int32 := (F_X3_lifeOf_l4 v a0 M FU (0 : Int32) (0 : Int32))

set_option maxHeartbeats 4000000 in
set_option maxRecDepth 100000 in
theorem k_X3_lifeOf (l : Launch) (G : GG) (M : MS) (v : Nat) (a0 : Int32) {r : Int32} (hF : F_X3_lifeOf M v a0 = some r) (hv : ok 3 v) : KI l yX3_lifeOf (WS yX3_lifeOf cX3_lifeOf 4 (some .int)) (Rm 1) G [.ref (gad G v), .int a0] M r M := by
  intro sz
  refine y_met (by decide +kernel) (Nat.le_of_ble_eq_true rfl) rfl (fun p e s m below meth c ls hsz C0 hM hl => ?_)
  have hl : lv_has ls 4 [(0, .ref (gad G v)), (1, .int a0)] := hl
  have C0 : CX p s m meth c ([.ref (gad G v), .int a0] : List Value).toArray cX3_lifeOf RX3 4 (some .int) := C0
  rw [F_X3_lifeOf] at hF
  refine lv_iconst (v := (0 : Int32)) C0.1 C0.2.1 dX3_lifeOf_0 (by decide) ?_
  refine lv_istore_n (lv' := [(2, .int (0 : Int32)), (0, .ref (gad G v)), (1, .int a0)]) C0.1 C0.2.1 dX3_lifeOf_1 rfl hl (by decide) rfl (fun ls hl => ?_)
  refine lv_iconst (v := (0 : Int32)) C0.1 C0.2.1 dX3_lifeOf_2 (by decide) ?_
  refine lv_istore_n (lv' := [(3, .int (0 : Int32)), (2, .int (0 : Int32)), (0, .ref (gad G v)), (1, .int a0)]) C0.1 C0.2.1 dX3_lifeOf_3 rfl hl (by decide) rfl (fun ls hl => ?_)
  have L4 : ∀ (n : Nat) (l2_1 : Int32) (l3_2 : Int32) (H : Heap) (locs : List Loc) (ls : Array Slot), MX G M s H locs → lv_has ls 4 [(0, .ref (gad G v)), (1, .int a0), (2, .int l2_1), (3, .int l3_2)] → F_X3_lifeOf_l4 v a0 M n l2_1 l3_2 = some r → W p l e (Rm 1) s m ([.ref (gad G v), .int a0] : List Value).toArray below meth c H locs 0 0 (QI below ([.ref (gad G v), .int a0] : List Value).toArray s G sz r M) (F0 m 4 ls []) := by
    intro n
    induction n with
    | zero => intro l2_1 l3_2 H locs ls hM hl hF; rw [F_X3_lifeOf_l4] at hF; cases hF
    | succ n4 ih4 =>
      intro l2_1 l3_2 H locs ls hM hl hF
      rw [F_X3_lifeOf_l4] at hF
      refine lv_iload_n C0.1 C0.2.1 dX3_lifeOf_4 rfl (lv_at hl 3 rfl) ?_
      refine lv_aload_n C0.1 C0.2.1 dX3_lifeOf_5 rfl (lv_at hl 0 rfl) ?_
      refine gf3_4 C0 hM hv fl_RX3_33 dX3_lifeOf_6 ?_
      refine lv_icmp_ge (tgt := 41) C0.1 C0.2.1 dX3_lifeOf_9 (by decide) (fun c3 => ?_) (fun c3 => ?_)
      · have hF := if_t c3 hF
        refine lv_iload_n C0.1 C0.2.1 dX3_lifeOf_41 rfl (lv_at hl 2 rfl) ?_
        have e8 := y_1 hF
        subst e8
        exact y_iret C0 hM hsz dX3_lifeOf_42
      · have hF := if_f c3 hF
        refine lv_aload_n C0.1 C0.2.1 dX3_lifeOf_12 rfl (lv_at hl 0 rfl) ?_
        refine lv_iload_n C0.1 C0.2.1 dX3_lifeOf_13 rfl (lv_at hl 3 rfl) ?_
        obtain ⟨r5, h4, hF⟩ := bd_some hF
        refine y_vr (rest := []) C0 hM hl.1 hv (ent3 hv) rfl (k_X3_at l G M v l3_2 h4 hv) cw_RX3_59 rfl rfl ⟨Nat.le_of_ble_eq_true rfl, Nat.le_of_ble_eq_true rfl⟩ rfl (Nat.le_of_ble_eq_true rfl) ⟨Nat.le_of_ble_eq_true rfl, Nat.le_of_ble_eq_true rfl⟩ dX3_lifeOf_14 (fun H locs hM => ?_)
        refine gf0_0 C0 hM (at_ok h4 hv) fl_RX3_63 dX3_lifeOf_17 ?_
        refine lv_iload_n C0.1 C0.2.1 dX3_lifeOf_20 rfl (lv_at hl 1 rfl) ?_
        refine lv_icmp_ne (tgt := 35) C0.1 C0.2.1 dX3_lifeOf_21 (by decide) (fun c6 => ?_) (fun c6 => ?_)
        · have hF := if_t c6 hF
          obtain ⟨x7, ex7, hF⟩ := nm_some hF
          refine lv_iinc (v := x7) (lv' := [(3, .int x7), (0, .ref (gad G v)), (1, .int a0), (2, .int l2_1)]) C0.1 C0.2.1 dX3_lifeOf_35 hl (k := 3) rfl (by rw [ex7]; rfl) (by decide) rfl (fun ls hl => ?_)
          refine lv_goto (tgt := 4) C0.1 C0.2.1 dX3_lifeOf_38 (by decide) ?_
          exact ih4 l2_1 x7 _ _ _ hM (lv_sub hl [1, 2, 3, 0] rfl) hF
        · have hF := if_f (fun q => q c6) hF
          refine lv_iload_n C0.1 C0.2.1 dX3_lifeOf_24 rfl (lv_at hl 2 rfl) ?_
          refine lv_aload_n C0.1 C0.2.1 dX3_lifeOf_25 rfl (lv_at hl 0 rfl) ?_
          refine lv_iload_n C0.1 C0.2.1 dX3_lifeOf_26 rfl (lv_at hl 3 rfl) ?_
          obtain ⟨r9, h8, hF⟩ := bd_some hF
          refine y_vr (rest := [.int l2_1]) C0 hM hl.1 hv (ent3 hv) rfl (k_X3_at l G M v l3_2 h8 hv) cw_RX3_59 rfl rfl ⟨Nat.le_of_ble_eq_true rfl, Nat.le_of_ble_eq_true rfl⟩ rfl (Nat.le_of_ble_eq_true rfl) ⟨Nat.le_of_ble_eq_true rfl, Nat.le_of_ble_eq_true rfl⟩ dX3_lifeOf_27 (fun H locs hM => ?_)
          refine gf0_2 C0 hM (at_ok h8 hv) fl_RX3_169 dX3_lifeOf_30 ?_
          refine lv_iadd C0.1 C0.2.1 dX3_lifeOf_33 ?_
          obtain ⟨x10, ex10, hF⟩ := nm_some hF
          refine y_topi ex10 ?_
          refine lv_istore_n (lv' := [(2, .int x10), (0, .ref (gad G v)), (1, .int a0), (3, .int l3_2)]) C0.1 C0.2.1 dX3_lifeOf_34 rfl hl (by decide) rfl (fun ls hl => ?_)
          obtain ⟨x11, ex11, hF⟩ := nm_some hF
          refine lv_iinc (v := x11) (lv' := [(3, .int x11), (2, .int x10), (0, .ref (gad G v)), (1, .int a0)]) C0.1 C0.2.1 dX3_lifeOf_35 hl (k := 3) rfl (by rw [ex11]; rfl) (by decide) rfl (fun ls hl => ?_)
          refine lv_goto (tgt := 4) C0.1 C0.2.1 dX3_lifeOf_38 (by decide) ?_
          exact ih4 x10 x11 _ _ _ hM (lv_sub hl [2, 3, 1, 0] rfl) hF
  exact L4 FU (0 : Int32) (0 : Int32) _ _ _ hM (lv_sub hl [2, 3, 1, 0] rfl) hF

def F_X3_counted (M : MS) (v : Nat) (a0 : Int32) : Option Int32 := (if a0 = (0 : Int32) then (some (rF M 52 v)) else (if a0 = (1 : Int32) then (some (rF M 53 v)) else (if a0 = (2 : Int32) then (some (rF M 54 v)) else (if a0 = (3 : Int32) then (bd (F_X3_standingOf M v (0 : Int32)) fun r6 => (some r6)) else (if a0 = (4 : Int32) then (bd (F_X3_standingOf M v (1 : Int32)) fun r9 => (some r9)) else (if a0 = (5 : Int32) then (bd (F_X3_delaying M v) fun r12 => (some r12)) else (if a0 = (6 : Int32) then (bd (F_X3_readying M v) fun r15 => (some r15)) else (if a0 = (7 : Int32) then (some (rF M 56 v)) else (if a0 = (8 : Int32) then (some (rF M 57 v)) else (if a0 = (9 : Int32) then (some (rF M 55 v)) else (if a0 = (10 : Int32) then (bd (F_X3_lifeOf M v (0 : Int32)) fun r21 => (some r21)) else (bd (F_X3_lifeOf M v (1 : Int32)) fun r23 => (some r23)))))))))))))

set_option maxHeartbeats 4000000 in
set_option maxRecDepth 100000 in
theorem k_X3_counted (l : Launch) (G : GG) (M : MS) (v : Nat) (a0 : Int32) {r : Int32} (hF : F_X3_counted M v a0 = some r) (hv : ok 3 v) : KI l yX3_counted (WS yX3_counted cX3_counted 2 (some .int)) (Rm 2) G [.ref (gad G v), .int a0] M r M := by
  intro sz
  refine y_met (by decide +kernel) (Nat.le_of_ble_eq_true rfl) rfl (fun p e s m below meth c ls hsz C0 hM hl => ?_)
  have hl : lv_has ls 2 [(0, .ref (gad G v)), (1, .int a0)] := hl
  have C0 : CX p s m meth c ([.ref (gad G v), .int a0] : List Value).toArray cX3_counted RX3 2 (some .int) := C0
  rw [F_X3_counted] at hF
  refine lv_iload_n C0.1 C0.2.1 dX3_counted_0 rfl (lv_at hl 1 rfl) ?_
  by_cases c1 : a0 = (0 : Int32)
  · have hF := if_t c1 hF
    refine y_tsw (tgt := 60) (off := 59) C0 dX3_counted_1 (by decide) (by rw [c1]; decide) (by decide) ?_
    refine lv_aload_n C0.1 C0.2.1 dX3_counted_60 rfl (lv_at hl 0 rfl) ?_
    refine gf3_4 C0 hM hv fl_RX3_33 dX3_counted_61 ?_
    have e8 := y_1 hF
    subst e8
    exact y_iret C0 hM hsz dX3_counted_64
  · have hF := if_f c1 hF
    by_cases c2 : a0 = (1 : Int32)
    · have hF := if_t c2 hF
      refine y_tsw (tgt := 65) (off := 64) C0 dX3_counted_1 (by decide) (by rw [c2]; decide) (by decide) ?_
      refine lv_aload_n C0.1 C0.2.1 dX3_counted_65 rfl (lv_at hl 0 rfl) ?_
      refine gf3_5 C0 hM hv fl_RX3_37 dX3_counted_66 ?_
      have e8 := y_1 hF
      subst e8
      exact y_iret C0 hM hsz dX3_counted_69
    · have hF := if_f c2 hF
      by_cases c3 : a0 = (2 : Int32)
      · have hF := if_t c3 hF
        refine y_tsw (tgt := 70) (off := 69) C0 dX3_counted_1 (by decide) (by rw [c3]; decide) (by decide) ?_
        refine lv_aload_n C0.1 C0.2.1 dX3_counted_70 rfl (lv_at hl 0 rfl) ?_
        refine gf3_6 C0 hM hv fl_RX3_40 dX3_counted_71 ?_
        have e8 := y_1 hF
        subst e8
        exact y_iret C0 hM hsz dX3_counted_74
      · have hF := if_f c3 hF
        by_cases c4 : a0 = (3 : Int32)
        · have hF := if_t c4 hF
          refine y_tsw (tgt := 75) (off := 74) C0 dX3_counted_1 (by decide) (by rw [c4]; decide) (by decide) ?_
          refine lv_aload_n C0.1 C0.2.1 dX3_counted_75 rfl (lv_at hl 0 rfl) ?_
          refine lv_iconst (v := (0 : Int32)) C0.1 C0.2.1 dX3_counted_76 (by decide) ?_
          obtain ⟨r6, h5, hF⟩ := bd_some hF
          refine y_vi (rest := []) C0 hM hl.1 hv (ent3 hv) rfl (k_X3_standingOf l G M v (0 : Int32) h5 hv) cw_RX3_127 rfl rfl ⟨Nat.le_of_ble_eq_true rfl, Nat.le_of_ble_eq_true rfl⟩ rfl (Nat.le_of_ble_eq_true rfl) ⟨Nat.le_of_ble_eq_true rfl, Nat.le_of_ble_eq_true rfl⟩ dX3_counted_77 (fun H locs hM => ?_)
          have e8 := y_1 hF
          subst e8
          exact y_iret C0 hM hsz dX3_counted_80
        · have hF := if_f c4 hF
          by_cases c7 : a0 = (4 : Int32)
          · have hF := if_t c7 hF
            refine y_tsw (tgt := 81) (off := 80) C0 dX3_counted_1 (by decide) (by rw [c7]; decide) (by decide) ?_
            refine lv_aload_n C0.1 C0.2.1 dX3_counted_81 rfl (lv_at hl 0 rfl) ?_
            refine lv_iconst (v := (1 : Int32)) C0.1 C0.2.1 dX3_counted_82 (by decide) ?_
            obtain ⟨r9, h8, hF⟩ := bd_some hF
            refine y_vi (rest := []) C0 hM hl.1 hv (ent3 hv) rfl (k_X3_standingOf l G M v (1 : Int32) h8 hv) cw_RX3_127 rfl rfl ⟨Nat.le_of_ble_eq_true rfl, Nat.le_of_ble_eq_true rfl⟩ rfl (Nat.le_of_ble_eq_true rfl) ⟨Nat.le_of_ble_eq_true rfl, Nat.le_of_ble_eq_true rfl⟩ dX3_counted_83 (fun H locs hM => ?_)
            have e8 := y_1 hF
            subst e8
            exact y_iret C0 hM hsz dX3_counted_86
          · have hF := if_f c7 hF
            by_cases c10 : a0 = (5 : Int32)
            · have hF := if_t c10 hF
              refine y_tsw (tgt := 87) (off := 86) C0 dX3_counted_1 (by decide) (by rw [c10]; decide) (by decide) ?_
              refine lv_aload_n C0.1 C0.2.1 dX3_counted_87 rfl (lv_at hl 0 rfl) ?_
              obtain ⟨r12, h11, hF⟩ := bd_some hF
              refine y_vi (rest := []) C0 hM hl.1 hv (ent3 hv) rfl (k_X3_delaying l G M v h11 hv) cw_RX3_201 rfl rfl ⟨Nat.le_of_ble_eq_true rfl, Nat.le_of_ble_eq_true rfl⟩ rfl (Nat.le_of_ble_eq_true rfl) ⟨Nat.le_of_ble_eq_true rfl, Nat.le_of_ble_eq_true rfl⟩ dX3_counted_88 (fun H locs hM => ?_)
              have e8 := y_1 hF
              subst e8
              exact y_iret C0 hM hsz dX3_counted_91
            · have hF := if_f c10 hF
              by_cases c13 : a0 = (6 : Int32)
              · have hF := if_t c13 hF
                refine y_tsw (tgt := 92) (off := 91) C0 dX3_counted_1 (by decide) (by rw [c13]; decide) (by decide) ?_
                refine lv_aload_n C0.1 C0.2.1 dX3_counted_92 rfl (lv_at hl 0 rfl) ?_
                obtain ⟨r15, h14, hF⟩ := bd_some hF
                refine y_vi (rest := []) C0 hM hl.1 hv (ent3 hv) rfl (k_X3_readying l G M v h14 hv) cw_RX3_204 rfl rfl ⟨Nat.le_of_ble_eq_true rfl, Nat.le_of_ble_eq_true rfl⟩ rfl (Nat.le_of_ble_eq_true rfl) ⟨Nat.le_of_ble_eq_true rfl, Nat.le_of_ble_eq_true rfl⟩ dX3_counted_93 (fun H locs hM => ?_)
                have e8 := y_1 hF
                subst e8
                exact y_iret C0 hM hsz dX3_counted_96
              · have hF := if_f c13 hF
                by_cases c16 : a0 = (7 : Int32)
                · have hF := if_t c16 hF
                  refine y_tsw (tgt := 97) (off := 96) C0 dX3_counted_1 (by decide) (by rw [c16]; decide) (by decide) ?_
                  refine lv_aload_n C0.1 C0.2.1 dX3_counted_97 rfl (lv_at hl 0 rfl) ?_
                  refine gf3_8 C0 hM hv fl_RX3_46 dX3_counted_98 ?_
                  have e8 := y_1 hF
                  subst e8
                  exact y_iret C0 hM hsz dX3_counted_101
                · have hF := if_f c16 hF
                  by_cases c17 : a0 = (8 : Int32)
                  · have hF := if_t c17 hF
                    refine y_tsw (tgt := 102) (off := 101) C0 dX3_counted_1 (by decide) (by rw [c17]; decide) (by decide) ?_
                    refine lv_aload_n C0.1 C0.2.1 dX3_counted_102 rfl (lv_at hl 0 rfl) ?_
                    refine gf3_9 C0 hM hv fl_RX3_49 dX3_counted_103 ?_
                    have e8 := y_1 hF
                    subst e8
                    exact y_iret C0 hM hsz dX3_counted_106
                  · have hF := if_f c17 hF
                    by_cases c18 : a0 = (9 : Int32)
                    · have hF := if_t c18 hF
                      refine y_tsw (tgt := 107) (off := 106) C0 dX3_counted_1 (by decide) (by rw [c18]; decide) (by decide) ?_
                      refine lv_aload_n C0.1 C0.2.1 dX3_counted_107 rfl (lv_at hl 0 rfl) ?_
                      refine gf3_7 C0 hM hv fl_RX3_43 dX3_counted_108 ?_
                      have e8 := y_1 hF
                      subst e8
                      exact y_iret C0 hM hsz dX3_counted_111
                    · have hF := if_f c18 hF
                      by_cases c19 : a0 = (10 : Int32)
                      · have hF := if_t c19 hF
                        refine y_tsw (tgt := 112) (off := 111) C0 dX3_counted_1 (by decide) (by rw [c19]; decide) (by decide) ?_
                        refine lv_aload_n C0.1 C0.2.1 dX3_counted_112 rfl (lv_at hl 0 rfl) ?_
                        refine lv_iconst (v := (0 : Int32)) C0.1 C0.2.1 dX3_counted_113 (by decide) ?_
                        obtain ⟨r21, h20, hF⟩ := bd_some hF
                        refine y_vi (rest := []) C0 hM hl.1 hv (ent3 hv) rfl (k_X3_lifeOf l G M v (0 : Int32) h20 hv) cw_RX3_207 rfl rfl ⟨Nat.le_of_ble_eq_true rfl, Nat.le_of_ble_eq_true rfl⟩ rfl (Nat.le_of_ble_eq_true rfl) ⟨Nat.le_of_ble_eq_true rfl, Nat.le_of_ble_eq_true rfl⟩ dX3_counted_114 (fun H locs hM => ?_)
                        have e8 := y_1 hF
                        subst e8
                        exact y_iret C0 hM hsz dX3_counted_117
                      · have hF := if_f c19 hF
                        refine y_tsw (tgt := 118) (off := 117) C0 dX3_counted_1 (by decide) (ts_d (fun k9 h7 h8 h9 => by
                            have h6 : k9 = 0 ∨ k9 = 1 ∨ k9 = 2 ∨ k9 = 3 ∨ k9 = 4 ∨ k9 = 5 ∨ k9 = 6 ∨ k9 = 7 ∨ k9 = 8 ∨ k9 = 9 ∨ k9 = 10 := by omega
                            rcases h6 with rfl | rfl | rfl | rfl | rfl | rfl | rfl | rfl | rfl | rfl | rfl
                            · exact absurd (Int32.toInt_inj.mp (h9.trans (by decide : (0 : Int) = Int32.toInt 0))) c1
                            · exact absurd (Int32.toInt_inj.mp (h9.trans (by decide : (1 : Int) = Int32.toInt 1))) c2
                            · exact absurd (Int32.toInt_inj.mp (h9.trans (by decide : (2 : Int) = Int32.toInt 2))) c3
                            · exact absurd (Int32.toInt_inj.mp (h9.trans (by decide : (3 : Int) = Int32.toInt 3))) c4
                            · exact absurd (Int32.toInt_inj.mp (h9.trans (by decide : (4 : Int) = Int32.toInt 4))) c7
                            · exact absurd (Int32.toInt_inj.mp (h9.trans (by decide : (5 : Int) = Int32.toInt 5))) c10
                            · exact absurd (Int32.toInt_inj.mp (h9.trans (by decide : (6 : Int) = Int32.toInt 6))) c13
                            · exact absurd (Int32.toInt_inj.mp (h9.trans (by decide : (7 : Int) = Int32.toInt 7))) c16
                            · exact absurd (Int32.toInt_inj.mp (h9.trans (by decide : (8 : Int) = Int32.toInt 8))) c17
                            · exact absurd (Int32.toInt_inj.mp (h9.trans (by decide : (9 : Int) = Int32.toInt 9))) c18
                            · exact absurd (Int32.toInt_inj.mp (h9.trans (by decide : (10 : Int) = Int32.toInt 10))) c19)) (by decide) ?_
                        refine lv_aload_n C0.1 C0.2.1 dX3_counted_118 rfl (lv_at hl 0 rfl) ?_
                        refine lv_iconst (v := (1 : Int32)) C0.1 C0.2.1 dX3_counted_119 (by decide) ?_
                        obtain ⟨r23, h22, hF⟩ := bd_some hF
                        refine y_vi (rest := []) C0 hM hl.1 hv (ent3 hv) rfl (k_X3_lifeOf l G M v (1 : Int32) h22 hv) cw_RX3_207 rfl rfl ⟨Nat.le_of_ble_eq_true rfl, Nat.le_of_ble_eq_true rfl⟩ rfl (Nat.le_of_ble_eq_true rfl) ⟨Nat.le_of_ble_eq_true rfl, Nat.le_of_ble_eq_true rfl⟩ dX3_counted_120 (fun H locs hM => ?_)
                        have e8 := y_1 hF
                        subst e8
                        exact y_iret C0 hM hsz dX3_counted_123
