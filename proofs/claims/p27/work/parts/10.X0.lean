def F_X0_forgetReadied (M : MS) (v : Nat) : Option MS := (nm (wF M 8 v (-1 : Int32)) fun M1 => (nm (wF M1 9 v (-1 : Int32)) fun M2 => (nm (wF M2 10 v (-1 : Int32)) fun M3 => (nm (wF M3 11 v (-1 : Int32)) fun M4 => (some M4)))))

set_option maxHeartbeats 4000000 in
set_option maxRecDepth 100000 in
theorem k_X0_forgetReadied (l : Launch) (G : GG) (M : MS) (v : Nat) {Mf : MS} (hF : F_X0_forgetReadied M v = some Mf) (hv : ok 0 v) : KV l yX0_forgetReadied (WS yX0_forgetReadied cX0_forgetReadied 1 none) (Rm 0) G [.ref (gad G v)] M Mf := by
  intro sz
  refine y_met (by decide +kernel) (Nat.le_of_ble_eq_true rfl) rfl (fun p e s m below meth c ls hsz C0 hM hl => ?_)
  have hl : lv_has ls 1 [(0, .ref (gad G v))] := hl
  have C0 : CX p s m meth c ([.ref (gad G v)] : List Value).toArray cX0_forgetReadied RX0 1 none := C0
  rw [F_X0_forgetReadied] at hF
  refine lv_aload_n C0.1 C0.2.1 dX0_forgetReadied_0 rfl (lv_at hl 0 rfl) ?_
  refine lv_iconst (v := (-1 : Int32)) C0.1 C0.2.1 dX0_forgetReadied_1 (by decide) ?_
  refine pf0_8 C0 hM hv fl_RX0_15 dX0_forgetReadied_2 (fun H locs hM => ?_)
  obtain ⟨M1, eM1, hF⟩ := nm_some hF
  have hM := y_mn eM1 hM
  refine lv_aload_n C0.1 C0.2.1 dX0_forgetReadied_5 rfl (lv_at hl 0 rfl) ?_
  refine lv_iconst (v := (-1 : Int32)) C0.1 C0.2.1 dX0_forgetReadied_6 (by decide) ?_
  refine pf0_9 C0 hM hv fl_RX0_19 dX0_forgetReadied_7 (fun H locs hM => ?_)
  obtain ⟨M2, eM2, hF⟩ := nm_some hF
  have hM := y_mn eM2 hM
  refine lv_aload_n C0.1 C0.2.1 dX0_forgetReadied_10 rfl (lv_at hl 0 rfl) ?_
  refine lv_iconst (v := (-1 : Int32)) C0.1 C0.2.1 dX0_forgetReadied_11 (by decide) ?_
  refine pf0_10 C0 hM hv fl_RX0_22 dX0_forgetReadied_12 (fun H locs hM => ?_)
  obtain ⟨M3, eM3, hF⟩ := nm_some hF
  have hM := y_mn eM3 hM
  refine lv_aload_n C0.1 C0.2.1 dX0_forgetReadied_15 rfl (lv_at hl 0 rfl) ?_
  refine lv_iconst (v := (-1 : Int32)) C0.1 C0.2.1 dX0_forgetReadied_16 (by decide) ?_
  refine pf0_11 C0 hM hv fl_RX0_25 dX0_forgetReadied_17 (fun H locs hM => ?_)
  obtain ⟨M4, eM4, hF⟩ := nm_some hF
  have hM := y_mn eM4 hM
  have e9 := y_1 hF
  subst e9
  exact y_vret C0 hM hsz dX0_forgetReadied_20

def F_X0_reset_l43 (v : Nat) : Nat → Int32 → MS → Option MS
  | 0, _, _ => none
  | n43 + 1, l5_9, M10 => (if (4 : Int32) ≤ l5_9 then (nm (wF M10 7 v (0 : Int32)) fun M12 => (bd (F_X0_forgetReadied M12 v) fun M14 => (nm (wF M14 12 v (0 : Int32)) fun M15 => (nm (wF M15 13 v (0 : Int32)) fun M16 => (some M16))))) else (gdb (inb l5_9 4) (nm (wA M10 (v + 11) (Int32.toNatClampNeg l5_9) (0 : Int32)) fun M18 => (nm (l5_9 + (1 : Int32)) fun x19 => (F_X0_reset_l43 v n43 x19 M18)))))

def F_X0_reset (M : MS) (v : Nat) (a0 : Int32) (a1 : Int32) (a2 : Int32) (a3 : Int32) : Option MS := (nm (wF M 0 v a0) fun M1 => (nm (wF M1 1 v a1) fun M2 => (nm (wF M2 2 v a2) fun M3 => (nm (wF M3 3 v a2) fun M4 => (nm (wF M4 4 v a3) fun M5 => (nm (fun (s6 : Int32) => (nm (wF M5 5 v s6) fun M8 => (F_X0_reset_l43 v FU (0 : Int32) M8))) fun j37_6 => (if ¬ a0 = 0 then (j37_6 (9 : Int32)) else (j37_6 (0 : Int32)))))))))

set_option maxHeartbeats 4000000 in
set_option maxRecDepth 100000 in
theorem k_X0_reset (l : Launch) (G : GG) (M : MS) (v : Nat) (a0 : Int32) (a1 : Int32) (a2 : Int32) (a3 : Int32) {Mf : MS} (hF : F_X0_reset M v a0 a1 a2 a3 = some Mf) (hv : ok 0 v) : KV l yX0_reset (WS yX0_reset cX0_reset 6 none) (Rm 1) G [.ref (gad G v), .int a0, .int a1, .int a2, .int a3] M Mf := by
  intro sz
  refine y_met (by decide +kernel) (Nat.le_of_ble_eq_true rfl) rfl (fun p e s m below meth c ls hsz C0 hM hl => ?_)
  have hl : lv_has ls 6 [(0, .ref (gad G v)), (1, .int a0), (2, .int a1), (3, .int a2), (4, .int a3)] := hl
  have C0 : CX p s m meth c ([.ref (gad G v), .int a0, .int a1, .int a2, .int a3] : List Value).toArray cX0_reset RX0 6 none := C0
  rw [F_X0_reset] at hF
  refine lv_aload_n C0.1 C0.2.1 dX0_reset_0 rfl (lv_at hl 0 rfl) ?_
  refine lv_iload_n C0.1 C0.2.1 dX0_reset_1 rfl (lv_at hl 1 rfl) ?_
  refine pf0_0 C0 hM hv fl_RX0_28 dX0_reset_2 (fun H locs hM => ?_)
  obtain ⟨M1, eM1, hF⟩ := nm_some hF
  have hM := y_mn eM1 hM
  refine lv_aload_n C0.1 C0.2.1 dX0_reset_5 rfl (lv_at hl 0 rfl) ?_
  refine lv_iload_n C0.1 C0.2.1 dX0_reset_6 rfl (lv_at hl 2 rfl) ?_
  refine pf0_1 C0 hM hv fl_RX0_31 dX0_reset_7 (fun H locs hM => ?_)
  obtain ⟨M2, eM2, hF⟩ := nm_some hF
  have hM := y_mn eM2 hM
  refine lv_aload_n C0.1 C0.2.1 dX0_reset_10 rfl (lv_at hl 0 rfl) ?_
  refine lv_iload_n C0.1 C0.2.1 dX0_reset_11 rfl (lv_at hl 3 rfl) ?_
  refine pf0_2 C0 hM hv fl_RX0_34 dX0_reset_12 (fun H locs hM => ?_)
  obtain ⟨M3, eM3, hF⟩ := nm_some hF
  have hM := y_mn eM3 hM
  refine lv_aload_n C0.1 C0.2.1 dX0_reset_15 rfl (lv_at hl 0 rfl) ?_
  refine lv_iload_n C0.1 C0.2.1 dX0_reset_16 rfl (lv_at hl 3 rfl) ?_
  refine pf0_3 C0 hM hv fl_RX0_37 dX0_reset_17 (fun H locs hM => ?_)
  obtain ⟨M4, eM4, hF⟩ := nm_some hF
  have hM := y_mn eM4 hM
  refine lv_aload_n C0.1 C0.2.1 dX0_reset_20 rfl (lv_at hl 0 rfl) ?_
  refine lv_iload C0.1 C0.2.1 dX0_reset_21 (lv_at hl 4 rfl) ?_
  refine pf0_4 C0 hM hv fl_RX0_40 dX0_reset_23 (fun H locs hM => ?_)
  obtain ⟨M5, eM5, hF⟩ := nm_some hF
  have hM := y_mn eM5 hM
  refine lv_aload_n C0.1 C0.2.1 dX0_reset_26 rfl (lv_at hl 0 rfl) ?_
  refine lv_iload_n C0.1 C0.2.1 dX0_reset_27 rfl (lv_at hl 1 rfl) ?_
  obtain ⟨j37_6, ej37_6, hF⟩ := nm_some hF
  have J37 : ∀ (s6 : Int32) (H : Heap) (locs : List Loc) (ls : Array Slot), MX G M5 s H locs → lv_has ls 6 [(0, .ref (gad G v)), (1, .int a0), (2, .int a1), (3, .int a2), (4, .int a3)] → j37_6 s6 = some Mf → W p l e (Rm 1) s m ([.ref (gad G v), .int a0, .int a1, .int a2, .int a3] : List Value).toArray below meth c H locs 0 0 (QV below ([.ref (gad G v), .int a0, .int a1, .int a2, .int a3] : List Value).toArray s G sz Mf) (F0 m 37 ls [.int s6, .ref (gad G v)]) := by
    intro s6 H locs ls hM hl hF
    rw [ej37_6] at hF
    refine pf0_5 C0 hM hv fl_RX0_43 dX0_reset_37 (fun H locs hM => ?_)
    obtain ⟨M8, eM8, hF⟩ := nm_some hF
    have hM := y_mn eM8 hM
    refine lv_iconst (v := (0 : Int32)) C0.1 C0.2.1 dX0_reset_40 (by decide) ?_
    refine lv_istore (lv' := [(5, .int (0 : Int32)), (0, .ref (gad G v)), (1, .int a0), (2, .int a1), (3, .int a2), (4, .int a3)]) C0.1 C0.2.1 dX0_reset_41 hl (by decide) rfl (fun ls hl => ?_)
    have L43 : ∀ (n : Nat) (l5_9 : Int32) (M10 : MS) (H : Heap) (locs : List Loc) (ls : Array Slot), MX G M10 s H locs → lv_has ls 6 [(0, .ref (gad G v)), (1, .int a0), (2, .int a1), (3, .int a2), (4, .int a3), (5, .int l5_9)] → F_X0_reset_l43 v n l5_9 M10 = some Mf → W p l e (Rm 1) s m ([.ref (gad G v), .int a0, .int a1, .int a2, .int a3] : List Value).toArray below meth c H locs 0 0 (QV below ([.ref (gad G v), .int a0, .int a1, .int a2, .int a3] : List Value).toArray s G sz Mf) (F0 m 43 ls []) := by
      intro n
      induction n with
      | zero => intro l5_9 M10 H locs ls hM hl hF; rw [F_X0_reset_l43] at hF; cases hF
      | succ n43 ih43 =>
        intro l5_9 M10 H locs ls hM hl hF
        rw [F_X0_reset_l43] at hF
        refine lv_iload C0.1 C0.2.1 dX0_reset_43 (lv_at hl 5 rfl) ?_
        refine lv_aload_n C0.1 C0.2.1 dX0_reset_45 rfl (lv_at hl 0 rfl) ?_
        refine gf0_6 C0 hM hv fl_RX0_9 dX0_reset_46 ?_
        refine y_alen (x := (4 : Int32)) C0 hM (oka_cond hv) rfl dX0_reset_49 ?_
        refine lv_icmp_ge (tgt := 67) C0.1 C0.2.1 dX0_reset_50 (by decide) (fun c11 => ?_) (fun c11 => ?_)
        · have hF := if_t c11 hF
          refine lv_aload_n C0.1 C0.2.1 dX0_reset_67 rfl (lv_at hl 0 rfl) ?_
          refine lv_iconst (v := (0 : Int32)) C0.1 C0.2.1 dX0_reset_68 (by decide) ?_
          refine pf0_7 C0 hM hv rfl rfl fl_RX0_46 dX0_reset_69 (fun H locs hM => ?_)
          obtain ⟨M12, eM12, hF⟩ := nm_some hF
          have hM := y_mn eM12 hM
          refine lv_aload_n C0.1 C0.2.1 dX0_reset_72 rfl (lv_at hl 0 rfl) ?_
          obtain ⟨M14, h13, hF⟩ := bd_some hF
          refine y_vv (rest := []) C0 hM hl.1 hv (ent0 hv) rfl (k_X0_forgetReadied l G M12 v h13 hv) cw_RX0_50 rfl rfl ⟨Nat.le_of_ble_eq_true rfl, Nat.le_of_ble_eq_true rfl⟩ rfl (Nat.le_of_ble_eq_true rfl) ⟨Nat.le_of_ble_eq_true rfl, Nat.le_of_ble_eq_true rfl⟩ dX0_reset_73 (fun H locs hM => ?_)
          refine lv_aload_n C0.1 C0.2.1 dX0_reset_76 rfl (lv_at hl 0 rfl) ?_
          refine lv_iconst (v := (0 : Int32)) C0.1 C0.2.1 dX0_reset_77 (by decide) ?_
          refine pf0_12 C0 hM hv fl_RX0_53 dX0_reset_78 (fun H locs hM => ?_)
          obtain ⟨M15, eM15, hF⟩ := nm_some hF
          have hM := y_mn eM15 hM
          refine lv_aload_n C0.1 C0.2.1 dX0_reset_81 rfl (lv_at hl 0 rfl) ?_
          refine lv_iconst (v := (0 : Int32)) C0.1 C0.2.1 dX0_reset_82 (by decide) ?_
          refine pf0_13 C0 hM hv fl_RX0_56 dX0_reset_83 (fun H locs hM => ?_)
          obtain ⟨M16, eM16, hF⟩ := nm_some hF
          have hM := y_mn eM16 hM
          have e9 := y_1 hF
          subst e9
          exact y_vret C0 hM hsz dX0_reset_86
        · have hF := if_f c11 hF
          refine lv_aload_n C0.1 C0.2.1 dX0_reset_53 rfl (lv_at hl 0 rfl) ?_
          refine gf0_6 C0 hM hv fl_RX0_9 dX0_reset_54 ?_
          refine lv_iload C0.1 C0.2.1 dX0_reset_57 (lv_at hl 5 rfl) ?_
          refine lv_iconst (v := (0 : Int32)) C0.1 C0.2.1 dX0_reset_59 (by decide) ?_
          obtain ⟨g17, hF⟩ := gdb_some hF
          refine y_iast C0 hM (oka_cond hv) g17 dX0_reset_60 (fun H locs hM => ?_)
          obtain ⟨M18, eM18, hF⟩ := nm_some hF
          have hM := y_mn eM18 hM
          obtain ⟨x19, ex19, hF⟩ := nm_some hF
          refine lv_iinc (v := x19) (lv' := [(5, .int x19), (0, .ref (gad G v)), (1, .int a0), (2, .int a1), (3, .int a2), (4, .int a3)]) C0.1 C0.2.1 dX0_reset_61 hl (k := 5) rfl (by rw [ex19]; rfl) (by decide) rfl (fun ls hl => ?_)
          refine lv_goto (tgt := 43) C0.1 C0.2.1 dX0_reset_64 (by decide) ?_
          exact ih43 x19 M18 _ _ _ hM (lv_sub hl [1, 2, 3, 4, 5, 0] rfl) hF
    exact L43 FU (0 : Int32) M8 _ _ _ hM (lv_sub hl [1, 2, 3, 4, 5, 0] rfl) hF
  refine lv_if_ne (tgt := 35) C0.1 C0.2.1 dX0_reset_28 (by decide) (fun c20 => ?_) (fun c20 => ?_)
  · have hF := if_t c20 hF
    refine lv_bipush (v := (9 : Int32)) C0.1 C0.2.1 dX0_reset_35 (by decide) ?_
    exact J37 (9 : Int32) _ _ _ hM (lv_sub hl [0, 1, 2, 3, 4] rfl) hF
  · have hF := if_f (fun q => q c20) hF
    refine lv_iconst (v := (0 : Int32)) C0.1 C0.2.1 dX0_reset_31 (by decide) ?_
    refine lv_goto (tgt := 37) C0.1 C0.2.1 dX0_reset_32 (by decide) ?_
    exact J37 (0 : Int32) _ _ _ hM (lv_sub hl [0, 1, 2, 3, 4] rfl) hF

def F_X0_copyFrom (M : MS) (v : Nat) (w0 : Nat) : Option MS := (nm (wF M 0 v (rF M 0 w0)) fun M1 => (nm (wF M1 1 v (rF M1 1 w0)) fun M2 => (nm (wF M2 2 v (rF M2 2 w0)) fun M3 => (nm (wF M3 3 v (rF M3 3 w0)) fun M4 => (nm (wF M4 4 v (rF M4 4 w0)) fun M5 => (nm (wF M5 5 v (rF M5 5 w0)) fun M6 => (nm (wC M6 (w0 + 11) (v + 11) (Int32.toNatClampNeg (0 : Int32)) (Int32.toNatClampNeg (0 : Int32)) (Int32.toNatClampNeg (4 : Int32))) fun M7 => (gdb ((rF M7 7 w0) == 0 || (rF M7 7 w0) == 1) (nm (wF M7 7 v (rF M7 7 w0)) fun M8 => (nm (wF M8 8 v (rF M8 8 w0)) fun M10 => (nm (wF M10 9 v (rF M10 9 w0)) fun M11 => (nm (wF M11 10 v (rF M11 10 w0)) fun M12 => (nm (wF M12 11 v (rF M12 11 w0)) fun M13 => (nm (wF M13 12 v (rF M13 12 w0)) fun M14 => (nm (wF M14 13 v (rF M14 13 w0)) fun M15 => (some M15))))))))))))))))

set_option maxHeartbeats 4000000 in
set_option maxRecDepth 100000 in
theorem k_X0_copyFrom (l : Launch) (G : GG) (M : MS) (v : Nat) (w0 : Nat) {Mf : MS} (hF : F_X0_copyFrom M v w0 = some Mf) (hv : ok 0 v) (hw0 : ok 0 w0) : KV l yX0_copyFrom (WS yX0_copyFrom cX0_copyFrom 2 none) (Rm 1) G [.ref (gad G v), .ref (gad G w0)] M Mf := by
  intro sz
  refine y_met (by decide +kernel) (Nat.le_of_ble_eq_true rfl) rfl (fun p e s m below meth c ls hsz C0 hM hl => ?_)
  have hl : lv_has ls 2 [(0, .ref (gad G v)), (1, .ref (gad G w0))] := hl
  have C0 : CX p s m meth c ([.ref (gad G v), .ref (gad G w0)] : List Value).toArray cX0_copyFrom RX0 2 none := C0
  rw [F_X0_copyFrom] at hF
  refine lv_aload_n C0.1 C0.2.1 dX0_copyFrom_0 rfl (lv_at hl 0 rfl) ?_
  refine lv_aload_n C0.1 C0.2.1 dX0_copyFrom_1 rfl (lv_at hl 1 rfl) ?_
  refine gf0_0 C0 hM hw0 fl_RX0_28 dX0_copyFrom_2 ?_
  refine pf0_0 C0 hM hv fl_RX0_28 dX0_copyFrom_5 (fun H locs hM => ?_)
  obtain ⟨M1, eM1, hF⟩ := nm_some hF
  have hM := y_mn eM1 hM
  refine lv_aload_n C0.1 C0.2.1 dX0_copyFrom_8 rfl (lv_at hl 0 rfl) ?_
  refine lv_aload_n C0.1 C0.2.1 dX0_copyFrom_9 rfl (lv_at hl 1 rfl) ?_
  refine gf0_1 C0 hM hw0 fl_RX0_31 dX0_copyFrom_10 ?_
  refine pf0_1 C0 hM hv fl_RX0_31 dX0_copyFrom_13 (fun H locs hM => ?_)
  obtain ⟨M2, eM2, hF⟩ := nm_some hF
  have hM := y_mn eM2 hM
  refine lv_aload_n C0.1 C0.2.1 dX0_copyFrom_16 rfl (lv_at hl 0 rfl) ?_
  refine lv_aload_n C0.1 C0.2.1 dX0_copyFrom_17 rfl (lv_at hl 1 rfl) ?_
  refine gf0_2 C0 hM hw0 fl_RX0_34 dX0_copyFrom_18 ?_
  refine pf0_2 C0 hM hv fl_RX0_34 dX0_copyFrom_21 (fun H locs hM => ?_)
  obtain ⟨M3, eM3, hF⟩ := nm_some hF
  have hM := y_mn eM3 hM
  refine lv_aload_n C0.1 C0.2.1 dX0_copyFrom_24 rfl (lv_at hl 0 rfl) ?_
  refine lv_aload_n C0.1 C0.2.1 dX0_copyFrom_25 rfl (lv_at hl 1 rfl) ?_
  refine gf0_3 C0 hM hw0 fl_RX0_37 dX0_copyFrom_26 ?_
  refine pf0_3 C0 hM hv fl_RX0_37 dX0_copyFrom_29 (fun H locs hM => ?_)
  obtain ⟨M4, eM4, hF⟩ := nm_some hF
  have hM := y_mn eM4 hM
  refine lv_aload_n C0.1 C0.2.1 dX0_copyFrom_32 rfl (lv_at hl 0 rfl) ?_
  refine lv_aload_n C0.1 C0.2.1 dX0_copyFrom_33 rfl (lv_at hl 1 rfl) ?_
  refine gf0_4 C0 hM hw0 fl_RX0_40 dX0_copyFrom_34 ?_
  refine pf0_4 C0 hM hv fl_RX0_40 dX0_copyFrom_37 (fun H locs hM => ?_)
  obtain ⟨M5, eM5, hF⟩ := nm_some hF
  have hM := y_mn eM5 hM
  refine lv_aload_n C0.1 C0.2.1 dX0_copyFrom_40 rfl (lv_at hl 0 rfl) ?_
  refine lv_aload_n C0.1 C0.2.1 dX0_copyFrom_41 rfl (lv_at hl 1 rfl) ?_
  refine gf0_5 C0 hM hw0 fl_RX0_43 dX0_copyFrom_42 ?_
  refine pf0_5 C0 hM hv fl_RX0_43 dX0_copyFrom_45 (fun H locs hM => ?_)
  obtain ⟨M6, eM6, hF⟩ := nm_some hF
  have hM := y_mn eM6 hM
  refine lv_aload_n C0.1 C0.2.1 dX0_copyFrom_48 rfl (lv_at hl 1 rfl) ?_
  refine gf0_6 C0 hM hw0 fl_RX0_9 dX0_copyFrom_49 ?_
  refine lv_iconst (v := (0 : Int32)) C0.1 C0.2.1 dX0_copyFrom_52 (by decide) ?_
  refine lv_aload_n C0.1 C0.2.1 dX0_copyFrom_53 rfl (lv_at hl 0 rfl) ?_
  refine gf0_6 C0 hM hv fl_RX0_9 dX0_copyFrom_54 ?_
  refine lv_iconst (v := (0 : Int32)) C0.1 C0.2.1 dX0_copyFrom_57 (by decide) ?_
  refine lv_iconst (v := (4 : Int32)) C0.1 C0.2.1 dX0_copyFrom_58 (by decide) ?_
  refine y_copy C0 hM hl.1 cp_RX0_59 (oka_cond hw0) (oka_cond hv) (by decide) (by decide) (by decide) (by decide) (by decide) (Nat.le_of_ble_eq_true rfl) (by decide) dX0_copyFrom_59 (fun H locs hM => ?_)
  obtain ⟨M7, eM7, hF⟩ := nm_some hF
  have hM := y_mn eM7 hM
  refine lv_aload_n C0.1 C0.2.1 dX0_copyFrom_62 rfl (lv_at hl 0 rfl) ?_
  refine lv_aload_n C0.1 C0.2.1 dX0_copyFrom_63 rfl (lv_at hl 1 rfl) ?_
  refine gf0_7 C0 hM hw0 fl_RX0_46 dX0_copyFrom_64 ?_
  obtain ⟨g9, hF⟩ := gdb_some hF
  refine pf0_7 C0 hM hv (zob_n g9) (zob_f g9) fl_RX0_46 dX0_copyFrom_67 (fun H locs hM => ?_)
  obtain ⟨M8, eM8, hF⟩ := nm_some hF
  have hM := y_mn eM8 hM
  refine lv_aload_n C0.1 C0.2.1 dX0_copyFrom_70 rfl (lv_at hl 0 rfl) ?_
  refine lv_aload_n C0.1 C0.2.1 dX0_copyFrom_71 rfl (lv_at hl 1 rfl) ?_
  refine gf0_8 C0 hM hw0 fl_RX0_15 dX0_copyFrom_72 ?_
  refine pf0_8 C0 hM hv fl_RX0_15 dX0_copyFrom_75 (fun H locs hM => ?_)
  obtain ⟨M10, eM10, hF⟩ := nm_some hF
  have hM := y_mn eM10 hM
  refine lv_aload_n C0.1 C0.2.1 dX0_copyFrom_78 rfl (lv_at hl 0 rfl) ?_
  refine lv_aload_n C0.1 C0.2.1 dX0_copyFrom_79 rfl (lv_at hl 1 rfl) ?_
  refine gf0_9 C0 hM hw0 fl_RX0_19 dX0_copyFrom_80 ?_
  refine pf0_9 C0 hM hv fl_RX0_19 dX0_copyFrom_83 (fun H locs hM => ?_)
  obtain ⟨M11, eM11, hF⟩ := nm_some hF
  have hM := y_mn eM11 hM
  refine lv_aload_n C0.1 C0.2.1 dX0_copyFrom_86 rfl (lv_at hl 0 rfl) ?_
  refine lv_aload_n C0.1 C0.2.1 dX0_copyFrom_87 rfl (lv_at hl 1 rfl) ?_
  refine gf0_10 C0 hM hw0 fl_RX0_22 dX0_copyFrom_88 ?_
  refine pf0_10 C0 hM hv fl_RX0_22 dX0_copyFrom_91 (fun H locs hM => ?_)
  obtain ⟨M12, eM12, hF⟩ := nm_some hF
  have hM := y_mn eM12 hM
  refine lv_aload_n C0.1 C0.2.1 dX0_copyFrom_94 rfl (lv_at hl 0 rfl) ?_
  refine lv_aload_n C0.1 C0.2.1 dX0_copyFrom_95 rfl (lv_at hl 1 rfl) ?_
  refine gf0_11 C0 hM hw0 fl_RX0_25 dX0_copyFrom_96 ?_
  refine pf0_11 C0 hM hv fl_RX0_25 dX0_copyFrom_99 (fun H locs hM => ?_)
  obtain ⟨M13, eM13, hF⟩ := nm_some hF
  have hM := y_mn eM13 hM
  refine lv_aload_n C0.1 C0.2.1 dX0_copyFrom_102 rfl (lv_at hl 0 rfl) ?_
  refine lv_aload_n C0.1 C0.2.1 dX0_copyFrom_103 rfl (lv_at hl 1 rfl) ?_
  refine gf0_12 C0 hM hw0 fl_RX0_53 dX0_copyFrom_104 ?_
  refine pf0_12 C0 hM hv fl_RX0_53 dX0_copyFrom_107 (fun H locs hM => ?_)
  obtain ⟨M14, eM14, hF⟩ := nm_some hF
  have hM := y_mn eM14 hM
  refine lv_aload_n C0.1 C0.2.1 dX0_copyFrom_110 rfl (lv_at hl 0 rfl) ?_
  refine lv_aload_n C0.1 C0.2.1 dX0_copyFrom_111 rfl (lv_at hl 1 rfl) ?_
  refine gf0_13 C0 hM hw0 fl_RX0_56 dX0_copyFrom_112 ?_
  refine pf0_13 C0 hM hv fl_RX0_56 dX0_copyFrom_115 (fun H locs hM => ?_)
  obtain ⟨M15, eM15, hF⟩ := nm_some hF
  have hM := y_mn eM15 hM
  have e9 := y_1 hF
  subst e9
  exact y_vret C0 hM hsz dX0_copyFrom_118

def F_X0_hasFallen (M : MS) (v : Nat) : Option Int32 := (if 0 < (rF M 2 v) then (some (0 : Int32)) else (some (1 : Int32)))

set_option maxHeartbeats 4000000 in
set_option maxRecDepth 100000 in
theorem k_X0_hasFallen (l : Launch) (G : GG) (M : MS) (v : Nat) {r : Int32} (hF : F_X0_hasFallen M v = some r) (hv : ok 0 v) : KI l yX0_hasFallen (WS yX0_hasFallen cX0_hasFallen 1 (some .boolean)) (Rm 0) G [.ref (gad G v)] M r M := by
  intro sz
  refine y_met (by decide +kernel) (Nat.le_of_ble_eq_true rfl) rfl (fun p e s m below meth c ls hsz C0 hM hl => ?_)
  have hl : lv_has ls 1 [(0, .ref (gad G v))] := hl
  have C0 : CX p s m meth c ([.ref (gad G v)] : List Value).toArray cX0_hasFallen RX0 1 (some .boolean) := C0
  rw [F_X0_hasFallen] at hF
  refine lv_aload_n C0.1 C0.2.1 dX0_hasFallen_0 rfl (lv_at hl 0 rfl) ?_
  refine gf0_2 C0 hM hv fl_RX0_34 dX0_hasFallen_1 ?_
  refine lv_if_gt (tgt := 11) C0.1 C0.2.1 dX0_hasFallen_4 (by decide) (fun c1 => ?_) (fun c1 => ?_)
  · have hF := if_t c1 hF
    refine lv_iconst (v := (0 : Int32)) C0.1 C0.2.1 dX0_hasFallen_11 (by decide) ?_
    have e8 := y_1 hF
    subst e8
    exact y_zret C0 hM hsz rfl dX0_hasFallen_12
  · have hF := if_f c1 hF
    refine lv_iconst (v := (1 : Int32)) C0.1 C0.2.1 dX0_hasFallen_7 (by decide) ?_
    refine lv_goto (tgt := 12) C0.1 C0.2.1 dX0_hasFallen_8 (by decide) ?_
    have e8 := y_1 hF
    subst e8
    exact y_zret C0 hM hsz rfl dX0_hasFallen_12

def F_X0_hasReadied (M : MS) (v : Nat) : Option Int32 := (if (rF M 8 v) = (-1 : Int32) then (some (0 : Int32)) else (some (1 : Int32)))

set_option maxHeartbeats 4000000 in
set_option maxRecDepth 100000 in
theorem k_X0_hasReadied (l : Launch) (G : GG) (M : MS) (v : Nat) {r : Int32} (hF : F_X0_hasReadied M v = some r) (hv : ok 0 v) : KI l yX0_hasReadied (WS yX0_hasReadied cX0_hasReadied 1 (some .boolean)) (Rm 0) G [.ref (gad G v)] M r M := by
  intro sz
  refine y_met (by decide +kernel) (Nat.le_of_ble_eq_true rfl) rfl (fun p e s m below meth c ls hsz C0 hM hl => ?_)
  have hl : lv_has ls 1 [(0, .ref (gad G v))] := hl
  have C0 : CX p s m meth c ([.ref (gad G v)] : List Value).toArray cX0_hasReadied RX0 1 (some .boolean) := C0
  rw [F_X0_hasReadied] at hF
  refine lv_aload_n C0.1 C0.2.1 dX0_hasReadied_0 rfl (lv_at hl 0 rfl) ?_
  refine gf0_8 C0 hM hv fl_RX0_15 dX0_hasReadied_1 ?_
  refine lv_iconst (v := (-1 : Int32)) C0.1 C0.2.1 dX0_hasReadied_4 (by decide) ?_
  refine lv_icmp_eq (tgt := 12) C0.1 C0.2.1 dX0_hasReadied_5 (by decide) (fun c1 => ?_) (fun c1 => ?_)
  · have hF := if_t c1 hF
    refine lv_iconst (v := (0 : Int32)) C0.1 C0.2.1 dX0_hasReadied_12 (by decide) ?_
    have e8 := y_1 hF
    subst e8
    exact y_zret C0 hM hsz rfl dX0_hasReadied_13
  · have hF := if_f c1 hF
    refine lv_iconst (v := (1 : Int32)) C0.1 C0.2.1 dX0_hasReadied_8 (by decide) ?_
    refine lv_goto (tgt := 13) C0.1 C0.2.1 dX0_hasReadied_9 (by decide) ?_
    have e8 := y_1 hF
    subst e8
    exact y_zret C0 hM hsz rfl dX0_hasReadied_13

def F_X0_roundsOf (M : MS) (v : Nat) (a0 : Int32) : Option Int32 := (if a0 < 0 then (some (0 : Int32)) else (if (4 : Int32) ≤ a0 then (some (0 : Int32)) else (gdb (inb a0 4) (some (rA M (v + 11) (Int32.toNatClampNeg a0))))))

set_option maxHeartbeats 4000000 in
set_option maxRecDepth 100000 in
theorem k_X0_roundsOf (l : Launch) (G : GG) (M : MS) (v : Nat) (a0 : Int32) {r : Int32} (hF : F_X0_roundsOf M v a0 = some r) (hv : ok 0 v) : KI l yX0_roundsOf (WS yX0_roundsOf cX0_roundsOf 2 (some .int)) (Rm 0) G [.ref (gad G v), .int a0] M r M := by
  intro sz
  refine y_met (by decide +kernel) (Nat.le_of_ble_eq_true rfl) rfl (fun p e s m below meth c ls hsz C0 hM hl => ?_)
  have hl : lv_has ls 2 [(0, .ref (gad G v)), (1, .int a0)] := hl
  have C0 : CX p s m meth c ([.ref (gad G v), .int a0] : List Value).toArray cX0_roundsOf RX0 2 (some .int) := C0
  rw [F_X0_roundsOf] at hF
  refine lv_iload_n C0.1 C0.2.1 dX0_roundsOf_0 rfl (lv_at hl 1 rfl) ?_
  refine lv_if_lt (tgt := 22) C0.1 C0.2.1 dX0_roundsOf_1 (by decide) (fun c1 => ?_) (fun c1 => ?_)
  · have hF := if_t c1 hF
    refine lv_iconst (v := (0 : Int32)) C0.1 C0.2.1 dX0_roundsOf_22 (by decide) ?_
    have e8 := y_1 hF
    subst e8
    exact y_iret C0 hM hsz dX0_roundsOf_23
  · have hF := if_f c1 hF
    refine lv_iload_n C0.1 C0.2.1 dX0_roundsOf_4 rfl (lv_at hl 1 rfl) ?_
    refine lv_aload_n C0.1 C0.2.1 dX0_roundsOf_5 rfl (lv_at hl 0 rfl) ?_
    refine gf0_6 C0 hM hv fl_RX0_9 dX0_roundsOf_6 ?_
    refine y_alen (x := (4 : Int32)) C0 hM (oka_cond hv) rfl dX0_roundsOf_9 ?_
    refine lv_icmp_ge (tgt := 22) C0.1 C0.2.1 dX0_roundsOf_10 (by decide) (fun c2 => ?_) (fun c2 => ?_)
    · have hF := if_t c2 hF
      refine lv_iconst (v := (0 : Int32)) C0.1 C0.2.1 dX0_roundsOf_22 (by decide) ?_
      have e8 := y_1 hF
      subst e8
      exact y_iret C0 hM hsz dX0_roundsOf_23
    · have hF := if_f c2 hF
      refine lv_aload_n C0.1 C0.2.1 dX0_roundsOf_13 rfl (lv_at hl 0 rfl) ?_
      refine gf0_6 C0 hM hv fl_RX0_9 dX0_roundsOf_14 ?_
      refine lv_iload_n C0.1 C0.2.1 dX0_roundsOf_17 rfl (lv_at hl 1 rfl) ?_
      obtain ⟨g3, hF⟩ := gdb_some hF
      refine y_iald C0 hM (oka_cond hv) g3 dX0_roundsOf_18 ?_
      refine lv_goto (tgt := 23) C0.1 C0.2.1 dX0_roundsOf_19 (by decide) ?_
      have e8 := y_1 hF
      subst e8
      exact y_iret C0 hM hsz dX0_roundsOf_23

def F_X0_setRounds (M : MS) (v : Nat) (a0 : Int32) (a1 : Int32) : Option MS := (if a0 < 0 then (some M) else (if (4 : Int32) ≤ a0 then (some M) else (gdb (inb a0 4) (nm (wA M (v + 11) (Int32.toNatClampNeg a0) a1) fun M4 => (some M4)))))

set_option maxHeartbeats 4000000 in
set_option maxRecDepth 100000 in
theorem k_X0_setRounds (l : Launch) (G : GG) (M : MS) (v : Nat) (a0 : Int32) (a1 : Int32) {Mf : MS} (hF : F_X0_setRounds M v a0 a1 = some Mf) (hv : ok 0 v) : KV l yX0_setRounds (WS yX0_setRounds cX0_setRounds 3 none) (Rm 0) G [.ref (gad G v), .int a0, .int a1] M Mf := by
  intro sz
  refine y_met (by decide +kernel) (Nat.le_of_ble_eq_true rfl) rfl (fun p e s m below meth c ls hsz C0 hM hl => ?_)
  have hl : lv_has ls 3 [(0, .ref (gad G v)), (1, .int a0), (2, .int a1)] := hl
  have C0 : CX p s m meth c ([.ref (gad G v), .int a0, .int a1] : List Value).toArray cX0_setRounds RX0 3 none := C0
  rw [F_X0_setRounds] at hF
  refine lv_iload_n C0.1 C0.2.1 dX0_setRounds_0 rfl (lv_at hl 1 rfl) ?_
  refine lv_if_lt (tgt := 20) C0.1 C0.2.1 dX0_setRounds_1 (by decide) (fun c1 => ?_) (fun c1 => ?_)
  · have hF := if_t c1 hF
    have e9 := y_1 hF
    subst e9
    exact y_vret C0 hM hsz dX0_setRounds_20
  · have hF := if_f c1 hF
    refine lv_iload_n C0.1 C0.2.1 dX0_setRounds_4 rfl (lv_at hl 1 rfl) ?_
    refine lv_aload_n C0.1 C0.2.1 dX0_setRounds_5 rfl (lv_at hl 0 rfl) ?_
    refine gf0_6 C0 hM hv fl_RX0_9 dX0_setRounds_6 ?_
    refine y_alen (x := (4 : Int32)) C0 hM (oka_cond hv) rfl dX0_setRounds_9 ?_
    refine lv_icmp_ge (tgt := 20) C0.1 C0.2.1 dX0_setRounds_10 (by decide) (fun c2 => ?_) (fun c2 => ?_)
    · have hF := if_t c2 hF
      have e9 := y_1 hF
      subst e9
      exact y_vret C0 hM hsz dX0_setRounds_20
    · have hF := if_f c2 hF
      refine lv_aload_n C0.1 C0.2.1 dX0_setRounds_13 rfl (lv_at hl 0 rfl) ?_
      refine gf0_6 C0 hM hv fl_RX0_9 dX0_setRounds_14 ?_
      refine lv_iload_n C0.1 C0.2.1 dX0_setRounds_17 rfl (lv_at hl 1 rfl) ?_
      refine lv_iload_n C0.1 C0.2.1 dX0_setRounds_18 rfl (lv_at hl 2 rfl) ?_
      obtain ⟨g3, hF⟩ := gdb_some hF
      refine y_iast C0 hM (oka_cond hv) g3 dX0_setRounds_19 (fun H locs hM => ?_)
      obtain ⟨M4, eM4, hF⟩ := nm_some hF
      have hM := y_mn eM4 hM
      have e9 := y_1 hF
      subst e9
      exact y_vret C0 hM hsz dX0_setRounds_20

def F_X0_lengthen (M : MS) (v : Nat) (a0 : Int32) (a1 : Int32) : Option (Int32 × MS) := (bd (F_X0_roundsOf M v a0) fun r2 => (nm ((if r2 < a1 then a1 else r2) : Int32) fun x3 => (bd (F_X0_setRounds M v a0 x3) fun M5 => (bd (F_X0_roundsOf M5 v a0) fun r7 => (some (r7, M5))))))

set_option maxHeartbeats 4000000 in
set_option maxRecDepth 100000 in
theorem k_X0_lengthen (l : Launch) (G : GG) (M : MS) (v : Nat) (a0 : Int32) (a1 : Int32) {r : Int32} {Mf : MS} (hF : F_X0_lengthen M v a0 a1 = some (r, Mf)) (hv : ok 0 v) : KI l yX0_lengthen (WS yX0_lengthen cX0_lengthen 3 (some .int)) (Rm 1) G [.ref (gad G v), .int a0, .int a1] M r Mf := by
  intro sz
  refine y_met (by decide +kernel) (Nat.le_of_ble_eq_true rfl) rfl (fun p e s m below meth c ls hsz C0 hM hl => ?_)
  have hl : lv_has ls 3 [(0, .ref (gad G v)), (1, .int a0), (2, .int a1)] := hl
  have C0 : CX p s m meth c ([.ref (gad G v), .int a0, .int a1] : List Value).toArray cX0_lengthen RX0 3 (some .int) := C0
  rw [F_X0_lengthen] at hF
  refine lv_aload_n C0.1 C0.2.1 dX0_lengthen_0 rfl (lv_at hl 0 rfl) ?_
  refine lv_iload_n C0.1 C0.2.1 dX0_lengthen_1 rfl (lv_at hl 1 rfl) ?_
  refine lv_aload_n C0.1 C0.2.1 dX0_lengthen_2 rfl (lv_at hl 0 rfl) ?_
  refine lv_iload_n C0.1 C0.2.1 dX0_lengthen_3 rfl (lv_at hl 1 rfl) ?_
  obtain ⟨r2, h1, hF⟩ := bd_some hF
  refine y_vi (rest := [.int a0, .ref (gad G v)]) C0 hM hl.1 hv (ent0 hv) rfl (k_X0_roundsOf l G M v a0 h1 hv) cw_RX0_65 rfl rfl ⟨Nat.le_of_ble_eq_true rfl, Nat.le_of_ble_eq_true rfl⟩ rfl (Nat.le_of_ble_eq_true rfl) ⟨Nat.le_of_ble_eq_true rfl, Nat.le_of_ble_eq_true rfl⟩ dX0_lengthen_4 (fun H locs hM => ?_)
  refine lv_iload_n C0.1 C0.2.1 dX0_lengthen_7 rfl (lv_at hl 2 rfl) ?_
  refine y_mmax C0 hl.1 mw_RX0_69 (Nat.le_of_ble_eq_true rfl) (Nat.le_of_ble_eq_true rfl) ⟨Nat.le_of_ble_eq_true rfl, Nat.le_of_ble_eq_true rfl⟩ dX0_lengthen_8 ?_
  obtain ⟨x3, ex3, hF⟩ := nm_some hF
  refine y_topi ex3 ?_
  obtain ⟨M5, h4, hF⟩ := bd_some hF
  refine y_vv (rest := []) C0 hM hl.1 hv (ent0 hv) rfl (k_X0_setRounds l G M v a0 x3 h4 hv) cw_RX0_75 rfl rfl ⟨Nat.le_of_ble_eq_true rfl, Nat.le_of_ble_eq_true rfl⟩ rfl (Nat.le_of_ble_eq_true rfl) ⟨Nat.le_of_ble_eq_true rfl, Nat.le_of_ble_eq_true rfl⟩ dX0_lengthen_11 (fun H locs hM => ?_)
  refine lv_aload_n C0.1 C0.2.1 dX0_lengthen_14 rfl (lv_at hl 0 rfl) ?_
  refine lv_iload_n C0.1 C0.2.1 dX0_lengthen_15 rfl (lv_at hl 1 rfl) ?_
  obtain ⟨r7, h6, hF⟩ := bd_some hF
  refine y_vi (rest := []) C0 hM hl.1 hv (ent0 hv) rfl (k_X0_roundsOf l G M5 v a0 h6 hv) cw_RX0_65 rfl rfl ⟨Nat.le_of_ble_eq_true rfl, Nat.le_of_ble_eq_true rfl⟩ rfl (Nat.le_of_ble_eq_true rfl) ⟨Nat.le_of_ble_eq_true rfl, Nat.le_of_ble_eq_true rfl⟩ dX0_lengthen_16 (fun H locs hM => ?_)
  obtain ⟨e8, e9⟩ := y_2 hF
  subst e8
  subst e9
  exact y_iret C0 hM hsz dX0_lengthen_19

def F_X0_passRound_l2 (v : Nat) : Nat → Int32 → MS → Option MS
  | 0, _, _ => none
  | n2 + 1, l1_1, M2 => (if (4 : Int32) ≤ l1_1 then (some M2) else (gdb (inb l1_1 4) (if (rA M2 (v + 11) (Int32.toNatClampNeg l1_1)) ≤ 0 then (nm (l1_1 + (1 : Int32)) fun x6 => (F_X0_passRound_l2 v n2 x6 M2)) else (gdb (inb l1_1 4) (gdb (inb l1_1 4) (nm (wA M2 (v + 11) (Int32.toNatClampNeg l1_1) ((rA M2 (v + 11) (Int32.toNatClampNeg l1_1)) - (1 : Int32))) fun M9 => (nm (l1_1 + (1 : Int32)) fun x10 => (F_X0_passRound_l2 v n2 x10 M9))))))))

def F_X0_passRound (M : MS) (v : Nat) : Option MS := (F_X0_passRound_l2 v FU (0 : Int32) M)

set_option maxHeartbeats 4000000 in
set_option maxRecDepth 100000 in
theorem k_X0_passRound (l : Launch) (G : GG) (M : MS) (v : Nat) {Mf : MS} (hF : F_X0_passRound M v = some Mf) (hv : ok 0 v) : KV l yX0_passRound (WS yX0_passRound cX0_passRound 2 none) (Rm 0) G [.ref (gad G v)] M Mf := by
  intro sz
  refine y_met (by decide +kernel) (Nat.le_of_ble_eq_true rfl) rfl (fun p e s m below meth c ls hsz C0 hM hl => ?_)
  have hl : lv_has ls 2 [(0, .ref (gad G v))] := hl
  have C0 : CX p s m meth c ([.ref (gad G v)] : List Value).toArray cX0_passRound RX0 2 none := C0
  rw [F_X0_passRound] at hF
  refine lv_iconst (v := (0 : Int32)) C0.1 C0.2.1 dX0_passRound_0 (by decide) ?_
  refine lv_istore_n (lv' := [(1, .int (0 : Int32)), (0, .ref (gad G v))]) C0.1 C0.2.1 dX0_passRound_1 rfl hl (by decide) rfl (fun ls hl => ?_)
  have L2 : ∀ (n : Nat) (l1_1 : Int32) (M2 : MS) (H : Heap) (locs : List Loc) (ls : Array Slot), MX G M2 s H locs → lv_has ls 2 [(0, .ref (gad G v)), (1, .int l1_1)] → F_X0_passRound_l2 v n l1_1 M2 = some Mf → W p l e (Rm 0) s m ([.ref (gad G v)] : List Value).toArray below meth c H locs 0 0 (QV below ([.ref (gad G v)] : List Value).toArray s G sz Mf) (F0 m 2 ls []) := by
    intro n
    induction n with
    | zero => intro l1_1 M2 H locs ls hM hl hF; rw [F_X0_passRound_l2] at hF; cases hF
    | succ n2 ih2 =>
      intro l1_1 M2 H locs ls hM hl hF
      rw [F_X0_passRound_l2] at hF
      refine lv_iload_n C0.1 C0.2.1 dX0_passRound_2 rfl (lv_at hl 1 rfl) ?_
      refine lv_aload_n C0.1 C0.2.1 dX0_passRound_3 rfl (lv_at hl 0 rfl) ?_
      refine gf0_6 C0 hM hv fl_RX0_9 dX0_passRound_4 ?_
      refine y_alen (x := (4 : Int32)) C0 hM (oka_cond hv) rfl dX0_passRound_7 ?_
      refine lv_icmp_ge (tgt := 36) C0.1 C0.2.1 dX0_passRound_8 (by decide) (fun c3 => ?_) (fun c3 => ?_)
      · have hF := if_t c3 hF
        have e9 := y_1 hF
        subst e9
        exact y_vret C0 hM hsz dX0_passRound_36
      · have hF := if_f c3 hF
        refine lv_aload_n C0.1 C0.2.1 dX0_passRound_11 rfl (lv_at hl 0 rfl) ?_
        refine gf0_6 C0 hM hv fl_RX0_9 dX0_passRound_12 ?_
        refine lv_iload_n C0.1 C0.2.1 dX0_passRound_15 rfl (lv_at hl 1 rfl) ?_
        obtain ⟨g4, hF⟩ := gdb_some hF
        refine y_iald C0 hM (oka_cond hv) g4 dX0_passRound_16 ?_
        refine lv_if_le (tgt := 30) C0.1 C0.2.1 dX0_passRound_17 (by decide) (fun c5 => ?_) (fun c5 => ?_)
        · have hF := if_t c5 hF
          obtain ⟨x6, ex6, hF⟩ := nm_some hF
          refine lv_iinc (v := x6) (lv' := [(1, .int x6), (0, .ref (gad G v))]) C0.1 C0.2.1 dX0_passRound_30 hl (k := 1) rfl (by rw [ex6]; rfl) (by decide) rfl (fun ls hl => ?_)
          refine lv_goto (tgt := 2) C0.1 C0.2.1 dX0_passRound_33 (by decide) ?_
          exact ih2 x6 M2 _ _ _ hM (lv_sub hl [1, 0] rfl) hF
        · have hF := if_f c5 hF
          refine lv_aload_n C0.1 C0.2.1 dX0_passRound_20 rfl (lv_at hl 0 rfl) ?_
          refine gf0_6 C0 hM hv fl_RX0_9 dX0_passRound_21 ?_
          refine lv_iload_n C0.1 C0.2.1 dX0_passRound_24 rfl (lv_at hl 1 rfl) ?_
          refine lv_dup2_11 C0.1 C0.2.1 dX0_passRound_25 rfl rfl ?_
          obtain ⟨g7, hF⟩ := gdb_some hF
          refine y_iald C0 hM (oka_cond hv) g7 dX0_passRound_26 ?_
          refine lv_iconst (v := (1 : Int32)) C0.1 C0.2.1 dX0_passRound_27 (by decide) ?_
          refine lv_isub C0.1 C0.2.1 dX0_passRound_28 ?_
          obtain ⟨g8, hF⟩ := gdb_some hF
          refine y_iast C0 hM (oka_cond hv) g8 dX0_passRound_29 (fun H locs hM => ?_)
          obtain ⟨M9, eM9, hF⟩ := nm_some hF
          have hM := y_mn eM9 hM
          obtain ⟨x10, ex10, hF⟩ := nm_some hF
          refine lv_iinc (v := x10) (lv' := [(1, .int x10), (0, .ref (gad G v))]) C0.1 C0.2.1 dX0_passRound_30 hl (k := 1) rfl (by rw [ex10]; rfl) (by decide) rfl (fun ls hl => ?_)
          refine lv_goto (tgt := 2) C0.1 C0.2.1 dX0_passRound_33 (by decide) ?_
          exact ih2 x10 M9 _ _ _ hM (lv_sub hl [1, 0] rfl) hF
  exact L2 FU (0 : Int32) M _ _ _ hM (lv_sub hl [1, 0] rfl) hF

def F_X0_ofReadied (M : MS) (v : Nat) (a0 : Int32) : Option Int32 := (if a0 = (0 : Int32) then (some (rF M 8 v)) else (if a0 = (1 : Int32) then (some (rF M 9 v)) else (if a0 = (2 : Int32) then (some (rF M 10 v)) else (some (rF M 11 v)))))

set_option maxHeartbeats 4000000 in
set_option maxRecDepth 100000 in
theorem k_X0_ofReadied (l : Launch) (G : GG) (M : MS) (v : Nat) (a0 : Int32) {r : Int32} (hF : F_X0_ofReadied M v a0 = some r) (hv : ok 0 v) : KI l yX0_ofReadied (WS yX0_ofReadied cX0_ofReadied 2 (some .int)) (Rm 0) G [.ref (gad G v), .int a0] M r M := by
  intro sz
  refine y_met (by decide +kernel) (Nat.le_of_ble_eq_true rfl) rfl (fun p e s m below meth c ls hsz C0 hM hl => ?_)
  have hl : lv_has ls 2 [(0, .ref (gad G v)), (1, .int a0)] := hl
  have C0 : CX p s m meth c ([.ref (gad G v), .int a0] : List Value).toArray cX0_ofReadied RX0 2 (some .int) := C0
  rw [F_X0_ofReadied] at hF
  refine lv_iload_n C0.1 C0.2.1 dX0_ofReadied_0 rfl (lv_at hl 1 rfl) ?_
  by_cases c1 : a0 = (0 : Int32)
  · have hF := if_t c1 hF
    refine y_tsw (tgt := 28) (off := 27) C0 dX0_ofReadied_1 (by decide) (by rw [c1]; decide) (by decide) ?_
    refine lv_aload_n C0.1 C0.2.1 dX0_ofReadied_28 rfl (lv_at hl 0 rfl) ?_
    refine gf0_8 C0 hM hv fl_RX0_15 dX0_ofReadied_29 ?_
    have e8 := y_1 hF
    subst e8
    exact y_iret C0 hM hsz dX0_ofReadied_32
  · have hF := if_f c1 hF
    by_cases c2 : a0 = (1 : Int32)
    · have hF := if_t c2 hF
      refine y_tsw (tgt := 33) (off := 32) C0 dX0_ofReadied_1 (by decide) (by rw [c2]; decide) (by decide) ?_
      refine lv_aload_n C0.1 C0.2.1 dX0_ofReadied_33 rfl (lv_at hl 0 rfl) ?_
      refine gf0_9 C0 hM hv fl_RX0_19 dX0_ofReadied_34 ?_
      have e8 := y_1 hF
      subst e8
      exact y_iret C0 hM hsz dX0_ofReadied_37
    · have hF := if_f c2 hF
      by_cases c3 : a0 = (2 : Int32)
      · have hF := if_t c3 hF
        refine y_tsw (tgt := 38) (off := 37) C0 dX0_ofReadied_1 (by decide) (by rw [c3]; decide) (by decide) ?_
        refine lv_aload_n C0.1 C0.2.1 dX0_ofReadied_38 rfl (lv_at hl 0 rfl) ?_
        refine gf0_10 C0 hM hv fl_RX0_22 dX0_ofReadied_39 ?_
        have e8 := y_1 hF
        subst e8
        exact y_iret C0 hM hsz dX0_ofReadied_42
      · have hF := if_f c3 hF
        refine y_tsw (tgt := 43) (off := 42) C0 dX0_ofReadied_1 (by decide) (ts_d (fun k9 h7 h8 h9 => by
            have h6 : k9 = 0 ∨ k9 = 1 ∨ k9 = 2 := by omega
            rcases h6 with rfl | rfl | rfl
            · exact absurd (Int32.toInt_inj.mp (h9.trans (by decide : (0 : Int) = Int32.toInt 0))) c1
            · exact absurd (Int32.toInt_inj.mp (h9.trans (by decide : (1 : Int) = Int32.toInt 1))) c2
            · exact absurd (Int32.toInt_inj.mp (h9.trans (by decide : (2 : Int) = Int32.toInt 2))) c3)) (by decide) ?_
        refine lv_aload_n C0.1 C0.2.1 dX0_ofReadied_43 rfl (lv_at hl 0 rfl) ?_
        refine gf0_11 C0 hM hv fl_RX0_25 dX0_ofReadied_44 ?_
        have e8 := y_1 hF
        subst e8
        exact y_iret C0 hM hsz dX0_ofReadied_47

def F_X0_lossAt (M : MS) (v : Nat) (w0 : Nat) : Option Int32 := (bd (F_X0_roundsOf M v (2 : Int32)) fun r2 => (nm (fun (s3 : Int32) => (bd (F_X0_roundsOf M v (1 : Int32)) fun r6 => (nm (fun (l2_7 : Int32) => (nm ((if (rF M 2 w0) < l2_7 then (rF M 2 w0) else l2_7) : Int32) fun x9 => (some x9))) fun j34_7 => (if r6 ≤ 0 then (j34_7 s3) else (nm (s3 / (2 : Int32)) fun x11 => (j34_7 x11)))))) fun j21_3 => (if r2 ≤ 0 then (j21_3 (rF M 4 v)) else (j21_3 ((rF M 4 v) + (3 : Int32))))))

set_option maxHeartbeats 4000000 in
set_option maxRecDepth 100000 in
theorem k_X0_lossAt (l : Launch) (G : GG) (M : MS) (v : Nat) (w0 : Nat) {r : Int32} (hF : F_X0_lossAt M v w0 = some r) (hv : ok 0 v) (hw0 : ok 0 w0) : KI l yX0_lossAt (WS yX0_lossAt cX0_lossAt 3 (some .int)) (Rm 1) G [.ref (gad G v), .ref (gad G w0)] M r M := by
  intro sz
  refine y_met (by decide +kernel) (Nat.le_of_ble_eq_true rfl) rfl (fun p e s m below meth c ls hsz C0 hM hl => ?_)
  have hl : lv_has ls 3 [(0, .ref (gad G v)), (1, .ref (gad G w0))] := hl
  have C0 : CX p s m meth c ([.ref (gad G v), .ref (gad G w0)] : List Value).toArray cX0_lossAt RX0 3 (some .int) := C0
  rw [F_X0_lossAt] at hF
  refine lv_aload_n C0.1 C0.2.1 dX0_lossAt_0 rfl (lv_at hl 0 rfl) ?_
  refine lv_iconst (v := (2 : Int32)) C0.1 C0.2.1 dX0_lossAt_1 (by decide) ?_
  obtain ⟨r2, h1, hF⟩ := bd_some hF
  refine y_vi (rest := []) C0 hM hl.1 hv (ent0 hv) rfl (k_X0_roundsOf l G M v (2 : Int32) h1 hv) cw_RX0_65 rfl rfl ⟨Nat.le_of_ble_eq_true rfl, Nat.le_of_ble_eq_true rfl⟩ rfl (Nat.le_of_ble_eq_true rfl) ⟨Nat.le_of_ble_eq_true rfl, Nat.le_of_ble_eq_true rfl⟩ dX0_lossAt_2 (fun H locs hM => ?_)
  obtain ⟨j21_3, ej21_3, hF⟩ := nm_some hF
  have J21 : ∀ (s3 : Int32) (H : Heap) (locs : List Loc) (ls : Array Slot), MX G M s H locs → lv_has ls 3 [(0, .ref (gad G v)), (1, .ref (gad G w0))] → j21_3 s3 = some r → W p l e (Rm 1) s m ([.ref (gad G v), .ref (gad G w0)] : List Value).toArray below meth c H locs 0 0 (QI below ([.ref (gad G v), .ref (gad G w0)] : List Value).toArray s G sz r M) (F0 m 21 ls [.int s3]) := by
    intro s3 H locs ls hM hl hF
    rw [ej21_3] at hF
    refine lv_istore_n (lv' := [(2, .int s3), (0, .ref (gad G v)), (1, .ref (gad G w0))]) C0.1 C0.2.1 dX0_lossAt_21 rfl hl (by decide) rfl (fun ls hl => ?_)
    refine lv_aload_n C0.1 C0.2.1 dX0_lossAt_22 rfl (lv_at hl 1 rfl) ?_
    refine lv_iconst (v := (1 : Int32)) C0.1 C0.2.1 dX0_lossAt_23 (by decide) ?_
    obtain ⟨r6, h5, hF⟩ := bd_some hF
    refine y_vi (rest := []) C0 hM hl.1 hv (ent0 hv) rfl (k_X0_roundsOf l G M v (1 : Int32) h5 hv) cw_RX0_65 rfl rfl ⟨Nat.le_of_ble_eq_true rfl, Nat.le_of_ble_eq_true rfl⟩ rfl (Nat.le_of_ble_eq_true rfl) ⟨Nat.le_of_ble_eq_true rfl, Nat.le_of_ble_eq_true rfl⟩ dX0_lossAt_24 (fun H locs hM => ?_)
    obtain ⟨j34_7, ej34_7, hF⟩ := nm_some hF
    have J34 : ∀ (l2_7 : Int32) (H : Heap) (locs : List Loc) (ls : Array Slot), MX G M s H locs → lv_has ls 3 [(0, .ref (gad G v)), (1, .ref (gad G w0)), (2, .int l2_7)] → j34_7 l2_7 = some r → W p l e (Rm 1) s m ([.ref (gad G v), .ref (gad G w0)] : List Value).toArray below meth c H locs 0 0 (QI below ([.ref (gad G v), .ref (gad G w0)] : List Value).toArray s G sz r M) (F0 m 34 ls []) := by
      intro l2_7 H locs ls hM hl hF
      rw [ej34_7] at hF
      refine lv_iload_n C0.1 C0.2.1 dX0_lossAt_34 rfl (lv_at hl 2 rfl) ?_
      refine lv_aload_n C0.1 C0.2.1 dX0_lossAt_35 rfl (lv_at hl 1 rfl) ?_
      refine gf0_2 C0 hM hw0 fl_RX0_34 dX0_lossAt_36 ?_
      refine y_mmin C0 hl.1 mw_RX0_79 (Nat.le_of_ble_eq_true rfl) (Nat.le_of_ble_eq_true rfl) ⟨Nat.le_of_ble_eq_true rfl, Nat.le_of_ble_eq_true rfl⟩ dX0_lossAt_39 ?_
      obtain ⟨x9, ex9, hF⟩ := nm_some hF
      refine y_topi ex9 ?_
      have e8 := y_1 hF
      subst e8
      exact y_iret C0 hM hsz dX0_lossAt_42
    refine lv_if_le (tgt := 34) C0.1 C0.2.1 dX0_lossAt_27 (by decide) (fun c10 => ?_) (fun c10 => ?_)
    · have hF := if_t c10 hF
      exact J34 s3 _ _ _ hM (lv_sub hl [1, 2, 0] rfl) hF
    · have hF := if_f c10 hF
      refine lv_iload_n C0.1 C0.2.1 dX0_lossAt_30 rfl (lv_at hl 0 rfl) ?_
      refine lv_iconst (v := (2 : Int32)) C0.1 C0.2.1 dX0_lossAt_31 (by decide) ?_
      refine lv_idiv C0.1 C0.2.1 dX0_lossAt_32 (by decide) ?_
      obtain ⟨x11, ex11, hF⟩ := nm_some hF
      refine y_topi ex11 ?_
      refine lv_istore_n (lv' := [(2, .int x11), (0, .ref (gad G v)), (1, .ref (gad G w0))]) C0.1 C0.2.1 dX0_lossAt_33 rfl hl (by decide) rfl (fun ls hl => ?_)
      exact J34 x11 _ _ _ hM (lv_sub hl [1, 2, 0] rfl) hF
  refine lv_if_le (tgt := 17) C0.1 C0.2.1 dX0_lossAt_5 (by decide) (fun c12 => ?_) (fun c12 => ?_)
  · have hF := if_t c12 hF
    refine lv_aload_n C0.1 C0.2.1 dX0_lossAt_17 rfl (lv_at hl 0 rfl) ?_
    refine gf0_4 C0 hM hv fl_RX0_40 dX0_lossAt_18 ?_
    exact J21 (rF M 4 v) _ _ _ hM (lv_sub hl [0, 1] rfl) hF
  · have hF := if_f c12 hF
    refine lv_aload_n C0.1 C0.2.1 dX0_lossAt_8 rfl (lv_at hl 0 rfl) ?_
    refine gf0_4 C0 hM hv fl_RX0_40 dX0_lossAt_9 ?_
    refine lv_iconst (v := (3 : Int32)) C0.1 C0.2.1 dX0_lossAt_12 (by decide) ?_
    refine lv_iadd C0.1 C0.2.1 dX0_lossAt_13 ?_
    refine lv_goto (tgt := 21) C0.1 C0.2.1 dX0_lossAt_14 (by decide) ?_
    exact J21 ((rF M 4 v) + (3 : Int32)) _ _ _ hM (lv_sub hl [0, 1] rfl) hF

def F_X0_recover (M : MS) (v : Nat) : Option MS := (nm ((if (rF M 3 v) < ((rF M 2 v) + (4 : Int32)) then (rF M 3 v) else ((rF M 2 v) + (4 : Int32))) : Int32) fun x1 => (nm (wF M 2 v x1) fun M2 => (bd (F_X0_setRounds M2 v (3 : Int32) (0 : Int32)) fun M4 => (some M4))))

set_option maxHeartbeats 4000000 in
set_option maxRecDepth 100000 in
theorem k_X0_recover (l : Launch) (G : GG) (M : MS) (v : Nat) {Mf : MS} (hF : F_X0_recover M v = some Mf) (hv : ok 0 v) : KV l yX0_recover (WS yX0_recover cX0_recover 1 none) (Rm 1) G [.ref (gad G v)] M Mf := by
  intro sz
  refine y_met (by decide +kernel) (Nat.le_of_ble_eq_true rfl) rfl (fun p e s m below meth c ls hsz C0 hM hl => ?_)
  have hl : lv_has ls 1 [(0, .ref (gad G v))] := hl
  have C0 : CX p s m meth c ([.ref (gad G v)] : List Value).toArray cX0_recover RX0 1 none := C0
  rw [F_X0_recover] at hF
  refine lv_aload_n C0.1 C0.2.1 dX0_recover_0 rfl (lv_at hl 0 rfl) ?_
  refine lv_aload_n C0.1 C0.2.1 dX0_recover_1 rfl (lv_at hl 0 rfl) ?_
  refine gf0_2 C0 hM hv fl_RX0_34 dX0_recover_2 ?_
  refine lv_iconst (v := (4 : Int32)) C0.1 C0.2.1 dX0_recover_5 (by decide) ?_
  refine lv_iadd C0.1 C0.2.1 dX0_recover_6 ?_
  refine lv_aload_n C0.1 C0.2.1 dX0_recover_7 rfl (lv_at hl 0 rfl) ?_
  refine gf0_3 C0 hM hv fl_RX0_37 dX0_recover_8 ?_
  refine y_mmin C0 hl.1 mw_RX0_79 (Nat.le_of_ble_eq_true rfl) (Nat.le_of_ble_eq_true rfl) ⟨Nat.le_of_ble_eq_true rfl, Nat.le_of_ble_eq_true rfl⟩ dX0_recover_11 ?_
  obtain ⟨x1, ex1, hF⟩ := nm_some hF
  refine y_topi ex1 ?_
  refine pf0_2 C0 hM hv fl_RX0_34 dX0_recover_14 (fun H locs hM => ?_)
  obtain ⟨M2, eM2, hF⟩ := nm_some hF
  have hM := y_mn eM2 hM
  refine lv_aload_n C0.1 C0.2.1 dX0_recover_17 rfl (lv_at hl 0 rfl) ?_
  refine lv_iconst (v := (3 : Int32)) C0.1 C0.2.1 dX0_recover_18 (by decide) ?_
  refine lv_iconst (v := (0 : Int32)) C0.1 C0.2.1 dX0_recover_19 (by decide) ?_
  obtain ⟨M4, h3, hF⟩ := bd_some hF
  refine y_vv (rest := []) C0 hM hl.1 hv (ent0 hv) rfl (k_X0_setRounds l G M2 v (3 : Int32) (0 : Int32) h3 hv) cw_RX0_75 rfl rfl ⟨Nat.le_of_ble_eq_true rfl, Nat.le_of_ble_eq_true rfl⟩ rfl (Nat.le_of_ble_eq_true rfl) ⟨Nat.le_of_ble_eq_true rfl, Nat.le_of_ble_eq_true rfl⟩ dX0_recover_20 (fun H locs hM => ?_)
  have e9 := y_1 hF
  subst e9
  exact y_vret C0 hM hsz dX0_recover_23

def F_X0_bleed (M : MS) (v : Nat) : Option MS := (bd (F_X0_roundsOf M v (3 : Int32)) fun r2 => (if r2 ≤ 0 then (some M) else (nm ((if ((rF M 2 v) - (2 : Int32)) < (0 : Int32) then (0 : Int32) else ((rF M 2 v) - (2 : Int32))) : Int32) fun x4 => (nm (wF M 2 v x4) fun M5 => (some M5)))))

set_option maxHeartbeats 4000000 in
set_option maxRecDepth 100000 in
theorem k_X0_bleed (l : Launch) (G : GG) (M : MS) (v : Nat) {Mf : MS} (hF : F_X0_bleed M v = some Mf) (hv : ok 0 v) : KV l yX0_bleed (WS yX0_bleed cX0_bleed 1 none) (Rm 1) G [.ref (gad G v)] M Mf := by
  intro sz
  refine y_met (by decide +kernel) (Nat.le_of_ble_eq_true rfl) rfl (fun p e s m below meth c ls hsz C0 hM hl => ?_)
  have hl : lv_has ls 1 [(0, .ref (gad G v))] := hl
  have C0 : CX p s m meth c ([.ref (gad G v)] : List Value).toArray cX0_bleed RX0 1 none := C0
  rw [F_X0_bleed] at hF
  refine lv_aload_n C0.1 C0.2.1 dX0_bleed_0 rfl (lv_at hl 0 rfl) ?_
  refine lv_iconst (v := (3 : Int32)) C0.1 C0.2.1 dX0_bleed_1 (by decide) ?_
  obtain ⟨r2, h1, hF⟩ := bd_some hF
  refine y_vi (rest := []) C0 hM hl.1 hv (ent0 hv) rfl (k_X0_roundsOf l G M v (3 : Int32) h1 hv) cw_RX0_65 rfl rfl ⟨Nat.le_of_ble_eq_true rfl, Nat.le_of_ble_eq_true rfl⟩ rfl (Nat.le_of_ble_eq_true rfl) ⟨Nat.le_of_ble_eq_true rfl, Nat.le_of_ble_eq_true rfl⟩ dX0_bleed_2 (fun H locs hM => ?_)
  refine lv_if_le (tgt := 22) C0.1 C0.2.1 dX0_bleed_5 (by decide) (fun c3 => ?_) (fun c3 => ?_)
  · have hF := if_t c3 hF
    have e9 := y_1 hF
    subst e9
    exact y_vret C0 hM hsz dX0_bleed_22
  · have hF := if_f c3 hF
    refine lv_aload_n C0.1 C0.2.1 dX0_bleed_8 rfl (lv_at hl 0 rfl) ?_
    refine lv_aload_n C0.1 C0.2.1 dX0_bleed_9 rfl (lv_at hl 0 rfl) ?_
    refine gf0_2 C0 hM hv fl_RX0_34 dX0_bleed_10 ?_
    refine lv_iconst (v := (2 : Int32)) C0.1 C0.2.1 dX0_bleed_13 (by decide) ?_
    refine lv_isub C0.1 C0.2.1 dX0_bleed_14 ?_
    refine lv_iconst (v := (0 : Int32)) C0.1 C0.2.1 dX0_bleed_15 (by decide) ?_
    refine y_mmax C0 hl.1 mw_RX0_69 (Nat.le_of_ble_eq_true rfl) (Nat.le_of_ble_eq_true rfl) ⟨Nat.le_of_ble_eq_true rfl, Nat.le_of_ble_eq_true rfl⟩ dX0_bleed_16 ?_
    obtain ⟨x4, ex4, hF⟩ := nm_some hF
    refine y_topi ex4 ?_
    refine pf0_2 C0 hM hv fl_RX0_34 dX0_bleed_19 (fun H locs hM => ?_)
    obtain ⟨M5, eM5, hF⟩ := nm_some hF
    have hM := y_mn eM5 hM
    have e9 := y_1 hF
    subst e9
    exact y_vret C0 hM hsz dX0_bleed_22

def F_X0_status (M : MS) (v : Nat) : Option Int32 := (bd (F_X0_hasFallen M v) fun r2 => (if r2 = 0 then (if (rF M 7 v) = 0 then (bd (F_X0_hasReadied M v) fun r6 => (if r6 = 0 then (some (0 : Int32)) else (some (2 : Int32)))) else (some (1 : Int32))) else (some (3 : Int32))))

set_option maxHeartbeats 4000000 in
set_option maxRecDepth 100000 in
theorem k_X0_status (l : Launch) (G : GG) (M : MS) (v : Nat) {r : Int32} (hF : F_X0_status M v = some r) (hv : ok 0 v) : KI l yX0_status (WS yX0_status cX0_status 1 (some .int)) (Rm 1) G [.ref (gad G v)] M r M := by
  intro sz
  refine y_met (by decide +kernel) (Nat.le_of_ble_eq_true rfl) rfl (fun p e s m below meth c ls hsz C0 hM hl => ?_)
  have hl : lv_has ls 1 [(0, .ref (gad G v))] := hl
  have C0 : CX p s m meth c ([.ref (gad G v)] : List Value).toArray cX0_status RX0 1 (some .int) := C0
  rw [F_X0_status] at hF
  refine lv_aload_n C0.1 C0.2.1 dX0_status_0 rfl (lv_at hl 0 rfl) ?_
  obtain ⟨r2, h1, hF⟩ := bd_some hF
  refine y_vi (rest := []) C0 hM hl.1 hv (ent0 hv) rfl (k_X0_hasFallen l G M v h1 hv) cw_RX0_82 rfl rfl ⟨Nat.le_of_ble_eq_true rfl, Nat.le_of_ble_eq_true rfl⟩ rfl (Nat.le_of_ble_eq_true rfl) ⟨Nat.le_of_ble_eq_true rfl, Nat.le_of_ble_eq_true rfl⟩ dX0_status_1 (fun H locs hM => ?_)
  refine lv_if_eq (tgt := 9) C0.1 C0.2.1 dX0_status_4 (by decide) (fun c3 => ?_) (fun c3 => ?_)
  · have hF := if_t c3 hF
    refine lv_aload_n C0.1 C0.2.1 dX0_status_9 rfl (lv_at hl 0 rfl) ?_
    refine gf0_7 C0 hM hv fl_RX0_46 dX0_status_10 ?_
    refine lv_if_eq (tgt := 18) C0.1 C0.2.1 dX0_status_13 (by decide) (fun c4 => ?_) (fun c4 => ?_)
    · have hF := if_t c4 hF
      refine lv_aload_n C0.1 C0.2.1 dX0_status_18 rfl (lv_at hl 0 rfl) ?_
      obtain ⟨r6, h5, hF⟩ := bd_some hF
      refine y_vi (rest := []) C0 hM hl.1 hv (ent0 hv) rfl (k_X0_hasReadied l G M v h5 hv) cw_RX0_86 rfl rfl ⟨Nat.le_of_ble_eq_true rfl, Nat.le_of_ble_eq_true rfl⟩ rfl (Nat.le_of_ble_eq_true rfl) ⟨Nat.le_of_ble_eq_true rfl, Nat.le_of_ble_eq_true rfl⟩ dX0_status_19 (fun H locs hM => ?_)
      refine lv_if_eq (tgt := 29) C0.1 C0.2.1 dX0_status_22 (by decide) (fun c7 => ?_) (fun c7 => ?_)
      · have hF := if_t c7 hF
        refine lv_iconst (v := (0 : Int32)) C0.1 C0.2.1 dX0_status_29 (by decide) ?_
        have e8 := y_1 hF
        subst e8
        exact y_iret C0 hM hsz dX0_status_30
      · have hF := if_f c7 hF
        refine lv_iconst (v := (2 : Int32)) C0.1 C0.2.1 dX0_status_25 (by decide) ?_
        refine lv_goto (tgt := 30) C0.1 C0.2.1 dX0_status_26 (by decide) ?_
        have e8 := y_1 hF
        subst e8
        exact y_iret C0 hM hsz dX0_status_30
    · have hF := if_f c4 hF
      refine lv_iconst (v := (1 : Int32)) C0.1 C0.2.1 dX0_status_16 (by decide) ?_
      have e8 := y_1 hF
      subst e8
      exact y_iret C0 hM hsz dX0_status_17
  · have hF := if_f c3 hF
    refine lv_iconst (v := (3 : Int32)) C0.1 C0.2.1 dX0_status_7 (by decide) ?_
    have e8 := y_1 hF
    subst e8
    exact y_iret C0 hM hsz dX0_status_8
