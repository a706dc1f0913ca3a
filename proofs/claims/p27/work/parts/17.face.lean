theorem fl_RX4_16 : Cond.fieldLink RX4 16 (TX4 1).1 (TX4 1).2.1 (TX4 1).2.2.1 ∈ TBg := tb1 160 (by decide +kernel) (by decide +kernel)
theorem fl_RX4_42 : Cond.fieldLink RX4 42 (TX3 4).1 (TX3 4).2.1 (TX3 4).2.2.1 ∈ TBg := tb1 117 (by decide +kernel) (by decide +kernel)
theorem fl_RX4_129 : Cond.fieldLink RX4 129 (TX3 2).1 (TX3 2).2.1 (TX3 2).2.2.1 ∈ TBg := tb1 114 (by decide +kernel) (by decide +kernel)
theorem cw_RX4_34 : CWS RX4 34 yX4_isWithin cX4_isWithin 3 (some .boolean) 3 := ⟨tbx [436, 437, 6, 438] (by decide +kernel) (by decide +kernel), by decide +kernel, by decide +kernel, by decide +kernel⟩
theorem cw_RX4_38 : CWS RX4 38 yX4_requireArgument cX4_requireArgument 1 none 1 := ⟨tbx [439, 440, 6, 441] (by decide +kernel) (by decide +kernel), by decide +kernel, by decide +kernel, by decide +kernel⟩
theorem cw_RX4_45 : CWS RX4 45 yX4_requireState cX4_requireState 1 none 1 := ⟨tbx [363, 364, 6, 365] (by decide +kernel) (by decide +kernel), by decide +kernel, by decide +kernel, by decide +kernel⟩
theorem cw_RX4_51 : CWV RX4 51 RX3 yX3_enter cX3_enter 6 (some .int) 4 := ⟨tbx [569, 570, 571, 7, 572] (by decide +kernel) (by decide +kernel), rfl, by decide +kernel, by decide +kernel, by decide +kernel⟩
theorem cw_RX4_61 : CWV RX4 61 RX4 yX4_requireFighter cX4_requireFighter 2 none 1 := ⟨tbx [280, 282, 2, 6, 283] (by decide +kernel) (by decide +kernel), rfl, by decide +kernel, by decide +kernel, by decide +kernel⟩
theorem cw_RX4_65 : CWV RX4 65 RX3 yX3_isPossible cX3_isPossible 7 (some .boolean) 3 := ⟨tbx [356, 357, 358, 7, 359] (by decide +kernel) (by decide +kernel), rfl, by decide +kernel, by decide +kernel, by decide +kernel⟩
theorem cw_RX4_68 : CWV RX4 68 RX3 yX3_act cX3_act 6 (some .int) 4 := ⟨tbx [382, 383, 384, 7, 385] (by decide +kernel) (by decide +kernel), rfl, by decide +kernel, by decide +kernel, by decide +kernel⟩
theorem cw_RX4_71 : CWV RX4 71 RX3 yX3_delayTurn cX3_delayTurn 1 none 0 := ⟨tbx [470, 471, 472, 7, 473] (by decide +kernel) (by decide +kernel), rfl, by decide +kernel, by decide +kernel, by decide +kernel⟩
theorem cw_RX4_74 : CWV RX4 74 RX3 yX3_readyAct cX3_readyAct 6 none 4 := ⟨tbx [478, 479, 480, 7, 481] (by decide +kernel) (by decide +kernel), rfl, by decide +kernel, by decide +kernel, by decide +kernel⟩
theorem cw_RX4_78 : CWV RX4 78 RX3 yX3_endTurn cX3_endTurn 2 none 0 := ⟨tbx [486, 256, 257, 7, 258] (by decide +kernel) (by decide +kernel), rfl, by decide +kernel, by decide +kernel, by decide +kernel⟩
theorem cw_RX4_81 : CWV RX4 81 RX3 yX3_canBeLetIn cX3_canBeLetIn 2 (some .boolean) 1 := ⟨tbx [491, 492, 493, 7, 494] (by decide +kernel) (by decide +kernel), rfl, by decide +kernel, by decide +kernel, by decide +kernel⟩
theorem cw_RX4_85 : CWV RX4 85 RX3 yX3_letIn cX3_letIn 3 (some .int) 1 := ⟨tbx [495, 496, 497, 7, 498] (by decide +kernel) (by decide +kernel), rfl, by decide +kernel, by decide +kernel, by decide +kernel⟩
theorem cw_RX4_116 : CWV RX4 116 RX3 yX3_property cX3_property 4 (some .int) 2 := ⟨tbx [511, 512, 513, 7, 514] (by decide +kernel) (by decide +kernel), rfl, by decide +kernel, by decide +kernel, by decide +kernel⟩
theorem cw_RX4_120 : CWV RX4 120 RX3 yX3_at cX3_at 2 (some (.object "TurnTracker$Fighter")) 1 := ⟨tbx [582, 208, 209, 7, 210] (by decide +kernel) (by decide +kernel), rfl, by decide +kernel, by decide +kernel, by decide +kernel⟩
theorem cw_RX4_124 : CWV RX4 124 RX0 yX0_ofReadied cX0_ofReadied 2 (some .int) 1 := ⟨tbx [583, 584, 585, 8, 586] (by decide +kernel) (by decide +kernel), rfl, by decide +kernel, by decide +kernel, by decide +kernel⟩
theorem cw_RX4_133 : CWV RX4 133 RX2 yX2_numberAt cX2_numberAt 2 (some .int) 1 := ⟨tbx [624, 220, 221, 9, 222] (by decide +kernel) (by decide +kernel), rfl, by decide +kernel, by decide +kernel, by decide +kernel⟩
theorem cw_RX4_138 : CWV RX4 138 RX4 yX4_counted cX4_counted 2 (some .int) 1 := ⟨tbx [525, 527, 4, 6, 528] (by decide +kernel) (by decide +kernel), rfl, by decide +kernel, by decide +kernel, by decide +kernel⟩
theorem cw_RX4_141 : CWV RX4 141 RX3 yX3_isFighter cX3_isFighter 2 (some .boolean) 1 := ⟨tbx [284, 285, 286, 7, 287] (by decide +kernel) (by decide +kernel), rfl, by decide +kernel, by decide +kernel, by decide +kernel⟩
theorem cw_RX4_144 : CWV RX4 144 RX3 yX3_numberSetOff cX3_numberSetOff 4 (some .int) 1 := ⟨tbx [549, 550, 551, 7, 552] (by decide +kernel) (by decide +kernel), rfl, by decide +kernel, by decide +kernel, by decide +kernel⟩
def F_X4_come (M : MS) (a0 : Int32) (a1 : Int32) (a2 : Int32) (a3 : Int32) : Option (Nat × Int32 × MS) := (bd (F_X4_isWithin M a0 (0 : Int32) (1 : Int32)) fun r2 => (nm (fun (s3 : Int32) => (bx (F_X4_requireArgument M s3) (fun M6 => (nm (fun (s8 : Int32) => (bx (F_X4_requireState M6 s8) (fun M11 => (bd (F_X4_save M11) fun M14 => (bd2 (F_X3_enter M14 0 a0 a1 a2 a3) fun r17 M16 => (some (0, r17, M16))))) (0 : Int32))) fun j65_8 => (if (10 : Int32) ≤ (rF M6 52 0) then (j65_8 (0 : Int32)) else (j65_8 (1 : Int32))))) (0 : Int32))) fun j45_3 => (if r2 = 0 then (j45_3 (0 : Int32)) else (bd (F_X4_isWithin M a1 (0 : Int32) (40 : Int32)) fun r21 => (if r21 = 0 then (j45_3 (0 : Int32)) else (bd (F_X4_isWithin M a2 (1 : Int32) (99 : Int32)) fun r24 => (if r24 = 0 then (j45_3 (0 : Int32)) else (bd (F_X4_isWithin M a3 (1 : Int32) (20 : Int32)) fun r27 => (if r27 = 0 then (j45_3 (0 : Int32)) else (j45_3 (1 : Int32)))))))))))

set_option maxHeartbeats 4000000 in
set_option maxRecDepth 100000 in
theorem k_X4_come (l : Launch) (hst : l.stackTraces = false) (G : GG) (B0 : Nat) (sa : Nat × Nat × Nat) (M : MS) (a0 : Int32) (a1 : Int32) (a2 : Int32) (a3 : Int32) {k : Nat} {r : Int32} {Mf : MS} (hF : F_X4_come M a0 a1 a2 a3 = some (k, r, Mf)) : XI l yX4_come (WS yX4_come cX4_come 5 (some .int)) (RmX 7) G B0 sa [.ref (gad G 216), .int a0, .int a1, .int a2, .int a3] M k r Mf := by
  intro sz
  refine x_met (by decide +kernel) (Nat.le_of_ble_eq_true rfl) (fun p e s m below meth c ls hsz C0 hex hM hT hl => ?_)
  have hl : lv_has ls 5 [(0, .ref (gad G 216)), (1, .int a0), (2, .int a1), (3, .int a2), (4, .int a3)] := hl
  have C0 : CX p s m meth c ([.ref (gad G 216), .int a0, .int a1, .int a2, .int a3] : List Value).toArray cX4_come RX4 5 (some .int) := C0
  rw [F_X4_come] at hF
  refine lv_iload_n C0.1 C0.2.1 dX4_come_0 rfl (lv_at hl 1 rfl) ?_
  refine lv_iconst (v := (0 : Int32)) C0.1 C0.2.1 dX4_come_1 (by decide) ?_
  refine lv_iconst (v := (1 : Int32)) C0.1 C0.2.1 dX4_come_2 (by decide) ?_
  obtain ⟨r2, h1, hF⟩ := bd_some hF
  refine y_si (rest := []) C0 hM hl.1 (k_X4_isWithin l G M a0 (0 : Int32) (1 : Int32) h1) cw_RX4_34 rfl rfl ⟨Nat.le_of_ble_eq_true rfl, Nat.le_of_ble_eq_true rfl⟩ rfl (Nat.le_of_ble_eq_true rfl) ⟨Nat.le_of_ble_eq_true rfl, Nat.le_of_ble_eq_true rfl⟩ dX4_come_3 (fun H locs hM => ?_)
  obtain ⟨j45_3, ej45_3, hF⟩ := nm_some hF
  have J45 : ∀ (s3 : Int32) (H : Heap) (locs : List Loc) (ls : Array Slot), MX G M s H locs → lv_has ls 5 [(0, .ref (gad G 216)), (1, .int a0), (2, .int a1), (3, .int a2), (4, .int a3)] → j45_3 s3 = some (k, r, Mf) → W p l e (RmX 7) s m ([.ref (gad G 216), .int a0, .int a1, .int a2, .int a3] : List Value).toArray below meth c H locs 0 0 (QXI below ([.ref (gad G 216), .int a0, .int a1, .int a2, .int a3] : List Value).toArray s G sz k r Mf) (F0 m 45 ls [.int s3]) := by
    intro s3 H locs ls hM hl hF
    rw [ej45_3] at hF
    rcases bx_some hF with ⟨M6, h5, hF⟩ | ⟨h5, h7⟩
    · refine x_sv0 (rest := []) C0 hM hT hl.1 (k_X4_requireArgument l hst G B0 sa M s3 h5) cw_RX4_38 rfl rfl ⟨Nat.le_of_ble_eq_true rfl, Nat.le_of_ble_eq_true rfl⟩ rfl (Nat.le_of_ble_eq_true rfl) ⟨Nat.le_of_ble_eq_true rfl, Nat.le_of_ble_eq_true rfl⟩ dX4_come_45 (fun H locs hM => ?_)
      refine lv_aload_n C0.1 C0.2.1 dX4_come_48 rfl (lv_at hl 0 rfl) ?_
      refine gf4_0 C0 hM ok_tt fl_RX4_10 dX4_come_49 ?_
      refine gf3_4 C0 hM ok_now fl_RX4_42 dX4_come_52 ?_
      refine lv_bipush (v := (10 : Int32)) C0.1 C0.2.1 dX4_come_55 (by decide) ?_
      obtain ⟨j65_8, ej65_8, hF⟩ := nm_some hF
      have J65 : ∀ (s8 : Int32) (H : Heap) (locs : List Loc) (ls : Array Slot), MX G M6 s H locs → lv_has ls 5 [(0, .ref (gad G 216)), (1, .int a0), (2, .int a1), (3, .int a2), (4, .int a3)] → j65_8 s8 = some (k, r, Mf) → W p l e (RmX 7) s m ([.ref (gad G 216), .int a0, .int a1, .int a2, .int a3] : List Value).toArray below meth c H locs 1 6 (QXI below ([.ref (gad G 216), .int a0, .int a1, .int a2, .int a3] : List Value).toArray s G sz k r Mf) (F0 m 65 ls [.int s8]) := by
        intro s8 H locs ls hM hl hF
        rw [ej65_8] at hF
        rcases bx_some hF with ⟨M11, h10, hF⟩ | ⟨h10, h12⟩
        · refine x_sv0 (rest := []) C0 hM hT hl.1 (k_X4_requireState l hst G B0 sa M6 s8 h10) cw_RX4_45 rfl rfl ⟨Nat.le_of_ble_eq_true rfl, Nat.le_of_ble_eq_true rfl⟩ rfl (Nat.le_of_ble_eq_true rfl) ⟨Nat.le_of_ble_eq_true rfl, Nat.le_of_ble_eq_true rfl⟩ dX4_come_65 (fun H locs hM => ?_)
          refine lv_aload_n C0.1 C0.2.1 dX4_come_68 rfl (lv_at hl 0 rfl) ?_
          obtain ⟨M14, h13, hF⟩ := bd_some hF
          refine y_vv (rest := []) C0 hM hl.1 ok_tt (ent4 ok_tt) rfl (k_X4_save l G M11 h13) cw_RX4_48 rfl rfl ⟨Nat.le_of_ble_eq_true rfl, Nat.le_of_ble_eq_true rfl⟩ rfl (Nat.le_of_ble_eq_true rfl) ⟨Nat.le_of_ble_eq_true rfl, Nat.le_of_ble_eq_true rfl⟩ dX4_come_69 (fun H locs hM => ?_)
          refine lv_aload_n C0.1 C0.2.1 dX4_come_72 rfl (lv_at hl 0 rfl) ?_
          refine gf4_0 C0 hM ok_tt fl_RX4_10 dX4_come_73 ?_
          refine lv_iload_n C0.1 C0.2.1 dX4_come_76 rfl (lv_at hl 1 rfl) ?_
          refine lv_iload_n C0.1 C0.2.1 dX4_come_77 rfl (lv_at hl 2 rfl) ?_
          refine lv_iload_n C0.1 C0.2.1 dX4_come_78 rfl (lv_at hl 3 rfl) ?_
          refine lv_iload C0.1 C0.2.1 dX4_come_79 (lv_at hl 4 rfl) ?_
          obtain ⟨r17, M16, h15, hF⟩ := bd2_some hF
          refine y_vi (rest := []) C0 hM hl.1 ok_now (ent3 ok_now) rfl (k_X3_enter l G M14 0 a0 a1 a2 a3 h15 ok_now) cw_RX4_51 rfl rfl ⟨Nat.le_of_ble_eq_true rfl, Nat.le_of_ble_eq_true rfl⟩ rfl (Nat.le_of_ble_eq_true rfl) ⟨Nat.le_of_ble_eq_true rfl, Nat.le_of_ble_eq_true rfl⟩ dX4_come_81 (fun H locs hM => ?_)
          obtain ⟨e7, e8, e9⟩ := y_3 hF
          subst e8
          subst e9
          exact x_iret C0 hM hsz e7.symm (Nat.le_of_ble_eq_true rfl) (Nat.le_of_ble_eq_true rfl) dX4_come_84
        · exact x_sv1 (rest := []) C0 hM hT hsz hex hl.1 h12 (k_X4_requireState l hst G B0 sa M6 s8 h10) cw_RX4_45 rfl rfl ⟨Nat.le_of_ble_eq_true rfl, Nat.le_of_ble_eq_true rfl⟩ rfl (Nat.le_of_ble_eq_true rfl) ⟨Nat.le_of_ble_eq_true rfl, Nat.le_of_ble_eq_true rfl⟩ (Nat.le_of_ble_eq_true rfl) (Nat.le_of_ble_eq_true rfl) dX4_come_65
      refine lv_icmp_ge (tgt := 64) C0.1 C0.2.1 dX4_come_57 (by decide) (fun c18 => ?_) (fun c18 => ?_)
      · have hF := if_t c18 hF
        refine lv_iconst (v := (0 : Int32)) C0.1 C0.2.1 dX4_come_64 (by decide) ?_
        exact J65 (0 : Int32) _ _ _ hM (lv_sub hl [0, 1, 2, 3, 4] rfl) hF
      · have hF := if_f c18 hF
        refine lv_iconst (v := (1 : Int32)) C0.1 C0.2.1 dX4_come_60 (by decide) ?_
        refine lv_goto (tgt := 65) C0.1 C0.2.1 dX4_come_61 (by decide) ?_
        exact J65 (1 : Int32) _ _ _ hM (lv_sub hl [0, 1, 2, 3, 4] rfl) hF
    · exact x_sv1 (rest := []) C0 hM hT hsz hex hl.1 h7 (k_X4_requireArgument l hst G B0 sa M s3 h5) cw_RX4_38 rfl rfl ⟨Nat.le_of_ble_eq_true rfl, Nat.le_of_ble_eq_true rfl⟩ rfl (Nat.le_of_ble_eq_true rfl) ⟨Nat.le_of_ble_eq_true rfl, Nat.le_of_ble_eq_true rfl⟩ (Nat.le_of_ble_eq_true rfl) (Nat.le_of_ble_eq_true rfl) dX4_come_45
  refine lv_if_eq (tgt := 44) C0.1 C0.2.1 dX4_come_6 (by decide) (fun c19 => ?_) (fun c19 => ?_)
  · have hF := if_t c19 hF
    refine lv_iconst (v := (0 : Int32)) C0.1 C0.2.1 dX4_come_44 (by decide) ?_
    exact J45 (0 : Int32) _ _ _ hM (lv_sub hl [0, 1, 2, 3, 4] rfl) hF
  · have hF := if_f c19 hF
    refine lv_iload_n C0.1 C0.2.1 dX4_come_9 rfl (lv_at hl 2 rfl) ?_
    refine lv_iconst (v := (0 : Int32)) C0.1 C0.2.1 dX4_come_10 (by decide) ?_
    refine lv_bipush (v := (40 : Int32)) C0.1 C0.2.1 dX4_come_11 (by decide) ?_
    obtain ⟨r21, h20, hF⟩ := bd_some hF
    refine y_si (rest := []) C0 hM hl.1 (k_X4_isWithin l G M a1 (0 : Int32) (40 : Int32) h20) cw_RX4_34 rfl rfl ⟨Nat.le_of_ble_eq_true rfl, Nat.le_of_ble_eq_true rfl⟩ rfl (Nat.le_of_ble_eq_true rfl) ⟨Nat.le_of_ble_eq_true rfl, Nat.le_of_ble_eq_true rfl⟩ dX4_come_13 (fun H locs hM => ?_)
    refine lv_if_eq (tgt := 44) C0.1 C0.2.1 dX4_come_16 (by decide) (fun c22 => ?_) (fun c22 => ?_)
    · have hF := if_t c22 hF
      refine lv_iconst (v := (0 : Int32)) C0.1 C0.2.1 dX4_come_44 (by decide) ?_
      exact J45 (0 : Int32) _ _ _ hM (lv_sub hl [0, 1, 2, 3, 4] rfl) hF
    · have hF := if_f c22 hF
      refine lv_iload_n C0.1 C0.2.1 dX4_come_19 rfl (lv_at hl 3 rfl) ?_
      refine lv_iconst (v := (1 : Int32)) C0.1 C0.2.1 dX4_come_20 (by decide) ?_
      refine lv_bipush (v := (99 : Int32)) C0.1 C0.2.1 dX4_come_21 (by decide) ?_
      obtain ⟨r24, h23, hF⟩ := bd_some hF
      refine y_si (rest := []) C0 hM hl.1 (k_X4_isWithin l G M a2 (1 : Int32) (99 : Int32) h23) cw_RX4_34 rfl rfl ⟨Nat.le_of_ble_eq_true rfl, Nat.le_of_ble_eq_true rfl⟩ rfl (Nat.le_of_ble_eq_true rfl) ⟨Nat.le_of_ble_eq_true rfl, Nat.le_of_ble_eq_true rfl⟩ dX4_come_23 (fun H locs hM => ?_)
      refine lv_if_eq (tgt := 44) C0.1 C0.2.1 dX4_come_26 (by decide) (fun c25 => ?_) (fun c25 => ?_)
      · have hF := if_t c25 hF
        refine lv_iconst (v := (0 : Int32)) C0.1 C0.2.1 dX4_come_44 (by decide) ?_
        exact J45 (0 : Int32) _ _ _ hM (lv_sub hl [0, 1, 2, 3, 4] rfl) hF
      · have hF := if_f c25 hF
        refine lv_iload C0.1 C0.2.1 dX4_come_29 (lv_at hl 4 rfl) ?_
        refine lv_iconst (v := (1 : Int32)) C0.1 C0.2.1 dX4_come_31 (by decide) ?_
        refine lv_bipush (v := (20 : Int32)) C0.1 C0.2.1 dX4_come_32 (by decide) ?_
        obtain ⟨r27, h26, hF⟩ := bd_some hF
        refine y_si (rest := []) C0 hM hl.1 (k_X4_isWithin l G M a3 (1 : Int32) (20 : Int32) h26) cw_RX4_34 rfl rfl ⟨Nat.le_of_ble_eq_true rfl, Nat.le_of_ble_eq_true rfl⟩ rfl (Nat.le_of_ble_eq_true rfl) ⟨Nat.le_of_ble_eq_true rfl, Nat.le_of_ble_eq_true rfl⟩ dX4_come_34 (fun H locs hM => ?_)
        refine lv_if_eq (tgt := 44) C0.1 C0.2.1 dX4_come_37 (by decide) (fun c28 => ?_) (fun c28 => ?_)
        · have hF := if_t c28 hF
          refine lv_iconst (v := (0 : Int32)) C0.1 C0.2.1 dX4_come_44 (by decide) ?_
          exact J45 (0 : Int32) _ _ _ hM (lv_sub hl [0, 1, 2, 3, 4] rfl) hF
        · have hF := if_f c28 hF
          refine lv_iconst (v := (1 : Int32)) C0.1 C0.2.1 dX4_come_40 (by decide) ?_
          refine lv_goto (tgt := 45) C0.1 C0.2.1 dX4_come_41 (by decide) ?_
          exact J45 (1 : Int32) _ _ _ hM (lv_sub hl [0, 1, 2, 3, 4] rfl) hF

def F_X4_strike (M : MS) (a0 : Int32) : Option (Nat × Int32 × MS) := (bx (F_X4_requireFighter M a0) (fun M2 => (bd (F_X3_isPossible M2 0 (rF M2 54 0) (0 : Int32) a0) fun r5 => (bx (F_X4_requireState M2 r5) (fun M7 => (bd (F_X4_save M7) fun M10 => (bd2 (F_X3_act M10 0 (0 : Int32) a0 (-1 : Int32) (0 : Int32)) fun r13 M12 => (some (0, r13, M12))))) (0 : Int32)))) (0 : Int32))

set_option maxHeartbeats 4000000 in
set_option maxRecDepth 100000 in
theorem k_X4_strike (l : Launch) (hst : l.stackTraces = false) (G : GG) (B0 : Nat) (sa : Nat × Nat × Nat) (M : MS) (a0 : Int32) {k : Nat} {r : Int32} {Mf : MS} (hF : F_X4_strike M a0 = some (k, r, Mf)) : XI l yX4_strike (WS yX4_strike cX4_strike 2 (some .int)) (RmX 7) G B0 sa [.ref (gad G 216), .int a0] M k r Mf := by
  intro sz
  refine x_met (by decide +kernel) (Nat.le_of_ble_eq_true rfl) (fun p e s m below meth c ls hsz C0 hex hM hT hl => ?_)
  have hl : lv_has ls 2 [(0, .ref (gad G 216)), (1, .int a0)] := hl
  have C0 : CX p s m meth c ([.ref (gad G 216), .int a0] : List Value).toArray cX4_strike RX4 2 (some .int) := C0
  rw [F_X4_strike] at hF
  refine lv_aload_n C0.1 C0.2.1 dX4_strike_0 rfl (lv_at hl 0 rfl) ?_
  refine lv_iload_n C0.1 C0.2.1 dX4_strike_1 rfl (lv_at hl 1 rfl) ?_
  rcases bx_some hF with ⟨M2, h1, hF⟩ | ⟨h1, h3⟩
  · refine x_vv0 (rest := []) C0 hM hT hl.1 ok_tt (ent4 ok_tt) rfl (k_X4_requireFighter l hst G B0 sa M a0 h1) cw_RX4_61 rfl rfl ⟨Nat.le_of_ble_eq_true rfl, Nat.le_of_ble_eq_true rfl⟩ rfl (Nat.le_of_ble_eq_true rfl) ⟨Nat.le_of_ble_eq_true rfl, Nat.le_of_ble_eq_true rfl⟩ dX4_strike_2 (fun H locs hM => ?_)
    refine lv_aload_n C0.1 C0.2.1 dX4_strike_5 rfl (lv_at hl 0 rfl) ?_
    refine gf4_0 C0 hM ok_tt fl_RX4_10 dX4_strike_6 ?_
    refine lv_aload_n C0.1 C0.2.1 dX4_strike_9 rfl (lv_at hl 0 rfl) ?_
    refine gf4_0 C0 hM ok_tt fl_RX4_10 dX4_strike_10 ?_
    refine gf3_6 C0 hM ok_now fl_RX4_58 dX4_strike_13 ?_
    refine lv_iconst (v := (0 : Int32)) C0.1 C0.2.1 dX4_strike_16 (by decide) ?_
    refine lv_iload_n C0.1 C0.2.1 dX4_strike_17 rfl (lv_at hl 1 rfl) ?_
    obtain ⟨r5, h4, hF⟩ := bd_some hF
    refine y_vi (rest := []) C0 hM hl.1 ok_now (ent3 ok_now) rfl (k_X3_isPossible l G M2 0 (rF M2 54 0) (0 : Int32) a0 h4 ok_now) cw_RX4_65 rfl rfl ⟨Nat.le_of_ble_eq_true rfl, Nat.le_of_ble_eq_true rfl⟩ rfl (Nat.le_of_ble_eq_true rfl) ⟨Nat.le_of_ble_eq_true rfl, Nat.le_of_ble_eq_true rfl⟩ dX4_strike_18 (fun H locs hM => ?_)
    rcases bx_some hF with ⟨M7, h6, hF⟩ | ⟨h6, h8⟩
    · refine x_sv0 (rest := []) C0 hM hT hl.1 (k_X4_requireState l hst G B0 sa M2 r5 h6) cw_RX4_45 rfl rfl ⟨Nat.le_of_ble_eq_true rfl, Nat.le_of_ble_eq_true rfl⟩ rfl (Nat.le_of_ble_eq_true rfl) ⟨Nat.le_of_ble_eq_true rfl, Nat.le_of_ble_eq_true rfl⟩ dX4_strike_21 (fun H locs hM => ?_)
      refine lv_aload_n C0.1 C0.2.1 dX4_strike_24 rfl (lv_at hl 0 rfl) ?_
      obtain ⟨M10, h9, hF⟩ := bd_some hF
      refine y_vv (rest := []) C0 hM hl.1 ok_tt (ent4 ok_tt) rfl (k_X4_save l G M7 h9) cw_RX4_48 rfl rfl ⟨Nat.le_of_ble_eq_true rfl, Nat.le_of_ble_eq_true rfl⟩ rfl (Nat.le_of_ble_eq_true rfl) ⟨Nat.le_of_ble_eq_true rfl, Nat.le_of_ble_eq_true rfl⟩ dX4_strike_25 (fun H locs hM => ?_)
      refine lv_aload_n C0.1 C0.2.1 dX4_strike_28 rfl (lv_at hl 0 rfl) ?_
      refine gf4_0 C0 hM ok_tt fl_RX4_10 dX4_strike_29 ?_
      refine lv_iconst (v := (0 : Int32)) C0.1 C0.2.1 dX4_strike_32 (by decide) ?_
      refine lv_iload_n C0.1 C0.2.1 dX4_strike_33 rfl (lv_at hl 1 rfl) ?_
      refine lv_iconst (v := (-1 : Int32)) C0.1 C0.2.1 dX4_strike_34 (by decide) ?_
      refine lv_iconst (v := (0 : Int32)) C0.1 C0.2.1 dX4_strike_35 (by decide) ?_
      obtain ⟨r13, M12, h11, hF⟩ := bd2_some hF
      refine y_vi (rest := []) C0 hM hl.1 ok_now (ent3 ok_now) rfl (k_X3_act l G M10 0 (0 : Int32) a0 (-1 : Int32) (0 : Int32) h11 ok_now) cw_RX4_68 rfl rfl ⟨Nat.le_of_ble_eq_true rfl, Nat.le_of_ble_eq_true rfl⟩ rfl (Nat.le_of_ble_eq_true rfl) ⟨Nat.le_of_ble_eq_true rfl, Nat.le_of_ble_eq_true rfl⟩ dX4_strike_36 (fun H locs hM => ?_)
      obtain ⟨e7, e8, e9⟩ := y_3 hF
      subst e8
      subst e9
      exact x_iret C0 hM hsz e7.symm (Nat.le_of_ble_eq_true rfl) (Nat.le_of_ble_eq_true rfl) dX4_strike_39
    · exact x_sv1 (rest := []) C0 hM hT hsz hex hl.1 h8 (k_X4_requireState l hst G B0 sa M2 r5 h6) cw_RX4_45 rfl rfl ⟨Nat.le_of_ble_eq_true rfl, Nat.le_of_ble_eq_true rfl⟩ rfl (Nat.le_of_ble_eq_true rfl) ⟨Nat.le_of_ble_eq_true rfl, Nat.le_of_ble_eq_true rfl⟩ (Nat.le_of_ble_eq_true rfl) (Nat.le_of_ble_eq_true rfl) dX4_strike_21
  · exact x_vv1 (rest := []) C0 hM hT hsz hex hl.1 ok_tt (ent4 ok_tt) rfl h3 (k_X4_requireFighter l hst G B0 sa M a0 h1) cw_RX4_61 rfl rfl ⟨Nat.le_of_ble_eq_true rfl, Nat.le_of_ble_eq_true rfl⟩ rfl (Nat.le_of_ble_eq_true rfl) ⟨Nat.le_of_ble_eq_true rfl, Nat.le_of_ble_eq_true rfl⟩ (Nat.le_of_ble_eq_true rfl) (Nat.le_of_ble_eq_true rfl) dX4_strike_2

def F_X4_step (M : MS) (a0 : Int32) : Option (Nat × Int32 × MS) := (bd (F_X4_isWithin M a0 (0 : Int32) (9 : Int32)) fun r2 => (bx (F_X4_requireArgument M r2) (fun M4 => (bd (F_X3_isPossible M4 0 (rF M4 54 0) (1 : Int32) a0) fun r7 => (bx (F_X4_requireState M4 r7) (fun M9 => (bd (F_X4_save M9) fun M12 => (bd2 (F_X3_act M12 0 (1 : Int32) a0 (-1 : Int32) (0 : Int32)) fun r15 M14 => (some (0, r15, M14))))) (0 : Int32)))) (0 : Int32)))

set_option maxHeartbeats 4000000 in
set_option maxRecDepth 100000 in
theorem k_X4_step (l : Launch) (hst : l.stackTraces = false) (G : GG) (B0 : Nat) (sa : Nat × Nat × Nat) (M : MS) (a0 : Int32) {k : Nat} {r : Int32} {Mf : MS} (hF : F_X4_step M a0 = some (k, r, Mf)) : XI l yX4_step (WS yX4_step cX4_step 2 (some .int)) (RmX 7) G B0 sa [.ref (gad G 216), .int a0] M k r Mf := by
  intro sz
  refine x_met (by decide +kernel) (Nat.le_of_ble_eq_true rfl) (fun p e s m below meth c ls hsz C0 hex hM hT hl => ?_)
  have hl : lv_has ls 2 [(0, .ref (gad G 216)), (1, .int a0)] := hl
  have C0 : CX p s m meth c ([.ref (gad G 216), .int a0] : List Value).toArray cX4_step RX4 2 (some .int) := C0
  rw [F_X4_step] at hF
  refine lv_iload_n C0.1 C0.2.1 dX4_step_0 rfl (lv_at hl 1 rfl) ?_
  refine lv_iconst (v := (0 : Int32)) C0.1 C0.2.1 dX4_step_1 (by decide) ?_
  refine lv_bipush (v := (9 : Int32)) C0.1 C0.2.1 dX4_step_2 (by decide) ?_
  obtain ⟨r2, h1, hF⟩ := bd_some hF
  refine y_si (rest := []) C0 hM hl.1 (k_X4_isWithin l G M a0 (0 : Int32) (9 : Int32) h1) cw_RX4_34 rfl rfl ⟨Nat.le_of_ble_eq_true rfl, Nat.le_of_ble_eq_true rfl⟩ rfl (Nat.le_of_ble_eq_true rfl) ⟨Nat.le_of_ble_eq_true rfl, Nat.le_of_ble_eq_true rfl⟩ dX4_step_4 (fun H locs hM => ?_)
  rcases bx_some hF with ⟨M4, h3, hF⟩ | ⟨h3, h5⟩
  · refine x_sv0 (rest := []) C0 hM hT hl.1 (k_X4_requireArgument l hst G B0 sa M r2 h3) cw_RX4_38 rfl rfl ⟨Nat.le_of_ble_eq_true rfl, Nat.le_of_ble_eq_true rfl⟩ rfl (Nat.le_of_ble_eq_true rfl) ⟨Nat.le_of_ble_eq_true rfl, Nat.le_of_ble_eq_true rfl⟩ dX4_step_7 (fun H locs hM => ?_)
    refine lv_aload_n C0.1 C0.2.1 dX4_step_10 rfl (lv_at hl 0 rfl) ?_
    refine gf4_0 C0 hM ok_tt fl_RX4_10 dX4_step_11 ?_
    refine lv_aload_n C0.1 C0.2.1 dX4_step_14 rfl (lv_at hl 0 rfl) ?_
    refine gf4_0 C0 hM ok_tt fl_RX4_10 dX4_step_15 ?_
    refine gf3_6 C0 hM ok_now fl_RX4_58 dX4_step_18 ?_
    refine lv_iconst (v := (1 : Int32)) C0.1 C0.2.1 dX4_step_21 (by decide) ?_
    refine lv_iload_n C0.1 C0.2.1 dX4_step_22 rfl (lv_at hl 1 rfl) ?_
    obtain ⟨r7, h6, hF⟩ := bd_some hF
    refine y_vi (rest := []) C0 hM hl.1 ok_now (ent3 ok_now) rfl (k_X3_isPossible l G M4 0 (rF M4 54 0) (1 : Int32) a0 h6 ok_now) cw_RX4_65 rfl rfl ⟨Nat.le_of_ble_eq_true rfl, Nat.le_of_ble_eq_true rfl⟩ rfl (Nat.le_of_ble_eq_true rfl) ⟨Nat.le_of_ble_eq_true rfl, Nat.le_of_ble_eq_true rfl⟩ dX4_step_23 (fun H locs hM => ?_)
    rcases bx_some hF with ⟨M9, h8, hF⟩ | ⟨h8, h10⟩
    · refine x_sv0 (rest := []) C0 hM hT hl.1 (k_X4_requireState l hst G B0 sa M4 r7 h8) cw_RX4_45 rfl rfl ⟨Nat.le_of_ble_eq_true rfl, Nat.le_of_ble_eq_true rfl⟩ rfl (Nat.le_of_ble_eq_true rfl) ⟨Nat.le_of_ble_eq_true rfl, Nat.le_of_ble_eq_true rfl⟩ dX4_step_26 (fun H locs hM => ?_)
      refine lv_aload_n C0.1 C0.2.1 dX4_step_29 rfl (lv_at hl 0 rfl) ?_
      obtain ⟨M12, h11, hF⟩ := bd_some hF
      refine y_vv (rest := []) C0 hM hl.1 ok_tt (ent4 ok_tt) rfl (k_X4_save l G M9 h11) cw_RX4_48 rfl rfl ⟨Nat.le_of_ble_eq_true rfl, Nat.le_of_ble_eq_true rfl⟩ rfl (Nat.le_of_ble_eq_true rfl) ⟨Nat.le_of_ble_eq_true rfl, Nat.le_of_ble_eq_true rfl⟩ dX4_step_30 (fun H locs hM => ?_)
      refine lv_aload_n C0.1 C0.2.1 dX4_step_33 rfl (lv_at hl 0 rfl) ?_
      refine gf4_0 C0 hM ok_tt fl_RX4_10 dX4_step_34 ?_
      refine lv_iconst (v := (1 : Int32)) C0.1 C0.2.1 dX4_step_37 (by decide) ?_
      refine lv_iload_n C0.1 C0.2.1 dX4_step_38 rfl (lv_at hl 1 rfl) ?_
      refine lv_iconst (v := (-1 : Int32)) C0.1 C0.2.1 dX4_step_39 (by decide) ?_
      refine lv_iconst (v := (0 : Int32)) C0.1 C0.2.1 dX4_step_40 (by decide) ?_
      obtain ⟨r15, M14, h13, hF⟩ := bd2_some hF
      refine y_vi (rest := []) C0 hM hl.1 ok_now (ent3 ok_now) rfl (k_X3_act l G M12 0 (1 : Int32) a0 (-1 : Int32) (0 : Int32) h13 ok_now) cw_RX4_68 rfl rfl ⟨Nat.le_of_ble_eq_true rfl, Nat.le_of_ble_eq_true rfl⟩ rfl (Nat.le_of_ble_eq_true rfl) ⟨Nat.le_of_ble_eq_true rfl, Nat.le_of_ble_eq_true rfl⟩ dX4_step_41 (fun H locs hM => ?_)
      obtain ⟨e7, e8, e9⟩ := y_3 hF
      subst e8
      subst e9
      exact x_iret C0 hM hsz e7.symm (Nat.le_of_ble_eq_true rfl) (Nat.le_of_ble_eq_true rfl) dX4_step_44
    · exact x_sv1 (rest := []) C0 hM hT hsz hex hl.1 h10 (k_X4_requireState l hst G B0 sa M4 r7 h8) cw_RX4_45 rfl rfl ⟨Nat.le_of_ble_eq_true rfl, Nat.le_of_ble_eq_true rfl⟩ rfl (Nat.le_of_ble_eq_true rfl) ⟨Nat.le_of_ble_eq_true rfl, Nat.le_of_ble_eq_true rfl⟩ (Nat.le_of_ble_eq_true rfl) (Nat.le_of_ble_eq_true rfl) dX4_step_26
  · exact x_sv1 (rest := []) C0 hM hT hsz hex hl.1 h5 (k_X4_requireArgument l hst G B0 sa M r2 h3) cw_RX4_38 rfl rfl ⟨Nat.le_of_ble_eq_true rfl, Nat.le_of_ble_eq_true rfl⟩ rfl (Nat.le_of_ble_eq_true rfl) ⟨Nat.le_of_ble_eq_true rfl, Nat.le_of_ble_eq_true rfl⟩ (Nat.le_of_ble_eq_true rfl) (Nat.le_of_ble_eq_true rfl) dX4_step_7

def F_X4_help (M : MS) (a0 : Int32) : Option (Nat × Int32 × MS) := (bx (F_X4_requireFighter M a0) (fun M2 => (bd (F_X3_isPossible M2 0 (rF M2 54 0) (2 : Int32) a0) fun r5 => (bx (F_X4_requireState M2 r5) (fun M7 => (bd (F_X4_save M7) fun M10 => (bd2 (F_X3_act M10 0 (2 : Int32) a0 (-1 : Int32) (0 : Int32)) fun r13 M12 => (some (0, r13, M12))))) (0 : Int32)))) (0 : Int32))

set_option maxHeartbeats 4000000 in
set_option maxRecDepth 100000 in
theorem k_X4_help (l : Launch) (hst : l.stackTraces = false) (G : GG) (B0 : Nat) (sa : Nat × Nat × Nat) (M : MS) (a0 : Int32) {k : Nat} {r : Int32} {Mf : MS} (hF : F_X4_help M a0 = some (k, r, Mf)) : XI l yX4_help (WS yX4_help cX4_help 2 (some .int)) (RmX 7) G B0 sa [.ref (gad G 216), .int a0] M k r Mf := by
  intro sz
  refine x_met (by decide +kernel) (Nat.le_of_ble_eq_true rfl) (fun p e s m below meth c ls hsz C0 hex hM hT hl => ?_)
  have hl : lv_has ls 2 [(0, .ref (gad G 216)), (1, .int a0)] := hl
  have C0 : CX p s m meth c ([.ref (gad G 216), .int a0] : List Value).toArray cX4_help RX4 2 (some .int) := C0
  rw [F_X4_help] at hF
  refine lv_aload_n C0.1 C0.2.1 dX4_help_0 rfl (lv_at hl 0 rfl) ?_
  refine lv_iload_n C0.1 C0.2.1 dX4_help_1 rfl (lv_at hl 1 rfl) ?_
  rcases bx_some hF with ⟨M2, h1, hF⟩ | ⟨h1, h3⟩
  · refine x_vv0 (rest := []) C0 hM hT hl.1 ok_tt (ent4 ok_tt) rfl (k_X4_requireFighter l hst G B0 sa M a0 h1) cw_RX4_61 rfl rfl ⟨Nat.le_of_ble_eq_true rfl, Nat.le_of_ble_eq_true rfl⟩ rfl (Nat.le_of_ble_eq_true rfl) ⟨Nat.le_of_ble_eq_true rfl, Nat.le_of_ble_eq_true rfl⟩ dX4_help_2 (fun H locs hM => ?_)
    refine lv_aload_n C0.1 C0.2.1 dX4_help_5 rfl (lv_at hl 0 rfl) ?_
    refine gf4_0 C0 hM ok_tt fl_RX4_10 dX4_help_6 ?_
    refine lv_aload_n C0.1 C0.2.1 dX4_help_9 rfl (lv_at hl 0 rfl) ?_
    refine gf4_0 C0 hM ok_tt fl_RX4_10 dX4_help_10 ?_
    refine gf3_6 C0 hM ok_now fl_RX4_58 dX4_help_13 ?_
    refine lv_iconst (v := (2 : Int32)) C0.1 C0.2.1 dX4_help_16 (by decide) ?_
    refine lv_iload_n C0.1 C0.2.1 dX4_help_17 rfl (lv_at hl 1 rfl) ?_
    obtain ⟨r5, h4, hF⟩ := bd_some hF
    refine y_vi (rest := []) C0 hM hl.1 ok_now (ent3 ok_now) rfl (k_X3_isPossible l G M2 0 (rF M2 54 0) (2 : Int32) a0 h4 ok_now) cw_RX4_65 rfl rfl ⟨Nat.le_of_ble_eq_true rfl, Nat.le_of_ble_eq_true rfl⟩ rfl (Nat.le_of_ble_eq_true rfl) ⟨Nat.le_of_ble_eq_true rfl, Nat.le_of_ble_eq_true rfl⟩ dX4_help_18 (fun H locs hM => ?_)
    rcases bx_some hF with ⟨M7, h6, hF⟩ | ⟨h6, h8⟩
    · refine x_sv0 (rest := []) C0 hM hT hl.1 (k_X4_requireState l hst G B0 sa M2 r5 h6) cw_RX4_45 rfl rfl ⟨Nat.le_of_ble_eq_true rfl, Nat.le_of_ble_eq_true rfl⟩ rfl (Nat.le_of_ble_eq_true rfl) ⟨Nat.le_of_ble_eq_true rfl, Nat.le_of_ble_eq_true rfl⟩ dX4_help_21 (fun H locs hM => ?_)
      refine lv_aload_n C0.1 C0.2.1 dX4_help_24 rfl (lv_at hl 0 rfl) ?_
      obtain ⟨M10, h9, hF⟩ := bd_some hF
      refine y_vv (rest := []) C0 hM hl.1 ok_tt (ent4 ok_tt) rfl (k_X4_save l G M7 h9) cw_RX4_48 rfl rfl ⟨Nat.le_of_ble_eq_true rfl, Nat.le_of_ble_eq_true rfl⟩ rfl (Nat.le_of_ble_eq_true rfl) ⟨Nat.le_of_ble_eq_true rfl, Nat.le_of_ble_eq_true rfl⟩ dX4_help_25 (fun H locs hM => ?_)
      refine lv_aload_n C0.1 C0.2.1 dX4_help_28 rfl (lv_at hl 0 rfl) ?_
      refine gf4_0 C0 hM ok_tt fl_RX4_10 dX4_help_29 ?_
      refine lv_iconst (v := (2 : Int32)) C0.1 C0.2.1 dX4_help_32 (by decide) ?_
      refine lv_iload_n C0.1 C0.2.1 dX4_help_33 rfl (lv_at hl 1 rfl) ?_
      refine lv_iconst (v := (-1 : Int32)) C0.1 C0.2.1 dX4_help_34 (by decide) ?_
      refine lv_iconst (v := (0 : Int32)) C0.1 C0.2.1 dX4_help_35 (by decide) ?_
      obtain ⟨r13, M12, h11, hF⟩ := bd2_some hF
      refine y_vi (rest := []) C0 hM hl.1 ok_now (ent3 ok_now) rfl (k_X3_act l G M10 0 (2 : Int32) a0 (-1 : Int32) (0 : Int32) h11 ok_now) cw_RX4_68 rfl rfl ⟨Nat.le_of_ble_eq_true rfl, Nat.le_of_ble_eq_true rfl⟩ rfl (Nat.le_of_ble_eq_true rfl) ⟨Nat.le_of_ble_eq_true rfl, Nat.le_of_ble_eq_true rfl⟩ dX4_help_36 (fun H locs hM => ?_)
      obtain ⟨e7, e8, e9⟩ := y_3 hF
      subst e8
      subst e9
      exact x_iret C0 hM hsz e7.symm (Nat.le_of_ble_eq_true rfl) (Nat.le_of_ble_eq_true rfl) dX4_help_39
    · exact x_sv1 (rest := []) C0 hM hT hsz hex hl.1 h8 (k_X4_requireState l hst G B0 sa M2 r5 h6) cw_RX4_45 rfl rfl ⟨Nat.le_of_ble_eq_true rfl, Nat.le_of_ble_eq_true rfl⟩ rfl (Nat.le_of_ble_eq_true rfl) ⟨Nat.le_of_ble_eq_true rfl, Nat.le_of_ble_eq_true rfl⟩ (Nat.le_of_ble_eq_true rfl) (Nat.le_of_ble_eq_true rfl) dX4_help_21
  · exact x_vv1 (rest := []) C0 hM hT hsz hex hl.1 ok_tt (ent4 ok_tt) rfl h3 (k_X4_requireFighter l hst G B0 sa M a0 h1) cw_RX4_61 rfl rfl ⟨Nat.le_of_ble_eq_true rfl, Nat.le_of_ble_eq_true rfl⟩ rfl (Nat.le_of_ble_eq_true rfl) ⟨Nat.le_of_ble_eq_true rfl, Nat.le_of_ble_eq_true rfl⟩ (Nat.le_of_ble_eq_true rfl) (Nat.le_of_ble_eq_true rfl) dX4_help_2

def F_X4_curse (M : MS) (a0 : Int32) (a1 : Int32) (a2 : Int32) : Option (Nat × Int32 × MS) := (bx (F_X4_requireFighter M a0) (fun M2 => (bd (F_X4_isWithin M2 a1 (0 : Int32) (3 : Int32)) fun r5 => (nm (fun (s6 : Int32) => (bx (F_X4_requireArgument M2 s6) (fun M9 => (bd (F_X3_isPossible M9 0 (rF M9 54 0) (3 : Int32) a0) fun r12 => (bx (F_X4_requireState M9 r12) (fun M14 => (bd (F_X4_save M14) fun M17 => (bd2 (F_X3_act M17 0 (3 : Int32) a0 a1 a2) fun r20 M19 => (some (0, r20, M19))))) (0 : Int32)))) (0 : Int32))) fun j28_6 => (if r5 = 0 then (j28_6 (0 : Int32)) else (bd (F_X4_isWithin M2 a2 (1 : Int32) (5 : Int32)) fun r23 => (if r23 = 0 then (j28_6 (0 : Int32)) else (j28_6 (1 : Int32)))))))) (0 : Int32))

set_option maxHeartbeats 4000000 in
set_option maxRecDepth 100000 in
theorem k_X4_curse (l : Launch) (hst : l.stackTraces = false) (G : GG) (B0 : Nat) (sa : Nat × Nat × Nat) (M : MS) (a0 : Int32) (a1 : Int32) (a2 : Int32) {k : Nat} {r : Int32} {Mf : MS} (hF : F_X4_curse M a0 a1 a2 = some (k, r, Mf)) : XI l yX4_curse (WS yX4_curse cX4_curse 4 (some .int)) (RmX 7) G B0 sa [.ref (gad G 216), .int a0, .int a1, .int a2] M k r Mf := by
  intro sz
  refine x_met (by decide +kernel) (Nat.le_of_ble_eq_true rfl) (fun p e s m below meth c ls hsz C0 hex hM hT hl => ?_)
  have hl : lv_has ls 4 [(0, .ref (gad G 216)), (1, .int a0), (2, .int a1), (3, .int a2)] := hl
  have C0 : CX p s m meth c ([.ref (gad G 216), .int a0, .int a1, .int a2] : List Value).toArray cX4_curse RX4 4 (some .int) := C0
  rw [F_X4_curse] at hF
  refine lv_aload_n C0.1 C0.2.1 dX4_curse_0 rfl (lv_at hl 0 rfl) ?_
  refine lv_iload_n C0.1 C0.2.1 dX4_curse_1 rfl (lv_at hl 1 rfl) ?_
  rcases bx_some hF with ⟨M2, h1, hF⟩ | ⟨h1, h3⟩
  · refine x_vv0 (rest := []) C0 hM hT hl.1 ok_tt (ent4 ok_tt) rfl (k_X4_requireFighter l hst G B0 sa M a0 h1) cw_RX4_61 rfl rfl ⟨Nat.le_of_ble_eq_true rfl, Nat.le_of_ble_eq_true rfl⟩ rfl (Nat.le_of_ble_eq_true rfl) ⟨Nat.le_of_ble_eq_true rfl, Nat.le_of_ble_eq_true rfl⟩ dX4_curse_2 (fun H locs hM => ?_)
    refine lv_iload_n C0.1 C0.2.1 dX4_curse_5 rfl (lv_at hl 2 rfl) ?_
    refine lv_iconst (v := (0 : Int32)) C0.1 C0.2.1 dX4_curse_6 (by decide) ?_
    refine lv_iconst (v := (3 : Int32)) C0.1 C0.2.1 dX4_curse_7 (by decide) ?_
    obtain ⟨r5, h4, hF⟩ := bd_some hF
    refine y_si (rest := []) C0 hM hl.1 (k_X4_isWithin l G M2 a1 (0 : Int32) (3 : Int32) h4) cw_RX4_34 rfl rfl ⟨Nat.le_of_ble_eq_true rfl, Nat.le_of_ble_eq_true rfl⟩ rfl (Nat.le_of_ble_eq_true rfl) ⟨Nat.le_of_ble_eq_true rfl, Nat.le_of_ble_eq_true rfl⟩ dX4_curse_8 (fun H locs hM => ?_)
    obtain ⟨j28_6, ej28_6, hF⟩ := nm_some hF
    have J28 : ∀ (s6 : Int32) (H : Heap) (locs : List Loc) (ls : Array Slot), MX G M2 s H locs → lv_has ls 4 [(0, .ref (gad G 216)), (1, .int a0), (2, .int a1), (3, .int a2)] → j28_6 s6 = some (k, r, Mf) → W p l e (RmX 7) s m ([.ref (gad G 216), .int a0, .int a1, .int a2] : List Value).toArray below meth c H locs 1 6 (QXI below ([.ref (gad G 216), .int a0, .int a1, .int a2] : List Value).toArray s G sz k r Mf) (F0 m 28 ls [.int s6]) := by
      intro s6 H locs ls hM hl hF
      rw [ej28_6] at hF
      rcases bx_some hF with ⟨M9, h8, hF⟩ | ⟨h8, h10⟩
      · refine x_sv0 (rest := []) C0 hM hT hl.1 (k_X4_requireArgument l hst G B0 sa M2 s6 h8) cw_RX4_38 rfl rfl ⟨Nat.le_of_ble_eq_true rfl, Nat.le_of_ble_eq_true rfl⟩ rfl (Nat.le_of_ble_eq_true rfl) ⟨Nat.le_of_ble_eq_true rfl, Nat.le_of_ble_eq_true rfl⟩ dX4_curse_28 (fun H locs hM => ?_)
        refine lv_aload_n C0.1 C0.2.1 dX4_curse_31 rfl (lv_at hl 0 rfl) ?_
        refine gf4_0 C0 hM ok_tt fl_RX4_10 dX4_curse_32 ?_
        refine lv_aload_n C0.1 C0.2.1 dX4_curse_35 rfl (lv_at hl 0 rfl) ?_
        refine gf4_0 C0 hM ok_tt fl_RX4_10 dX4_curse_36 ?_
        refine gf3_6 C0 hM ok_now fl_RX4_58 dX4_curse_39 ?_
        refine lv_iconst (v := (3 : Int32)) C0.1 C0.2.1 dX4_curse_42 (by decide) ?_
        refine lv_iload_n C0.1 C0.2.1 dX4_curse_43 rfl (lv_at hl 1 rfl) ?_
        obtain ⟨r12, h11, hF⟩ := bd_some hF
        refine y_vi (rest := []) C0 hM hl.1 ok_now (ent3 ok_now) rfl (k_X3_isPossible l G M9 0 (rF M9 54 0) (3 : Int32) a0 h11 ok_now) cw_RX4_65 rfl rfl ⟨Nat.le_of_ble_eq_true rfl, Nat.le_of_ble_eq_true rfl⟩ rfl (Nat.le_of_ble_eq_true rfl) ⟨Nat.le_of_ble_eq_true rfl, Nat.le_of_ble_eq_true rfl⟩ dX4_curse_44 (fun H locs hM => ?_)
        rcases bx_some hF with ⟨M14, h13, hF⟩ | ⟨h13, h15⟩
        · refine x_sv0 (rest := []) C0 hM hT hl.1 (k_X4_requireState l hst G B0 sa M9 r12 h13) cw_RX4_45 rfl rfl ⟨Nat.le_of_ble_eq_true rfl, Nat.le_of_ble_eq_true rfl⟩ rfl (Nat.le_of_ble_eq_true rfl) ⟨Nat.le_of_ble_eq_true rfl, Nat.le_of_ble_eq_true rfl⟩ dX4_curse_47 (fun H locs hM => ?_)
          refine lv_aload_n C0.1 C0.2.1 dX4_curse_50 rfl (lv_at hl 0 rfl) ?_
          obtain ⟨M17, h16, hF⟩ := bd_some hF
          refine y_vv (rest := []) C0 hM hl.1 ok_tt (ent4 ok_tt) rfl (k_X4_save l G M14 h16) cw_RX4_48 rfl rfl ⟨Nat.le_of_ble_eq_true rfl, Nat.le_of_ble_eq_true rfl⟩ rfl (Nat.le_of_ble_eq_true rfl) ⟨Nat.le_of_ble_eq_true rfl, Nat.le_of_ble_eq_true rfl⟩ dX4_curse_51 (fun H locs hM => ?_)
          refine lv_aload_n C0.1 C0.2.1 dX4_curse_54 rfl (lv_at hl 0 rfl) ?_
          refine gf4_0 C0 hM ok_tt fl_RX4_10 dX4_curse_55 ?_
          refine lv_iconst (v := (3 : Int32)) C0.1 C0.2.1 dX4_curse_58 (by decide) ?_
          refine lv_iload_n C0.1 C0.2.1 dX4_curse_59 rfl (lv_at hl 1 rfl) ?_
          refine lv_iload_n C0.1 C0.2.1 dX4_curse_60 rfl (lv_at hl 2 rfl) ?_
          refine lv_iload_n C0.1 C0.2.1 dX4_curse_61 rfl (lv_at hl 3 rfl) ?_
          obtain ⟨r20, M19, h18, hF⟩ := bd2_some hF
          refine y_vi (rest := []) C0 hM hl.1 ok_now (ent3 ok_now) rfl (k_X3_act l G M17 0 (3 : Int32) a0 a1 a2 h18 ok_now) cw_RX4_68 rfl rfl ⟨Nat.le_of_ble_eq_true rfl, Nat.le_of_ble_eq_true rfl⟩ rfl (Nat.le_of_ble_eq_true rfl) ⟨Nat.le_of_ble_eq_true rfl, Nat.le_of_ble_eq_true rfl⟩ dX4_curse_62 (fun H locs hM => ?_)
          obtain ⟨e7, e8, e9⟩ := y_3 hF
          subst e8
          subst e9
          exact x_iret C0 hM hsz e7.symm (Nat.le_of_ble_eq_true rfl) (Nat.le_of_ble_eq_true rfl) dX4_curse_65
        · exact x_sv1 (rest := []) C0 hM hT hsz hex hl.1 h15 (k_X4_requireState l hst G B0 sa M9 r12 h13) cw_RX4_45 rfl rfl ⟨Nat.le_of_ble_eq_true rfl, Nat.le_of_ble_eq_true rfl⟩ rfl (Nat.le_of_ble_eq_true rfl) ⟨Nat.le_of_ble_eq_true rfl, Nat.le_of_ble_eq_true rfl⟩ (Nat.le_of_ble_eq_true rfl) (Nat.le_of_ble_eq_true rfl) dX4_curse_47
      · exact x_sv1 (rest := []) C0 hM hT hsz hex hl.1 h10 (k_X4_requireArgument l hst G B0 sa M2 s6 h8) cw_RX4_38 rfl rfl ⟨Nat.le_of_ble_eq_true rfl, Nat.le_of_ble_eq_true rfl⟩ rfl (Nat.le_of_ble_eq_true rfl) ⟨Nat.le_of_ble_eq_true rfl, Nat.le_of_ble_eq_true rfl⟩ (Nat.le_of_ble_eq_true rfl) (Nat.le_of_ble_eq_true rfl) dX4_curse_28
    refine lv_if_eq (tgt := 27) C0.1 C0.2.1 dX4_curse_11 (by decide) (fun c21 => ?_) (fun c21 => ?_)
    · have hF := if_t c21 hF
      refine lv_iconst (v := (0 : Int32)) C0.1 C0.2.1 dX4_curse_27 (by decide) ?_
      exact J28 (0 : Int32) _ _ _ hM (lv_sub hl [0, 1, 2, 3] rfl) hF
    · have hF := if_f c21 hF
      refine lv_iload_n C0.1 C0.2.1 dX4_curse_14 rfl (lv_at hl 3 rfl) ?_
      refine lv_iconst (v := (1 : Int32)) C0.1 C0.2.1 dX4_curse_15 (by decide) ?_
      refine lv_iconst (v := (5 : Int32)) C0.1 C0.2.1 dX4_curse_16 (by decide) ?_
      obtain ⟨r23, h22, hF⟩ := bd_some hF
      refine y_si (rest := []) C0 hM hl.1 (k_X4_isWithin l G M2 a2 (1 : Int32) (5 : Int32) h22) cw_RX4_34 rfl rfl ⟨Nat.le_of_ble_eq_true rfl, Nat.le_of_ble_eq_true rfl⟩ rfl (Nat.le_of_ble_eq_true rfl) ⟨Nat.le_of_ble_eq_true rfl, Nat.le_of_ble_eq_true rfl⟩ dX4_curse_17 (fun H locs hM => ?_)
      refine lv_if_eq (tgt := 27) C0.1 C0.2.1 dX4_curse_20 (by decide) (fun c24 => ?_) (fun c24 => ?_)
      · have hF := if_t c24 hF
        refine lv_iconst (v := (0 : Int32)) C0.1 C0.2.1 dX4_curse_27 (by decide) ?_
        exact J28 (0 : Int32) _ _ _ hM (lv_sub hl [0, 1, 2, 3] rfl) hF
      · have hF := if_f c24 hF
        refine lv_iconst (v := (1 : Int32)) C0.1 C0.2.1 dX4_curse_23 (by decide) ?_
        refine lv_goto (tgt := 28) C0.1 C0.2.1 dX4_curse_24 (by decide) ?_
        exact J28 (1 : Int32) _ _ _ hM (lv_sub hl [0, 1, 2, 3] rfl) hF
  · exact x_vv1 (rest := []) C0 hM hT hsz hex hl.1 ok_tt (ent4 ok_tt) rfl h3 (k_X4_requireFighter l hst G B0 sa M a0 h1) cw_RX4_61 rfl rfl ⟨Nat.le_of_ble_eq_true rfl, Nat.le_of_ble_eq_true rfl⟩ rfl (Nat.le_of_ble_eq_true rfl) ⟨Nat.le_of_ble_eq_true rfl, Nat.le_of_ble_eq_true rfl⟩ (Nat.le_of_ble_eq_true rfl) (Nat.le_of_ble_eq_true rfl) dX4_curse_2

def F_X4_delay (M : MS) : Option (Nat × Int32 × MS) := (nm (fun (s1 : Int32) => (bx (F_X4_requireState M s1) (fun M4 => (bd (F_X4_save M4) fun M7 => (bd (F_X3_delayTurn M7 0) fun M9 => (some (0, (rF M9 54 0), M9))))) (0 : Int32))) fun j16_1 => (if (rF M 54 0) = (-1 : Int32) then (j16_1 (0 : Int32)) else (j16_1 (1 : Int32))))

set_option maxHeartbeats 4000000 in
set_option maxRecDepth 100000 in
theorem k_X4_delay (l : Launch) (hst : l.stackTraces = false) (G : GG) (B0 : Nat) (sa : Nat × Nat × Nat) (M : MS) {k : Nat} {r : Int32} {Mf : MS} (hF : F_X4_delay M = some (k, r, Mf)) : XI l yX4_delay (WS yX4_delay cX4_delay 1 (some .int)) (RmX 7) G B0 sa [.ref (gad G 216)] M k r Mf := by
  intro sz
  refine x_met (by decide +kernel) (Nat.le_of_ble_eq_true rfl) (fun p e s m below meth c ls hsz C0 hex hM hT hl => ?_)
  have hl : lv_has ls 1 [(0, .ref (gad G 216))] := hl
  have C0 : CX p s m meth c ([.ref (gad G 216)] : List Value).toArray cX4_delay RX4 1 (some .int) := C0
  rw [F_X4_delay] at hF
  refine lv_aload_n C0.1 C0.2.1 dX4_delay_0 rfl (lv_at hl 0 rfl) ?_
  refine gf4_0 C0 hM ok_tt fl_RX4_10 dX4_delay_1 ?_
  refine gf3_6 C0 hM ok_now fl_RX4_58 dX4_delay_4 ?_
  refine lv_iconst (v := (-1 : Int32)) C0.1 C0.2.1 dX4_delay_7 (by decide) ?_
  obtain ⟨j16_1, ej16_1, hF⟩ := nm_some hF
  have J16 : ∀ (s1 : Int32) (H : Heap) (locs : List Loc) (ls : Array Slot), MX G M s H locs → lv_has ls 1 [(0, .ref (gad G 216))] → j16_1 s1 = some (k, r, Mf) → W p l e (RmX 7) s m ([.ref (gad G 216)] : List Value).toArray below meth c H locs 0 0 (QXI below ([.ref (gad G 216)] : List Value).toArray s G sz k r Mf) (F0 m 16 ls [.int s1]) := by
    intro s1 H locs ls hM hl hF
    rw [ej16_1] at hF
    rcases bx_some hF with ⟨M4, h3, hF⟩ | ⟨h3, h5⟩
    · refine x_sv0 (rest := []) C0 hM hT hl.1 (k_X4_requireState l hst G B0 sa M s1 h3) cw_RX4_45 rfl rfl ⟨Nat.le_of_ble_eq_true rfl, Nat.le_of_ble_eq_true rfl⟩ rfl (Nat.le_of_ble_eq_true rfl) ⟨Nat.le_of_ble_eq_true rfl, Nat.le_of_ble_eq_true rfl⟩ dX4_delay_16 (fun H locs hM => ?_)
      refine lv_aload_n C0.1 C0.2.1 dX4_delay_19 rfl (lv_at hl 0 rfl) ?_
      obtain ⟨M7, h6, hF⟩ := bd_some hF
      refine y_vv (rest := []) C0 hM hl.1 ok_tt (ent4 ok_tt) rfl (k_X4_save l G M4 h6) cw_RX4_48 rfl rfl ⟨Nat.le_of_ble_eq_true rfl, Nat.le_of_ble_eq_true rfl⟩ rfl (Nat.le_of_ble_eq_true rfl) ⟨Nat.le_of_ble_eq_true rfl, Nat.le_of_ble_eq_true rfl⟩ dX4_delay_20 (fun H locs hM => ?_)
      refine lv_aload_n C0.1 C0.2.1 dX4_delay_23 rfl (lv_at hl 0 rfl) ?_
      refine gf4_0 C0 hM ok_tt fl_RX4_10 dX4_delay_24 ?_
      obtain ⟨M9, h8, hF⟩ := bd_some hF
      refine y_vv (rest := []) C0 hM hl.1 ok_now (ent3 ok_now) rfl (k_X3_delayTurn l G M7 0 h8 ok_now) cw_RX4_71 rfl rfl ⟨Nat.le_of_ble_eq_true rfl, Nat.le_of_ble_eq_true rfl⟩ rfl (Nat.le_of_ble_eq_true rfl) ⟨Nat.le_of_ble_eq_true rfl, Nat.le_of_ble_eq_true rfl⟩ dX4_delay_27 (fun H locs hM => ?_)
      refine lv_aload_n C0.1 C0.2.1 dX4_delay_30 rfl (lv_at hl 0 rfl) ?_
      refine gf4_0 C0 hM ok_tt fl_RX4_10 dX4_delay_31 ?_
      refine gf3_6 C0 hM ok_now fl_RX4_58 dX4_delay_34 ?_
      obtain ⟨e7, e8, e9⟩ := y_3 hF
      subst e8
      subst e9
      exact x_iret C0 hM hsz e7.symm (Nat.le_of_ble_eq_true rfl) (Nat.le_of_ble_eq_true rfl) dX4_delay_37
    · exact x_sv1 (rest := []) C0 hM hT hsz hex hl.1 h5 (k_X4_requireState l hst G B0 sa M s1 h3) cw_RX4_45 rfl rfl ⟨Nat.le_of_ble_eq_true rfl, Nat.le_of_ble_eq_true rfl⟩ rfl (Nat.le_of_ble_eq_true rfl) ⟨Nat.le_of_ble_eq_true rfl, Nat.le_of_ble_eq_true rfl⟩ (Nat.le_of_ble_eq_true rfl) (Nat.le_of_ble_eq_true rfl) dX4_delay_16
  refine lv_icmp_eq (tgt := 15) C0.1 C0.2.1 dX4_delay_8 (by decide) (fun c10 => ?_) (fun c10 => ?_)
  · have hF := if_t c10 hF
    refine lv_iconst (v := (0 : Int32)) C0.1 C0.2.1 dX4_delay_15 (by decide) ?_
    exact J16 (0 : Int32) _ _ _ hM (lv_sub hl [0] rfl) hF
  · have hF := if_f c10 hF
    refine lv_iconst (v := (1 : Int32)) C0.1 C0.2.1 dX4_delay_11 (by decide) ?_
    refine lv_goto (tgt := 16) C0.1 C0.2.1 dX4_delay_12 (by decide) ?_
    exact J16 (1 : Int32) _ _ _ hM (lv_sub hl [0] rfl) hF

def F_X4_ready (M : MS) (a0 : Int32) (a1 : Int32) (a2 : Int32) (a3 : Int32) : Option (Nat × Int32 × MS) := (bx (F_X4_requireFighter M a1) (fun M2 => (nm (fun (M4 : MS) => (nm (fun (s6 : Int32) => (bx (F_X4_requireArgument M4 s6) (fun M9 => (nm (fun (s11 : Int32) => (bx (F_X4_requireState M9 s11) (fun M14 => (bd (F_X4_save M14) fun M17 => (bd (F_X3_readyAct M17 0 a0 a1 a2 a3) fun M19 => (some (0, (rF M19 54 0), M19))))) (0 : Int32))) fun j80_11 => (if (rF M9 54 0) = (-1 : Int32) then (j80_11 (0 : Int32)) else (if a1 = (rF M9 54 0) then (j80_11 (0 : Int32)) else (if a2 = (rF M9 54 0) then (j80_11 (0 : Int32)) else (j80_11 (1 : Int32))))))) (0 : Int32))) fun j39_6 => (nm (bd (F_X4_isWithin M4 a3 (0 : Int32) (3 : Int32)) fun r25 => (if r25 = 0 then (j39_6 (0 : Int32)) else (j39_6 (1 : Int32)))) fun j24_22 => (if a0 = 0 then j24_22 else (if ¬ a0 = (2 : Int32) then (j39_6 (0 : Int32)) else j24_22))))) fun j15_4 => (if a2 = (-1 : Int32) then (j15_4 M2) else (bx (F_X4_requireFighter M2 a2) (fun M31 => (j15_4 M31)) (0 : Int32))))) (0 : Int32))

set_option maxHeartbeats 4000000 in
set_option maxRecDepth 100000 in
theorem k_X4_ready (l : Launch) (hst : l.stackTraces = false) (G : GG) (B0 : Nat) (sa : Nat × Nat × Nat) (M : MS) (a0 : Int32) (a1 : Int32) (a2 : Int32) (a3 : Int32) {k : Nat} {r : Int32} {Mf : MS} (hF : F_X4_ready M a0 a1 a2 a3 = some (k, r, Mf)) : XI l yX4_ready (WS yX4_ready cX4_ready 5 (some .int)) (RmX 7) G B0 sa [.ref (gad G 216), .int a0, .int a1, .int a2, .int a3] M k r Mf := by
  intro sz
  refine x_met (by decide +kernel) (Nat.le_of_ble_eq_true rfl) (fun p e s m below meth c ls hsz C0 hex hM hT hl => ?_)
  have hl : lv_has ls 5 [(0, .ref (gad G 216)), (1, .int a0), (2, .int a1), (3, .int a2), (4, .int a3)] := hl
  have C0 : CX p s m meth c ([.ref (gad G 216), .int a0, .int a1, .int a2, .int a3] : List Value).toArray cX4_ready RX4 5 (some .int) := C0
  rw [F_X4_ready] at hF
  refine lv_aload_n C0.1 C0.2.1 dX4_ready_0 rfl (lv_at hl 0 rfl) ?_
  refine lv_iload_n C0.1 C0.2.1 dX4_ready_1 rfl (lv_at hl 2 rfl) ?_
  rcases bx_some hF with ⟨M2, h1, hF⟩ | ⟨h1, h3⟩
  · refine x_vv0 (rest := []) C0 hM hT hl.1 ok_tt (ent4 ok_tt) rfl (k_X4_requireFighter l hst G B0 sa M a1 h1) cw_RX4_61 rfl rfl ⟨Nat.le_of_ble_eq_true rfl, Nat.le_of_ble_eq_true rfl⟩ rfl (Nat.le_of_ble_eq_true rfl) ⟨Nat.le_of_ble_eq_true rfl, Nat.le_of_ble_eq_true rfl⟩ dX4_ready_2 (fun H locs hM => ?_)
    refine lv_iload_n C0.1 C0.2.1 dX4_ready_5 rfl (lv_at hl 3 rfl) ?_
    refine lv_iconst (v := (-1 : Int32)) C0.1 C0.2.1 dX4_ready_6 (by decide) ?_
    obtain ⟨j15_4, ej15_4, hF⟩ := nm_some hF
    have J15 : ∀ (M4 : MS) (H : Heap) (locs : List Loc) (ls : Array Slot), MX G M4 s H locs → lv_has ls 5 [(0, .ref (gad G 216)), (1, .int a0), (2, .int a1), (3, .int a2), (4, .int a3)] → j15_4 M4 = some (k, r, Mf) → W p l e (RmX 7) s m ([.ref (gad G 216), .int a0, .int a1, .int a2, .int a3] : List Value).toArray below meth c H locs 2 12 (QXI below ([.ref (gad G 216), .int a0, .int a1, .int a2, .int a3] : List Value).toArray s G sz k r Mf) (F0 m 15 ls []) := by
      intro M4 H locs ls hM hl hF
      rw [ej15_4] at hF
      refine lv_iload_n C0.1 C0.2.1 dX4_ready_15 rfl (lv_at hl 1 rfl) ?_
      obtain ⟨j39_6, ej39_6, hF⟩ := nm_some hF
      have J39 : ∀ (s6 : Int32) (H : Heap) (locs : List Loc) (ls : Array Slot), MX G M4 s H locs → lv_has ls 5 [(0, .ref (gad G 216)), (1, .int a0), (2, .int a1), (3, .int a2), (4, .int a3)] → j39_6 s6 = some (k, r, Mf) → W p l e (RmX 7) s m ([.ref (gad G 216), .int a0, .int a1, .int a2, .int a3] : List Value).toArray below meth c H locs 2 12 (QXI below ([.ref (gad G 216), .int a0, .int a1, .int a2, .int a3] : List Value).toArray s G sz k r Mf) (F0 m 39 ls [.int s6]) := by
        intro s6 H locs ls hM hl hF
        rw [ej39_6] at hF
        rcases bx_some hF with ⟨M9, h8, hF⟩ | ⟨h8, h10⟩
        · refine x_sv0 (rest := []) C0 hM hT hl.1 (k_X4_requireArgument l hst G B0 sa M4 s6 h8) cw_RX4_38 rfl rfl ⟨Nat.le_of_ble_eq_true rfl, Nat.le_of_ble_eq_true rfl⟩ rfl (Nat.le_of_ble_eq_true rfl) ⟨Nat.le_of_ble_eq_true rfl, Nat.le_of_ble_eq_true rfl⟩ dX4_ready_39 (fun H locs hM => ?_)
          refine lv_aload_n C0.1 C0.2.1 dX4_ready_42 rfl (lv_at hl 0 rfl) ?_
          refine gf4_0 C0 hM ok_tt fl_RX4_10 dX4_ready_43 ?_
          refine gf3_6 C0 hM ok_now fl_RX4_58 dX4_ready_46 ?_
          refine lv_iconst (v := (-1 : Int32)) C0.1 C0.2.1 dX4_ready_49 (by decide) ?_
          obtain ⟨j80_11, ej80_11, hF⟩ := nm_some hF
          have J80 : ∀ (s11 : Int32) (H : Heap) (locs : List Loc) (ls : Array Slot), MX G M9 s H locs → lv_has ls 5 [(0, .ref (gad G 216)), (1, .int a0), (2, .int a1), (3, .int a2), (4, .int a3)] → j80_11 s11 = some (k, r, Mf) → W p l e (RmX 7) s m ([.ref (gad G 216), .int a0, .int a1, .int a2, .int a3] : List Value).toArray below meth c H locs 3 18 (QXI below ([.ref (gad G 216), .int a0, .int a1, .int a2, .int a3] : List Value).toArray s G sz k r Mf) (F0 m 80 ls [.int s11]) := by
            intro s11 H locs ls hM hl hF
            rw [ej80_11] at hF
            rcases bx_some hF with ⟨M14, h13, hF⟩ | ⟨h13, h15⟩
            · refine x_sv0 (rest := []) C0 hM hT hl.1 (k_X4_requireState l hst G B0 sa M9 s11 h13) cw_RX4_45 rfl rfl ⟨Nat.le_of_ble_eq_true rfl, Nat.le_of_ble_eq_true rfl⟩ rfl (Nat.le_of_ble_eq_true rfl) ⟨Nat.le_of_ble_eq_true rfl, Nat.le_of_ble_eq_true rfl⟩ dX4_ready_80 (fun H locs hM => ?_)
              refine lv_aload_n C0.1 C0.2.1 dX4_ready_83 rfl (lv_at hl 0 rfl) ?_
              obtain ⟨M17, h16, hF⟩ := bd_some hF
              refine y_vv (rest := []) C0 hM hl.1 ok_tt (ent4 ok_tt) rfl (k_X4_save l G M14 h16) cw_RX4_48 rfl rfl ⟨Nat.le_of_ble_eq_true rfl, Nat.le_of_ble_eq_true rfl⟩ rfl (Nat.le_of_ble_eq_true rfl) ⟨Nat.le_of_ble_eq_true rfl, Nat.le_of_ble_eq_true rfl⟩ dX4_ready_84 (fun H locs hM => ?_)
              refine lv_aload_n C0.1 C0.2.1 dX4_ready_87 rfl (lv_at hl 0 rfl) ?_
              refine gf4_0 C0 hM ok_tt fl_RX4_10 dX4_ready_88 ?_
              refine lv_iload_n C0.1 C0.2.1 dX4_ready_91 rfl (lv_at hl 1 rfl) ?_
              refine lv_iload_n C0.1 C0.2.1 dX4_ready_92 rfl (lv_at hl 2 rfl) ?_
              refine lv_iload_n C0.1 C0.2.1 dX4_ready_93 rfl (lv_at hl 3 rfl) ?_
              refine lv_iload C0.1 C0.2.1 dX4_ready_94 (lv_at hl 4 rfl) ?_
              obtain ⟨M19, h18, hF⟩ := bd_some hF
              refine y_vv (rest := []) C0 hM hl.1 ok_now (ent3 ok_now) rfl (k_X3_readyAct l G M17 0 a0 a1 a2 a3 h18 ok_now) cw_RX4_74 rfl rfl ⟨Nat.le_of_ble_eq_true rfl, Nat.le_of_ble_eq_true rfl⟩ rfl (Nat.le_of_ble_eq_true rfl) ⟨Nat.le_of_ble_eq_true rfl, Nat.le_of_ble_eq_true rfl⟩ dX4_ready_96 (fun H locs hM => ?_)
              refine lv_aload_n C0.1 C0.2.1 dX4_ready_99 rfl (lv_at hl 0 rfl) ?_
              refine gf4_0 C0 hM ok_tt fl_RX4_10 dX4_ready_100 ?_
              refine gf3_6 C0 hM ok_now fl_RX4_58 dX4_ready_103 ?_
              obtain ⟨e7, e8, e9⟩ := y_3 hF
              subst e8
              subst e9
              exact x_iret C0 hM hsz e7.symm (Nat.le_of_ble_eq_true rfl) (Nat.le_of_ble_eq_true rfl) dX4_ready_106
            · exact x_sv1 (rest := []) C0 hM hT hsz hex hl.1 h15 (k_X4_requireState l hst G B0 sa M9 s11 h13) cw_RX4_45 rfl rfl ⟨Nat.le_of_ble_eq_true rfl, Nat.le_of_ble_eq_true rfl⟩ rfl (Nat.le_of_ble_eq_true rfl) ⟨Nat.le_of_ble_eq_true rfl, Nat.le_of_ble_eq_true rfl⟩ (Nat.le_of_ble_eq_true rfl) (Nat.le_of_ble_eq_true rfl) dX4_ready_80
          refine lv_icmp_eq (tgt := 79) C0.1 C0.2.1 dX4_ready_50 (by decide) (fun c20 => ?_) (fun c20 => ?_)
          · have hF := if_t c20 hF
            refine lv_iconst (v := (0 : Int32)) C0.1 C0.2.1 dX4_ready_79 (by decide) ?_
            exact J80 (0 : Int32) _ _ _ hM (lv_sub hl [0, 1, 2, 3, 4] rfl) hF
          · have hF := if_f c20 hF
            refine lv_iload_n C0.1 C0.2.1 dX4_ready_53 rfl (lv_at hl 2 rfl) ?_
            refine lv_aload_n C0.1 C0.2.1 dX4_ready_54 rfl (lv_at hl 0 rfl) ?_
            refine gf4_0 C0 hM ok_tt fl_RX4_10 dX4_ready_55 ?_
            refine gf3_6 C0 hM ok_now fl_RX4_58 dX4_ready_58 ?_
            refine lv_icmp_eq (tgt := 79) C0.1 C0.2.1 dX4_ready_61 (by decide) (fun c21 => ?_) (fun c21 => ?_)
            · have hF := if_t c21 hF
              refine lv_iconst (v := (0 : Int32)) C0.1 C0.2.1 dX4_ready_79 (by decide) ?_
              exact J80 (0 : Int32) _ _ _ hM (lv_sub hl [0, 1, 2, 3, 4] rfl) hF
            · have hF := if_f c21 hF
              refine lv_iload_n C0.1 C0.2.1 dX4_ready_64 rfl (lv_at hl 3 rfl) ?_
              refine lv_aload_n C0.1 C0.2.1 dX4_ready_65 rfl (lv_at hl 0 rfl) ?_
              refine gf4_0 C0 hM ok_tt fl_RX4_10 dX4_ready_66 ?_
              refine gf3_6 C0 hM ok_now fl_RX4_58 dX4_ready_69 ?_
              refine lv_icmp_eq (tgt := 79) C0.1 C0.2.1 dX4_ready_72 (by decide) (fun c22 => ?_) (fun c22 => ?_)
              · have hF := if_t c22 hF
                refine lv_iconst (v := (0 : Int32)) C0.1 C0.2.1 dX4_ready_79 (by decide) ?_
                exact J80 (0 : Int32) _ _ _ hM (lv_sub hl [0, 1, 2, 3, 4] rfl) hF
              · have hF := if_f c22 hF
                refine lv_iconst (v := (1 : Int32)) C0.1 C0.2.1 dX4_ready_75 (by decide) ?_
                refine lv_goto (tgt := 80) C0.1 C0.2.1 dX4_ready_76 (by decide) ?_
                exact J80 (1 : Int32) _ _ _ hM (lv_sub hl [0, 1, 2, 3, 4] rfl) hF
        · exact x_sv1 (rest := []) C0 hM hT hsz hex hl.1 h10 (k_X4_requireArgument l hst G B0 sa M4 s6 h8) cw_RX4_38 rfl rfl ⟨Nat.le_of_ble_eq_true rfl, Nat.le_of_ble_eq_true rfl⟩ rfl (Nat.le_of_ble_eq_true rfl) ⟨Nat.le_of_ble_eq_true rfl, Nat.le_of_ble_eq_true rfl⟩ (Nat.le_of_ble_eq_true rfl) (Nat.le_of_ble_eq_true rfl) dX4_ready_39
      obtain ⟨j24_22, ej24_22, hF⟩ := nm_some hF
      have J24 : ∀ (H : Heap) (locs : List Loc) (ls : Array Slot), MX G M4 s H locs → lv_has ls 5 [(0, .ref (gad G 216)), (1, .int a0), (2, .int a1), (3, .int a2), (4, .int a3)] → j24_22 = some (k, r, Mf) → W p l e (RmX 7) s m ([.ref (gad G 216), .int a0, .int a1, .int a2, .int a3] : List Value).toArray below meth c H locs 2 12 (QXI below ([.ref (gad G 216), .int a0, .int a1, .int a2, .int a3] : List Value).toArray s G sz k r Mf) (F0 m 24 ls []) := by
        intro H locs ls hM hl hF
        rw [ej24_22] at hF
        refine lv_iload C0.1 C0.2.1 dX4_ready_24 (lv_at hl 4 rfl) ?_
        refine lv_iconst (v := (0 : Int32)) C0.1 C0.2.1 dX4_ready_26 (by decide) ?_
        refine lv_iconst (v := (3 : Int32)) C0.1 C0.2.1 dX4_ready_27 (by decide) ?_
        obtain ⟨r25, h24, hF⟩ := bd_some hF
        refine y_si (rest := []) C0 hM hl.1 (k_X4_isWithin l G M4 a3 (0 : Int32) (3 : Int32) h24) cw_RX4_34 rfl rfl ⟨Nat.le_of_ble_eq_true rfl, Nat.le_of_ble_eq_true rfl⟩ rfl (Nat.le_of_ble_eq_true rfl) ⟨Nat.le_of_ble_eq_true rfl, Nat.le_of_ble_eq_true rfl⟩ dX4_ready_28 (fun H locs hM => ?_)
        refine lv_if_eq (tgt := 38) C0.1 C0.2.1 dX4_ready_31 (by decide) (fun c26 => ?_) (fun c26 => ?_)
        · have hF := if_t c26 hF
          refine lv_iconst (v := (0 : Int32)) C0.1 C0.2.1 dX4_ready_38 (by decide) ?_
          exact J39 (0 : Int32) _ _ _ hM (lv_sub hl [0, 1, 2, 3, 4] rfl) hF
        · have hF := if_f c26 hF
          refine lv_iconst (v := (1 : Int32)) C0.1 C0.2.1 dX4_ready_34 (by decide) ?_
          refine lv_goto (tgt := 39) C0.1 C0.2.1 dX4_ready_35 (by decide) ?_
          exact J39 (1 : Int32) _ _ _ hM (lv_sub hl [0, 1, 2, 3, 4] rfl) hF
      refine lv_if_eq (tgt := 24) C0.1 C0.2.1 dX4_ready_16 (by decide) (fun c27 => ?_) (fun c27 => ?_)
      · have hF := if_t c27 hF
        exact J24  _ _ _ hM (lv_sub hl [0, 1, 2, 3, 4] rfl) hF
      · have hF := if_f c27 hF
        refine lv_iload_n C0.1 C0.2.1 dX4_ready_19 rfl (lv_at hl 1 rfl) ?_
        refine lv_iconst (v := (2 : Int32)) C0.1 C0.2.1 dX4_ready_20 (by decide) ?_
        refine lv_icmp_ne (tgt := 38) C0.1 C0.2.1 dX4_ready_21 (by decide) (fun c28 => ?_) (fun c28 => ?_)
        · have hF := if_t c28 hF
          refine lv_iconst (v := (0 : Int32)) C0.1 C0.2.1 dX4_ready_38 (by decide) ?_
          exact J39 (0 : Int32) _ _ _ hM (lv_sub hl [0, 1, 2, 3, 4] rfl) hF
        · have hF := if_f (fun q => q c28) hF
          exact J24  _ _ _ hM (lv_sub hl [0, 1, 2, 3, 4] rfl) hF
    refine lv_icmp_eq (tgt := 15) C0.1 C0.2.1 dX4_ready_7 (by decide) (fun c29 => ?_) (fun c29 => ?_)
    · have hF := if_t c29 hF
      refine W.widen (k := 2) (n := 12) (by decide) (by decide) ?_
      exact J15 M2 _ _ _ hM (lv_sub hl [0, 1, 2, 3, 4] rfl) hF
    · have hF := if_f c29 hF
      refine lv_aload_n C0.1 C0.2.1 dX4_ready_10 rfl (lv_at hl 0 rfl) ?_
      refine lv_iload_n C0.1 C0.2.1 dX4_ready_11 rfl (lv_at hl 3 rfl) ?_
      rcases bx_some hF with ⟨M31, h30, hF⟩ | ⟨h30, h32⟩
      · refine x_vv0 (rest := []) C0 hM hT hl.1 ok_tt (ent4 ok_tt) rfl (k_X4_requireFighter l hst G B0 sa M2 a2 h30) cw_RX4_61 rfl rfl ⟨Nat.le_of_ble_eq_true rfl, Nat.le_of_ble_eq_true rfl⟩ rfl (Nat.le_of_ble_eq_true rfl) ⟨Nat.le_of_ble_eq_true rfl, Nat.le_of_ble_eq_true rfl⟩ dX4_ready_12 (fun H locs hM => ?_)
        exact J15 M31 _ _ _ hM (lv_sub hl [0, 1, 2, 3, 4] rfl) hF
      · exact x_vv1 (rest := []) C0 hM hT hsz hex hl.1 ok_tt (ent4 ok_tt) rfl h32 (k_X4_requireFighter l hst G B0 sa M2 a2 h30) cw_RX4_61 rfl rfl ⟨Nat.le_of_ble_eq_true rfl, Nat.le_of_ble_eq_true rfl⟩ rfl (Nat.le_of_ble_eq_true rfl) ⟨Nat.le_of_ble_eq_true rfl, Nat.le_of_ble_eq_true rfl⟩ (Nat.le_of_ble_eq_true rfl) (Nat.le_of_ble_eq_true rfl) dX4_ready_12
  · exact x_vv1 (rest := []) C0 hM hT hsz hex hl.1 ok_tt (ent4 ok_tt) rfl h3 (k_X4_requireFighter l hst G B0 sa M a1 h1) cw_RX4_61 rfl rfl ⟨Nat.le_of_ble_eq_true rfl, Nat.le_of_ble_eq_true rfl⟩ rfl (Nat.le_of_ble_eq_true rfl) ⟨Nat.le_of_ble_eq_true rfl, Nat.le_of_ble_eq_true rfl⟩ (Nat.le_of_ble_eq_true rfl) (Nat.le_of_ble_eq_true rfl) dX4_ready_2

def F_X4_end (M : MS) : Option (Nat × Int32 × MS) := (nm (fun (s1 : Int32) => (bx (F_X4_requireState M s1) (fun M4 => (bd (F_X4_save M4) fun M7 => (bd (F_X3_endTurn M7 0) fun M9 => (some (0, (rF M9 54 0), M9))))) (0 : Int32))) fun j16_1 => (if (rF M 54 0) = (-1 : Int32) then (j16_1 (0 : Int32)) else (j16_1 (1 : Int32))))

set_option maxHeartbeats 4000000 in
set_option maxRecDepth 100000 in
theorem k_X4_end (l : Launch) (hst : l.stackTraces = false) (G : GG) (B0 : Nat) (sa : Nat × Nat × Nat) (M : MS) {k : Nat} {r : Int32} {Mf : MS} (hF : F_X4_end M = some (k, r, Mf)) : XI l yX4_end (WS yX4_end cX4_end 1 (some .int)) (RmX 7) G B0 sa [.ref (gad G 216)] M k r Mf := by
  intro sz
  refine x_met (by decide +kernel) (Nat.le_of_ble_eq_true rfl) (fun p e s m below meth c ls hsz C0 hex hM hT hl => ?_)
  have hl : lv_has ls 1 [(0, .ref (gad G 216))] := hl
  have C0 : CX p s m meth c ([.ref (gad G 216)] : List Value).toArray cX4_end RX4 1 (some .int) := C0
  rw [F_X4_end] at hF
  refine lv_aload_n C0.1 C0.2.1 dX4_end_0 rfl (lv_at hl 0 rfl) ?_
  refine gf4_0 C0 hM ok_tt fl_RX4_10 dX4_end_1 ?_
  refine gf3_6 C0 hM ok_now fl_RX4_58 dX4_end_4 ?_
  refine lv_iconst (v := (-1 : Int32)) C0.1 C0.2.1 dX4_end_7 (by decide) ?_
  obtain ⟨j16_1, ej16_1, hF⟩ := nm_some hF
  have J16 : ∀ (s1 : Int32) (H : Heap) (locs : List Loc) (ls : Array Slot), MX G M s H locs → lv_has ls 1 [(0, .ref (gad G 216))] → j16_1 s1 = some (k, r, Mf) → W p l e (RmX 7) s m ([.ref (gad G 216)] : List Value).toArray below meth c H locs 0 0 (QXI below ([.ref (gad G 216)] : List Value).toArray s G sz k r Mf) (F0 m 16 ls [.int s1]) := by
    intro s1 H locs ls hM hl hF
    rw [ej16_1] at hF
    rcases bx_some hF with ⟨M4, h3, hF⟩ | ⟨h3, h5⟩
    · refine x_sv0 (rest := []) C0 hM hT hl.1 (k_X4_requireState l hst G B0 sa M s1 h3) cw_RX4_45 rfl rfl ⟨Nat.le_of_ble_eq_true rfl, Nat.le_of_ble_eq_true rfl⟩ rfl (Nat.le_of_ble_eq_true rfl) ⟨Nat.le_of_ble_eq_true rfl, Nat.le_of_ble_eq_true rfl⟩ dX4_end_16 (fun H locs hM => ?_)
      refine lv_aload_n C0.1 C0.2.1 dX4_end_19 rfl (lv_at hl 0 rfl) ?_
      obtain ⟨M7, h6, hF⟩ := bd_some hF
      refine y_vv (rest := []) C0 hM hl.1 ok_tt (ent4 ok_tt) rfl (k_X4_save l G M4 h6) cw_RX4_48 rfl rfl ⟨Nat.le_of_ble_eq_true rfl, Nat.le_of_ble_eq_true rfl⟩ rfl (Nat.le_of_ble_eq_true rfl) ⟨Nat.le_of_ble_eq_true rfl, Nat.le_of_ble_eq_true rfl⟩ dX4_end_20 (fun H locs hM => ?_)
      refine lv_aload_n C0.1 C0.2.1 dX4_end_23 rfl (lv_at hl 0 rfl) ?_
      refine gf4_0 C0 hM ok_tt fl_RX4_10 dX4_end_24 ?_
      obtain ⟨M9, h8, hF⟩ := bd_some hF
      refine y_vv (rest := []) C0 hM hl.1 ok_now (ent3 ok_now) rfl (k_X3_endTurn l G M7 0 h8 ok_now) cw_RX4_78 rfl rfl ⟨Nat.le_of_ble_eq_true rfl, Nat.le_of_ble_eq_true rfl⟩ rfl (Nat.le_of_ble_eq_true rfl) ⟨Nat.le_of_ble_eq_true rfl, Nat.le_of_ble_eq_true rfl⟩ dX4_end_27 (fun H locs hM => ?_)
      refine lv_aload_n C0.1 C0.2.1 dX4_end_30 rfl (lv_at hl 0 rfl) ?_
      refine gf4_0 C0 hM ok_tt fl_RX4_10 dX4_end_31 ?_
      refine gf3_6 C0 hM ok_now fl_RX4_58 dX4_end_34 ?_
      obtain ⟨e7, e8, e9⟩ := y_3 hF
      subst e8
      subst e9
      exact x_iret C0 hM hsz e7.symm (Nat.le_of_ble_eq_true rfl) (Nat.le_of_ble_eq_true rfl) dX4_end_37
    · exact x_sv1 (rest := []) C0 hM hT hsz hex hl.1 h5 (k_X4_requireState l hst G B0 sa M s1 h3) cw_RX4_45 rfl rfl ⟨Nat.le_of_ble_eq_true rfl, Nat.le_of_ble_eq_true rfl⟩ rfl (Nat.le_of_ble_eq_true rfl) ⟨Nat.le_of_ble_eq_true rfl, Nat.le_of_ble_eq_true rfl⟩ (Nat.le_of_ble_eq_true rfl) (Nat.le_of_ble_eq_true rfl) dX4_end_16
  refine lv_icmp_eq (tgt := 15) C0.1 C0.2.1 dX4_end_8 (by decide) (fun c10 => ?_) (fun c10 => ?_)
  · have hF := if_t c10 hF
    refine lv_iconst (v := (0 : Int32)) C0.1 C0.2.1 dX4_end_15 (by decide) ?_
    exact J16 (0 : Int32) _ _ _ hM (lv_sub hl [0] rfl) hF
  · have hF := if_f c10 hF
    refine lv_iconst (v := (1 : Int32)) C0.1 C0.2.1 dX4_end_11 (by decide) ?_
    refine lv_goto (tgt := 16) C0.1 C0.2.1 dX4_end_12 (by decide) ?_
    exact J16 (1 : Int32) _ _ _ hM (lv_sub hl [0] rfl) hF

def F_X4_comeIn (M : MS) (a0 : Int32) : Option (Nat × Int32 × MS) := (bx (F_X4_requireFighter M a0) (fun M2 => (bd (F_X3_canBeLetIn M2 0 a0) fun r5 => (bx (F_X4_requireState M2 r5) (fun M7 => (bd (F_X4_save M7) fun M10 => (bd2 (F_X3_letIn M10 0 a0) fun r13 M12 => (some (0, r13, M12))))) (0 : Int32)))) (0 : Int32))

set_option maxHeartbeats 4000000 in
set_option maxRecDepth 100000 in
theorem k_X4_comeIn (l : Launch) (hst : l.stackTraces = false) (G : GG) (B0 : Nat) (sa : Nat × Nat × Nat) (M : MS) (a0 : Int32) {k : Nat} {r : Int32} {Mf : MS} (hF : F_X4_comeIn M a0 = some (k, r, Mf)) : XI l yX4_comeIn (WS yX4_comeIn cX4_comeIn 2 (some .int)) (RmX 7) G B0 sa [.ref (gad G 216), .int a0] M k r Mf := by
  intro sz
  refine x_met (by decide +kernel) (Nat.le_of_ble_eq_true rfl) (fun p e s m below meth c ls hsz C0 hex hM hT hl => ?_)
  have hl : lv_has ls 2 [(0, .ref (gad G 216)), (1, .int a0)] := hl
  have C0 : CX p s m meth c ([.ref (gad G 216), .int a0] : List Value).toArray cX4_comeIn RX4 2 (some .int) := C0
  rw [F_X4_comeIn] at hF
  refine lv_aload_n C0.1 C0.2.1 dX4_comeIn_0 rfl (lv_at hl 0 rfl) ?_
  refine lv_iload_n C0.1 C0.2.1 dX4_comeIn_1 rfl (lv_at hl 1 rfl) ?_
  rcases bx_some hF with ⟨M2, h1, hF⟩ | ⟨h1, h3⟩
  · refine x_vv0 (rest := []) C0 hM hT hl.1 ok_tt (ent4 ok_tt) rfl (k_X4_requireFighter l hst G B0 sa M a0 h1) cw_RX4_61 rfl rfl ⟨Nat.le_of_ble_eq_true rfl, Nat.le_of_ble_eq_true rfl⟩ rfl (Nat.le_of_ble_eq_true rfl) ⟨Nat.le_of_ble_eq_true rfl, Nat.le_of_ble_eq_true rfl⟩ dX4_comeIn_2 (fun H locs hM => ?_)
    refine lv_aload_n C0.1 C0.2.1 dX4_comeIn_5 rfl (lv_at hl 0 rfl) ?_
    refine gf4_0 C0 hM ok_tt fl_RX4_10 dX4_comeIn_6 ?_
    refine lv_iload_n C0.1 C0.2.1 dX4_comeIn_9 rfl (lv_at hl 1 rfl) ?_
    obtain ⟨r5, h4, hF⟩ := bd_some hF
    refine y_vi (rest := []) C0 hM hl.1 ok_now (ent3 ok_now) rfl (k_X3_canBeLetIn l G M2 0 a0 h4 ok_now) cw_RX4_81 rfl rfl ⟨Nat.le_of_ble_eq_true rfl, Nat.le_of_ble_eq_true rfl⟩ rfl (Nat.le_of_ble_eq_true rfl) ⟨Nat.le_of_ble_eq_true rfl, Nat.le_of_ble_eq_true rfl⟩ dX4_comeIn_10 (fun H locs hM => ?_)
    rcases bx_some hF with ⟨M7, h6, hF⟩ | ⟨h6, h8⟩
    · refine x_sv0 (rest := []) C0 hM hT hl.1 (k_X4_requireState l hst G B0 sa M2 r5 h6) cw_RX4_45 rfl rfl ⟨Nat.le_of_ble_eq_true rfl, Nat.le_of_ble_eq_true rfl⟩ rfl (Nat.le_of_ble_eq_true rfl) ⟨Nat.le_of_ble_eq_true rfl, Nat.le_of_ble_eq_true rfl⟩ dX4_comeIn_13 (fun H locs hM => ?_)
      refine lv_aload_n C0.1 C0.2.1 dX4_comeIn_16 rfl (lv_at hl 0 rfl) ?_
      obtain ⟨M10, h9, hF⟩ := bd_some hF
      refine y_vv (rest := []) C0 hM hl.1 ok_tt (ent4 ok_tt) rfl (k_X4_save l G M7 h9) cw_RX4_48 rfl rfl ⟨Nat.le_of_ble_eq_true rfl, Nat.le_of_ble_eq_true rfl⟩ rfl (Nat.le_of_ble_eq_true rfl) ⟨Nat.le_of_ble_eq_true rfl, Nat.le_of_ble_eq_true rfl⟩ dX4_comeIn_17 (fun H locs hM => ?_)
      refine lv_aload_n C0.1 C0.2.1 dX4_comeIn_20 rfl (lv_at hl 0 rfl) ?_
      refine gf4_0 C0 hM ok_tt fl_RX4_10 dX4_comeIn_21 ?_
      refine lv_iload_n C0.1 C0.2.1 dX4_comeIn_24 rfl (lv_at hl 1 rfl) ?_
      obtain ⟨r13, M12, h11, hF⟩ := bd2_some hF
      refine y_vi (rest := []) C0 hM hl.1 ok_now (ent3 ok_now) rfl (k_X3_letIn l G M10 0 a0 h11 ok_now) cw_RX4_85 rfl rfl ⟨Nat.le_of_ble_eq_true rfl, Nat.le_of_ble_eq_true rfl⟩ rfl (Nat.le_of_ble_eq_true rfl) ⟨Nat.le_of_ble_eq_true rfl, Nat.le_of_ble_eq_true rfl⟩ dX4_comeIn_25 (fun H locs hM => ?_)
      obtain ⟨e7, e8, e9⟩ := y_3 hF
      subst e8
      subst e9
      exact x_iret C0 hM hsz e7.symm (Nat.le_of_ble_eq_true rfl) (Nat.le_of_ble_eq_true rfl) dX4_comeIn_28
    · exact x_sv1 (rest := []) C0 hM hT hsz hex hl.1 h8 (k_X4_requireState l hst G B0 sa M2 r5 h6) cw_RX4_45 rfl rfl ⟨Nat.le_of_ble_eq_true rfl, Nat.le_of_ble_eq_true rfl⟩ rfl (Nat.le_of_ble_eq_true rfl) ⟨Nat.le_of_ble_eq_true rfl, Nat.le_of_ble_eq_true rfl⟩ (Nat.le_of_ble_eq_true rfl) (Nat.le_of_ble_eq_true rfl) dX4_comeIn_13
  · exact x_vv1 (rest := []) C0 hM hT hsz hex hl.1 ok_tt (ent4 ok_tt) rfl h3 (k_X4_requireFighter l hst G B0 sa M a0 h1) cw_RX4_61 rfl rfl ⟨Nat.le_of_ble_eq_true rfl, Nat.le_of_ble_eq_true rfl⟩ rfl (Nat.le_of_ble_eq_true rfl) ⟨Nat.le_of_ble_eq_true rfl, Nat.le_of_ble_eq_true rfl⟩ (Nat.le_of_ble_eq_true rfl) (Nat.le_of_ble_eq_true rfl) dX4_comeIn_2

def F_X4_undo (M : MS) : Option (Nat × Int32 × MS) := (nm (fun (s1 : Int32) => (bx (F_X4_requireState M s1) (fun M4 => (nm (wF M4 67 216 ((rF M4 67 216) - (1 : Int32))) fun M6 => (gdb (inb (rF M6 67 216) 6) (nm (rS M6 (Int32.toNatClampNeg (rF M6 67 216))) fun k8 => gdb (decide (k8 < 8)) (bd (F_X3_copyFrom M6 0 (27 * k8)) fun M11 => (some (0, (rF M11 67 216), M11))))))) (0 : Int32))) fun j24_1 => (if (rF M 67 216) ≤ 0 then (j24_1 (0 : Int32)) else (if (6 : Int32) < (rF M 67 216) then (j24_1 (0 : Int32)) else (j24_1 (1 : Int32)))))

set_option maxHeartbeats 4000000 in
set_option maxRecDepth 100000 in
theorem k_X4_undo (l : Launch) (hst : l.stackTraces = false) (G : GG) (B0 : Nat) (sa : Nat × Nat × Nat) (M : MS) {k : Nat} {r : Int32} {Mf : MS} (hF : F_X4_undo M = some (k, r, Mf)) : XI l yX4_undo (WS yX4_undo cX4_undo 1 (some .int)) (RmX 7) G B0 sa [.ref (gad G 216)] M k r Mf := by
  intro sz
  refine x_met (by decide +kernel) (Nat.le_of_ble_eq_true rfl) (fun p e s m below meth c ls hsz C0 hex hM hT hl => ?_)
  have hl : lv_has ls 1 [(0, .ref (gad G 216))] := hl
  have C0 : CX p s m meth c ([.ref (gad G 216)] : List Value).toArray cX4_undo RX4 1 (some .int) := C0
  rw [F_X4_undo] at hF
  refine lv_aload_n C0.1 C0.2.1 dX4_undo_0 rfl (lv_at hl 0 rfl) ?_
  refine gf4_3 C0 hM ok_tt fl_RX4_23 dX4_undo_1 ?_
  obtain ⟨j24_1, ej24_1, hF⟩ := nm_some hF
  have J24 : ∀ (s1 : Int32) (H : Heap) (locs : List Loc) (ls : Array Slot), MX G M s H locs → lv_has ls 1 [(0, .ref (gad G 216))] → j24_1 s1 = some (k, r, Mf) → W p l e (RmX 7) s m ([.ref (gad G 216)] : List Value).toArray below meth c H locs 0 0 (QXI below ([.ref (gad G 216)] : List Value).toArray s G sz k r Mf) (F0 m 24 ls [.int s1]) := by
    intro s1 H locs ls hM hl hF
    rw [ej24_1] at hF
    rcases bx_some hF with ⟨M4, h3, hF⟩ | ⟨h3, h5⟩
    · refine x_sv0 (rest := []) C0 hM hT hl.1 (k_X4_requireState l hst G B0 sa M s1 h3) cw_RX4_45 rfl rfl ⟨Nat.le_of_ble_eq_true rfl, Nat.le_of_ble_eq_true rfl⟩ rfl (Nat.le_of_ble_eq_true rfl) ⟨Nat.le_of_ble_eq_true rfl, Nat.le_of_ble_eq_true rfl⟩ dX4_undo_24 (fun H locs hM => ?_)
      refine lv_aload_n C0.1 C0.2.1 dX4_undo_27 rfl (lv_at hl 0 rfl) ?_
      refine lv_dup C0.1 C0.2.1 dX4_undo_28 rfl ?_
      refine gf4_3 C0 hM ok_tt fl_RX4_23 dX4_undo_29 ?_
      refine lv_iconst (v := (1 : Int32)) C0.1 C0.2.1 dX4_undo_32 (by decide) ?_
      refine lv_isub C0.1 C0.2.1 dX4_undo_33 ?_
      refine pf4_3 C0 hM ok_tt fl_RX4_23 dX4_undo_34 (fun H locs hM => ?_)
      obtain ⟨M6, eM6, hF⟩ := nm_some hF
      have hM := y_mn eM6 hM
      refine lv_aload_n C0.1 C0.2.1 dX4_undo_37 rfl (lv_at hl 0 rfl) ?_
      refine gf4_0 C0 hM ok_tt fl_RX4_10 dX4_undo_38 ?_
      refine lv_aload_n C0.1 C0.2.1 dX4_undo_41 rfl (lv_at hl 0 rfl) ?_
      refine gf4_2 C0 hM ok_tt fl_RX4_19 dX4_undo_42 ?_
      refine lv_aload_n C0.1 C0.2.1 dX4_undo_45 rfl (lv_at hl 0 rfl) ?_
      refine gf4_3 C0 hM ok_tt fl_RX4_23 dX4_undo_46 ?_
      obtain ⟨g7, hF⟩ := gdb_some hF
      refine y_aald8 C0 hM ok_saved g7 dX4_undo_49 ?_
      obtain ⟨k8, ek8, hF⟩ := nm_some hF
      refine y_topsk ek8 ?_
      obtain ⟨g9, hF⟩ := gdb_some hF
      obtain ⟨M11, h10, hF⟩ := bd_some hF
      refine y_vv (rest := []) C0 hM hl.1 ok_now (ent3 ok_now) rfl (k_X3_copyFrom l G M6 0 (27 * k8) h10 ok_now (ok_sk (of_decide_eq_true g9))) cw_RX4_112 rfl rfl ⟨Nat.le_of_ble_eq_true rfl, Nat.le_of_ble_eq_true rfl⟩ rfl (Nat.le_of_ble_eq_true rfl) ⟨Nat.le_of_ble_eq_true rfl, Nat.le_of_ble_eq_true rfl⟩ dX4_undo_50 (fun H locs hM => ?_)
      refine lv_aload_n C0.1 C0.2.1 dX4_undo_53 rfl (lv_at hl 0 rfl) ?_
      refine gf4_3 C0 hM ok_tt fl_RX4_23 dX4_undo_54 ?_
      obtain ⟨e7, e8, e9⟩ := y_3 hF
      subst e8
      subst e9
      exact x_iret C0 hM hsz e7.symm (Nat.le_of_ble_eq_true rfl) (Nat.le_of_ble_eq_true rfl) dX4_undo_57
    · exact x_sv1 (rest := []) C0 hM hT hsz hex hl.1 h5 (k_X4_requireState l hst G B0 sa M s1 h3) cw_RX4_45 rfl rfl ⟨Nat.le_of_ble_eq_true rfl, Nat.le_of_ble_eq_true rfl⟩ rfl (Nat.le_of_ble_eq_true rfl) ⟨Nat.le_of_ble_eq_true rfl, Nat.le_of_ble_eq_true rfl⟩ (Nat.le_of_ble_eq_true rfl) (Nat.le_of_ble_eq_true rfl) dX4_undo_24
  refine lv_if_le (tgt := 23) C0.1 C0.2.1 dX4_undo_4 (by decide) (fun c12 => ?_) (fun c12 => ?_)
  · have hF := if_t c12 hF
    refine lv_iconst (v := (0 : Int32)) C0.1 C0.2.1 dX4_undo_23 (by decide) ?_
    exact J24 (0 : Int32) _ _ _ hM (lv_sub hl [0] rfl) hF
  · have hF := if_f c12 hF
    refine lv_aload_n C0.1 C0.2.1 dX4_undo_7 rfl (lv_at hl 0 rfl) ?_
    refine gf4_3 C0 hM ok_tt fl_RX4_23 dX4_undo_8 ?_
    refine lv_aload_n C0.1 C0.2.1 dX4_undo_11 rfl (lv_at hl 0 rfl) ?_
    refine gf4_2 C0 hM ok_tt fl_RX4_19 dX4_undo_12 ?_
    refine y_alen8 C0 hM ok_saved dX4_undo_15 ?_
    refine lv_icmp_gt (tgt := 23) C0.1 C0.2.1 dX4_undo_16 (by decide) (fun c13 => ?_) (fun c13 => ?_)
    · have hF := if_t c13 hF
      refine lv_iconst (v := (0 : Int32)) C0.1 C0.2.1 dX4_undo_23 (by decide) ?_
      exact J24 (0 : Int32) _ _ _ hM (lv_sub hl [0] rfl) hF
    · have hF := if_f c13 hF
      refine lv_iconst (v := (1 : Int32)) C0.1 C0.2.1 dX4_undo_19 (by decide) ?_
      refine lv_goto (tgt := 24) C0.1 C0.2.1 dX4_undo_20 (by decide) ?_
      exact J24 (1 : Int32) _ _ _ hM (lv_sub hl [0] rfl) hF

def F_X4_fighter (M : MS) (a0 : Int32) (a1 : Int32) : Option (Nat × Int32 × MS) := (bx (F_X4_requireFighter M a0) (fun M2 => (bd (F_X4_isWithin M2 a1 (0 : Int32) (13 : Int32)) fun r5 => (bx (F_X4_requireArgument M2 r5) (fun M7 => (bd (F_X3_property M7 0 a0 a1) fun r10 => (some (0, r10, M7)))) (0 : Int32)))) (0 : Int32))

set_option maxHeartbeats 4000000 in
set_option maxRecDepth 100000 in
theorem k_X4_fighter (l : Launch) (hst : l.stackTraces = false) (G : GG) (B0 : Nat) (sa : Nat × Nat × Nat) (M : MS) (a0 : Int32) (a1 : Int32) {k : Nat} {r : Int32} {Mf : MS} (hF : F_X4_fighter M a0 a1 = some (k, r, Mf)) : XI l yX4_fighter (WS yX4_fighter cX4_fighter 3 (some .int)) (RmX 7) G B0 sa [.ref (gad G 216), .int a0, .int a1] M k r Mf := by
  intro sz
  refine x_met (by decide +kernel) (Nat.le_of_ble_eq_true rfl) (fun p e s m below meth c ls hsz C0 hex hM hT hl => ?_)
  have hl : lv_has ls 3 [(0, .ref (gad G 216)), (1, .int a0), (2, .int a1)] := hl
  have C0 : CX p s m meth c ([.ref (gad G 216), .int a0, .int a1] : List Value).toArray cX4_fighter RX4 3 (some .int) := C0
  rw [F_X4_fighter] at hF
  refine lv_aload_n C0.1 C0.2.1 dX4_fighter_0 rfl (lv_at hl 0 rfl) ?_
  refine lv_iload_n C0.1 C0.2.1 dX4_fighter_1 rfl (lv_at hl 1 rfl) ?_
  rcases bx_some hF with ⟨M2, h1, hF⟩ | ⟨h1, h3⟩
  · refine x_vv0 (rest := []) C0 hM hT hl.1 ok_tt (ent4 ok_tt) rfl (k_X4_requireFighter l hst G B0 sa M a0 h1) cw_RX4_61 rfl rfl ⟨Nat.le_of_ble_eq_true rfl, Nat.le_of_ble_eq_true rfl⟩ rfl (Nat.le_of_ble_eq_true rfl) ⟨Nat.le_of_ble_eq_true rfl, Nat.le_of_ble_eq_true rfl⟩ dX4_fighter_2 (fun H locs hM => ?_)
    refine lv_iload_n C0.1 C0.2.1 dX4_fighter_5 rfl (lv_at hl 2 rfl) ?_
    refine lv_iconst (v := (0 : Int32)) C0.1 C0.2.1 dX4_fighter_6 (by decide) ?_
    refine lv_bipush (v := (13 : Int32)) C0.1 C0.2.1 dX4_fighter_7 (by decide) ?_
    obtain ⟨r5, h4, hF⟩ := bd_some hF
    refine y_si (rest := []) C0 hM hl.1 (k_X4_isWithin l G M2 a1 (0 : Int32) (13 : Int32) h4) cw_RX4_34 rfl rfl ⟨Nat.le_of_ble_eq_true rfl, Nat.le_of_ble_eq_true rfl⟩ rfl (Nat.le_of_ble_eq_true rfl) ⟨Nat.le_of_ble_eq_true rfl, Nat.le_of_ble_eq_true rfl⟩ dX4_fighter_9 (fun H locs hM => ?_)
    rcases bx_some hF with ⟨M7, h6, hF⟩ | ⟨h6, h8⟩
    · refine x_sv0 (rest := []) C0 hM hT hl.1 (k_X4_requireArgument l hst G B0 sa M2 r5 h6) cw_RX4_38 rfl rfl ⟨Nat.le_of_ble_eq_true rfl, Nat.le_of_ble_eq_true rfl⟩ rfl (Nat.le_of_ble_eq_true rfl) ⟨Nat.le_of_ble_eq_true rfl, Nat.le_of_ble_eq_true rfl⟩ dX4_fighter_12 (fun H locs hM => ?_)
      refine lv_aload_n C0.1 C0.2.1 dX4_fighter_15 rfl (lv_at hl 0 rfl) ?_
      refine gf4_0 C0 hM ok_tt fl_RX4_10 dX4_fighter_16 ?_
      refine lv_iload_n C0.1 C0.2.1 dX4_fighter_19 rfl (lv_at hl 1 rfl) ?_
      refine lv_iload_n C0.1 C0.2.1 dX4_fighter_20 rfl (lv_at hl 2 rfl) ?_
      obtain ⟨r10, h9, hF⟩ := bd_some hF
      refine y_vi (rest := []) C0 hM hl.1 ok_now (ent3 ok_now) rfl (k_X3_property l G M7 0 a0 a1 h9 ok_now) cw_RX4_116 rfl rfl ⟨Nat.le_of_ble_eq_true rfl, Nat.le_of_ble_eq_true rfl⟩ rfl (Nat.le_of_ble_eq_true rfl) ⟨Nat.le_of_ble_eq_true rfl, Nat.le_of_ble_eq_true rfl⟩ dX4_fighter_21 (fun H locs hM => ?_)
      obtain ⟨e7, e8, e9⟩ := y_3 hF
      subst e8
      subst e9
      exact x_iret C0 hM hsz e7.symm (Nat.le_of_ble_eq_true rfl) (Nat.le_of_ble_eq_true rfl) dX4_fighter_24
    · exact x_sv1 (rest := []) C0 hM hT hsz hex hl.1 h8 (k_X4_requireArgument l hst G B0 sa M2 r5 h6) cw_RX4_38 rfl rfl ⟨Nat.le_of_ble_eq_true rfl, Nat.le_of_ble_eq_true rfl⟩ rfl (Nat.le_of_ble_eq_true rfl) ⟨Nat.le_of_ble_eq_true rfl, Nat.le_of_ble_eq_true rfl⟩ (Nat.le_of_ble_eq_true rfl) (Nat.le_of_ble_eq_true rfl) dX4_fighter_12
  · exact x_vv1 (rest := []) C0 hM hT hsz hex hl.1 ok_tt (ent4 ok_tt) rfl h3 (k_X4_requireFighter l hst G B0 sa M a0 h1) cw_RX4_61 rfl rfl ⟨Nat.le_of_ble_eq_true rfl, Nat.le_of_ble_eq_true rfl⟩ rfl (Nat.le_of_ble_eq_true rfl) ⟨Nat.le_of_ble_eq_true rfl, Nat.le_of_ble_eq_true rfl⟩ (Nat.le_of_ble_eq_true rfl) (Nat.le_of_ble_eq_true rfl) dX4_fighter_2

def F_X4_readied (M : MS) (a0 : Int32) (a1 : Int32) : Option (Nat × Int32 × MS) := (bx (F_X4_requireFighter M a0) (fun M2 => (bd (F_X4_isWithin M2 a1 (0 : Int32) (3 : Int32)) fun r5 => (bx (F_X4_requireArgument M2 r5) (fun M7 => (bd (F_X3_at M7 0 a0) fun r10 => (bd (F_X0_ofReadied M7 r10 a1) fun r12 => (some (0, r12, M7))))) (0 : Int32)))) (0 : Int32))

set_option maxHeartbeats 4000000 in
set_option maxRecDepth 100000 in
theorem k_X4_readied (l : Launch) (hst : l.stackTraces = false) (G : GG) (B0 : Nat) (sa : Nat × Nat × Nat) (M : MS) (a0 : Int32) (a1 : Int32) {k : Nat} {r : Int32} {Mf : MS} (hF : F_X4_readied M a0 a1 = some (k, r, Mf)) : XI l yX4_readied (WS yX4_readied cX4_readied 3 (some .int)) (RmX 7) G B0 sa [.ref (gad G 216), .int a0, .int a1] M k r Mf := by
  intro sz
  refine x_met (by decide +kernel) (Nat.le_of_ble_eq_true rfl) (fun p e s m below meth c ls hsz C0 hex hM hT hl => ?_)
  have hl : lv_has ls 3 [(0, .ref (gad G 216)), (1, .int a0), (2, .int a1)] := hl
  have C0 : CX p s m meth c ([.ref (gad G 216), .int a0, .int a1] : List Value).toArray cX4_readied RX4 3 (some .int) := C0
  rw [F_X4_readied] at hF
  refine lv_aload_n C0.1 C0.2.1 dX4_readied_0 rfl (lv_at hl 0 rfl) ?_
  refine lv_iload_n C0.1 C0.2.1 dX4_readied_1 rfl (lv_at hl 1 rfl) ?_
  rcases bx_some hF with ⟨M2, h1, hF⟩ | ⟨h1, h3⟩
  · refine x_vv0 (rest := []) C0 hM hT hl.1 ok_tt (ent4 ok_tt) rfl (k_X4_requireFighter l hst G B0 sa M a0 h1) cw_RX4_61 rfl rfl ⟨Nat.le_of_ble_eq_true rfl, Nat.le_of_ble_eq_true rfl⟩ rfl (Nat.le_of_ble_eq_true rfl) ⟨Nat.le_of_ble_eq_true rfl, Nat.le_of_ble_eq_true rfl⟩ dX4_readied_2 (fun H locs hM => ?_)
    refine lv_iload_n C0.1 C0.2.1 dX4_readied_5 rfl (lv_at hl 2 rfl) ?_
    refine lv_iconst (v := (0 : Int32)) C0.1 C0.2.1 dX4_readied_6 (by decide) ?_
    refine lv_iconst (v := (3 : Int32)) C0.1 C0.2.1 dX4_readied_7 (by decide) ?_
    obtain ⟨r5, h4, hF⟩ := bd_some hF
    refine y_si (rest := []) C0 hM hl.1 (k_X4_isWithin l G M2 a1 (0 : Int32) (3 : Int32) h4) cw_RX4_34 rfl rfl ⟨Nat.le_of_ble_eq_true rfl, Nat.le_of_ble_eq_true rfl⟩ rfl (Nat.le_of_ble_eq_true rfl) ⟨Nat.le_of_ble_eq_true rfl, Nat.le_of_ble_eq_true rfl⟩ dX4_readied_8 (fun H locs hM => ?_)
    rcases bx_some hF with ⟨M7, h6, hF⟩ | ⟨h6, h8⟩
    · refine x_sv0 (rest := []) C0 hM hT hl.1 (k_X4_requireArgument l hst G B0 sa M2 r5 h6) cw_RX4_38 rfl rfl ⟨Nat.le_of_ble_eq_true rfl, Nat.le_of_ble_eq_true rfl⟩ rfl (Nat.le_of_ble_eq_true rfl) ⟨Nat.le_of_ble_eq_true rfl, Nat.le_of_ble_eq_true rfl⟩ dX4_readied_11 (fun H locs hM => ?_)
      refine lv_aload_n C0.1 C0.2.1 dX4_readied_14 rfl (lv_at hl 0 rfl) ?_
      refine gf4_0 C0 hM ok_tt fl_RX4_10 dX4_readied_15 ?_
      refine lv_iload_n C0.1 C0.2.1 dX4_readied_18 rfl (lv_at hl 1 rfl) ?_
      obtain ⟨r10, h9, hF⟩ := bd_some hF
      refine y_vr (rest := []) C0 hM hl.1 ok_now (ent3 ok_now) rfl (k_X3_at l G M7 0 a0 h9 ok_now) cw_RX4_120 rfl rfl ⟨Nat.le_of_ble_eq_true rfl, Nat.le_of_ble_eq_true rfl⟩ rfl (Nat.le_of_ble_eq_true rfl) ⟨Nat.le_of_ble_eq_true rfl, Nat.le_of_ble_eq_true rfl⟩ dX4_readied_19 (fun H locs hM => ?_)
      refine lv_iload_n C0.1 C0.2.1 dX4_readied_22 rfl (lv_at hl 2 rfl) ?_
      obtain ⟨r12, h11, hF⟩ := bd_some hF
      refine y_vi (rest := []) C0 hM hl.1 (at_ok h9 ok_now) (ent0 (at_ok h9 ok_now)) rfl (k_X0_ofReadied l G M7 r10 a1 h11 (at_ok h9 ok_now)) cw_RX4_124 rfl rfl ⟨Nat.le_of_ble_eq_true rfl, Nat.le_of_ble_eq_true rfl⟩ rfl (Nat.le_of_ble_eq_true rfl) ⟨Nat.le_of_ble_eq_true rfl, Nat.le_of_ble_eq_true rfl⟩ dX4_readied_23 (fun H locs hM => ?_)
      obtain ⟨e7, e8, e9⟩ := y_3 hF
      subst e8
      subst e9
      exact x_iret C0 hM hsz e7.symm (Nat.le_of_ble_eq_true rfl) (Nat.le_of_ble_eq_true rfl) dX4_readied_26
    · exact x_sv1 (rest := []) C0 hM hT hsz hex hl.1 h8 (k_X4_requireArgument l hst G B0 sa M2 r5 h6) cw_RX4_38 rfl rfl ⟨Nat.le_of_ble_eq_true rfl, Nat.le_of_ble_eq_true rfl⟩ rfl (Nat.le_of_ble_eq_true rfl) ⟨Nat.le_of_ble_eq_true rfl, Nat.le_of_ble_eq_true rfl⟩ (Nat.le_of_ble_eq_true rfl) (Nat.le_of_ble_eq_true rfl) dX4_readied_11
  · exact x_vv1 (rest := []) C0 hM hT hsz hex hl.1 ok_tt (ent4 ok_tt) rfl h3 (k_X4_requireFighter l hst G B0 sa M a0 h1) cw_RX4_61 rfl rfl ⟨Nat.le_of_ble_eq_true rfl, Nat.le_of_ble_eq_true rfl⟩ rfl (Nat.le_of_ble_eq_true rfl) ⟨Nat.le_of_ble_eq_true rfl, Nat.le_of_ble_eq_true rfl⟩ (Nat.le_of_ble_eq_true rfl) (Nat.le_of_ble_eq_true rfl) dX4_readied_2

def F_X4_inRow (M : MS) (a0 : Int32) : Option (Nat × Int32 × MS) := (nm (fun (s1 : Int32) => (bx (F_X4_requireArgument M s1) (fun M4 => (bd (F_X2_numberAt M4 (0 + 2) a0) fun r7 => (some (0, r7, M4)))) (0 : Int32))) fun j9_1 => (if a0 < 0 then (j9_1 (0 : Int32)) else (j9_1 (1 : Int32))))

set_option maxHeartbeats 4000000 in
set_option maxRecDepth 100000 in
theorem k_X4_inRow (l : Launch) (hst : l.stackTraces = false) (G : GG) (B0 : Nat) (sa : Nat × Nat × Nat) (M : MS) (a0 : Int32) {k : Nat} {r : Int32} {Mf : MS} (hF : F_X4_inRow M a0 = some (k, r, Mf)) : XI l yX4_inRow (WS yX4_inRow cX4_inRow 2 (some .int)) (RmX 7) G B0 sa [.ref (gad G 216), .int a0] M k r Mf := by
  intro sz
  refine x_met (by decide +kernel) (Nat.le_of_ble_eq_true rfl) (fun p e s m below meth c ls hsz C0 hex hM hT hl => ?_)
  have hl : lv_has ls 2 [(0, .ref (gad G 216)), (1, .int a0)] := hl
  have C0 : CX p s m meth c ([.ref (gad G 216), .int a0] : List Value).toArray cX4_inRow RX4 2 (some .int) := C0
  rw [F_X4_inRow] at hF
  refine lv_iload_n C0.1 C0.2.1 dX4_inRow_0 rfl (lv_at hl 1 rfl) ?_
  obtain ⟨j9_1, ej9_1, hF⟩ := nm_some hF
  have J9 : ∀ (s1 : Int32) (H : Heap) (locs : List Loc) (ls : Array Slot), MX G M s H locs → lv_has ls 2 [(0, .ref (gad G 216)), (1, .int a0)] → j9_1 s1 = some (k, r, Mf) → W p l e (RmX 7) s m ([.ref (gad G 216), .int a0] : List Value).toArray below meth c H locs 0 0 (QXI below ([.ref (gad G 216), .int a0] : List Value).toArray s G sz k r Mf) (F0 m 9 ls [.int s1]) := by
    intro s1 H locs ls hM hl hF
    rw [ej9_1] at hF
    rcases bx_some hF with ⟨M4, h3, hF⟩ | ⟨h3, h5⟩
    · refine x_sv0 (rest := []) C0 hM hT hl.1 (k_X4_requireArgument l hst G B0 sa M s1 h3) cw_RX4_38 rfl rfl ⟨Nat.le_of_ble_eq_true rfl, Nat.le_of_ble_eq_true rfl⟩ rfl (Nat.le_of_ble_eq_true rfl) ⟨Nat.le_of_ble_eq_true rfl, Nat.le_of_ble_eq_true rfl⟩ dX4_inRow_9 (fun H locs hM => ?_)
      refine lv_aload_n C0.1 C0.2.1 dX4_inRow_12 rfl (lv_at hl 0 rfl) ?_
      refine gf4_0 C0 hM ok_tt fl_RX4_10 dX4_inRow_13 ?_
      refine gf3_2 C0 hM ok_now fl_RX4_129 dX4_inRow_16 ?_
      refine lv_iload_n C0.1 C0.2.1 dX4_inRow_19 rfl (lv_at hl 1 rfl) ?_
      obtain ⟨r7, h6, hF⟩ := bd_some hF
      refine y_vi (rest := []) C0 hM hl.1 (ok_row ok_now) (ent2 (ok_row ok_now)) rfl (k_X2_numberAt l G M4 (0 + 2) a0 h6 (ok_row ok_now)) cw_RX4_133 rfl rfl ⟨Nat.le_of_ble_eq_true rfl, Nat.le_of_ble_eq_true rfl⟩ rfl (Nat.le_of_ble_eq_true rfl) ⟨Nat.le_of_ble_eq_true rfl, Nat.le_of_ble_eq_true rfl⟩ dX4_inRow_20 (fun H locs hM => ?_)
      obtain ⟨e7, e8, e9⟩ := y_3 hF
      subst e8
      subst e9
      exact x_iret C0 hM hsz e7.symm (Nat.le_of_ble_eq_true rfl) (Nat.le_of_ble_eq_true rfl) dX4_inRow_23
    · exact x_sv1 (rest := []) C0 hM hT hsz hex hl.1 h5 (k_X4_requireArgument l hst G B0 sa M s1 h3) cw_RX4_38 rfl rfl ⟨Nat.le_of_ble_eq_true rfl, Nat.le_of_ble_eq_true rfl⟩ rfl (Nat.le_of_ble_eq_true rfl) ⟨Nat.le_of_ble_eq_true rfl, Nat.le_of_ble_eq_true rfl⟩ (Nat.le_of_ble_eq_true rfl) (Nat.le_of_ble_eq_true rfl) dX4_inRow_9
  refine lv_if_lt (tgt := 8) C0.1 C0.2.1 dX4_inRow_1 (by decide) (fun c8 => ?_) (fun c8 => ?_)
  · have hF := if_t c8 hF
    refine lv_iconst (v := (0 : Int32)) C0.1 C0.2.1 dX4_inRow_8 (by decide) ?_
    exact J9 (0 : Int32) _ _ _ hM (lv_sub hl [0, 1] rfl) hF
  · have hF := if_f c8 hF
    refine lv_iconst (v := (1 : Int32)) C0.1 C0.2.1 dX4_inRow_4 (by decide) ?_
    refine lv_goto (tgt := 9) C0.1 C0.2.1 dX4_inRow_5 (by decide) ?_
    exact J9 (1 : Int32) _ _ _ hM (lv_sub hl [0, 1] rfl) hF

def F_X4_count (M : MS) (a0 : Int32) : Option (Nat × Int32 × MS) := (bd (F_X4_isWithin M a0 (0 : Int32) (12 : Int32)) fun r2 => (bx (F_X4_requireArgument M r2) (fun M4 => (bd (F_X4_counted M4 a0) fun r7 => (some (0, r7, M4)))) (0 : Int32)))

set_option maxHeartbeats 4000000 in
set_option maxRecDepth 100000 in
theorem k_X4_count (l : Launch) (hst : l.stackTraces = false) (G : GG) (B0 : Nat) (sa : Nat × Nat × Nat) (M : MS) (a0 : Int32) {k : Nat} {r : Int32} {Mf : MS} (hF : F_X4_count M a0 = some (k, r, Mf)) : XI l yX4_count (WS yX4_count cX4_count 2 (some .int)) (RmX 7) G B0 sa [.ref (gad G 216), .int a0] M k r Mf := by
  intro sz
  refine x_met (by decide +kernel) (Nat.le_of_ble_eq_true rfl) (fun p e s m below meth c ls hsz C0 hex hM hT hl => ?_)
  have hl : lv_has ls 2 [(0, .ref (gad G 216)), (1, .int a0)] := hl
  have C0 : CX p s m meth c ([.ref (gad G 216), .int a0] : List Value).toArray cX4_count RX4 2 (some .int) := C0
  rw [F_X4_count] at hF
  refine lv_iload_n C0.1 C0.2.1 dX4_count_0 rfl (lv_at hl 1 rfl) ?_
  refine lv_iconst (v := (0 : Int32)) C0.1 C0.2.1 dX4_count_1 (by decide) ?_
  refine lv_bipush (v := (12 : Int32)) C0.1 C0.2.1 dX4_count_2 (by decide) ?_
  obtain ⟨r2, h1, hF⟩ := bd_some hF
  refine y_si (rest := []) C0 hM hl.1 (k_X4_isWithin l G M a0 (0 : Int32) (12 : Int32) h1) cw_RX4_34 rfl rfl ⟨Nat.le_of_ble_eq_true rfl, Nat.le_of_ble_eq_true rfl⟩ rfl (Nat.le_of_ble_eq_true rfl) ⟨Nat.le_of_ble_eq_true rfl, Nat.le_of_ble_eq_true rfl⟩ dX4_count_4 (fun H locs hM => ?_)
  rcases bx_some hF with ⟨M4, h3, hF⟩ | ⟨h3, h5⟩
  · refine x_sv0 (rest := []) C0 hM hT hl.1 (k_X4_requireArgument l hst G B0 sa M r2 h3) cw_RX4_38 rfl rfl ⟨Nat.le_of_ble_eq_true rfl, Nat.le_of_ble_eq_true rfl⟩ rfl (Nat.le_of_ble_eq_true rfl) ⟨Nat.le_of_ble_eq_true rfl, Nat.le_of_ble_eq_true rfl⟩ dX4_count_7 (fun H locs hM => ?_)
    refine lv_aload_n C0.1 C0.2.1 dX4_count_10 rfl (lv_at hl 0 rfl) ?_
    refine lv_iload_n C0.1 C0.2.1 dX4_count_11 rfl (lv_at hl 1 rfl) ?_
    obtain ⟨r7, h6, hF⟩ := bd_some hF
    refine y_vi (rest := []) C0 hM hl.1 ok_tt (ent4 ok_tt) rfl (k_X4_counted l G M4 a0 h6) cw_RX4_138 rfl rfl ⟨Nat.le_of_ble_eq_true rfl, Nat.le_of_ble_eq_true rfl⟩ rfl (Nat.le_of_ble_eq_true rfl) ⟨Nat.le_of_ble_eq_true rfl, Nat.le_of_ble_eq_true rfl⟩ dX4_count_12 (fun H locs hM => ?_)
    obtain ⟨e7, e8, e9⟩ := y_3 hF
    subst e8
    subst e9
    exact x_iret C0 hM hsz e7.symm (Nat.le_of_ble_eq_true rfl) (Nat.le_of_ble_eq_true rfl) dX4_count_15
  · exact x_sv1 (rest := []) C0 hM hT hsz hex hl.1 h5 (k_X4_requireArgument l hst G B0 sa M r2 h3) cw_RX4_38 rfl rfl ⟨Nat.le_of_ble_eq_true rfl, Nat.le_of_ble_eq_true rfl⟩ rfl (Nat.le_of_ble_eq_true rfl) ⟨Nat.le_of_ble_eq_true rfl, Nat.le_of_ble_eq_true rfl⟩ (Nat.le_of_ble_eq_true rfl) (Nat.le_of_ble_eq_true rfl) dX4_count_7

def F_X4_ifDone (M : MS) (a0 : Int32) (a1 : Int32) (a2 : Int32) : Option (Nat × Int32 × MS) := (bd (F_X4_isWithin M a0 (0 : Int32) (3 : Int32)) fun r2 => (nm (fun (s3 : Int32) => (bx (F_X4_requireArgument M s3) (fun M6 => (nm (fun (s8 : Int32) => (bx (F_X4_requireArgument M6 s8) (fun M11 => (bd (F_X3_isPossible M11 0 (rF M11 54 0) a0 a1) fun r14 => (if ¬ a2 = 0 then (if ¬ r14 = 0 then (if ¬ a2 = (1 : Int32) then (bd (F_X3_copyFrom M11 27 0) fun M19 => (bd2 (F_X3_act M19 27 a0 a1 (0 : Int32) (1 : Int32)) fun r22 M21 => (nm (fun (s23 : Int32) => (if ¬ a2 = (2 : Int32) then (some (0, (rF M21 54 27), M21)) else (if s23 = 0 then (some (0, (1 : Int32), M21)) else (some (0, (0 : Int32), M21))))) fun j137_23 => (if ¬ r22 = (-1 : Int32) then (j137_23 (0 : Int32)) else (j137_23 (1 : Int32)))))) else (bd (F_X3_numberSetOff M11 0 a0) fun r29 => (some (0, r29, M11)))) else (some (0, (-1 : Int32), M11))) else (if r14 = 0 then (some (0, (0 : Int32), M11)) else (some (0, (1 : Int32), M11)))))) (0 : Int32))) fun j49_8 => (if ¬ a0 = (1 : Int32) then (bd (F_X3_isFighter M6 0 a1) fun r33 => (j49_8 r33)) else (bd (F_X4_isWithin M6 a1 (0 : Int32) (9 : Int32)) fun r35 => (j49_8 r35))))) (0 : Int32))) fun j23_3 => (if r2 = 0 then (j23_3 (0 : Int32)) else (bd (F_X4_isWithin M a2 (0 : Int32) (3 : Int32)) fun r38 => (if r38 = 0 then (j23_3 (0 : Int32)) else (j23_3 (1 : Int32)))))))

set_option maxHeartbeats 4000000 in
set_option maxRecDepth 100000 in
theorem k_X4_ifDone (l : Launch) (hst : l.stackTraces = false) (G : GG) (B0 : Nat) (sa : Nat × Nat × Nat) (M : MS) (a0 : Int32) (a1 : Int32) (a2 : Int32) {k : Nat} {r : Int32} {Mf : MS} (hF : F_X4_ifDone M a0 a1 a2 = some (k, r, Mf)) : XI l yX4_ifDone (WS yX4_ifDone cX4_ifDone 6 (some .int)) (RmX 7) G B0 sa [.ref (gad G 216), .int a0, .int a1, .int a2] M k r Mf := by
  intro sz
  refine x_met (by decide +kernel) (Nat.le_of_ble_eq_true rfl) (fun p e s m below meth c ls hsz C0 hex hM hT hl => ?_)
  have hl : lv_has ls 6 [(0, .ref (gad G 216)), (1, .int a0), (2, .int a1), (3, .int a2)] := hl
  have C0 : CX p s m meth c ([.ref (gad G 216), .int a0, .int a1, .int a2] : List Value).toArray cX4_ifDone RX4 6 (some .int) := C0
  rw [F_X4_ifDone] at hF
  refine lv_iload_n C0.1 C0.2.1 dX4_ifDone_0 rfl (lv_at hl 1 rfl) ?_
  refine lv_iconst (v := (0 : Int32)) C0.1 C0.2.1 dX4_ifDone_1 (by decide) ?_
  refine lv_iconst (v := (3 : Int32)) C0.1 C0.2.1 dX4_ifDone_2 (by decide) ?_
  obtain ⟨r2, h1, hF⟩ := bd_some hF
  refine y_si (rest := []) C0 hM hl.1 (k_X4_isWithin l G M a0 (0 : Int32) (3 : Int32) h1) cw_RX4_34 rfl rfl ⟨Nat.le_of_ble_eq_true rfl, Nat.le_of_ble_eq_true rfl⟩ rfl (Nat.le_of_ble_eq_true rfl) ⟨Nat.le_of_ble_eq_true rfl, Nat.le_of_ble_eq_true rfl⟩ dX4_ifDone_3 (fun H locs hM => ?_)
  obtain ⟨j23_3, ej23_3, hF⟩ := nm_some hF
  have J23 : ∀ (s3 : Int32) (H : Heap) (locs : List Loc) (ls : Array Slot), MX G M s H locs → lv_has ls 6 [(0, .ref (gad G 216)), (1, .int a0), (2, .int a1), (3, .int a2)] → j23_3 s3 = some (k, r, Mf) → W p l e (RmX 7) s m ([.ref (gad G 216), .int a0, .int a1, .int a2] : List Value).toArray below meth c H locs 0 0 (QXI below ([.ref (gad G 216), .int a0, .int a1, .int a2] : List Value).toArray s G sz k r Mf) (F0 m 23 ls [.int s3]) := by
    intro s3 H locs ls hM hl hF
    rw [ej23_3] at hF
    rcases bx_some hF with ⟨M6, h5, hF⟩ | ⟨h5, h7⟩
    · refine x_sv0 (rest := []) C0 hM hT hl.1 (k_X4_requireArgument l hst G B0 sa M s3 h5) cw_RX4_38 rfl rfl ⟨Nat.le_of_ble_eq_true rfl, Nat.le_of_ble_eq_true rfl⟩ rfl (Nat.le_of_ble_eq_true rfl) ⟨Nat.le_of_ble_eq_true rfl, Nat.le_of_ble_eq_true rfl⟩ dX4_ifDone_23 (fun H locs hM => ?_)
      refine lv_iload_n C0.1 C0.2.1 dX4_ifDone_26 rfl (lv_at hl 1 rfl) ?_
      refine lv_iconst (v := (1 : Int32)) C0.1 C0.2.1 dX4_ifDone_27 (by decide) ?_
      obtain ⟨j49_8, ej49_8, hF⟩ := nm_some hF
      have J49 : ∀ (s8 : Int32) (H : Heap) (locs : List Loc) (ls : Array Slot), MX G M6 s H locs → lv_has ls 6 [(0, .ref (gad G 216)), (1, .int a0), (2, .int a1), (3, .int a2)] → j49_8 s8 = some (k, r, Mf) → W p l e (RmX 7) s m ([.ref (gad G 216), .int a0, .int a1, .int a2] : List Value).toArray below meth c H locs 1 6 (QXI below ([.ref (gad G 216), .int a0, .int a1, .int a2] : List Value).toArray s G sz k r Mf) (F0 m 49 ls [.int s8]) := by
        intro s8 H locs ls hM hl hF
        rw [ej49_8] at hF
        rcases bx_some hF with ⟨M11, h10, hF⟩ | ⟨h10, h12⟩
        · refine x_sv0 (rest := []) C0 hM hT hl.1 (k_X4_requireArgument l hst G B0 sa M6 s8 h10) cw_RX4_38 rfl rfl ⟨Nat.le_of_ble_eq_true rfl, Nat.le_of_ble_eq_true rfl⟩ rfl (Nat.le_of_ble_eq_true rfl) ⟨Nat.le_of_ble_eq_true rfl, Nat.le_of_ble_eq_true rfl⟩ dX4_ifDone_49 (fun H locs hM => ?_)
          refine lv_aload_n C0.1 C0.2.1 dX4_ifDone_52 rfl (lv_at hl 0 rfl) ?_
          refine gf4_0 C0 hM ok_tt fl_RX4_10 dX4_ifDone_53 ?_
          refine lv_aload_n C0.1 C0.2.1 dX4_ifDone_56 rfl (lv_at hl 0 rfl) ?_
          refine gf4_0 C0 hM ok_tt fl_RX4_10 dX4_ifDone_57 ?_
          refine gf3_6 C0 hM ok_now fl_RX4_58 dX4_ifDone_60 ?_
          refine lv_iload_n C0.1 C0.2.1 dX4_ifDone_63 rfl (lv_at hl 1 rfl) ?_
          refine lv_iload_n C0.1 C0.2.1 dX4_ifDone_64 rfl (lv_at hl 2 rfl) ?_
          obtain ⟨r14, h13, hF⟩ := bd_some hF
          refine y_vi (rest := []) C0 hM hl.1 ok_now (ent3 ok_now) rfl (k_X3_isPossible l G M11 0 (rF M11 54 0) a0 a1 h13 ok_now) cw_RX4_65 rfl rfl ⟨Nat.le_of_ble_eq_true rfl, Nat.le_of_ble_eq_true rfl⟩ rfl (Nat.le_of_ble_eq_true rfl) ⟨Nat.le_of_ble_eq_true rfl, Nat.le_of_ble_eq_true rfl⟩ dX4_ifDone_65 (fun H locs hM => ?_)
          refine lv_istore (lv' := [(4, .int r14), (0, .ref (gad G 216)), (1, .int a0), (2, .int a1), (3, .int a2)]) C0.1 C0.2.1 dX4_ifDone_68 hl (by decide) rfl (fun ls hl => ?_)
          refine lv_iload_n C0.1 C0.2.1 dX4_ifDone_70 rfl (lv_at hl 4 rfl) ?_
          refine lv_if_ne (tgt := 85) C0.1 C0.2.1 dX4_ifDone_71 (by decide) (fun c15 => ?_) (fun c15 => ?_)
          · have hF := if_t c15 hF
            refine lv_iload C0.1 C0.2.1 dX4_ifDone_85 (lv_at hl 0 rfl) ?_
            refine lv_if_ne (tgt := 92) C0.1 C0.2.1 dX4_ifDone_87 (by decide) (fun c16 => ?_) (fun c16 => ?_)
            · have hF := if_t c16 hF
              refine lv_iload_n C0.1 C0.2.1 dX4_ifDone_92 rfl (lv_at hl 4 rfl) ?_
              refine lv_iconst (v := (1 : Int32)) C0.1 C0.2.1 dX4_ifDone_93 (by decide) ?_
              refine lv_icmp_ne (tgt := 106) C0.1 C0.2.1 dX4_ifDone_94 (by decide) (fun c17 => ?_) (fun c17 => ?_)
              · have hF := if_t c17 hF
                refine lv_aload_n C0.1 C0.2.1 dX4_ifDone_106 rfl (lv_at hl 1 rfl) ?_
                refine gf4_1 C0 hM ok_tt fl_RX4_16 dX4_ifDone_107 ?_
                refine lv_aload_n C0.1 C0.2.1 dX4_ifDone_110 rfl (lv_at hl 1 rfl) ?_
                refine gf4_0 C0 hM ok_tt fl_RX4_10 dX4_ifDone_111 ?_
                obtain ⟨M19, h18, hF⟩ := bd_some hF
                refine y_vv (rest := []) C0 hM hl.1 ok_scratch (ent3 ok_scratch) rfl (k_X3_copyFrom l G M11 27 0 h18 ok_scratch ok_now) cw_RX4_112 rfl rfl ⟨Nat.le_of_ble_eq_true rfl, Nat.le_of_ble_eq_true rfl⟩ rfl (Nat.le_of_ble_eq_true rfl) ⟨Nat.le_of_ble_eq_true rfl, Nat.le_of_ble_eq_true rfl⟩ dX4_ifDone_114 (fun H locs hM => ?_)
                refine lv_aload_n C0.1 C0.2.1 dX4_ifDone_117 rfl (lv_at hl 1 rfl) ?_
                refine gf4_1 C0 hM ok_tt fl_RX4_16 dX4_ifDone_118 ?_
                refine lv_iload_n C0.1 C0.2.1 dX4_ifDone_121 rfl (lv_at hl 2 rfl) ?_
                refine lv_iload_n C0.1 C0.2.1 dX4_ifDone_122 rfl (lv_at hl 3 rfl) ?_
                refine lv_iconst (v := (0 : Int32)) C0.1 C0.2.1 dX4_ifDone_123 (by decide) ?_
                refine lv_iconst (v := (1 : Int32)) C0.1 C0.2.1 dX4_ifDone_124 (by decide) ?_
                obtain ⟨r22, M21, h20, hF⟩ := bd2_some hF
                refine y_vi (rest := []) C0 hM hl.1 ok_scratch (ent3 ok_scratch) rfl (k_X3_act l G M19 27 a0 a1 (0 : Int32) (1 : Int32) h20 ok_scratch) cw_RX4_68 rfl rfl ⟨Nat.le_of_ble_eq_true rfl, Nat.le_of_ble_eq_true rfl⟩ rfl (Nat.le_of_ble_eq_true rfl) ⟨Nat.le_of_ble_eq_true rfl, Nat.le_of_ble_eq_true rfl⟩ dX4_ifDone_125 (fun H locs hM => ?_)
                refine lv_iconst (v := (-1 : Int32)) C0.1 C0.2.1 dX4_ifDone_128 (by decide) ?_
                obtain ⟨j137_23, ej137_23, hF⟩ := nm_some hF
                have J137 : ∀ (s23 : Int32) (H : Heap) (locs : List Loc) (ls : Array Slot), MX G M21 s H locs → lv_has ls 6 [(0, .ref (gad G 216)), (1, .int a0), (2, .int a1), (3, .int a2), (4, .int r14)] → j137_23 s23 = some (k, r, Mf) → W p l e (RmX 7) s m ([.ref (gad G 216), .int a0, .int a1, .int a2] : List Value).toArray below meth c H locs 2 12 (QXI below ([.ref (gad G 216), .int a0, .int a1, .int a2] : List Value).toArray s G sz k r Mf) (F0 m 137 ls [.int s23]) := by
                  intro s23 H locs ls hM hl hF
                  rw [ej137_23] at hF
                  refine lv_istore (lv' := [(5, .int s23), (0, .ref (gad G 216)), (1, .int a0), (2, .int a1), (3, .int a2), (4, .int r14)]) C0.1 C0.2.1 dX4_ifDone_137 hl (by decide) rfl (fun ls hl => ?_)
                  refine lv_iload_n C0.1 C0.2.1 dX4_ifDone_139 rfl (lv_at hl 4 rfl) ?_
                  refine lv_iconst (v := (2 : Int32)) C0.1 C0.2.1 dX4_ifDone_140 (by decide) ?_
                  refine lv_icmp_ne (tgt := 155) C0.1 C0.2.1 dX4_ifDone_141 (by decide) (fun c25 => ?_) (fun c25 => ?_)
                  · have hF := if_t c25 hF
                    refine lv_aload_n C0.1 C0.2.1 dX4_ifDone_155 rfl (lv_at hl 1 rfl) ?_
                    refine gf4_1 C0 hM ok_tt fl_RX4_16 dX4_ifDone_156 ?_
                    refine gf3_6 C0 hM ok_scratch fl_RX4_58 dX4_ifDone_159 ?_
                    obtain ⟨e7, e8, e9⟩ := y_3 hF
                    subst e8
                    subst e9
                    exact x_iret C0 hM hsz e7.symm (Nat.le_of_ble_eq_true rfl) (Nat.le_of_ble_eq_true rfl) dX4_ifDone_162
                  · have hF := if_f (fun q => q c25) hF
                    refine lv_iload C0.1 C0.2.1 dX4_ifDone_144 (lv_at hl 0 rfl) ?_
                    refine lv_if_eq (tgt := 153) C0.1 C0.2.1 dX4_ifDone_146 (by decide) (fun c26 => ?_) (fun c26 => ?_)
                    · have hF := if_t c26 hF
                      refine lv_iconst (v := (1 : Int32)) C0.1 C0.2.1 dX4_ifDone_153 (by decide) ?_
                      obtain ⟨e7, e8, e9⟩ := y_3 hF
                      subst e8
                      subst e9
                      exact x_iret C0 hM hsz e7.symm (Nat.le_of_ble_eq_true rfl) (Nat.le_of_ble_eq_true rfl) dX4_ifDone_154
                    · have hF := if_f c26 hF
                      refine lv_iconst (v := (0 : Int32)) C0.1 C0.2.1 dX4_ifDone_149 (by decide) ?_
                      refine lv_goto (tgt := 154) C0.1 C0.2.1 dX4_ifDone_150 (by decide) ?_
                      obtain ⟨e7, e8, e9⟩ := y_3 hF
                      subst e8
                      subst e9
                      exact x_iret C0 hM hsz e7.symm (Nat.le_of_ble_eq_true rfl) (Nat.le_of_ble_eq_true rfl) dX4_ifDone_154
                refine lv_icmp_ne (tgt := 136) C0.1 C0.2.1 dX4_ifDone_129 (by decide) (fun c27 => ?_) (fun c27 => ?_)
                · have hF := if_t c27 hF
                  refine lv_iconst (v := (0 : Int32)) C0.1 C0.2.1 dX4_ifDone_136 (by decide) ?_
                  exact J137 (0 : Int32) _ _ _ hM (lv_sub hl [1, 2, 3, 4, 0] rfl) hF
                · have hF := if_f (fun q => q c27) hF
                  refine lv_iconst (v := (1 : Int32)) C0.1 C0.2.1 dX4_ifDone_132 (by decide) ?_
                  refine lv_goto (tgt := 137) C0.1 C0.2.1 dX4_ifDone_133 (by decide) ?_
                  exact J137 (1 : Int32) _ _ _ hM (lv_sub hl [1, 2, 3, 4, 0] rfl) hF
              · have hF := if_f (fun q => q c17) hF
                refine lv_aload_n C0.1 C0.2.1 dX4_ifDone_97 rfl (lv_at hl 1 rfl) ?_
                refine gf4_0 C0 hM ok_tt fl_RX4_10 dX4_ifDone_98 ?_
                refine lv_iload_n C0.1 C0.2.1 dX4_ifDone_101 rfl (lv_at hl 2 rfl) ?_
                obtain ⟨r29, h28, hF⟩ := bd_some hF
                refine y_vi (rest := []) C0 hM hl.1 ok_now (ent3 ok_now) rfl (k_X3_numberSetOff l G M11 0 a0 h28 ok_now) cw_RX4_144 rfl rfl ⟨Nat.le_of_ble_eq_true rfl, Nat.le_of_ble_eq_true rfl⟩ rfl (Nat.le_of_ble_eq_true rfl) ⟨Nat.le_of_ble_eq_true rfl, Nat.le_of_ble_eq_true rfl⟩ dX4_ifDone_102 (fun H locs hM => ?_)
                obtain ⟨e7, e8, e9⟩ := y_3 hF
                subst e8
                subst e9
                exact x_iret C0 hM hsz e7.symm (Nat.le_of_ble_eq_true rfl) (Nat.le_of_ble_eq_true rfl) dX4_ifDone_105
            · have hF := if_f (fun q => q c16) hF
              refine lv_iconst (v := (-1 : Int32)) C0.1 C0.2.1 dX4_ifDone_90 (by decide) ?_
              obtain ⟨e7, e8, e9⟩ := y_3 hF
              subst e8
              subst e9
              exact x_iret C0 hM hsz e7.symm (Nat.le_of_ble_eq_true rfl) (Nat.le_of_ble_eq_true rfl) dX4_ifDone_91
          · have hF := if_f (fun q => q c15) hF
            refine lv_iload C0.1 C0.2.1 dX4_ifDone_74 (lv_at hl 0 rfl) ?_
            refine lv_if_eq (tgt := 83) C0.1 C0.2.1 dX4_ifDone_76 (by decide) (fun c30 => ?_) (fun c30 => ?_)
            · have hF := if_t c30 hF
              refine lv_iconst (v := (0 : Int32)) C0.1 C0.2.1 dX4_ifDone_83 (by decide) ?_
              obtain ⟨e7, e8, e9⟩ := y_3 hF
              subst e8
              subst e9
              exact x_iret C0 hM hsz e7.symm (Nat.le_of_ble_eq_true rfl) (Nat.le_of_ble_eq_true rfl) dX4_ifDone_84
            · have hF := if_f c30 hF
              refine lv_iconst (v := (1 : Int32)) C0.1 C0.2.1 dX4_ifDone_79 (by decide) ?_
              refine lv_goto (tgt := 84) C0.1 C0.2.1 dX4_ifDone_80 (by decide) ?_
              obtain ⟨e7, e8, e9⟩ := y_3 hF
              subst e8
              subst e9
              exact x_iret C0 hM hsz e7.symm (Nat.le_of_ble_eq_true rfl) (Nat.le_of_ble_eq_true rfl) dX4_ifDone_84
        · exact x_sv1 (rest := []) C0 hM hT hsz hex hl.1 h12 (k_X4_requireArgument l hst G B0 sa M6 s8 h10) cw_RX4_38 rfl rfl ⟨Nat.le_of_ble_eq_true rfl, Nat.le_of_ble_eq_true rfl⟩ rfl (Nat.le_of_ble_eq_true rfl) ⟨Nat.le_of_ble_eq_true rfl, Nat.le_of_ble_eq_true rfl⟩ (Nat.le_of_ble_eq_true rfl) (Nat.le_of_ble_eq_true rfl) dX4_ifDone_49
      refine lv_icmp_ne (tgt := 41) C0.1 C0.2.1 dX4_ifDone_28 (by decide) (fun c31 => ?_) (fun c31 => ?_)
      · have hF := if_t c31 hF
        refine lv_aload_n C0.1 C0.2.1 dX4_ifDone_41 rfl (lv_at hl 0 rfl) ?_
        refine gf4_0 C0 hM ok_tt fl_RX4_10 dX4_ifDone_42 ?_
        refine lv_iload_n C0.1 C0.2.1 dX4_ifDone_45 rfl (lv_at hl 2 rfl) ?_
        obtain ⟨r33, h32, hF⟩ := bd_some hF
        refine y_vi (rest := []) C0 hM hl.1 ok_now (ent3 ok_now) rfl (k_X3_isFighter l G M6 0 a1 h32 ok_now) cw_RX4_141 rfl rfl ⟨Nat.le_of_ble_eq_true rfl, Nat.le_of_ble_eq_true rfl⟩ rfl (Nat.le_of_ble_eq_true rfl) ⟨Nat.le_of_ble_eq_true rfl, Nat.le_of_ble_eq_true rfl⟩ dX4_ifDone_46 (fun H locs hM => ?_)
        exact J49 r33 _ _ _ hM (lv_sub hl [0, 1, 2, 3] rfl) hF
      · have hF := if_f (fun q => q c31) hF
        refine lv_iload_n C0.1 C0.2.1 dX4_ifDone_31 rfl (lv_at hl 2 rfl) ?_
        refine lv_iconst (v := (0 : Int32)) C0.1 C0.2.1 dX4_ifDone_32 (by decide) ?_
        refine lv_bipush (v := (9 : Int32)) C0.1 C0.2.1 dX4_ifDone_33 (by decide) ?_
        obtain ⟨r35, h34, hF⟩ := bd_some hF
        refine y_si (rest := []) C0 hM hl.1 (k_X4_isWithin l G M6 a1 (0 : Int32) (9 : Int32) h34) cw_RX4_34 rfl rfl ⟨Nat.le_of_ble_eq_true rfl, Nat.le_of_ble_eq_true rfl⟩ rfl (Nat.le_of_ble_eq_true rfl) ⟨Nat.le_of_ble_eq_true rfl, Nat.le_of_ble_eq_true rfl⟩ dX4_ifDone_35 (fun H locs hM => ?_)
        refine lv_goto (tgt := 49) C0.1 C0.2.1 dX4_ifDone_38 (by decide) ?_
        exact J49 r35 _ _ _ hM (lv_sub hl [0, 1, 2, 3] rfl) hF
    · exact x_sv1 (rest := []) C0 hM hT hsz hex hl.1 h7 (k_X4_requireArgument l hst G B0 sa M s3 h5) cw_RX4_38 rfl rfl ⟨Nat.le_of_ble_eq_true rfl, Nat.le_of_ble_eq_true rfl⟩ rfl (Nat.le_of_ble_eq_true rfl) ⟨Nat.le_of_ble_eq_true rfl, Nat.le_of_ble_eq_true rfl⟩ (Nat.le_of_ble_eq_true rfl) (Nat.le_of_ble_eq_true rfl) dX4_ifDone_23
  refine lv_if_eq (tgt := 22) C0.1 C0.2.1 dX4_ifDone_6 (by decide) (fun c36 => ?_) (fun c36 => ?_)
  · have hF := if_t c36 hF
    refine lv_iconst (v := (0 : Int32)) C0.1 C0.2.1 dX4_ifDone_22 (by decide) ?_
    exact J23 (0 : Int32) _ _ _ hM (lv_sub hl [0, 1, 2, 3] rfl) hF
  · have hF := if_f c36 hF
    refine lv_iload_n C0.1 C0.2.1 dX4_ifDone_9 rfl (lv_at hl 3 rfl) ?_
    refine lv_iconst (v := (0 : Int32)) C0.1 C0.2.1 dX4_ifDone_10 (by decide) ?_
    refine lv_iconst (v := (3 : Int32)) C0.1 C0.2.1 dX4_ifDone_11 (by decide) ?_
    obtain ⟨r38, h37, hF⟩ := bd_some hF
    refine y_si (rest := []) C0 hM hl.1 (k_X4_isWithin l G M a2 (0 : Int32) (3 : Int32) h37) cw_RX4_34 rfl rfl ⟨Nat.le_of_ble_eq_true rfl, Nat.le_of_ble_eq_true rfl⟩ rfl (Nat.le_of_ble_eq_true rfl) ⟨Nat.le_of_ble_eq_true rfl, Nat.le_of_ble_eq_true rfl⟩ dX4_ifDone_12 (fun H locs hM => ?_)
    refine lv_if_eq (tgt := 22) C0.1 C0.2.1 dX4_ifDone_15 (by decide) (fun c39 => ?_) (fun c39 => ?_)
    · have hF := if_t c39 hF
      refine lv_iconst (v := (0 : Int32)) C0.1 C0.2.1 dX4_ifDone_22 (by decide) ?_
      exact J23 (0 : Int32) _ _ _ hM (lv_sub hl [0, 1, 2, 3] rfl) hF
    · have hF := if_f c39 hF
      refine lv_iconst (v := (1 : Int32)) C0.1 C0.2.1 dX4_ifDone_18 (by decide) ?_
      refine lv_goto (tgt := 23) C0.1 C0.2.1 dX4_ifDone_19 (by decide) ?_
      exact J23 (1 : Int32) _ _ _ hM (lv_sub hl [0, 1, 2, 3] rfl) hF
