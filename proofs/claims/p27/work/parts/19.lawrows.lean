theorem cw_RL_10 : CWS RL 10 yL_cell cL_cell 2 (some .int) 2 := ⟨tbx [553, 554, 5, 555] (by decide +kernel) (by decide +kernel), by decide +kernel, by decide +kernel, by decide +kernel⟩
theorem cw_RL_16 : CWS RL 16 yL_low cL_low 2 (some .int) 2 := ⟨tbx [558, 559, 5, 560] (by decide +kernel) (by decide +kernel), by decide +kernel, by decide +kernel, by decide +kernel⟩
theorem cw_RL_20 : CWV RL 20 RX4 yX4_come cX4_come 5 (some .int) 4 := ⟨tbx [565, 566, 567, 6, 568] (by decide +kernel) (by decide +kernel), rfl, by decide +kernel, by decide +kernel, by decide +kernel⟩
theorem cw_RL_26 : CWV RL 26 RX4 yX4_fighter cX4_fighter 3 (some .int) 2 := ⟨tbx [507, 508, 509, 6, 510] (by decide +kernel) (by decide +kernel), rfl, by decide +kernel, by decide +kernel, by decide +kernel⟩
theorem cw_RL_29 : CWV RL 29 RX4 yX4_readied cX4_readied 3 (some .int) 2 := ⟨tbx [578, 579, 580, 6, 581] (by decide +kernel) (by decide +kernel), rfl, by decide +kernel, by decide +kernel, by decide +kernel⟩
theorem cw_RL_32 : CWV RL 32 RX4 yX4_count cX4_count 2 (some .int) 1 := ⟨tbx [521, 522, 523, 6, 524] (by decide +kernel) (by decide +kernel), rfl, by decide +kernel, by decide +kernel, by decide +kernel⟩
theorem cw_RL_36 : CWS RL 36 yL_lives cL_lives 2 (some .boolean) 2 := ⟨tbx [587, 588, 5, 589] (by decide +kernel) (by decide +kernel), by decide +kernel, by decide +kernel, by decide +kernel⟩
theorem cw_RL_40 : CWS RL 40 yL_forget cL_forget 3 none 2 := ⟨tbx [590, 591, 5, 592] (by decide +kernel) (by decide +kernel), by decide +kernel, by decide +kernel, by decide +kernel⟩
theorem cw_RL_44 : CWS RL 44 yL_fade cL_fade 3 none 2 := ⟨tbx [596, 597, 5, 598] (by decide +kernel) (by decide +kernel), by decide +kernel, by decide +kernel, by decide +kernel⟩
theorem cw_RL_47 : CWS RL 47 yL_rank cL_rank 3 (some .int) 2 := ⟨tbx [602, 603, 5, 604] (by decide +kernel) (by decide +kernel), by decide +kernel, by decide +kernel, by decide +kernel⟩
theorem cw_RL_50 : CWS RL 50 yL_goOn cL_goOn 12 none 5 := ⟨tbx [593, 594, 5, 595] (by decide +kernel) (by decide +kernel), by decide +kernel, by decide +kernel, by decide +kernel⟩
theorem cw_RL_54 : CWS RL 54 yL_can cL_can 8 (some .boolean) 6 := ⟨tbx [608, 609, 5, 610] (by decide +kernel) (by decide +kernel), by decide +kernel, by decide +kernel, by decide +kernel⟩
theorem cw_RL_58 : CWS RL 58 yL_does cL_does 11 (some .int) 9 := ⟨tbx [614, 615, 5, 616] (by decide +kernel) (by decide +kernel), by decide +kernel, by decide +kernel, by decide +kernel⟩
theorem cw_RL_62 : CWS RL 62 yL_stand cL_stand 9 none 6 := ⟨tbx [605, 606, 5, 607] (by decide +kernel) (by decide +kernel), by decide +kernel, by decide +kernel, by decide +kernel⟩
theorem cw_RL_66 : CWS RL 66 yL_endTurn cL_endTurn 7 none 4 := ⟨tbx [599, 600, 5, 601] (by decide +kernel) (by decide +kernel), by decide +kernel, by decide +kernel, by decide +kernel⟩
theorem cw_RL_70 : CWV RL 70 RX4 yX4_inRow cX4_inRow 2 (some .int) 1 := ⟨tbx [620, 621, 622, 6, 623] (by decide +kernel) (by decide +kernel), rfl, by decide +kernel, by decide +kernel, by decide +kernel⟩
theorem cw_RL_73 : CWV RL 73 RX4 yX4_standing cX4_standing 3 (some .double) 0 := ⟨tbx [625, 626, 627, 6, 628] (by decide +kernel) (by decide +kernel), rfl, by decide +kernel, by decide +kernel, by decide +kernel⟩
def F_L_low (M : MS) (a0 : Int32) (a1 : Int32) : Option Int32 := (gdb (!(a1 == 0)) (some ((a0 &&& (2147483647 : Int32)) - (a0 &&& (2147483647 : Int32)) / a1 * a1)))

set_option maxHeartbeats 8000000 in
set_option maxRecDepth 100000 in
theorem k_L_low (l : Launch) (G : GG) (M : MS) (a0 : Int32) (a1 : Int32) {r : Int32} (hF : F_L_low M a0 a1 = some r) : KI l yL_low (WS yL_low cL_low 2 (some .int)) (RmL 0 0) G [.int a0, .int a1] M r M := by
  intro sz
  refine y_met (by decide +kernel) (Nat.le_of_ble_eq_true rfl) rfl (fun p e s m below meth c ls hsz C0 hM hl => ?_)
  have hl : lv_has ls 2 [(0, .int a0), (1, .int a1)] := hl
  have C0 : CX p s m meth c ([.int a0, .int a1] : List Value).toArray cL_low RL 2 (some .int) := C0
  rw [F_L_low] at hF
  refine lv_iload_n C0.1 C0.2.1 dL_low_0 rfl (lv_at hl 0 rfl) ?_
  refine lv_ldc (v := (2147483647 : Int32)) C0.1 C0.2.1 C0.2.2.2.1 (C0.2.2.2.2.1 _ (tb1 561 (by decide +kernel) (by decide +kernel))) dL_low_1 ?_
  refine lv_iand C0.1 C0.2.1 dL_low_3 ?_
  refine lv_iload_n C0.1 C0.2.1 dL_low_4 rfl (lv_at hl 1 rfl) ?_
  obtain ⟨g1, hF⟩ := gdb_some hF
  refine lv_irem C0.1 C0.2.1 dL_low_5 (by simpa using g1) ?_
  have e8 := y_1 hF
  subst e8
  exact y_iret C0 hM hsz dL_low_6

def F_L_rank_l2 (a1 : Int32) (M : MS) : Nat → Int32 → Option Int32
  | 0, _ => none
  | n2 + 1, l2_1 => (gdb (inb l2_1 6) (if (rA M 222 (Int32.toNatClampNeg l2_1)) = a1 then (some l2_1) else (nm (l2_1 + (1 : Int32)) fun x4 => (F_L_rank_l2 a1 M n2 x4))))

def F_L_rank (M : MS) (a1 : Int32) : Option Int32 := (F_L_rank_l2 a1 M FU (0 : Int32))

set_option maxHeartbeats 8000000 in
set_option maxRecDepth 100000 in
theorem k_L_rank (l : Launch) (G : GG) (M : MS) (a1 : Int32) {r : Int32} (hF : F_L_rank M a1 = some r) : KI l yL_rank (WS yL_rank cL_rank 3 (some .int)) (RmL 0 0) G [.ref (gad G 222), .int a1] M r M := by
  intro sz
  refine y_met (by decide +kernel) (Nat.le_of_ble_eq_true rfl) rfl (fun p e s m below meth c ls hsz C0 hM hl => ?_)
  have hl : lv_has ls 3 [(0, .ref (gad G 222)), (1, .int a1)] := hl
  have C0 : CX p s m meth c ([.ref (gad G 222), .int a1] : List Value).toArray cL_rank RL 3 (some .int) := C0
  rw [F_L_rank] at hF
  refine lv_iconst (v := (0 : Int32)) C0.1 C0.2.1 dL_rank_0 (by decide) ?_
  refine lv_istore_n (lv' := [(2, .int (0 : Int32)), (0, .ref (gad G 222)), (1, .int a1)]) C0.1 C0.2.1 dL_rank_1 rfl hl (by decide) rfl (fun ls hl => ?_)
  have L2 : ∀ (n : Nat) (l2_1 : Int32) (H : Heap) (locs : List Loc) (ls : Array Slot), MX G M s H locs → lv_has ls 3 [(0, .ref (gad G 222)), (1, .int a1), (2, .int l2_1)] → F_L_rank_l2 a1 M n l2_1 = some r → W p l e (RmL 0 0) s m ([.ref (gad G 222), .int a1] : List Value).toArray below meth c H locs 0 0 (QI below ([.ref (gad G 222), .int a1] : List Value).toArray s G sz r M) (F0 m 2 ls []) := by
    intro n
    induction n with
    | zero => intro l2_1 H locs ls hM hl hF; rw [F_L_rank_l2] at hF; cases hF
    | succ n2 ih2 =>
      intro l2_1 H locs ls hM hl hF
      rw [F_L_rank_l2] at hF
      refine lv_aload_n C0.1 C0.2.1 dL_rank_2 rfl (lv_at hl 0 rfl) ?_
      refine lv_iload_n C0.1 C0.2.1 dL_rank_3 rfl (lv_at hl 2 rfl) ?_
      obtain ⟨g2, hF⟩ := gdb_some hF
      refine y_iald C0 hM oka_r g2 dL_rank_4 ?_
      refine lv_iload_n C0.1 C0.2.1 dL_rank_5 rfl (lv_at hl 1 rfl) ?_
      refine lv_icmp_eq (tgt := 15) C0.1 C0.2.1 dL_rank_6 (by decide) (fun c3 => ?_) (fun c3 => ?_)
      · have hF := if_t c3 hF
        refine lv_iload_n C0.1 C0.2.1 dL_rank_15 rfl (lv_at hl 2 rfl) ?_
        have e8 := y_1 hF
        subst e8
        exact y_iret C0 hM hsz dL_rank_16
      · have hF := if_f c3 hF
        obtain ⟨x4, ex4, hF⟩ := nm_some hF
        refine lv_iinc (v := x4) (lv' := [(2, .int x4), (0, .ref (gad G 222)), (1, .int a1)]) C0.1 C0.2.1 dL_rank_9 hl (k := 2) rfl (by rw [ex4]; rfl) (by decide) rfl (fun ls hl => ?_)
        refine lv_goto (tgt := 2) C0.1 C0.2.1 dL_rank_12 (by decide) ?_
        exact ih2 x4 _ _ _ hM (lv_sub hl [1, 2, 0] rfl) hF
  exact L2 FU (0 : Int32) _ _ _ hM (lv_sub hl [1, 2, 0] rfl) hF

def F_L_lives (M : MS) (a1 : Int32) : Option Int32 := (gdb (inb ((8 : Int32) * a1) 48) (if (rA M 220 (Int32.toNatClampNeg ((8 : Int32) * a1))) ≤ 0 then (some (0 : Int32)) else (some (1 : Int32))))

set_option maxHeartbeats 8000000 in
set_option maxRecDepth 100000 in
theorem k_L_lives (l : Launch) (G : GG) (M : MS) (a1 : Int32) {r : Int32} (hF : F_L_lives M a1 = some r) : KI l yL_lives (WS yL_lives cL_lives 2 (some .boolean)) (RmL 0 0) G [.ref (gad G 220), .int a1] M r M := by
  intro sz
  refine y_met (by decide +kernel) (Nat.le_of_ble_eq_true rfl) rfl (fun p e s m below meth c ls hsz C0 hM hl => ?_)
  have hl : lv_has ls 2 [(0, .ref (gad G 220)), (1, .int a1)] := hl
  have C0 : CX p s m meth c ([.ref (gad G 220), .int a1] : List Value).toArray cL_lives RL 2 (some .boolean) := C0
  rw [F_L_lives] at hF
  refine lv_aload_n C0.1 C0.2.1 dL_lives_0 rfl (lv_at hl 0 rfl) ?_
  refine lv_bipush (v := (8 : Int32)) C0.1 C0.2.1 dL_lives_1 (by decide) ?_
  refine lv_iload_n C0.1 C0.2.1 dL_lives_3 rfl (lv_at hl 1 rfl) ?_
  refine lv_imul C0.1 C0.2.1 dL_lives_4 ?_
  obtain ⟨g1, hF⟩ := gdb_some hF
  refine y_iald C0 hM oka_a g1 dL_lives_5 ?_
  refine lv_if_le (tgt := 13) C0.1 C0.2.1 dL_lives_6 (by decide) (fun c2 => ?_) (fun c2 => ?_)
  · have hF := if_t c2 hF
    refine lv_iconst (v := (0 : Int32)) C0.1 C0.2.1 dL_lives_13 (by decide) ?_
    have e8 := y_1 hF
    subst e8
    exact y_zret C0 hM hsz rfl dL_lives_14
  · have hF := if_f c2 hF
    refine lv_iconst (v := (1 : Int32)) C0.1 C0.2.1 dL_lives_9 (by decide) ?_
    refine lv_goto (tgt := 14) C0.1 C0.2.1 dL_lives_10 (by decide) ?_
    have e8 := y_1 hF
    subst e8
    exact y_zret C0 hM hsz rfl dL_lives_14

def F_L_forget_l2 (a1 : Int32) : Nat → Int32 → MS → Option MS
  | 0, _, _ => none
  | n2 + 1, l2_1, M2 => (if (8 : Int32) ≤ l2_1 then (some M2) else (gdb (inb (((8 : Int32) * a1) + l2_1) 48) (nm (wA M2 220 (Int32.toNatClampNeg (((8 : Int32) * a1) + l2_1)) (-1 : Int32)) fun M5 => (nm (l2_1 + (1 : Int32)) fun x6 => (F_L_forget_l2 a1 n2 x6 M5)))))

def F_L_forget (M : MS) (a1 : Int32) : Option MS := (F_L_forget_l2 a1 FU (4 : Int32) M)

set_option maxHeartbeats 8000000 in
set_option maxRecDepth 100000 in
theorem k_L_forget (l : Launch) (G : GG) (M : MS) (a1 : Int32) {Mf : MS} (hF : F_L_forget M a1 = some Mf) : KV l yL_forget (WS yL_forget cL_forget 3 none) (RmL 0 0) G [.ref (gad G 220), .int a1] M Mf := by
  intro sz
  refine y_met (by decide +kernel) (Nat.le_of_ble_eq_true rfl) rfl (fun p e s m below meth c ls hsz C0 hM hl => ?_)
  have hl : lv_has ls 3 [(0, .ref (gad G 220)), (1, .int a1)] := hl
  have C0 : CX p s m meth c ([.ref (gad G 220), .int a1] : List Value).toArray cL_forget RL 3 none := C0
  rw [F_L_forget] at hF
  refine lv_iconst (v := (4 : Int32)) C0.1 C0.2.1 dL_forget_0 (by decide) ?_
  refine lv_istore_n (lv' := [(2, .int (4 : Int32)), (0, .ref (gad G 220)), (1, .int a1)]) C0.1 C0.2.1 dL_forget_1 rfl hl (by decide) rfl (fun ls hl => ?_)
  have L2 : ∀ (n : Nat) (l2_1 : Int32) (M2 : MS) (H : Heap) (locs : List Loc) (ls : Array Slot), MX G M2 s H locs → lv_has ls 3 [(0, .ref (gad G 220)), (1, .int a1), (2, .int l2_1)] → F_L_forget_l2 a1 n l2_1 M2 = some Mf → W p l e (RmL 0 0) s m ([.ref (gad G 220), .int a1] : List Value).toArray below meth c H locs 0 0 (QV below ([.ref (gad G 220), .int a1] : List Value).toArray s G sz Mf) (F0 m 2 ls []) := by
    intro n
    induction n with
    | zero => intro l2_1 M2 H locs ls hM hl hF; rw [F_L_forget_l2] at hF; cases hF
    | succ n2 ih2 =>
      intro l2_1 M2 H locs ls hM hl hF
      rw [F_L_forget_l2] at hF
      refine lv_iload_n C0.1 C0.2.1 dL_forget_2 rfl (lv_at hl 2 rfl) ?_
      refine lv_bipush (v := (8 : Int32)) C0.1 C0.2.1 dL_forget_3 (by decide) ?_
      refine lv_icmp_ge (tgt := 23) C0.1 C0.2.1 dL_forget_5 (by decide) (fun c3 => ?_) (fun c3 => ?_)
      · have hF := if_t c3 hF
        have e9 := y_1 hF
        subst e9
        exact y_vret C0 hM hsz dL_forget_23
      · have hF := if_f c3 hF
        refine lv_aload_n C0.1 C0.2.1 dL_forget_8 rfl (lv_at hl 0 rfl) ?_
        refine lv_bipush (v := (8 : Int32)) C0.1 C0.2.1 dL_forget_9 (by decide) ?_
        refine lv_iload_n C0.1 C0.2.1 dL_forget_11 rfl (lv_at hl 1 rfl) ?_
        refine lv_imul C0.1 C0.2.1 dL_forget_12 ?_
        refine lv_iload_n C0.1 C0.2.1 dL_forget_13 rfl (lv_at hl 2 rfl) ?_
        refine lv_iadd C0.1 C0.2.1 dL_forget_14 ?_
        refine lv_iconst (v := (-1 : Int32)) C0.1 C0.2.1 dL_forget_15 (by decide) ?_
        obtain ⟨g4, hF⟩ := gdb_some hF
        refine y_iast C0 hM oka_a g4 dL_forget_16 (fun H locs hM => ?_)
        obtain ⟨M5, eM5, hF⟩ := nm_some hF
        have hM := y_mn eM5 hM
        obtain ⟨x6, ex6, hF⟩ := nm_some hF
        refine lv_iinc (v := x6) (lv' := [(2, .int x6), (0, .ref (gad G 220)), (1, .int a1)]) C0.1 C0.2.1 dL_forget_17 hl (k := 2) rfl (by rw [ex6]; rfl) (by decide) rfl (fun ls hl => ?_)
        refine lv_goto (tgt := 2) C0.1 C0.2.1 dL_forget_20 (by decide) ?_
        exact ih2 x6 M5 _ _ _ hM (lv_sub hl [1, 2, 0] rfl) hF
  exact L2 FU (4 : Int32) M _ _ _ hM (lv_sub hl [1, 2, 0] rfl) hF

def F_L_fade_l4 (a1 : Int32) : Nat → Int32 → MS → Option MS
  | 0, _, _ => none
  | n4 + 1, l2_2, M3 => (if (((4 : Int32) * a1) + (4 : Int32)) ≤ l2_2 then (some M3) else (gdb (inb l2_2 24) (gdb (inb l2_2 24) (nm (fun (s7 : Int32) => (gdb (inb l2_2 24) (nm (wA M3 221 (Int32.toNatClampNeg l2_2) ((rA M3 221 (Int32.toNatClampNeg l2_2)) - s7)) fun M10 => (nm (l2_2 + (1 : Int32)) fun x11 => (F_L_fade_l4 a1 n4 x11 M10))))) fun j28_7 => (if (rA M3 221 (Int32.toNatClampNeg l2_2)) ≤ 0 then (j28_7 (0 : Int32)) else (j28_7 (1 : Int32)))))))

def F_L_fade (M : MS) (a1 : Int32) : Option MS := (nm ((4 : Int32) * a1) fun x1 => (F_L_fade_l4 a1 FU x1 M))

set_option maxHeartbeats 8000000 in
set_option maxRecDepth 100000 in
theorem k_L_fade (l : Launch) (G : GG) (M : MS) (a1 : Int32) {Mf : MS} (hF : F_L_fade M a1 = some Mf) : KV l yL_fade (WS yL_fade cL_fade 3 none) (RmL 0 0) G [.ref (gad G 221), .int a1] M Mf := by
  intro sz
  refine y_met (by decide +kernel) (Nat.le_of_ble_eq_true rfl) rfl (fun p e s m below meth c ls hsz C0 hM hl => ?_)
  have hl : lv_has ls 3 [(0, .ref (gad G 221)), (1, .int a1)] := hl
  have C0 : CX p s m meth c ([.ref (gad G 221), .int a1] : List Value).toArray cL_fade RL 3 none := C0
  rw [F_L_fade] at hF
  refine lv_iconst (v := (4 : Int32)) C0.1 C0.2.1 dL_fade_0 (by decide) ?_
  refine lv_iload_n C0.1 C0.2.1 dL_fade_1 rfl (lv_at hl 1 rfl) ?_
  refine lv_imul C0.1 C0.2.1 dL_fade_2 ?_
  obtain ⟨x1, ex1, hF⟩ := nm_some hF
  refine y_topi ex1 ?_
  refine lv_istore_n (lv' := [(2, .int x1), (0, .ref (gad G 221)), (1, .int a1)]) C0.1 C0.2.1 dL_fade_3 rfl hl (by decide) rfl (fun ls hl => ?_)
  have L4 : ∀ (n : Nat) (l2_2 : Int32) (M3 : MS) (H : Heap) (locs : List Loc) (ls : Array Slot), MX G M3 s H locs → lv_has ls 3 [(0, .ref (gad G 221)), (1, .int a1), (2, .int l2_2)] → F_L_fade_l4 a1 n l2_2 M3 = some Mf → W p l e (RmL 0 0) s m ([.ref (gad G 221), .int a1] : List Value).toArray below meth c H locs 0 0 (QV below ([.ref (gad G 221), .int a1] : List Value).toArray s G sz Mf) (F0 m 4 ls []) := by
    intro n
    induction n with
    | zero => intro l2_2 M3 H locs ls hM hl hF; rw [F_L_fade_l4] at hF; cases hF
    | succ n4 ih4 =>
      intro l2_2 M3 H locs ls hM hl hF
      rw [F_L_fade_l4] at hF
      refine lv_iload_n C0.1 C0.2.1 dL_fade_4 rfl (lv_at hl 2 rfl) ?_
      refine lv_iconst (v := (4 : Int32)) C0.1 C0.2.1 dL_fade_5 (by decide) ?_
      refine lv_iload_n C0.1 C0.2.1 dL_fade_6 rfl (lv_at hl 1 rfl) ?_
      refine lv_imul C0.1 C0.2.1 dL_fade_7 ?_
      refine lv_iconst (v := (4 : Int32)) C0.1 C0.2.1 dL_fade_8 (by decide) ?_
      refine lv_iadd C0.1 C0.2.1 dL_fade_9 ?_
      refine lv_icmp_ge (tgt := 36) C0.1 C0.2.1 dL_fade_10 (by decide) (fun c4 => ?_) (fun c4 => ?_)
      · have hF := if_t c4 hF
        have e9 := y_1 hF
        subst e9
        exact y_vret C0 hM hsz dL_fade_36
      · have hF := if_f c4 hF
        refine lv_aload_n C0.1 C0.2.1 dL_fade_13 rfl (lv_at hl 0 rfl) ?_
        refine lv_iload_n C0.1 C0.2.1 dL_fade_14 rfl (lv_at hl 2 rfl) ?_
        refine lv_dup2_11 C0.1 C0.2.1 dL_fade_15 rfl rfl ?_
        obtain ⟨g5, hF⟩ := gdb_some hF
        refine y_iald C0 hM oka_cc g5 dL_fade_16 ?_
        refine lv_aload_n C0.1 C0.2.1 dL_fade_17 rfl (lv_at hl 0 rfl) ?_
        refine lv_iload_n C0.1 C0.2.1 dL_fade_18 rfl (lv_at hl 2 rfl) ?_
        obtain ⟨g6, hF⟩ := gdb_some hF
        refine y_iald C0 hM oka_cc g6 dL_fade_19 ?_
        obtain ⟨j28_7, ej28_7, hF⟩ := nm_some hF
        have J28 : ∀ (s7 : Int32) (H : Heap) (locs : List Loc) (ls : Array Slot), MX G M3 s H locs → lv_has ls 3 [(0, .ref (gad G 221)), (1, .int a1), (2, .int l2_2)] → j28_7 s7 = some Mf → W p l e (RmL 0 0) s m ([.ref (gad G 221), .int a1] : List Value).toArray below meth c H locs 0 0 (QV below ([.ref (gad G 221), .int a1] : List Value).toArray s G sz Mf) (F0 m 28 ls [.int s7, .int (rA M3 221 (Int32.toNatClampNeg l2_2)), .int l2_2, .ref (gad G 221)]) := by
          intro s7 H locs ls hM hl hF
          rw [ej28_7] at hF
          refine lv_isub C0.1 C0.2.1 dL_fade_28 ?_
          obtain ⟨g9, hF⟩ := gdb_some hF
          refine y_iast C0 hM oka_cc g9 dL_fade_29 (fun H locs hM => ?_)
          obtain ⟨M10, eM10, hF⟩ := nm_some hF
          have hM := y_mn eM10 hM
          obtain ⟨x11, ex11, hF⟩ := nm_some hF
          refine lv_iinc (v := x11) (lv' := [(2, .int x11), (0, .ref (gad G 221)), (1, .int a1)]) C0.1 C0.2.1 dL_fade_30 hl (k := 2) rfl (by rw [ex11]; rfl) (by decide) rfl (fun ls hl => ?_)
          refine lv_goto (tgt := 4) C0.1 C0.2.1 dL_fade_33 (by decide) ?_
          exact ih4 x11 M10 _ _ _ hM (lv_sub hl [1, 2, 0] rfl) hF
        refine lv_if_le (tgt := 27) C0.1 C0.2.1 dL_fade_20 (by decide) (fun c12 => ?_) (fun c12 => ?_)
        · have hF := if_t c12 hF
          refine lv_iconst (v := (0 : Int32)) C0.1 C0.2.1 dL_fade_27 (by decide) ?_
          exact J28 (0 : Int32) _ _ _ hM (lv_sub hl [0, 1, 2] rfl) hF
        · have hF := if_f c12 hF
          refine lv_iconst (v := (1 : Int32)) C0.1 C0.2.1 dL_fade_23 (by decide) ?_
          refine lv_goto (tgt := 28) C0.1 C0.2.1 dL_fade_24 (by decide) ?_
          exact J28 (1 : Int32) _ _ _ hM (lv_sub hl [0, 1, 2] rfl) hF
  exact L4 FU x1 M _ _ _ hM (lv_sub hl [1, 2, 0] rfl) hF

def F_L_goOn_l256 (x2 : Int32) (l6_12 : Int32) (M42 : MS) (k16 : Int32 → Int32 → MS → Option MS) : Nat → Int32 → Int32 → Option MS
  | 0, _, _ => none
  | n256 + 1, l10_43, l11_44 => (if x2 ≤ l11_44 then (if ¬ l10_43 = 0 then (nm ((0 : Int32) + (1 : Int32)) fun x47 => (k16 l6_12 x47 M42)) else (some M42)) else (if ¬ l10_43 = 0 then (nm (l11_44 + (1 : Int32)) fun x49 => (F_L_goOn_l256 x2 l6_12 M42 k16 n256 (1 : Int32) x49)) else (bd (F_L_lives M42 l11_44) fun r51 => (if r51 = 0 then (nm (l11_44 + (1 : Int32)) fun x53 => (F_L_goOn_l256 x2 l6_12 M42 k16 n256 (0 : Int32) x53)) else (nm (l11_44 + (1 : Int32)) fun x54 => (F_L_goOn_l256 x2 l6_12 M42 k16 n256 (1 : Int32) x54))))))

def F_L_goOn_l95 (x2 : Int32) (j124_14 : (Int32 → Int32 → MS → Option MS)) : Nat → Int32 → MS → Option MS
  | 0, _, _ => none
  | n95 + 1, l9_72, M73 => (if x2 ≤ l9_72 then (j124_14 (0 : Int32) (0 : Int32) M73) else (gdb (inb (((8 : Int32) * l9_72) + (3 : Int32)) 48) (nm (wA M73 220 (Int32.toNatClampNeg (((8 : Int32) * l9_72) + (3 : Int32))) (0 : Int32)) fun M76 => (nm (l9_72 + (1 : Int32)) fun x77 => (F_L_goOn_l95 x2 j124_14 n95 x77 M76)))))

def F_L_goOn_l45 (x2 : Int32) (M7 : MS) (j124_14 : (Int32 → Int32 → MS → Option MS)) : Nat → Int32 → Int32 → Option MS
  | 0, _, _ => none
  | n45 + 1, l8_65, l9_66 => (if x2 ≤ l9_66 then (if ¬ l8_65 = 0 then (gdb (inb (1 : Int32) 7) (gdb (inb (1 : Int32) 7) (nm (wA M7 223 (Int32.toNatClampNeg (1 : Int32)) ((rA M7 223 (Int32.toNatClampNeg (1 : Int32))) + (1 : Int32))) fun M71 => (F_L_goOn_l95 x2 j124_14 FU (0 : Int32) M71)))) else (some M7)) else (if ¬ l8_65 = 0 then (nm (l9_66 + (1 : Int32)) fun x79 => (F_L_goOn_l45 x2 M7 j124_14 n45 (1 : Int32) x79)) else (bd (F_L_lives M7 l9_66) fun r81 => (if r81 = 0 then (nm (l9_66 + (1 : Int32)) fun x83 => (F_L_goOn_l45 x2 M7 j124_14 n45 (0 : Int32) x83)) else (nm (l9_66 + (1 : Int32)) fun x84 => (F_L_goOn_l45 x2 M7 j124_14 n45 (1 : Int32) x84))))))

def F_L_goOn_l16 (x2 : Int32) : Nat → Int32 → Int32 → MS → Option MS
  | 0, _, _, _ => none
  | n16 + 1, l6_5, l7_6, M7 => (if x2 < l7_6 then (some M7) else (gdb (inb (0 : Int32) 7) (if 0 ≤ (rA M7 223 (Int32.toNatClampNeg (0 : Int32))) then (some M7) else (nm (l6_5 + (1 : Int32)) fun x11 => (nm (fun (l6_12 : Int32) (l7_13 : Int32) (M14 : MS) => (gdb (inb l6_12 6) (nm (rA M14 222 (Int32.toNatClampNeg l6_12)) fun x17 => (bd (F_L_lives M14 x17) fun r19 => (if r19 = 0 then (nm (l7_13 + (1 : Int32)) fun x21 => (F_L_goOn_l16 x2 n16 l6_12 x21 M14)) else (gdb (inb (((8 : Int32) * x17) + (3 : Int32)) 48) (if ¬ (rA M14 220 (Int32.toNatClampNeg (((8 : Int32) * x17) + (3 : Int32)))) = 0 then (nm (l7_13 + (1 : Int32)) fun x24 => (F_L_goOn_l16 x2 n16 l6_12 x24 M14)) else (gdb (inb (4 : Int32) 7) (gdb (inb (4 : Int32) 7) (nm (wA M14 223 (Int32.toNatClampNeg (4 : Int32)) ((rA M14 223 (Int32.toNatClampNeg (4 : Int32))) + (1 : Int32))) fun M27 => (bd (F_L_forget M27 x17) fun M29 => (gdb (inb (((4 : Int32) * x17) + (3 : Int32)) 24) (nm (fun (s31 : Int32) => (gdb (inb ((8 : Int32) * x17) 48) (nm (fun (s34 : Int32) => (gdb (inb ((8 : Int32) * x17) 48) (nm (wA M29 220 (Int32.toNatClampNeg ((8 : Int32) * x17)) s34) fun M37 => (bd (F_L_lives M37 x17) fun r39 => (nm (bd (F_L_fade M37 x17) fun M42 => (F_L_goOn_l256 x2 l6_12 M42 (fun zz0 zz1 zz2 => F_L_goOn_l16 x2 n16 zz0 zz1 zz2) FU (0 : Int32) (0 : Int32))) fun j241_39 => (if r39 = 0 then j241_39 else (gdb (inb ((4 : Int32) * x17) 24) (if ¬ (rA M37 221 (Int32.toNatClampNeg ((4 : Int32) * x17))) = 0 then j241_39 else (gdb (inb (0 : Int32) 7) (nm (wA M37 223 (Int32.toNatClampNeg (0 : Int32)) x17) fun M59 => (nm (l7_13 + (1 : Int32)) fun x60 => (F_L_goOn_l16 x2 n16 l6_12 x60 M59)))))))))))) fun j214_34 => (if s31 ≤ (rA M29 220 (Int32.toNatClampNeg ((8 : Int32) * x17))) then (gdb (inb ((8 : Int32) * x17) 48) (j214_34 ((rA M29 220 (Int32.toNatClampNeg ((8 : Int32) * x17))) - s31))) else (j214_34 (0 : Int32)))))) fun j180_31 => (if (rA M29 221 (Int32.toNatClampNeg (((4 : Int32) * x17) + (3 : Int32)))) ≤ 0 then (j180_31 (0 : Int32)) else (j180_31 (2 : Int32)))))))))))))))) fun j124_14 => (if ¬ x11 = x2 then (j124_14 x11 l7_6 M7) else (F_L_goOn_l45 x2 M7 j124_14 FU (0 : Int32) (0 : Int32))))))))

def F_L_goOn (M : MS) (a4 : Int32) : Option MS := (gdb (inb (5 : Int32) 7) (nm (rA M 223 (Int32.toNatClampNeg (5 : Int32))) fun x2 => (gdb (inb (0 : Int32) 7) (nm (wA M 223 (Int32.toNatClampNeg (0 : Int32)) (-1 : Int32)) fun M4 => (F_L_goOn_l16 x2 FU a4 (0 : Int32) M4)))))

set_option maxHeartbeats 8000000 in
set_option maxRecDepth 100000 in
theorem k_L_goOn (l : Launch) (G : GG) (M : MS) (a4 : Int32) {Mf : MS} (hF : F_L_goOn M a4 = some Mf) : KV l yL_goOn (WS yL_goOn cL_goOn 12 none) (RmL 1 0) G [.ref (gad G 220), .ref (gad G 221), .ref (gad G 222), .ref (gad G 223), .int a4] M Mf := by
  intro sz
  refine y_met (by decide +kernel) (Nat.le_of_ble_eq_true rfl) rfl (fun p e s m below meth c ls hsz C0 hM hl => ?_)
  have hl : lv_has ls 12 [(0, .ref (gad G 220)), (1, .ref (gad G 221)), (2, .ref (gad G 222)), (3, .ref (gad G 223)), (4, .int a4)] := hl
  have C0 : CX p s m meth c ([.ref (gad G 220), .ref (gad G 221), .ref (gad G 222), .ref (gad G 223), .int a4] : List Value).toArray cL_goOn RL 12 none := C0
  rw [F_L_goOn] at hF
  refine lv_aload_n C0.1 C0.2.1 dL_goOn_0 rfl (lv_at hl 3 rfl) ?_
  refine lv_iconst (v := (5 : Int32)) C0.1 C0.2.1 dL_goOn_1 (by decide) ?_
  obtain ⟨g1, hF⟩ := gdb_some hF
  refine y_iald C0 hM oka_t g1 dL_goOn_2 ?_
  obtain ⟨x2, ex2, hF⟩ := nm_some hF
  refine y_topi ex2 ?_
  refine lv_istore (lv' := [(5, .int x2), (0, .ref (gad G 220)), (1, .ref (gad G 221)), (2, .ref (gad G 222)), (3, .ref (gad G 223)), (4, .int a4)]) C0.1 C0.2.1 dL_goOn_3 hl (by decide) rfl (fun ls hl => ?_)
  refine lv_iload C0.1 C0.2.1 dL_goOn_5 (lv_at hl 5 rfl) ?_
  refine lv_istore (lv' := [(6, .int a4), (5, .int x2), (0, .ref (gad G 220)), (1, .ref (gad G 221)), (2, .ref (gad G 222)), (3, .ref (gad G 223)), (4, .int a4)]) C0.1 C0.2.1 dL_goOn_7 hl (by decide) rfl (fun ls hl => ?_)
  refine lv_aload_n C0.1 C0.2.1 dL_goOn_9 rfl (lv_at hl 5 rfl) ?_
  refine lv_iconst (v := (0 : Int32)) C0.1 C0.2.1 dL_goOn_10 (by decide) ?_
  refine lv_iconst (v := (-1 : Int32)) C0.1 C0.2.1 dL_goOn_11 (by decide) ?_
  obtain ⟨g3, hF⟩ := gdb_some hF
  refine y_iast C0 hM oka_t g3 dL_goOn_12 (fun H locs hM => ?_)
  obtain ⟨M4, eM4, hF⟩ := nm_some hF
  have hM := y_mn eM4 hM
  refine lv_iconst (v := (0 : Int32)) C0.1 C0.2.1 dL_goOn_13 (by decide) ?_
  refine lv_istore (lv' := [(7, .int (0 : Int32)), (6, .int a4), (5, .int x2), (0, .ref (gad G 220)), (1, .ref (gad G 221)), (2, .ref (gad G 222)), (3, .ref (gad G 223)), (4, .int a4)]) C0.1 C0.2.1 dL_goOn_14 hl (by decide) rfl (fun ls hl => ?_)
  have L16 : ∀ (n : Nat) (l6_5 : Int32) (l7_6 : Int32) (M7 : MS) (H : Heap) (locs : List Loc) (ls : Array Slot), MX G M7 s H locs → lv_has ls 12 [(0, .ref (gad G 220)), (1, .ref (gad G 221)), (2, .ref (gad G 222)), (3, .ref (gad G 223)), (4, .int a4), (5, .int x2), (6, .int l6_5), (7, .int l7_6)] → F_L_goOn_l16 x2 n l6_5 l7_6 M7 = some Mf → W p l e (RmL 1 0) s m ([.ref (gad G 220), .ref (gad G 221), .ref (gad G 222), .ref (gad G 223), .int a4] : List Value).toArray below meth c H locs 0 0 (QV below ([.ref (gad G 220), .ref (gad G 221), .ref (gad G 222), .ref (gad G 223), .int a4] : List Value).toArray s G sz Mf) (F0 m 16 ls []) := by
    intro n
    induction n with
    | zero => intro l6_5 l7_6 M7 H locs ls hM hl hF; rw [F_L_goOn_l16] at hF; cases hF
    | succ n16 ih16 =>
      intro l6_5 l7_6 M7 H locs ls hM hl hF
      rw [F_L_goOn_l16] at hF
      refine lv_iload C0.1 C0.2.1 dL_goOn_16 (lv_at hl 7 rfl) ?_
      refine lv_iload C0.1 C0.2.1 dL_goOn_18 (lv_at hl 5 rfl) ?_
      refine lv_icmp_gt (tgt := 302) C0.1 C0.2.1 dL_goOn_20 (by decide) (fun c8 => ?_) (fun c8 => ?_)
      · have hF := if_t c8 hF
        have e9 := y_1 hF
        subst e9
        exact y_vret C0 hM hsz dL_goOn_302
      · have hF := if_f c8 hF
        refine lv_aload_n C0.1 C0.2.1 dL_goOn_23 rfl (lv_at hl 3 rfl) ?_
        refine lv_iconst (v := (0 : Int32)) C0.1 C0.2.1 dL_goOn_24 (by decide) ?_
        obtain ⟨g9, hF⟩ := gdb_some hF
        refine y_iald C0 hM oka_t g9 dL_goOn_25 ?_
        refine lv_if_ge (tgt := 302) C0.1 C0.2.1 dL_goOn_26 (by decide) (fun c10 => ?_) (fun c10 => ?_)
        · have hF := if_t c10 hF
          have e9 := y_1 hF
          subst e9
          exact y_vret C0 hM hsz dL_goOn_302
        · have hF := if_f c10 hF
          obtain ⟨x11, ex11, hF⟩ := nm_some hF
          refine lv_iinc (v := x11) (lv' := [(6, .int x11), (0, .ref (gad G 220)), (1, .ref (gad G 221)), (2, .ref (gad G 222)), (3, .ref (gad G 223)), (4, .int a4), (5, .int x2), (7, .int l7_6)]) C0.1 C0.2.1 dL_goOn_29 hl (k := 6) rfl (by rw [ex11]; rfl) (by decide) rfl (fun ls hl => ?_)
          refine lv_iload C0.1 C0.2.1 dL_goOn_32 (lv_at hl 0 rfl) ?_
          refine lv_iload C0.1 C0.2.1 dL_goOn_34 (lv_at hl 6 rfl) ?_
          obtain ⟨j124_14, ej124_14, hF⟩ := nm_some hF
          have J124 : ∀ (l6_12 : Int32) (l7_13 : Int32) (M14 : MS) (H : Heap) (locs : List Loc) (ls : Array Slot), MX G M14 s H locs → lv_has ls 12 [(0, .ref (gad G 220)), (1, .ref (gad G 221)), (2, .ref (gad G 222)), (3, .ref (gad G 223)), (4, .int a4), (5, .int x2), (6, .int l6_12), (7, .int l7_13)] → j124_14 l6_12 l7_13 M14 = some Mf → W p l e (RmL 1 0) s m ([.ref (gad G 220), .ref (gad G 221), .ref (gad G 222), .ref (gad G 223), .int a4] : List Value).toArray below meth c H locs 0 0 (QV below ([.ref (gad G 220), .ref (gad G 221), .ref (gad G 222), .ref (gad G 223), .int a4] : List Value).toArray s G sz Mf) (F0 m 124 ls []) := by
            intro l6_12 l7_13 M14 H locs ls hM hl hF
            rw [ej124_14] at hF
            refine lv_aload_n C0.1 C0.2.1 dL_goOn_124 rfl (lv_at hl 2 rfl) ?_
            refine lv_iload C0.1 C0.2.1 dL_goOn_125 (lv_at hl 6 rfl) ?_
            obtain ⟨g16, hF⟩ := gdb_some hF
            refine y_iald C0 hM oka_r g16 dL_goOn_127 ?_
            obtain ⟨x17, ex17, hF⟩ := nm_some hF
            refine y_topi ex17 ?_
            refine lv_istore (lv' := [(8, .int x17), (0, .ref (gad G 220)), (1, .ref (gad G 221)), (2, .ref (gad G 222)), (3, .ref (gad G 223)), (4, .int a4), (5, .int x2), (6, .int l6_12), (7, .int l7_13)]) C0.1 C0.2.1 dL_goOn_128 hl (by decide) rfl (fun ls hl => ?_)
            refine lv_aload_n C0.1 C0.2.1 dL_goOn_130 rfl (lv_at hl 1 rfl) ?_
            refine lv_iload C0.1 C0.2.1 dL_goOn_131 (lv_at hl 0 rfl) ?_
            obtain ⟨r19, h18, hF⟩ := bd_some hF
            refine y_si (rest := []) C0 hM hl.1 (k_L_lives l G M14 x17 h18) cw_RL_36 rfl rfl ⟨Nat.le_of_ble_eq_true rfl, Nat.le_of_ble_eq_true rfl⟩ rfl (Nat.le_of_ble_eq_true rfl) ⟨by show _ ≤ 0; omega, by show _ ≤ 6 * 0; omega⟩ dL_goOn_133 (fun H locs hM => ?_)
            refine lv_if_eq (tgt := 296) C0.1 C0.2.1 dL_goOn_136 (by decide) (fun c20 => ?_) (fun c20 => ?_)
            · have hF := if_t c20 hF
              obtain ⟨x21, ex21, hF⟩ := nm_some hF
              refine lv_iinc (v := x21) (lv' := [(7, .int x21), (8, .int x17), (0, .ref (gad G 220)), (1, .ref (gad G 221)), (2, .ref (gad G 222)), (3, .ref (gad G 223)), (4, .int a4), (5, .int x2), (6, .int l6_12)]) C0.1 C0.2.1 dL_goOn_296 hl (k := 8) rfl (by rw [ex21]; rfl) (by decide) rfl (fun ls hl => ?_)
              refine lv_goto (tgt := 16) C0.1 C0.2.1 dL_goOn_299 (by decide) ?_
              exact ih16 l6_12 x21 M14 _ _ _ hM (lv_sub hl [2, 3, 4, 5, 6, 7, 8, 0] rfl) hF
            · have hF := if_f c20 hF
              refine lv_aload_n C0.1 C0.2.1 dL_goOn_139 rfl (lv_at hl 1 rfl) ?_
              refine lv_bipush (v := (8 : Int32)) C0.1 C0.2.1 dL_goOn_140 (by decide) ?_
              refine lv_iload C0.1 C0.2.1 dL_goOn_142 (lv_at hl 0 rfl) ?_
              refine lv_imul C0.1 C0.2.1 dL_goOn_144 ?_
              refine lv_iconst (v := (3 : Int32)) C0.1 C0.2.1 dL_goOn_145 (by decide) ?_
              refine lv_iadd C0.1 C0.2.1 dL_goOn_146 ?_
              obtain ⟨g22, hF⟩ := gdb_some hF
              refine y_iald C0 hM oka_a g22 dL_goOn_147 ?_
              refine lv_if_ne (tgt := 296) C0.1 C0.2.1 dL_goOn_148 (by decide) (fun c23 => ?_) (fun c23 => ?_)
              · have hF := if_t c23 hF
                obtain ⟨x24, ex24, hF⟩ := nm_some hF
                refine lv_iinc (v := x24) (lv' := [(7, .int x24), (8, .int x17), (0, .ref (gad G 220)), (1, .ref (gad G 221)), (2, .ref (gad G 222)), (3, .ref (gad G 223)), (4, .int a4), (5, .int x2), (6, .int l6_12)]) C0.1 C0.2.1 dL_goOn_296 hl (k := 8) rfl (by rw [ex24]; rfl) (by decide) rfl (fun ls hl => ?_)
                refine lv_goto (tgt := 16) C0.1 C0.2.1 dL_goOn_299 (by decide) ?_
                exact ih16 l6_12 x24 M14 _ _ _ hM (lv_sub hl [2, 3, 4, 5, 6, 7, 8, 0] rfl) hF
              · have hF := if_f (fun q => q c23) hF
                refine lv_aload_n C0.1 C0.2.1 dL_goOn_151 rfl (lv_at hl 4 rfl) ?_
                refine lv_iconst (v := (4 : Int32)) C0.1 C0.2.1 dL_goOn_152 (by decide) ?_
                refine lv_dup2_11 C0.1 C0.2.1 dL_goOn_153 rfl rfl ?_
                obtain ⟨g25, hF⟩ := gdb_some hF
                refine y_iald C0 hM oka_t g25 dL_goOn_154 ?_
                refine lv_iconst (v := (1 : Int32)) C0.1 C0.2.1 dL_goOn_155 (by decide) ?_
                refine lv_iadd C0.1 C0.2.1 dL_goOn_156 ?_
                obtain ⟨g26, hF⟩ := gdb_some hF
                refine y_iast C0 hM oka_t g26 dL_goOn_157 (fun H locs hM => ?_)
                obtain ⟨M27, eM27, hF⟩ := nm_some hF
                have hM := y_mn eM27 hM
                refine lv_aload_n C0.1 C0.2.1 dL_goOn_158 rfl (lv_at hl 1 rfl) ?_
                refine lv_iload C0.1 C0.2.1 dL_goOn_159 (lv_at hl 0 rfl) ?_
                obtain ⟨M29, h28, hF⟩ := bd_some hF
                refine y_sv (rest := []) C0 hM hl.1 (k_L_forget l G M27 x17 h28) cw_RL_40 rfl rfl ⟨Nat.le_of_ble_eq_true rfl, Nat.le_of_ble_eq_true rfl⟩ rfl (Nat.le_of_ble_eq_true rfl) ⟨by show _ ≤ 0; omega, by show _ ≤ 6 * 0; omega⟩ dL_goOn_161 (fun H locs hM => ?_)
                refine lv_aload_n C0.1 C0.2.1 dL_goOn_164 rfl (lv_at hl 2 rfl) ?_
                refine lv_iconst (v := (4 : Int32)) C0.1 C0.2.1 dL_goOn_165 (by decide) ?_
                refine lv_iload C0.1 C0.2.1 dL_goOn_166 (lv_at hl 0 rfl) ?_
                refine lv_imul C0.1 C0.2.1 dL_goOn_168 ?_
                refine lv_iconst (v := (3 : Int32)) C0.1 C0.2.1 dL_goOn_169 (by decide) ?_
                refine lv_iadd C0.1 C0.2.1 dL_goOn_170 ?_
                obtain ⟨g30, hF⟩ := gdb_some hF
                refine y_iald C0 hM oka_cc g30 dL_goOn_171 ?_
                obtain ⟨j180_31, ej180_31, hF⟩ := nm_some hF
                have J180 : ∀ (s31 : Int32) (H : Heap) (locs : List Loc) (ls : Array Slot), MX G M29 s H locs → lv_has ls 12 [(0, .ref (gad G 220)), (1, .ref (gad G 221)), (2, .ref (gad G 222)), (3, .ref (gad G 223)), (4, .int a4), (5, .int x2), (6, .int l6_12), (7, .int l7_13), (8, .int x17)] → j180_31 s31 = some Mf → W p l e (RmL 1 0) s m ([.ref (gad G 220), .ref (gad G 221), .ref (gad G 222), .ref (gad G 223), .int a4] : List Value).toArray below meth c H locs 0 0 (QV below ([.ref (gad G 220), .ref (gad G 221), .ref (gad G 222), .ref (gad G 223), .int a4] : List Value).toArray s G sz Mf) (F0 m 180 ls [.int s31]) := by
                  intro s31 H locs ls hM hl hF
                  rw [ej180_31] at hF
                  refine lv_istore (lv' := [(9, .int s31), (0, .ref (gad G 220)), (1, .ref (gad G 221)), (2, .ref (gad G 222)), (3, .ref (gad G 223)), (4, .int a4), (5, .int x2), (6, .int l6_12), (7, .int l7_13), (8, .int x17)]) C0.1 C0.2.1 dL_goOn_180 hl (by decide) rfl (fun ls hl => ?_)
                  refine lv_aload_n C0.1 C0.2.1 dL_goOn_182 rfl (lv_at hl 1 rfl) ?_
                  refine lv_bipush (v := (8 : Int32)) C0.1 C0.2.1 dL_goOn_183 (by decide) ?_
                  refine lv_iload C0.1 C0.2.1 dL_goOn_185 (lv_at hl 9 rfl) ?_
                  refine lv_imul C0.1 C0.2.1 dL_goOn_187 ?_
                  refine lv_aload_n C0.1 C0.2.1 dL_goOn_188 rfl (lv_at hl 1 rfl) ?_
                  refine lv_bipush (v := (8 : Int32)) C0.1 C0.2.1 dL_goOn_189 (by decide) ?_
                  refine lv_iload C0.1 C0.2.1 dL_goOn_191 (lv_at hl 9 rfl) ?_
                  refine lv_imul C0.1 C0.2.1 dL_goOn_193 ?_
                  obtain ⟨g33, hF⟩ := gdb_some hF
                  refine y_iald C0 hM oka_a g33 dL_goOn_194 ?_
                  refine lv_iload C0.1 C0.2.1 dL_goOn_195 (lv_at hl 0 rfl) ?_
                  obtain ⟨j214_34, ej214_34, hF⟩ := nm_some hF
                  have J214 : ∀ (s34 : Int32) (H : Heap) (locs : List Loc) (ls : Array Slot), MX G M29 s H locs → lv_has ls 12 [(0, .ref (gad G 220)), (1, .ref (gad G 221)), (2, .ref (gad G 222)), (3, .ref (gad G 223)), (4, .int a4), (5, .int x2), (6, .int l6_12), (7, .int l7_13), (8, .int x17), (9, .int s31)] → j214_34 s34 = some Mf → W p l e (RmL 1 0) s m ([.ref (gad G 220), .ref (gad G 221), .ref (gad G 222), .ref (gad G 223), .int a4] : List Value).toArray below meth c H locs 0 0 (QV below ([.ref (gad G 220), .ref (gad G 221), .ref (gad G 222), .ref (gad G 223), .int a4] : List Value).toArray s G sz Mf) (F0 m 214 ls [.int s34, .int ((8 : Int32) * x17), .ref (gad G 220)]) := by
                    intro s34 H locs ls hM hl hF
                    rw [ej214_34] at hF
                    obtain ⟨g36, hF⟩ := gdb_some hF
                    refine y_iast C0 hM oka_a g36 dL_goOn_214 (fun H locs hM => ?_)
                    obtain ⟨M37, eM37, hF⟩ := nm_some hF
                    have hM := y_mn eM37 hM
                    refine lv_aload_n C0.1 C0.2.1 dL_goOn_215 rfl (lv_at hl 0 rfl) ?_
                    refine lv_iload C0.1 C0.2.1 dL_goOn_216 (lv_at hl 8 rfl) ?_
                    obtain ⟨r39, h38, hF⟩ := bd_some hF
                    refine y_si (rest := []) C0 hM hl.1 (k_L_lives l G M37 x17 h38) cw_RL_36 rfl rfl ⟨Nat.le_of_ble_eq_true rfl, Nat.le_of_ble_eq_true rfl⟩ rfl (Nat.le_of_ble_eq_true rfl) ⟨by show _ ≤ 0; omega, by show _ ≤ 6 * 0; omega⟩ dL_goOn_218 (fun H locs hM => ?_)
                    obtain ⟨j241_39, ej241_39, hF⟩ := nm_some hF
                    have J241 : ∀ (H : Heap) (locs : List Loc) (ls : Array Slot), MX G M37 s H locs → lv_has ls 12 [(0, .ref (gad G 220)), (1, .ref (gad G 221)), (2, .ref (gad G 222)), (3, .ref (gad G 223)), (4, .int a4), (5, .int x2), (6, .int l6_12), (7, .int l7_13), (8, .int x17), (9, .int s31)] → j241_39 = some Mf → W p l e (RmL 1 0) s m ([.ref (gad G 220), .ref (gad G 221), .ref (gad G 222), .ref (gad G 223), .int a4] : List Value).toArray below meth c H locs 0 0 (QV below ([.ref (gad G 220), .ref (gad G 221), .ref (gad G 222), .ref (gad G 223), .int a4] : List Value).toArray s G sz Mf) (F0 m 241 ls []) := by
                      intro H locs ls hM hl hF
                      rw [ej241_39] at hF
                      refine lv_aload_n C0.1 C0.2.1 dL_goOn_241 rfl (lv_at hl 1 rfl) ?_
                      refine lv_iload C0.1 C0.2.1 dL_goOn_242 (lv_at hl 8 rfl) ?_
                      obtain ⟨M42, h41, hF⟩ := bd_some hF
                      refine y_sv (rest := []) C0 hM hl.1 (k_L_fade l G M37 x17 h41) cw_RL_44 rfl rfl ⟨Nat.le_of_ble_eq_true rfl, Nat.le_of_ble_eq_true rfl⟩ rfl (Nat.le_of_ble_eq_true rfl) ⟨by show _ ≤ 0; omega, by show _ ≤ 6 * 0; omega⟩ dL_goOn_244 (fun H locs hM => ?_)
                      refine lv_iconst (v := (0 : Int32)) C0.1 C0.2.1 dL_goOn_247 (by decide) ?_
                      refine lv_istore (lv' := [(7, .int (0 : Int32)), (0, .ref (gad G 220)), (1, .ref (gad G 221)), (2, .ref (gad G 222)), (3, .ref (gad G 223)), (4, .int a4), (5, .int x2), (6, .int l6_12), (8, .int x17), (9, .int s31)]) C0.1 C0.2.1 dL_goOn_248 hl (by decide) rfl (fun ls hl => ?_)
                      refine lv_iconst (v := (0 : Int32)) C0.1 C0.2.1 dL_goOn_250 (by decide) ?_
                      refine lv_istore (lv' := [(10, .int (0 : Int32)), (7, .int (0 : Int32)), (0, .ref (gad G 220)), (1, .ref (gad G 221)), (2, .ref (gad G 222)), (3, .ref (gad G 223)), (4, .int a4), (5, .int x2), (6, .int l6_12), (8, .int x17), (9, .int s31)]) C0.1 C0.2.1 dL_goOn_251 hl (by decide) rfl (fun ls hl => ?_)
                      refine lv_iconst (v := (0 : Int32)) C0.1 C0.2.1 dL_goOn_253 (by decide) ?_
                      refine lv_istore (lv' := [(11, .int (0 : Int32)), (10, .int (0 : Int32)), (7, .int (0 : Int32)), (0, .ref (gad G 220)), (1, .ref (gad G 221)), (2, .ref (gad G 222)), (3, .ref (gad G 223)), (4, .int a4), (5, .int x2), (6, .int l6_12), (8, .int x17), (9, .int s31)]) C0.1 C0.2.1 dL_goOn_254 hl (by decide) rfl (fun ls hl => ?_)
                      have L256 : ∀ (n : Nat) (l10_43 : Int32) (l11_44 : Int32) (H : Heap) (locs : List Loc) (ls : Array Slot), MX G M42 s H locs → lv_has ls 12 [(0, .ref (gad G 220)), (1, .ref (gad G 221)), (2, .ref (gad G 222)), (3, .ref (gad G 223)), (4, .int a4), (5, .int x2), (6, .int l6_12), (7, .int (0 : Int32)), (8, .int x17), (9, .int s31), (10, .int l10_43), (11, .int l11_44)] → F_L_goOn_l256 x2 l6_12 M42 (fun zz0 zz1 zz2 => F_L_goOn_l16 x2 n16 zz0 zz1 zz2) n l10_43 l11_44 = some Mf → W p l e (RmL 1 0) s m ([.ref (gad G 220), .ref (gad G 221), .ref (gad G 222), .ref (gad G 223), .int a4] : List Value).toArray below meth c H locs 0 0 (QV below ([.ref (gad G 220), .ref (gad G 221), .ref (gad G 222), .ref (gad G 223), .int a4] : List Value).toArray s G sz Mf) (F0 m 256 ls []) := by
                        intro n
                        induction n with
                        | zero => intro l10_43 l11_44 H locs ls hM hl hF; rw [F_L_goOn_l256] at hF; cases hF
                        | succ n256 ih256 =>
                          intro l10_43 l11_44 H locs ls hM hl hF
                          rw [F_L_goOn_l256] at hF
                          refine lv_iload C0.1 C0.2.1 dL_goOn_256 (lv_at hl 11 rfl) ?_
                          refine lv_iload C0.1 C0.2.1 dL_goOn_258 (lv_at hl 5 rfl) ?_
                          refine lv_icmp_ge (tgt := 290) C0.1 C0.2.1 dL_goOn_260 (by decide) (fun c45 => ?_) (fun c45 => ?_)
                          · have hF := if_t c45 hF
                            refine lv_iload C0.1 C0.2.1 dL_goOn_290 (lv_at hl 10 rfl) ?_
                            refine lv_if_ne (tgt := 296) C0.1 C0.2.1 dL_goOn_292 (by decide) (fun c46 => ?_) (fun c46 => ?_)
                            · have hF := if_t c46 hF
                              obtain ⟨x47, ex47, hF⟩ := nm_some hF
                              refine lv_iinc (v := x47) (lv' := [(7, .int x47), (0, .ref (gad G 220)), (1, .ref (gad G 221)), (2, .ref (gad G 222)), (3, .ref (gad G 223)), (4, .int a4), (5, .int x2), (6, .int l6_12), (8, .int x17), (9, .int s31), (10, .int l10_43), (11, .int l11_44)]) C0.1 C0.2.1 dL_goOn_296 hl (k := 7) rfl (by rw [ex47]; rfl) (by decide) rfl (fun ls hl => ?_)
                              refine lv_goto (tgt := 16) C0.1 C0.2.1 dL_goOn_299 (by decide) ?_
                              exact ih16 l6_12 x47 M42 _ _ _ hM (lv_sub hl [1, 2, 3, 4, 5, 6, 7, 0] rfl) hF
                            · have hF := if_f (fun q => q c46) hF
                              have e9 := y_1 hF
                              subst e9
                              exact y_vret C0 hM hsz dL_goOn_295
                          · have hF := if_f c45 hF
                            refine lv_iload C0.1 C0.2.1 dL_goOn_263 (lv_at hl 10 rfl) ?_
                            refine lv_if_ne (tgt := 277) C0.1 C0.2.1 dL_goOn_265 (by decide) (fun c48 => ?_) (fun c48 => ?_)
                            · have hF := if_t c48 hF
                              refine lv_iconst (v := (1 : Int32)) C0.1 C0.2.1 dL_goOn_277 (by decide) ?_
                              refine lv_goto (tgt := 282) C0.1 C0.2.1 dL_goOn_278 (by decide) ?_
                              refine lv_istore (lv' := [(10, .int (1 : Int32)), (0, .ref (gad G 220)), (1, .ref (gad G 221)), (2, .ref (gad G 222)), (3, .ref (gad G 223)), (4, .int a4), (5, .int x2), (6, .int l6_12), (7, .int (0 : Int32)), (8, .int x17), (9, .int s31), (11, .int l11_44)]) C0.1 C0.2.1 dL_goOn_282 hl (by decide) rfl (fun ls hl => ?_)
                              obtain ⟨x49, ex49, hF⟩ := nm_some hF
                              refine lv_iinc (v := x49) (lv' := [(11, .int x49), (10, .int (1 : Int32)), (0, .ref (gad G 220)), (1, .ref (gad G 221)), (2, .ref (gad G 222)), (3, .ref (gad G 223)), (4, .int a4), (5, .int x2), (6, .int l6_12), (7, .int (0 : Int32)), (8, .int x17), (9, .int s31)]) C0.1 C0.2.1 dL_goOn_284 hl (k := 11) rfl (by rw [ex49]; rfl) (by decide) rfl (fun ls hl => ?_)
                              refine lv_goto (tgt := 256) C0.1 C0.2.1 dL_goOn_287 (by decide) ?_
                              exact ih256 (1 : Int32) x49 _ _ _ hM (lv_sub hl [2, 3, 4, 5, 6, 7, 8, 9, 10, 11, 1, 0] rfl) hF
                            · have hF := if_f (fun q => q c48) hF
                              refine lv_aload_n C0.1 C0.2.1 dL_goOn_268 rfl (lv_at hl 0 rfl) ?_
                              refine lv_iload C0.1 C0.2.1 dL_goOn_269 (lv_at hl 11 rfl) ?_
                              obtain ⟨r51, h50, hF⟩ := bd_some hF
                              refine y_si (rest := []) C0 hM hl.1 (k_L_lives l G M42 l11_44 h50) cw_RL_36 rfl rfl ⟨Nat.le_of_ble_eq_true rfl, Nat.le_of_ble_eq_true rfl⟩ rfl (Nat.le_of_ble_eq_true rfl) ⟨by show _ ≤ 0; omega, by show _ ≤ 6 * 0; omega⟩ dL_goOn_271 (fun H locs hM => ?_)
                              refine lv_if_eq (tgt := 281) C0.1 C0.2.1 dL_goOn_274 (by decide) (fun c52 => ?_) (fun c52 => ?_)
                              · have hF := if_t c52 hF
                                refine lv_iconst (v := (0 : Int32)) C0.1 C0.2.1 dL_goOn_281 (by decide) ?_
                                refine lv_istore (lv' := [(10, .int (0 : Int32)), (0, .ref (gad G 220)), (1, .ref (gad G 221)), (2, .ref (gad G 222)), (3, .ref (gad G 223)), (4, .int a4), (5, .int x2), (6, .int l6_12), (7, .int (0 : Int32)), (8, .int x17), (9, .int s31), (11, .int l11_44)]) C0.1 C0.2.1 dL_goOn_282 hl (by decide) rfl (fun ls hl => ?_)
                                obtain ⟨x53, ex53, hF⟩ := nm_some hF
                                refine lv_iinc (v := x53) (lv' := [(11, .int x53), (10, .int (0 : Int32)), (0, .ref (gad G 220)), (1, .ref (gad G 221)), (2, .ref (gad G 222)), (3, .ref (gad G 223)), (4, .int a4), (5, .int x2), (6, .int l6_12), (7, .int (0 : Int32)), (8, .int x17), (9, .int s31)]) C0.1 C0.2.1 dL_goOn_284 hl (k := 11) rfl (by rw [ex53]; rfl) (by decide) rfl (fun ls hl => ?_)
                                refine lv_goto (tgt := 256) C0.1 C0.2.1 dL_goOn_287 (by decide) ?_
                                exact ih256 (0 : Int32) x53 _ _ _ hM (lv_sub hl [2, 3, 4, 5, 6, 7, 8, 9, 10, 11, 1, 0] rfl) hF
                              · have hF := if_f c52 hF
                                refine lv_iconst (v := (1 : Int32)) C0.1 C0.2.1 dL_goOn_277 (by decide) ?_
                                refine lv_goto (tgt := 282) C0.1 C0.2.1 dL_goOn_278 (by decide) ?_
                                refine lv_istore (lv' := [(10, .int (1 : Int32)), (0, .ref (gad G 220)), (1, .ref (gad G 221)), (2, .ref (gad G 222)), (3, .ref (gad G 223)), (4, .int a4), (5, .int x2), (6, .int l6_12), (7, .int (0 : Int32)), (8, .int x17), (9, .int s31), (11, .int l11_44)]) C0.1 C0.2.1 dL_goOn_282 hl (by decide) rfl (fun ls hl => ?_)
                                obtain ⟨x54, ex54, hF⟩ := nm_some hF
                                refine lv_iinc (v := x54) (lv' := [(11, .int x54), (10, .int (1 : Int32)), (0, .ref (gad G 220)), (1, .ref (gad G 221)), (2, .ref (gad G 222)), (3, .ref (gad G 223)), (4, .int a4), (5, .int x2), (6, .int l6_12), (7, .int (0 : Int32)), (8, .int x17), (9, .int s31)]) C0.1 C0.2.1 dL_goOn_284 hl (k := 11) rfl (by rw [ex54]; rfl) (by decide) rfl (fun ls hl => ?_)
                                refine lv_goto (tgt := 256) C0.1 C0.2.1 dL_goOn_287 (by decide) ?_
                                exact ih256 (1 : Int32) x54 _ _ _ hM (lv_sub hl [2, 3, 4, 5, 6, 7, 8, 9, 10, 11, 1, 0] rfl) hF
                      exact L256 FU (0 : Int32) (0 : Int32) _ _ _ hM (lv_sub hl [3, 4, 5, 6, 7, 8, 9, 2, 10, 11, 1, 0] rfl) hF
                    refine lv_if_eq (tgt := 241) C0.1 C0.2.1 dL_goOn_221 (by decide) (fun c55 => ?_) (fun c55 => ?_)
                    · have hF := if_t c55 hF
                      exact J241  _ _ _ hM (lv_sub hl [0, 1, 2, 3, 4, 5, 6, 7, 8, 9] rfl) hF
                    · have hF := if_f c55 hF
                      refine lv_aload_n C0.1 C0.2.1 dL_goOn_224 rfl (lv_at hl 1 rfl) ?_
                      refine lv_iconst (v := (4 : Int32)) C0.1 C0.2.1 dL_goOn_225 (by decide) ?_
                      refine lv_iload C0.1 C0.2.1 dL_goOn_226 (lv_at hl 8 rfl) ?_
                      refine lv_imul C0.1 C0.2.1 dL_goOn_228 ?_
                      obtain ⟨g56, hF⟩ := gdb_some hF
                      refine y_iald C0 hM oka_cc g56 dL_goOn_229 ?_
                      refine lv_if_ne (tgt := 241) C0.1 C0.2.1 dL_goOn_230 (by decide) (fun c57 => ?_) (fun c57 => ?_)
                      · have hF := if_t c57 hF
                        exact J241  _ _ _ hM (lv_sub hl [0, 1, 2, 3, 4, 5, 6, 7, 8, 9] rfl) hF
                      · have hF := if_f (fun q => q c57) hF
                        refine lv_aload_n C0.1 C0.2.1 dL_goOn_233 rfl (lv_at hl 3 rfl) ?_
                        refine lv_iconst (v := (0 : Int32)) C0.1 C0.2.1 dL_goOn_234 (by decide) ?_
                        refine lv_iload C0.1 C0.2.1 dL_goOn_235 (lv_at hl 8 rfl) ?_
                        obtain ⟨g58, hF⟩ := gdb_some hF
                        refine y_iast C0 hM oka_t g58 dL_goOn_237 (fun H locs hM => ?_)
                        obtain ⟨M59, eM59, hF⟩ := nm_some hF
                        have hM := y_mn eM59 hM
                        refine lv_goto (tgt := 296) C0.1 C0.2.1 dL_goOn_238 (by decide) ?_
                        obtain ⟨x60, ex60, hF⟩ := nm_some hF
                        refine lv_iinc (v := x60) (lv' := [(7, .int x60), (0, .ref (gad G 220)), (1, .ref (gad G 221)), (2, .ref (gad G 222)), (3, .ref (gad G 223)), (4, .int a4), (5, .int x2), (6, .int l6_12), (8, .int x17), (9, .int s31)]) C0.1 C0.2.1 dL_goOn_296 hl (k := 7) rfl (by rw [ex60]; rfl) (by decide) rfl (fun ls hl => ?_)
                        refine lv_goto (tgt := 16) C0.1 C0.2.1 dL_goOn_299 (by decide) ?_
                        exact ih16 l6_12 x60 M59 _ _ _ hM (lv_sub hl [1, 2, 3, 4, 5, 6, 7, 0] rfl) hF
                  refine lv_icmp_ge (tgt := 204) C0.1 C0.2.1 dL_goOn_197 (by decide) (fun c61 => ?_) (fun c61 => ?_)
                  · have hF := if_t c61 hF
                    refine lv_aload_n C0.1 C0.2.1 dL_goOn_204 rfl (lv_at hl 1 rfl) ?_
                    refine lv_bipush (v := (8 : Int32)) C0.1 C0.2.1 dL_goOn_205 (by decide) ?_
                    refine lv_iload C0.1 C0.2.1 dL_goOn_207 (lv_at hl 9 rfl) ?_
                    refine lv_imul C0.1 C0.2.1 dL_goOn_209 ?_
                    obtain ⟨g62, hF⟩ := gdb_some hF
                    refine y_iald C0 hM oka_a g62 dL_goOn_210 ?_
                    refine lv_iload C0.1 C0.2.1 dL_goOn_211 (lv_at hl 0 rfl) ?_
                    refine lv_isub C0.1 C0.2.1 dL_goOn_213 ?_
                    exact J214 ((rA M29 220 (Int32.toNatClampNeg ((8 : Int32) * x17))) - s31) _ _ _ hM (lv_sub hl [1, 2, 3, 4, 5, 6, 7, 8, 9, 0] rfl) hF
                  · have hF := if_f c61 hF
                    refine lv_iconst (v := (0 : Int32)) C0.1 C0.2.1 dL_goOn_200 (by decide) ?_
                    refine lv_goto (tgt := 214) C0.1 C0.2.1 dL_goOn_201 (by decide) ?_
                    exact J214 (0 : Int32) _ _ _ hM (lv_sub hl [1, 2, 3, 4, 5, 6, 7, 8, 9, 0] rfl) hF
                refine lv_if_le (tgt := 179) C0.1 C0.2.1 dL_goOn_172 (by decide) (fun c63 => ?_) (fun c63 => ?_)
                · have hF := if_t c63 hF
                  refine lv_iconst (v := (0 : Int32)) C0.1 C0.2.1 dL_goOn_179 (by decide) ?_
                  exact J180 (0 : Int32) _ _ _ hM (lv_sub hl [1, 2, 3, 4, 5, 6, 7, 8, 0] rfl) hF
                · have hF := if_f c63 hF
                  refine lv_iconst (v := (2 : Int32)) C0.1 C0.2.1 dL_goOn_175 (by decide) ?_
                  refine lv_goto (tgt := 180) C0.1 C0.2.1 dL_goOn_176 (by decide) ?_
                  exact J180 (2 : Int32) _ _ _ hM (lv_sub hl [1, 2, 3, 4, 5, 6, 7, 8, 0] rfl) hF
          refine lv_icmp_ne (tgt := 124) C0.1 C0.2.1 dL_goOn_36 (by decide) (fun c64 => ?_) (fun c64 => ?_)
          · have hF := if_t c64 hF
            exact J124 x11 l7_6 M7 _ _ _ hM (lv_sub hl [1, 2, 3, 4, 5, 6, 0, 7] rfl) hF
          · have hF := if_f (fun q => q c64) hF
            refine lv_iconst (v := (0 : Int32)) C0.1 C0.2.1 dL_goOn_39 (by decide) ?_
            refine lv_istore (lv' := [(8, .int (0 : Int32)), (6, .int x11), (0, .ref (gad G 220)), (1, .ref (gad G 221)), (2, .ref (gad G 222)), (3, .ref (gad G 223)), (4, .int a4), (5, .int x2), (7, .int l7_6)]) C0.1 C0.2.1 dL_goOn_40 hl (by decide) rfl (fun ls hl => ?_)
            refine lv_iconst (v := (0 : Int32)) C0.1 C0.2.1 dL_goOn_42 (by decide) ?_
            refine lv_istore (lv' := [(9, .int (0 : Int32)), (8, .int (0 : Int32)), (6, .int x11), (0, .ref (gad G 220)), (1, .ref (gad G 221)), (2, .ref (gad G 222)), (3, .ref (gad G 223)), (4, .int a4), (5, .int x2), (7, .int l7_6)]) C0.1 C0.2.1 dL_goOn_43 hl (by decide) rfl (fun ls hl => ?_)
            have L45 : ∀ (n : Nat) (l8_65 : Int32) (l9_66 : Int32) (H : Heap) (locs : List Loc) (ls : Array Slot), MX G M7 s H locs → lv_has ls 12 [(0, .ref (gad G 220)), (1, .ref (gad G 221)), (2, .ref (gad G 222)), (3, .ref (gad G 223)), (4, .int a4), (5, .int x2), (6, .int x11), (7, .int l7_6), (8, .int l8_65), (9, .int l9_66)] → F_L_goOn_l45 x2 M7 j124_14 n l8_65 l9_66 = some Mf → W p l e (RmL 1 0) s m ([.ref (gad G 220), .ref (gad G 221), .ref (gad G 222), .ref (gad G 223), .int a4] : List Value).toArray below meth c H locs 0 0 (QV below ([.ref (gad G 220), .ref (gad G 221), .ref (gad G 222), .ref (gad G 223), .int a4] : List Value).toArray s G sz Mf) (F0 m 45 ls []) := by
              intro n
              induction n with
              | zero => intro l8_65 l9_66 H locs ls hM hl hF; rw [F_L_goOn_l45] at hF; cases hF
              | succ n45 ih45 =>
                intro l8_65 l9_66 H locs ls hM hl hF
                rw [F_L_goOn_l45] at hF
                refine lv_iload C0.1 C0.2.1 dL_goOn_45 (lv_at hl 9 rfl) ?_
                refine lv_iload C0.1 C0.2.1 dL_goOn_47 (lv_at hl 5 rfl) ?_
                refine lv_icmp_ge (tgt := 79) C0.1 C0.2.1 dL_goOn_49 (by decide) (fun c67 => ?_) (fun c67 => ?_)
                · have hF := if_t c67 hF
                  refine lv_iload C0.1 C0.2.1 dL_goOn_79 (lv_at hl 8 rfl) ?_
                  refine lv_if_ne (tgt := 85) C0.1 C0.2.1 dL_goOn_81 (by decide) (fun c68 => ?_) (fun c68 => ?_)
                  · have hF := if_t c68 hF
                    refine lv_aload_n C0.1 C0.2.1 dL_goOn_85 rfl (lv_at hl 3 rfl) ?_
                    refine lv_iconst (v := (1 : Int32)) C0.1 C0.2.1 dL_goOn_86 (by decide) ?_
                    refine lv_dup2_11 C0.1 C0.2.1 dL_goOn_87 rfl rfl ?_
                    obtain ⟨g69, hF⟩ := gdb_some hF
                    refine y_iald C0 hM oka_t g69 dL_goOn_88 ?_
                    refine lv_iconst (v := (1 : Int32)) C0.1 C0.2.1 dL_goOn_89 (by decide) ?_
                    refine lv_iadd C0.1 C0.2.1 dL_goOn_90 ?_
                    obtain ⟨g70, hF⟩ := gdb_some hF
                    refine y_iast C0 hM oka_t g70 dL_goOn_91 (fun H locs hM => ?_)
                    obtain ⟨M71, eM71, hF⟩ := nm_some hF
                    have hM := y_mn eM71 hM
                    refine lv_iconst (v := (0 : Int32)) C0.1 C0.2.1 dL_goOn_92 (by decide) ?_
                    refine lv_istore (lv' := [(9, .int (0 : Int32)), (0, .ref (gad G 220)), (1, .ref (gad G 221)), (2, .ref (gad G 222)), (3, .ref (gad G 223)), (4, .int a4), (5, .int x2), (6, .int x11), (7, .int l7_6), (8, .int l8_65)]) C0.1 C0.2.1 dL_goOn_93 hl (by decide) rfl (fun ls hl => ?_)
                    have L95 : ∀ (n : Nat) (l9_72 : Int32) (M73 : MS) (H : Heap) (locs : List Loc) (ls : Array Slot), MX G M73 s H locs → lv_has ls 12 [(0, .ref (gad G 220)), (1, .ref (gad G 221)), (2, .ref (gad G 222)), (3, .ref (gad G 223)), (4, .int a4), (5, .int x2), (6, .int x11), (7, .int l7_6), (8, .int l8_65), (9, .int l9_72)] → F_L_goOn_l95 x2 j124_14 n l9_72 M73 = some Mf → W p l e (RmL 1 0) s m ([.ref (gad G 220), .ref (gad G 221), .ref (gad G 222), .ref (gad G 223), .int a4] : List Value).toArray below meth c H locs 0 0 (QV below ([.ref (gad G 220), .ref (gad G 221), .ref (gad G 222), .ref (gad G 223), .int a4] : List Value).toArray s G sz Mf) (F0 m 95 ls []) := by
                      intro n
                      induction n with
                      | zero => intro l9_72 M73 H locs ls hM hl hF; rw [F_L_goOn_l95] at hF; cases hF
                      | succ n95 ih95 =>
                        intro l9_72 M73 H locs ls hM hl hF
                        rw [F_L_goOn_l95] at hF
                        refine lv_iload C0.1 C0.2.1 dL_goOn_95 (lv_at hl 9 rfl) ?_
                        refine lv_iload C0.1 C0.2.1 dL_goOn_97 (lv_at hl 5 rfl) ?_
                        refine lv_icmp_ge (tgt := 118) C0.1 C0.2.1 dL_goOn_99 (by decide) (fun c74 => ?_) (fun c74 => ?_)
                        · have hF := if_t c74 hF
                          refine lv_iconst (v := (0 : Int32)) C0.1 C0.2.1 dL_goOn_118 (by decide) ?_
                          refine lv_istore (lv' := [(6, .int (0 : Int32)), (0, .ref (gad G 220)), (1, .ref (gad G 221)), (2, .ref (gad G 222)), (3, .ref (gad G 223)), (4, .int a4), (5, .int x2), (7, .int l7_6), (8, .int l8_65), (9, .int l9_72)]) C0.1 C0.2.1 dL_goOn_119 hl (by decide) rfl (fun ls hl => ?_)
                          refine lv_iconst (v := (0 : Int32)) C0.1 C0.2.1 dL_goOn_121 (by decide) ?_
                          refine lv_istore (lv' := [(7, .int (0 : Int32)), (6, .int (0 : Int32)), (0, .ref (gad G 220)), (1, .ref (gad G 221)), (2, .ref (gad G 222)), (3, .ref (gad G 223)), (4, .int a4), (5, .int x2), (8, .int l8_65), (9, .int l9_72)]) C0.1 C0.2.1 dL_goOn_122 hl (by decide) rfl (fun ls hl => ?_)
                          exact J124 (0 : Int32) (0 : Int32) M73 _ _ _ hM (lv_sub hl [2, 3, 4, 5, 6, 7, 1, 0] rfl) hF
                        · have hF := if_f c74 hF
                          refine lv_aload_n C0.1 C0.2.1 dL_goOn_102 rfl (lv_at hl 0 rfl) ?_
                          refine lv_bipush (v := (8 : Int32)) C0.1 C0.2.1 dL_goOn_103 (by decide) ?_
                          refine lv_iload C0.1 C0.2.1 dL_goOn_105 (lv_at hl 9 rfl) ?_
                          refine lv_imul C0.1 C0.2.1 dL_goOn_107 ?_
                          refine lv_iconst (v := (3 : Int32)) C0.1 C0.2.1 dL_goOn_108 (by decide) ?_
                          refine lv_iadd C0.1 C0.2.1 dL_goOn_109 ?_
                          refine lv_iconst (v := (0 : Int32)) C0.1 C0.2.1 dL_goOn_110 (by decide) ?_
                          obtain ⟨g75, hF⟩ := gdb_some hF
                          refine y_iast C0 hM oka_a g75 dL_goOn_111 (fun H locs hM => ?_)
                          obtain ⟨M76, eM76, hF⟩ := nm_some hF
                          have hM := y_mn eM76 hM
                          obtain ⟨x77, ex77, hF⟩ := nm_some hF
                          refine lv_iinc (v := x77) (lv' := [(9, .int x77), (0, .ref (gad G 220)), (1, .ref (gad G 221)), (2, .ref (gad G 222)), (3, .ref (gad G 223)), (4, .int a4), (5, .int x2), (6, .int x11), (7, .int l7_6), (8, .int l8_65)]) C0.1 C0.2.1 dL_goOn_112 hl (k := 9) rfl (by rw [ex77]; rfl) (by decide) rfl (fun ls hl => ?_)
                          refine lv_goto (tgt := 95) C0.1 C0.2.1 dL_goOn_115 (by decide) ?_
                          exact ih95 x77 M76 _ _ _ hM (lv_sub hl [1, 2, 3, 4, 5, 6, 7, 8, 9, 0] rfl) hF
                    exact L95 FU (0 : Int32) M71 _ _ _ hM (lv_sub hl [1, 2, 3, 4, 5, 6, 7, 8, 9, 0] rfl) hF
                  · have hF := if_f (fun q => q c68) hF
                    have e9 := y_1 hF
                    subst e9
                    exact y_vret C0 hM hsz dL_goOn_84
                · have hF := if_f c67 hF
                  refine lv_iload C0.1 C0.2.1 dL_goOn_52 (lv_at hl 8 rfl) ?_
                  refine lv_if_ne (tgt := 66) C0.1 C0.2.1 dL_goOn_54 (by decide) (fun c78 => ?_) (fun c78 => ?_)
                  · have hF := if_t c78 hF
                    refine lv_iconst (v := (1 : Int32)) C0.1 C0.2.1 dL_goOn_66 (by decide) ?_
                    refine lv_goto (tgt := 71) C0.1 C0.2.1 dL_goOn_67 (by decide) ?_
                    refine lv_istore (lv' := [(8, .int (1 : Int32)), (0, .ref (gad G 220)), (1, .ref (gad G 221)), (2, .ref (gad G 222)), (3, .ref (gad G 223)), (4, .int a4), (5, .int x2), (6, .int x11), (7, .int l7_6), (9, .int l9_66)]) C0.1 C0.2.1 dL_goOn_71 hl (by decide) rfl (fun ls hl => ?_)
                    obtain ⟨x79, ex79, hF⟩ := nm_some hF
                    refine lv_iinc (v := x79) (lv' := [(9, .int x79), (8, .int (1 : Int32)), (0, .ref (gad G 220)), (1, .ref (gad G 221)), (2, .ref (gad G 222)), (3, .ref (gad G 223)), (4, .int a4), (5, .int x2), (6, .int x11), (7, .int l7_6)]) C0.1 C0.2.1 dL_goOn_73 hl (k := 9) rfl (by rw [ex79]; rfl) (by decide) rfl (fun ls hl => ?_)
                    refine lv_goto (tgt := 45) C0.1 C0.2.1 dL_goOn_76 (by decide) ?_
                    exact ih45 (1 : Int32) x79 _ _ _ hM (lv_sub hl [2, 3, 4, 5, 6, 7, 8, 9, 1, 0] rfl) hF
                  · have hF := if_f (fun q => q c78) hF
                    refine lv_aload_n C0.1 C0.2.1 dL_goOn_57 rfl (lv_at hl 0 rfl) ?_
                    refine lv_iload C0.1 C0.2.1 dL_goOn_58 (lv_at hl 9 rfl) ?_
                    obtain ⟨r81, h80, hF⟩ := bd_some hF
                    refine y_si (rest := []) C0 hM hl.1 (k_L_lives l G M7 l9_66 h80) cw_RL_36 rfl rfl ⟨Nat.le_of_ble_eq_true rfl, Nat.le_of_ble_eq_true rfl⟩ rfl (Nat.le_of_ble_eq_true rfl) ⟨by show _ ≤ 0; omega, by show _ ≤ 6 * 0; omega⟩ dL_goOn_60 (fun H locs hM => ?_)
                    refine lv_if_eq (tgt := 70) C0.1 C0.2.1 dL_goOn_63 (by decide) (fun c82 => ?_) (fun c82 => ?_)
                    · have hF := if_t c82 hF
                      refine lv_iconst (v := (0 : Int32)) C0.1 C0.2.1 dL_goOn_70 (by decide) ?_
                      refine lv_istore (lv' := [(8, .int (0 : Int32)), (0, .ref (gad G 220)), (1, .ref (gad G 221)), (2, .ref (gad G 222)), (3, .ref (gad G 223)), (4, .int a4), (5, .int x2), (6, .int x11), (7, .int l7_6), (9, .int l9_66)]) C0.1 C0.2.1 dL_goOn_71 hl (by decide) rfl (fun ls hl => ?_)
                      obtain ⟨x83, ex83, hF⟩ := nm_some hF
                      refine lv_iinc (v := x83) (lv' := [(9, .int x83), (8, .int (0 : Int32)), (0, .ref (gad G 220)), (1, .ref (gad G 221)), (2, .ref (gad G 222)), (3, .ref (gad G 223)), (4, .int a4), (5, .int x2), (6, .int x11), (7, .int l7_6)]) C0.1 C0.2.1 dL_goOn_73 hl (k := 9) rfl (by rw [ex83]; rfl) (by decide) rfl (fun ls hl => ?_)
                      refine lv_goto (tgt := 45) C0.1 C0.2.1 dL_goOn_76 (by decide) ?_
                      exact ih45 (0 : Int32) x83 _ _ _ hM (lv_sub hl [2, 3, 4, 5, 6, 7, 8, 9, 1, 0] rfl) hF
                    · have hF := if_f c82 hF
                      refine lv_iconst (v := (1 : Int32)) C0.1 C0.2.1 dL_goOn_66 (by decide) ?_
                      refine lv_goto (tgt := 71) C0.1 C0.2.1 dL_goOn_67 (by decide) ?_
                      refine lv_istore (lv' := [(8, .int (1 : Int32)), (0, .ref (gad G 220)), (1, .ref (gad G 221)), (2, .ref (gad G 222)), (3, .ref (gad G 223)), (4, .int a4), (5, .int x2), (6, .int x11), (7, .int l7_6), (9, .int l9_66)]) C0.1 C0.2.1 dL_goOn_71 hl (by decide) rfl (fun ls hl => ?_)
                      obtain ⟨x84, ex84, hF⟩ := nm_some hF
                      refine lv_iinc (v := x84) (lv' := [(9, .int x84), (8, .int (1 : Int32)), (0, .ref (gad G 220)), (1, .ref (gad G 221)), (2, .ref (gad G 222)), (3, .ref (gad G 223)), (4, .int a4), (5, .int x2), (6, .int x11), (7, .int l7_6)]) C0.1 C0.2.1 dL_goOn_73 hl (k := 9) rfl (by rw [ex84]; rfl) (by decide) rfl (fun ls hl => ?_)
                      refine lv_goto (tgt := 45) C0.1 C0.2.1 dL_goOn_76 (by decide) ?_
                      exact ih45 (1 : Int32) x84 _ _ _ hM (lv_sub hl [2, 3, 4, 5, 6, 7, 8, 9, 1, 0] rfl) hF
            exact L45 FU (0 : Int32) (0 : Int32) _ _ _ hM (lv_sub hl [3, 4, 5, 6, 7, 8, 2, 9, 1, 0] rfl) hF
  exact L16 FU a4 (0 : Int32) M4 _ _ _ hM (lv_sub hl [3, 4, 5, 6, 7, 2, 1, 0] rfl) hF

def F_L_endTurn_l17 (x2 : Int32) (M4 : MS) : Nat → Int32 → Int32 → Option MS
  | 0, _, _ => none
  | n17 + 1, l5_5, l6_6 => (gdb (inb (5 : Int32) 7) (if (rA M4 223 (Int32.toNatClampNeg (5 : Int32))) ≤ l6_6 then (if l5_5 = 0 then (gdb (inb (0 : Int32) 7) (nm (wA M4 223 (Int32.toNatClampNeg (0 : Int32)) (-1 : Int32)) fun M11 => (some M11))) else (bd (F_L_rank M4 x2) fun r13 => (bd (F_L_goOn M4 r13) fun M15 => (some M15)))) else (if ¬ l5_5 = 0 then (nm (l6_6 + (1 : Int32)) fun x17 => (F_L_endTurn_l17 x2 M4 n17 (1 : Int32) x17)) else (bd (F_L_lives M4 l6_6) fun r19 => (if r19 = 0 then (nm (l6_6 + (1 : Int32)) fun x21 => (F_L_endTurn_l17 x2 M4 n17 (0 : Int32) x21)) else (nm (l6_6 + (1 : Int32)) fun x22 => (F_L_endTurn_l17 x2 M4 n17 (1 : Int32) x22)))))))

def F_L_endTurn (M : MS) : Option MS := (gdb (inb (0 : Int32) 7) (nm (rA M 223 (Int32.toNatClampNeg (0 : Int32))) fun x2 => (bd (F_L_fade M x2) fun M4 => (F_L_endTurn_l17 x2 M4 FU (0 : Int32) (0 : Int32)))))

set_option maxHeartbeats 8000000 in
set_option maxRecDepth 100000 in
theorem k_L_endTurn (l : Launch) (G : GG) (M : MS) {Mf : MS} (hF : F_L_endTurn M = some Mf) : KV l yL_endTurn (WS yL_endTurn cL_endTurn 7 none) (RmL 2 0) G [.ref (gad G 220), .ref (gad G 221), .ref (gad G 222), .ref (gad G 223)] M Mf := by
  intro sz
  refine y_met (by decide +kernel) (Nat.le_of_ble_eq_true rfl) rfl (fun p e s m below meth c ls hsz C0 hM hl => ?_)
  have hl : lv_has ls 7 [(0, .ref (gad G 220)), (1, .ref (gad G 221)), (2, .ref (gad G 222)), (3, .ref (gad G 223))] := hl
  have C0 : CX p s m meth c ([.ref (gad G 220), .ref (gad G 221), .ref (gad G 222), .ref (gad G 223)] : List Value).toArray cL_endTurn RL 7 none := C0
  rw [F_L_endTurn] at hF
  refine lv_aload_n C0.1 C0.2.1 dL_endTurn_0 rfl (lv_at hl 3 rfl) ?_
  refine lv_iconst (v := (0 : Int32)) C0.1 C0.2.1 dL_endTurn_1 (by decide) ?_
  obtain ⟨g1, hF⟩ := gdb_some hF
  refine y_iald C0 hM oka_t g1 dL_endTurn_2 ?_
  obtain ⟨x2, ex2, hF⟩ := nm_some hF
  refine y_topi ex2 ?_
  refine lv_istore (lv' := [(4, .int x2), (0, .ref (gad G 220)), (1, .ref (gad G 221)), (2, .ref (gad G 222)), (3, .ref (gad G 223))]) C0.1 C0.2.1 dL_endTurn_3 hl (by decide) rfl (fun ls hl => ?_)
  refine lv_aload_n C0.1 C0.2.1 dL_endTurn_5 rfl (lv_at hl 2 rfl) ?_
  refine lv_iload C0.1 C0.2.1 dL_endTurn_6 (lv_at hl 0 rfl) ?_
  obtain ⟨M4, h3, hF⟩ := bd_some hF
  refine y_sv (rest := []) C0 hM hl.1 (k_L_fade l G M x2 h3) cw_RL_44 rfl rfl ⟨Nat.le_of_ble_eq_true rfl, Nat.le_of_ble_eq_true rfl⟩ rfl (Nat.le_of_ble_eq_true rfl) ⟨by show _ ≤ 0; omega, by show _ ≤ 6 * 0; omega⟩ dL_endTurn_8 (fun H locs hM => ?_)
  refine lv_iconst (v := (0 : Int32)) C0.1 C0.2.1 dL_endTurn_11 (by decide) ?_
  refine lv_istore (lv' := [(5, .int (0 : Int32)), (4, .int x2), (0, .ref (gad G 220)), (1, .ref (gad G 221)), (2, .ref (gad G 222)), (3, .ref (gad G 223))]) C0.1 C0.2.1 dL_endTurn_12 hl (by decide) rfl (fun ls hl => ?_)
  refine lv_iconst (v := (0 : Int32)) C0.1 C0.2.1 dL_endTurn_14 (by decide) ?_
  refine lv_istore (lv' := [(6, .int (0 : Int32)), (5, .int (0 : Int32)), (4, .int x2), (0, .ref (gad G 220)), (1, .ref (gad G 221)), (2, .ref (gad G 222)), (3, .ref (gad G 223))]) C0.1 C0.2.1 dL_endTurn_15 hl (by decide) rfl (fun ls hl => ?_)
  have L17 : ∀ (n : Nat) (l5_5 : Int32) (l6_6 : Int32) (H : Heap) (locs : List Loc) (ls : Array Slot), MX G M4 s H locs → lv_has ls 7 [(0, .ref (gad G 220)), (1, .ref (gad G 221)), (2, .ref (gad G 222)), (3, .ref (gad G 223)), (4, .int x2), (5, .int l5_5), (6, .int l6_6)] → F_L_endTurn_l17 x2 M4 n l5_5 l6_6 = some Mf → W p l e (RmL 2 0) s m ([.ref (gad G 220), .ref (gad G 221), .ref (gad G 222), .ref (gad G 223)] : List Value).toArray below meth c H locs 0 0 (QV below ([.ref (gad G 220), .ref (gad G 221), .ref (gad G 222), .ref (gad G 223)] : List Value).toArray s G sz Mf) (F0 m 17 ls []) := by
    intro n
    induction n with
    | zero => intro l5_5 l6_6 H locs ls hM hl hF; rw [F_L_endTurn_l17] at hF; cases hF
    | succ n17 ih17 =>
      intro l5_5 l6_6 H locs ls hM hl hF
      rw [F_L_endTurn_l17] at hF
      refine lv_iload C0.1 C0.2.1 dL_endTurn_17 (lv_at hl 6 rfl) ?_
      refine lv_aload_n C0.1 C0.2.1 dL_endTurn_19 rfl (lv_at hl 3 rfl) ?_
      refine lv_iconst (v := (5 : Int32)) C0.1 C0.2.1 dL_endTurn_20 (by decide) ?_
      obtain ⟨g7, hF⟩ := gdb_some hF
      refine y_iald C0 hM oka_t g7 dL_endTurn_21 ?_
      refine lv_icmp_ge (tgt := 52) C0.1 C0.2.1 dL_endTurn_22 (by decide) (fun c8 => ?_) (fun c8 => ?_)
      · have hF := if_t c8 hF
        refine lv_iload C0.1 C0.2.1 dL_endTurn_52 (lv_at hl 5 rfl) ?_
        refine lv_if_eq (tgt := 73) C0.1 C0.2.1 dL_endTurn_54 (by decide) (fun c9 => ?_) (fun c9 => ?_)
        · have hF := if_t c9 hF
          refine lv_aload_n C0.1 C0.2.1 dL_endTurn_73 rfl (lv_at hl 3 rfl) ?_
          refine lv_iconst (v := (0 : Int32)) C0.1 C0.2.1 dL_endTurn_74 (by decide) ?_
          refine lv_iconst (v := (-1 : Int32)) C0.1 C0.2.1 dL_endTurn_75 (by decide) ?_
          obtain ⟨g10, hF⟩ := gdb_some hF
          refine y_iast C0 hM oka_t g10 dL_endTurn_76 (fun H locs hM => ?_)
          obtain ⟨M11, eM11, hF⟩ := nm_some hF
          have hM := y_mn eM11 hM
          have e9 := y_1 hF
          subst e9
          exact y_vret C0 hM hsz dL_endTurn_77
        · have hF := if_f c9 hF
          refine lv_aload_n C0.1 C0.2.1 dL_endTurn_57 rfl (lv_at hl 0 rfl) ?_
          refine lv_aload_n C0.1 C0.2.1 dL_endTurn_58 rfl (lv_at hl 1 rfl) ?_
          refine lv_aload_n C0.1 C0.2.1 dL_endTurn_59 rfl (lv_at hl 2 rfl) ?_
          refine lv_aload_n C0.1 C0.2.1 dL_endTurn_60 rfl (lv_at hl 3 rfl) ?_
          refine lv_aload_n C0.1 C0.2.1 dL_endTurn_61 rfl (lv_at hl 2 rfl) ?_
          refine lv_iload C0.1 C0.2.1 dL_endTurn_62 (lv_at hl 4 rfl) ?_
          obtain ⟨r13, h12, hF⟩ := bd_some hF
          refine y_si (rest := [.ref (gad G 223), .ref (gad G 222), .ref (gad G 221), .ref (gad G 220)]) C0 hM hl.1 (k_L_rank l G M4 x2 h12) cw_RL_47 rfl rfl ⟨Nat.le_of_ble_eq_true rfl, Nat.le_of_ble_eq_true rfl⟩ rfl (Nat.le_of_ble_eq_true rfl) ⟨by show _ ≤ 0; omega, by show _ ≤ 6 * 0; omega⟩ dL_endTurn_64 (fun H locs hM => ?_)
          obtain ⟨M15, h14, hF⟩ := bd_some hF
          refine y_sv (rest := []) C0 hM hl.1 (k_L_goOn l G M4 r13 h14) cw_RL_50 rfl rfl ⟨Nat.le_of_ble_eq_true rfl, Nat.le_of_ble_eq_true rfl⟩ rfl (Nat.le_of_ble_eq_true rfl) ⟨by show _ ≤ 0; omega, by show _ ≤ 6 * 0; omega⟩ dL_endTurn_67 (fun H locs hM => ?_)
          refine lv_goto (tgt := 77) C0.1 C0.2.1 dL_endTurn_70 (by decide) ?_
          have e9 := y_1 hF
          subst e9
          exact y_vret C0 hM hsz dL_endTurn_77
      · have hF := if_f c8 hF
        refine lv_iload C0.1 C0.2.1 dL_endTurn_25 (lv_at hl 5 rfl) ?_
        refine lv_if_ne (tgt := 39) C0.1 C0.2.1 dL_endTurn_27 (by decide) (fun c16 => ?_) (fun c16 => ?_)
        · have hF := if_t c16 hF
          refine lv_iconst (v := (1 : Int32)) C0.1 C0.2.1 dL_endTurn_39 (by decide) ?_
          refine lv_goto (tgt := 44) C0.1 C0.2.1 dL_endTurn_40 (by decide) ?_
          refine lv_istore (lv' := [(5, .int (1 : Int32)), (0, .ref (gad G 220)), (1, .ref (gad G 221)), (2, .ref (gad G 222)), (3, .ref (gad G 223)), (4, .int x2), (6, .int l6_6)]) C0.1 C0.2.1 dL_endTurn_44 hl (by decide) rfl (fun ls hl => ?_)
          obtain ⟨x17, ex17, hF⟩ := nm_some hF
          refine lv_iinc (v := x17) (lv' := [(6, .int x17), (5, .int (1 : Int32)), (0, .ref (gad G 220)), (1, .ref (gad G 221)), (2, .ref (gad G 222)), (3, .ref (gad G 223)), (4, .int x2)]) C0.1 C0.2.1 dL_endTurn_46 hl (k := 6) rfl (by rw [ex17]; rfl) (by decide) rfl (fun ls hl => ?_)
          refine lv_goto (tgt := 17) C0.1 C0.2.1 dL_endTurn_49 (by decide) ?_
          exact ih17 (1 : Int32) x17 _ _ _ hM (lv_sub hl [2, 3, 4, 5, 6, 1, 0] rfl) hF
        · have hF := if_f (fun q => q c16) hF
          refine lv_aload_n C0.1 C0.2.1 dL_endTurn_30 rfl (lv_at hl 0 rfl) ?_
          refine lv_iload C0.1 C0.2.1 dL_endTurn_31 (lv_at hl 6 rfl) ?_
          obtain ⟨r19, h18, hF⟩ := bd_some hF
          refine y_si (rest := []) C0 hM hl.1 (k_L_lives l G M4 l6_6 h18) cw_RL_36 rfl rfl ⟨Nat.le_of_ble_eq_true rfl, Nat.le_of_ble_eq_true rfl⟩ rfl (Nat.le_of_ble_eq_true rfl) ⟨by show _ ≤ 0; omega, by show _ ≤ 6 * 0; omega⟩ dL_endTurn_33 (fun H locs hM => ?_)
          refine lv_if_eq (tgt := 43) C0.1 C0.2.1 dL_endTurn_36 (by decide) (fun c20 => ?_) (fun c20 => ?_)
          · have hF := if_t c20 hF
            refine lv_iconst (v := (0 : Int32)) C0.1 C0.2.1 dL_endTurn_43 (by decide) ?_
            refine lv_istore (lv' := [(5, .int (0 : Int32)), (0, .ref (gad G 220)), (1, .ref (gad G 221)), (2, .ref (gad G 222)), (3, .ref (gad G 223)), (4, .int x2), (6, .int l6_6)]) C0.1 C0.2.1 dL_endTurn_44 hl (by decide) rfl (fun ls hl => ?_)
            obtain ⟨x21, ex21, hF⟩ := nm_some hF
            refine lv_iinc (v := x21) (lv' := [(6, .int x21), (5, .int (0 : Int32)), (0, .ref (gad G 220)), (1, .ref (gad G 221)), (2, .ref (gad G 222)), (3, .ref (gad G 223)), (4, .int x2)]) C0.1 C0.2.1 dL_endTurn_46 hl (k := 6) rfl (by rw [ex21]; rfl) (by decide) rfl (fun ls hl => ?_)
            refine lv_goto (tgt := 17) C0.1 C0.2.1 dL_endTurn_49 (by decide) ?_
            exact ih17 (0 : Int32) x21 _ _ _ hM (lv_sub hl [2, 3, 4, 5, 6, 1, 0] rfl) hF
          · have hF := if_f c20 hF
            refine lv_iconst (v := (1 : Int32)) C0.1 C0.2.1 dL_endTurn_39 (by decide) ?_
            refine lv_goto (tgt := 44) C0.1 C0.2.1 dL_endTurn_40 (by decide) ?_
            refine lv_istore (lv' := [(5, .int (1 : Int32)), (0, .ref (gad G 220)), (1, .ref (gad G 221)), (2, .ref (gad G 222)), (3, .ref (gad G 223)), (4, .int x2), (6, .int l6_6)]) C0.1 C0.2.1 dL_endTurn_44 hl (by decide) rfl (fun ls hl => ?_)
            obtain ⟨x22, ex22, hF⟩ := nm_some hF
            refine lv_iinc (v := x22) (lv' := [(6, .int x22), (5, .int (1 : Int32)), (0, .ref (gad G 220)), (1, .ref (gad G 221)), (2, .ref (gad G 222)), (3, .ref (gad G 223)), (4, .int x2)]) C0.1 C0.2.1 dL_endTurn_46 hl (k := 6) rfl (by rw [ex22]; rfl) (by decide) rfl (fun ls hl => ?_)
            refine lv_goto (tgt := 17) C0.1 C0.2.1 dL_endTurn_49 (by decide) ?_
            exact ih17 (1 : Int32) x22 _ _ _ hM (lv_sub hl [2, 3, 4, 5, 6, 1, 0] rfl) hF
  exact L17 FU (0 : Int32) (0 : Int32) _ _ _ hM (lv_sub hl [3, 4, 5, 6, 2, 1, 0] rfl) hF

def F_L_stand_l93 (a2 : Int32) (a3 : Int32) (a4 : Int32) : Nat → Int32 → MS → Option MS
  | 0, _, _ => none
  | n93 + 1, l8_6, M7 => (if a2 ≤ l8_6 then (gdb (inb (((8 : Int32) * a4) + (2 : Int32)) 48) (gdb (inb (((8 : Int32) * a3) + (2 : Int32)) 48) (nm (wA M7 220 (Int32.toNatClampNeg (((8 : Int32) * a3) + (2 : Int32))) (rA M7 220 (Int32.toNatClampNeg (((8 : Int32) * a4) + (2 : Int32))))) fun M11 => (some M11)))) else (gdb (inb l8_6 6) (gdb (inb l8_6 6) (nm (wA M7 222 (Int32.toNatClampNeg l8_6) (rA M7 225 (Int32.toNatClampNeg l8_6))) fun M14 => (nm (l8_6 + (1 : Int32)) fun x15 => (F_L_stand_l93 a2 a3 a4 n93 x15 M14))))))

def F_L_stand_l12 (a2 : Int32) (a3 : Int32) (a4 : Int32) (a5 : Int32) : Nat → Int32 → Int32 → MS → Option MS
  | 0, _, _, _ => none
  | n12 + 1, l7_2, l8_3, M4 => (if a2 ≤ l8_3 then (F_L_stand_l93 a2 a3 a4 FU (0 : Int32) M4) else (gdb (inb l8_3 6) (nm (fun (l7_17 : Int32) (M18 : MS) => (gdb (inb l8_3 6) (nm (fun (l7_21 : Int32) (M22 : MS) => (gdb (inb l8_3 6) (if ¬ (rA M22 222 (Int32.toNatClampNeg l8_3)) = a4 then (nm (l8_3 + (1 : Int32)) fun x26 => (F_L_stand_l12 a2 a3 a4 a5 n12 l7_21 x26 M22)) else (if a5 = 0 then (nm (l8_3 + (1 : Int32)) fun x28 => (F_L_stand_l12 a2 a3 a4 a5 n12 l7_21 x28 M22)) else (nm (l7_21 + (1 : Int32)) fun x29 => (gdb (inb l7_21 6) (nm (wA M22 225 (Int32.toNatClampNeg l7_21) a3) fun M31 => (nm (l8_3 + (1 : Int32)) fun x32 => (F_L_stand_l12 a2 a3 a4 a5 n12 x29 x32 M31))))))))) fun j61_22 => (if (rA M18 222 (Int32.toNatClampNeg l8_3)) = a3 then (j61_22 l7_17 M18) else (nm (l7_17 + (1 : Int32)) fun x34 => (gdb (inb l8_3 6) (gdb (inb l7_17 6) (nm (wA M18 225 (Int32.toNatClampNeg l7_17) (rA M18 222 (Int32.toNatClampNeg l8_3))) fun M37 => (j61_22 x34 M37))))))))) fun j41_18 => (if ¬ (rA M4 222 (Int32.toNatClampNeg l8_3)) = a4 then (j41_18 l7_2 M4) else (if ¬ a5 = 0 then (j41_18 l7_2 M4) else (nm (l7_2 + (1 : Int32)) fun x40 => (gdb (inb l7_2 6) (nm (wA M4 225 (Int32.toNatClampNeg l7_2) a3) fun M42 => (j41_18 x40 M42)))))))))

def F_L_stand (M : MS) (a2 : Int32) (a3 : Int32) (a4 : Int32) (a5 : Int32) : Option MS := (nm (wZ M 225) fun M1 => (F_L_stand_l12 a2 a3 a4 a5 FU (0 : Int32) (0 : Int32) M1))

set_option maxHeartbeats 8000000 in
set_option maxRecDepth 100000 in
theorem k_L_stand (l : Launch) (hst : l.stackTraces = false) (G : GG) (B0 : Nat) (sa : Nat × Nat × Nat) (M : MS) (a2 : Int32) (a3 : Int32) (a4 : Int32) (a5 : Int32) {Mf : MS} (hF : F_L_stand M a2 a3 a4 a5 = some Mf) (hfr225 : fr G 225) : LV l yL_stand (WS yL_stand cL_stand 9 none) (RmL 0 1) 1 G B0 sa [.ref (gad G 220), .ref (gad G 222), .int a2, .int a3, .int a4, .int a5] M Mf := by
  intro sz
  refine z_met (by decide +kernel) (Nat.le_of_ble_eq_true rfl) (fun p e s m below meth c ls hsz C0 hM hT hl => ?_)
  have hl : lv_has ls 9 [(0, .ref (gad G 220)), (1, .ref (gad G 222)), (2, .int a2), (3, .int a3), (4, .int a4), (5, .int a5)] := hl
  have C0 : CX p s m meth c ([.ref (gad G 220), .ref (gad G 222), .int a2, .int a3, .int a4, .int a5] : List Value).toArray cL_stand RL 9 none := C0
  rw [F_L_stand] at hF
  refine lv_bipush (v := (6 : Int32)) C0.1 C0.2.1 dL_stand_0 (by decide) ?_
  refine z_new (v := 225) (n := 6) (0 + 1) (6 * (0 + 1)) C0 hM hT hfr225 (by decide) rfl (by decide) (by decide) (tb1 96 (by decide +kernel) (by decide +kernel)) (by decide) (by show _ ≤ 1; omega) (by show _ ≤ 6 * 1; omega) (by omega) (by omega) dL_stand_2 (fun q H hM hT hq => ?_)
  obtain ⟨M1, eM1, hF⟩ := nm_some hF
  have hM := y_mn eM1 hM
  refine lv_astore (lv' := [(6, .ref q), (0, .ref (gad G 220)), (1, .ref (gad G 222)), (2, .int a2), (3, .int a3), (4, .int a4), (5, .int a5)]) C0.1 C0.2.1 dL_stand_4 hl (by decide) rfl (fun ls hl => ?_)
  refine lv_iconst (v := (0 : Int32)) C0.1 C0.2.1 dL_stand_6 (by decide) ?_
  refine lv_istore (lv' := [(7, .int (0 : Int32)), (6, .ref q), (0, .ref (gad G 220)), (1, .ref (gad G 222)), (2, .int a2), (3, .int a3), (4, .int a4), (5, .int a5)]) C0.1 C0.2.1 dL_stand_7 hl (by decide) rfl (fun ls hl => ?_)
  refine lv_iconst (v := (0 : Int32)) C0.1 C0.2.1 dL_stand_9 (by decide) ?_
  refine lv_istore (lv' := [(8, .int (0 : Int32)), (7, .int (0 : Int32)), (6, .ref q), (0, .ref (gad G 220)), (1, .ref (gad G 222)), (2, .int a2), (3, .int a3), (4, .int a4), (5, .int a5)]) C0.1 C0.2.1 dL_stand_10 hl (by decide) rfl (fun ls hl => ?_)
  have L12 : ∀ (n : Nat) (l7_2 : Int32) (l8_3 : Int32) (M4 : MS) (H : Heap) (locs : List Loc) (ls : Array Slot), MX (GE G 225 q) M4 s H locs → lv_has ls 9 [(0, .ref (gad G 220)), (1, .ref (gad G 222)), (2, .int a2), (3, .int a3), (4, .int a4), (5, .int a5), (6, .ref q), (7, .int l7_2), (8, .int l8_3)] → F_L_stand_l12 a2 a3 a4 a5 n l7_2 l8_3 M4 = some Mf → W p l e (RmL 0 1) s m ([.ref (gad G 220), .ref (gad G 222), .int a2, .int a3, .int a4, .int a5] : List Value).toArray below meth c H locs (0 + 1) (6 * (0 + 1)) (QLV below ([.ref (gad G 220), .ref (gad G 222), .int a2, .int a3, .int a4, .int a5] : List Value).toArray s G sz 1 Mf) (F0 m 12 ls []) := by
    intro n
    induction n with
    | zero => intro l7_2 l8_3 M4 H locs ls hM hl hF; rw [F_L_stand_l12] at hF; cases hF
    | succ n12 ih12 =>
      intro l7_2 l8_3 M4 H locs ls hM hl hF
      rw [F_L_stand_l12] at hF
      refine lv_iload C0.1 C0.2.1 dL_stand_12 (lv_at hl 8 rfl) ?_
      refine lv_iload_n C0.1 C0.2.1 dL_stand_14 rfl (lv_at hl 2 rfl) ?_
      refine lv_icmp_ge (tgt := 90) C0.1 C0.2.1 dL_stand_15 (by decide) (fun c5 => ?_) (fun c5 => ?_)
      · have hF := if_t c5 hF
        refine lv_iconst (v := (0 : Int32)) C0.1 C0.2.1 dL_stand_90 (by decide) ?_
        refine lv_istore (lv' := [(8, .int (0 : Int32)), (0, .ref (gad G 220)), (1, .ref (gad G 222)), (2, .int a2), (3, .int a3), (4, .int a4), (5, .int a5), (6, .ref q), (7, .int l7_2)]) C0.1 C0.2.1 dL_stand_91 hl (by decide) rfl (fun ls hl => ?_)
        have L93 : ∀ (n : Nat) (l8_6 : Int32) (M7 : MS) (H : Heap) (locs : List Loc) (ls : Array Slot), MX (GE G 225 q) M7 s H locs → lv_has ls 9 [(0, .ref (gad G 220)), (1, .ref (gad G 222)), (2, .int a2), (3, .int a3), (4, .int a4), (5, .int a5), (6, .ref q), (7, .int l7_2), (8, .int l8_6)] → F_L_stand_l93 a2 a3 a4 n l8_6 M7 = some Mf → W p l e (RmL 0 1) s m ([.ref (gad G 220), .ref (gad G 222), .int a2, .int a3, .int a4, .int a5] : List Value).toArray below meth c H locs (0 + 1) (6 * (0 + 1)) (QLV below ([.ref (gad G 220), .ref (gad G 222), .int a2, .int a3, .int a4, .int a5] : List Value).toArray s G sz 1 Mf) (F0 m 93 ls []) := by
          intro n
          induction n with
          | zero => intro l8_6 M7 H locs ls hM hl hF; rw [F_L_stand_l93] at hF; cases hF
          | succ n93 ih93 =>
            intro l8_6 M7 H locs ls hM hl hF
            rw [F_L_stand_l93] at hF
            refine lv_iload C0.1 C0.2.1 dL_stand_93 (lv_at hl 8 rfl) ?_
            refine lv_iload_n C0.1 C0.2.1 dL_stand_95 rfl (lv_at hl 2 rfl) ?_
            refine lv_icmp_ge (tgt := 114) C0.1 C0.2.1 dL_stand_96 (by decide) (fun c8 => ?_) (fun c8 => ?_)
            · have hF := if_t c8 hF
              refine lv_aload_n C0.1 C0.2.1 dL_stand_114 rfl (lv_at hl 0 rfl) ?_
              refine lv_bipush (v := (8 : Int32)) C0.1 C0.2.1 dL_stand_115 (by decide) ?_
              refine lv_iload_n C0.1 C0.2.1 dL_stand_117 rfl (lv_at hl 3 rfl) ?_
              refine lv_imul C0.1 C0.2.1 dL_stand_118 ?_
              refine lv_iconst (v := (2 : Int32)) C0.1 C0.2.1 dL_stand_119 (by decide) ?_
              refine lv_iadd C0.1 C0.2.1 dL_stand_120 ?_
              refine lv_aload_n C0.1 C0.2.1 dL_stand_121 rfl (lv_at hl 0 rfl) ?_
              refine lv_bipush (v := (8 : Int32)) C0.1 C0.2.1 dL_stand_122 (by decide) ?_
              refine lv_iload C0.1 C0.2.1 dL_stand_124 (lv_at hl 4 rfl) ?_
              refine lv_imul C0.1 C0.2.1 dL_stand_126 ?_
              refine lv_iconst (v := (2 : Int32)) C0.1 C0.2.1 dL_stand_127 (by decide) ?_
              refine lv_iadd C0.1 C0.2.1 dL_stand_128 ?_
              obtain ⟨g9, hF⟩ := gdb_some hF
              refine y_iald C0 hM oka_a g9 dL_stand_129 ?_
              obtain ⟨g10, hF⟩ := gdb_some hF
              refine y_iast C0 hM oka_a g10 dL_stand_130 (fun H locs hM => ?_)
              obtain ⟨M11, eM11, hF⟩ := nm_some hF
              have hM := y_mn eM11 hM
              have e9 := y_1 hF
              subst e9
              have hM := hM.drop hq
              exact z_vret C0 hM hsz (by omega) (by omega) dL_stand_131
            · have hF := if_f c8 hF
              refine lv_aload_n C0.1 C0.2.1 dL_stand_99 rfl (lv_at hl 1 rfl) ?_
              refine lv_iload C0.1 C0.2.1 dL_stand_100 (lv_at hl 8 rfl) ?_
              refine lv_aload C0.1 C0.2.1 dL_stand_102 (lv_at hl 6 rfl) ?_
              refine lv_iload C0.1 C0.2.1 dL_stand_104 (lv_at hl 8 rfl) ?_
              obtain ⟨g12, hF⟩ := gdb_some hF
              refine z_tld (n := 6) C0 hM rfl g12 dL_stand_106 ?_
              obtain ⟨g13, hF⟩ := gdb_some hF
              refine y_iast C0 hM oka_r g13 dL_stand_107 (fun H locs hM => ?_)
              obtain ⟨M14, eM14, hF⟩ := nm_some hF
              have hM := y_mn eM14 hM
              obtain ⟨x15, ex15, hF⟩ := nm_some hF
              refine lv_iinc (v := x15) (lv' := [(8, .int x15), (0, .ref (gad G 220)), (1, .ref (gad G 222)), (2, .int a2), (3, .int a3), (4, .int a4), (5, .int a5), (6, .ref q), (7, .int l7_2)]) C0.1 C0.2.1 dL_stand_108 hl (k := 8) rfl (by rw [ex15]; rfl) (by decide) rfl (fun ls hl => ?_)
              refine lv_goto (tgt := 93) C0.1 C0.2.1 dL_stand_111 (by decide) ?_
              refine W.widen (k := 0 + 1) (n := 6 * (0 + 1)) (by omega) (by omega) ?_
              exact ih93 x15 M14 _ _ _ hM (lv_sub hl [1, 2, 3, 4, 5, 6, 7, 8, 0] rfl) hF
        refine W.widen (k := 0 + 1) (n := 6 * (0 + 1)) (by omega) (by omega) ?_
        exact L93 FU (0 : Int32) M4 _ _ _ hM (lv_sub hl [1, 2, 3, 4, 5, 6, 7, 8, 0] rfl) hF
      · have hF := if_f c5 hF
        refine lv_aload_n C0.1 C0.2.1 dL_stand_18 rfl (lv_at hl 1 rfl) ?_
        refine lv_iload C0.1 C0.2.1 dL_stand_19 (lv_at hl 8 rfl) ?_
        obtain ⟨g16, hF⟩ := gdb_some hF
        refine y_iald C0 hM oka_r g16 dL_stand_21 ?_
        refine lv_iload C0.1 C0.2.1 dL_stand_22 (lv_at hl 4 rfl) ?_
        obtain ⟨j41_18, ej41_18, hF⟩ := nm_some hF
        have J41 : ∀ (l7_17 : Int32) (M18 : MS) (H : Heap) (locs : List Loc) (ls : Array Slot), MX (GE G 225 q) M18 s H locs → lv_has ls 9 [(0, .ref (gad G 220)), (1, .ref (gad G 222)), (2, .int a2), (3, .int a3), (4, .int a4), (5, .int a5), (6, .ref q), (7, .int l7_17), (8, .int l8_3)] → j41_18 l7_17 M18 = some Mf → W p l e (RmL 0 1) s m ([.ref (gad G 220), .ref (gad G 222), .int a2, .int a3, .int a4, .int a5] : List Value).toArray below meth c H locs (0 + 1) (6 * (0 + 1)) (QLV below ([.ref (gad G 220), .ref (gad G 222), .int a2, .int a3, .int a4, .int a5] : List Value).toArray s G sz 1 Mf) (F0 m 41 ls []) := by
          intro l7_17 M18 H locs ls hM hl hF
          rw [ej41_18] at hF
          refine lv_aload_n C0.1 C0.2.1 dL_stand_41 rfl (lv_at hl 1 rfl) ?_
          refine lv_iload C0.1 C0.2.1 dL_stand_42 (lv_at hl 8 rfl) ?_
          obtain ⟨g20, hF⟩ := gdb_some hF
          refine y_iald C0 hM oka_r g20 dL_stand_44 ?_
          refine lv_iload_n C0.1 C0.2.1 dL_stand_45 rfl (lv_at hl 3 rfl) ?_
          obtain ⟨j61_22, ej61_22, hF⟩ := nm_some hF
          have J61 : ∀ (l7_21 : Int32) (M22 : MS) (H : Heap) (locs : List Loc) (ls : Array Slot), MX (GE G 225 q) M22 s H locs → lv_has ls 9 [(0, .ref (gad G 220)), (1, .ref (gad G 222)), (2, .int a2), (3, .int a3), (4, .int a4), (5, .int a5), (6, .ref q), (7, .int l7_21), (8, .int l8_3)] → j61_22 l7_21 M22 = some Mf → W p l e (RmL 0 1) s m ([.ref (gad G 220), .ref (gad G 222), .int a2, .int a3, .int a4, .int a5] : List Value).toArray below meth c H locs (0 + 1) (6 * (0 + 1)) (QLV below ([.ref (gad G 220), .ref (gad G 222), .int a2, .int a3, .int a4, .int a5] : List Value).toArray s G sz 1 Mf) (F0 m 61 ls []) := by
            intro l7_21 M22 H locs ls hM hl hF
            rw [ej61_22] at hF
            refine lv_aload_n C0.1 C0.2.1 dL_stand_61 rfl (lv_at hl 1 rfl) ?_
            refine lv_iload C0.1 C0.2.1 dL_stand_62 (lv_at hl 8 rfl) ?_
            obtain ⟨g24, hF⟩ := gdb_some hF
            refine y_iald C0 hM oka_r g24 dL_stand_64 ?_
            refine lv_iload C0.1 C0.2.1 dL_stand_65 (lv_at hl 4 rfl) ?_
            refine lv_icmp_ne (tgt := 84) C0.1 C0.2.1 dL_stand_67 (by decide) (fun c25 => ?_) (fun c25 => ?_)
            · have hF := if_t c25 hF
              obtain ⟨x26, ex26, hF⟩ := nm_some hF
              refine lv_iinc (v := x26) (lv' := [(8, .int x26), (0, .ref (gad G 220)), (1, .ref (gad G 222)), (2, .int a2), (3, .int a3), (4, .int a4), (5, .int a5), (6, .ref q), (7, .int l7_21)]) C0.1 C0.2.1 dL_stand_84 hl (k := 8) rfl (by rw [ex26]; rfl) (by decide) rfl (fun ls hl => ?_)
              refine lv_goto (tgt := 12) C0.1 C0.2.1 dL_stand_87 (by decide) ?_
              refine W.widen (k := 0 + 1) (n := 6 * (0 + 1)) (by omega) (by omega) ?_
              exact ih12 l7_21 x26 M22 _ _ _ hM (lv_sub hl [1, 2, 3, 4, 5, 6, 7, 8, 0] rfl) hF
            · have hF := if_f (fun q => q c25) hF
              refine lv_iload C0.1 C0.2.1 dL_stand_70 (lv_at hl 5 rfl) ?_
              refine lv_if_eq (tgt := 84) C0.1 C0.2.1 dL_stand_72 (by decide) (fun c27 => ?_) (fun c27 => ?_)
              · have hF := if_t c27 hF
                obtain ⟨x28, ex28, hF⟩ := nm_some hF
                refine lv_iinc (v := x28) (lv' := [(8, .int x28), (0, .ref (gad G 220)), (1, .ref (gad G 222)), (2, .int a2), (3, .int a3), (4, .int a4), (5, .int a5), (6, .ref q), (7, .int l7_21)]) C0.1 C0.2.1 dL_stand_84 hl (k := 8) rfl (by rw [ex28]; rfl) (by decide) rfl (fun ls hl => ?_)
                refine lv_goto (tgt := 12) C0.1 C0.2.1 dL_stand_87 (by decide) ?_
                refine W.widen (k := 0 + 1) (n := 6 * (0 + 1)) (by omega) (by omega) ?_
                exact ih12 l7_21 x28 M22 _ _ _ hM (lv_sub hl [1, 2, 3, 4, 5, 6, 7, 8, 0] rfl) hF
              · have hF := if_f c27 hF
                refine lv_aload C0.1 C0.2.1 dL_stand_75 (lv_at hl 6 rfl) ?_
                refine lv_iload C0.1 C0.2.1 dL_stand_77 (lv_at hl 7 rfl) ?_
                obtain ⟨x29, ex29, hF⟩ := nm_some hF
                refine lv_iinc (v := x29) (lv' := [(7, .int x29), (0, .ref (gad G 220)), (1, .ref (gad G 222)), (2, .int a2), (3, .int a3), (4, .int a4), (5, .int a5), (6, .ref q), (8, .int l8_3)]) C0.1 C0.2.1 dL_stand_79 hl (k := 7) rfl (by rw [ex29]; rfl) (by decide) rfl (fun ls hl => ?_)
                refine lv_iload_n C0.1 C0.2.1 dL_stand_82 rfl (lv_at hl 4 rfl) ?_
                obtain ⟨g30, hF⟩ := gdb_some hF
                refine z_tst (n := 6) C0 hM rfl g30 dL_stand_83 (fun H locs hM => ?_)
                obtain ⟨M31, eM31, hF⟩ := nm_some hF
                have hM := y_mn eM31 hM
                obtain ⟨x32, ex32, hF⟩ := nm_some hF
                refine lv_iinc (v := x32) (lv' := [(8, .int x32), (7, .int x29), (0, .ref (gad G 220)), (1, .ref (gad G 222)), (2, .int a2), (3, .int a3), (4, .int a4), (5, .int a5), (6, .ref q)]) C0.1 C0.2.1 dL_stand_84 hl (k := 8) rfl (by rw [ex32]; rfl) (by decide) rfl (fun ls hl => ?_)
                refine lv_goto (tgt := 12) C0.1 C0.2.1 dL_stand_87 (by decide) ?_
                refine W.widen (k := 0 + 1) (n := 6 * (0 + 1)) (by omega) (by omega) ?_
                exact ih12 x29 x32 M31 _ _ _ hM (lv_sub hl [2, 3, 4, 5, 6, 7, 8, 1, 0] rfl) hF
          refine lv_icmp_eq (tgt := 61) C0.1 C0.2.1 dL_stand_46 (by decide) (fun c33 => ?_) (fun c33 => ?_)
          · have hF := if_t c33 hF
            refine W.widen (k := 0 + 1) (n := 6 * (0 + 1)) (by omega) (by omega) ?_
            exact J61 l7_17 M18 _ _ _ hM (lv_sub hl [0, 1, 2, 3, 4, 5, 6, 7, 8] rfl) hF
          · have hF := if_f c33 hF
            refine lv_aload C0.1 C0.2.1 dL_stand_49 (lv_at hl 6 rfl) ?_
            refine lv_iload C0.1 C0.2.1 dL_stand_51 (lv_at hl 7 rfl) ?_
            obtain ⟨x34, ex34, hF⟩ := nm_some hF
            refine lv_iinc (v := x34) (lv' := [(7, .int x34), (0, .ref (gad G 220)), (1, .ref (gad G 222)), (2, .int a2), (3, .int a3), (4, .int a4), (5, .int a5), (6, .ref q), (8, .int l8_3)]) C0.1 C0.2.1 dL_stand_53 hl (k := 7) rfl (by rw [ex34]; rfl) (by decide) rfl (fun ls hl => ?_)
            refine lv_aload_n C0.1 C0.2.1 dL_stand_56 rfl (lv_at hl 2 rfl) ?_
            refine lv_iload C0.1 C0.2.1 dL_stand_57 (lv_at hl 8 rfl) ?_
            obtain ⟨g35, hF⟩ := gdb_some hF
            refine y_iald C0 hM oka_r g35 dL_stand_59 ?_
            obtain ⟨g36, hF⟩ := gdb_some hF
            refine z_tst (n := 6) C0 hM rfl g36 dL_stand_60 (fun H locs hM => ?_)
            obtain ⟨M37, eM37, hF⟩ := nm_some hF
            have hM := y_mn eM37 hM
            refine W.widen (k := 0 + 1) (n := 6 * (0 + 1)) (by omega) (by omega) ?_
            exact J61 x34 M37 _ _ _ hM (lv_sub hl [1, 2, 3, 4, 5, 6, 7, 0, 8] rfl) hF
        refine lv_icmp_ne (tgt := 41) C0.1 C0.2.1 dL_stand_24 (by decide) (fun c38 => ?_) (fun c38 => ?_)
        · have hF := if_t c38 hF
          refine W.widen (k := 0 + 1) (n := 6 * (0 + 1)) (by omega) (by omega) ?_
          exact J41 l7_2 M4 _ _ _ hM (lv_sub hl [0, 1, 2, 3, 4, 5, 6, 7, 8] rfl) hF
        · have hF := if_f (fun q => q c38) hF
          refine lv_iload C0.1 C0.2.1 dL_stand_27 (lv_at hl 5 rfl) ?_
          refine lv_if_ne (tgt := 41) C0.1 C0.2.1 dL_stand_29 (by decide) (fun c39 => ?_) (fun c39 => ?_)
          · have hF := if_t c39 hF
            refine W.widen (k := 0 + 1) (n := 6 * (0 + 1)) (by omega) (by omega) ?_
            exact J41 l7_2 M4 _ _ _ hM (lv_sub hl [0, 1, 2, 3, 4, 5, 6, 7, 8] rfl) hF
          · have hF := if_f (fun q => q c39) hF
            refine lv_aload C0.1 C0.2.1 dL_stand_32 (lv_at hl 6 rfl) ?_
            refine lv_iload C0.1 C0.2.1 dL_stand_34 (lv_at hl 7 rfl) ?_
            obtain ⟨x40, ex40, hF⟩ := nm_some hF
            refine lv_iinc (v := x40) (lv' := [(7, .int x40), (0, .ref (gad G 220)), (1, .ref (gad G 222)), (2, .int a2), (3, .int a3), (4, .int a4), (5, .int a5), (6, .ref q), (8, .int l8_3)]) C0.1 C0.2.1 dL_stand_36 hl (k := 7) rfl (by rw [ex40]; rfl) (by decide) rfl (fun ls hl => ?_)
            refine lv_iload_n C0.1 C0.2.1 dL_stand_39 rfl (lv_at hl 4 rfl) ?_
            obtain ⟨g41, hF⟩ := gdb_some hF
            refine z_tst (n := 6) C0 hM rfl g41 dL_stand_40 (fun H locs hM => ?_)
            obtain ⟨M42, eM42, hF⟩ := nm_some hF
            have hM := y_mn eM42 hM
            refine W.widen (k := 0 + 1) (n := 6 * (0 + 1)) (by omega) (by omega) ?_
            exact J41 x40 M42 _ _ _ hM (lv_sub hl [1, 2, 3, 4, 5, 6, 7, 0, 8] rfl) hF
  refine W.widen (k := 0 + 1) (n := 6 * (0 + 1)) (by omega) (by omega) ?_
  exact L12 FU (0 : Int32) (0 : Int32) M1 _ _ _ hM (lv_sub hl [3, 4, 5, 6, 7, 8, 2, 1, 0] rfl) hF
