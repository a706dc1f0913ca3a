def F_L_tells_l186 (l6_4 : Int32) (l7_5 : Int32) (l9_6 : Int32) (k20 : Int32 → Int32 → Int32 → MS → Option (Int32 × MS)) : Nat → Int32 → Int32 → MS → Option (Int32 × MS)
  | 0, _, _, _ => none
  | n186 + 1, l11_93, l12_94, M95 => (if (4 : Int32) ≤ l12_94 then (if ¬ l11_93 = 0 then (bd (F_L_lives M95 l9_6) fun r99 => (nm (fun (s100 : Int32) => (nm (l6_4 + s100) fun x102 => (bd (F_L_lives M95 l9_6) fun r104 => (nm (fun (s105 : Int32) => (nm (l7_5 + s105) fun x107 => (bd0 (F_X4_fighter M95 l9_6 (0 : Int32)) fun r110 M109 => (gdb (inb r110 4) (bd (F_L_lives M109 l9_6) fun r113 => (nm (fun (s114 : Int32) => (gdb (inb r110 4) (nm (wA M109 226 (Int32.toNatClampNeg r110) ((rA M109 226 (Int32.toNatClampNeg r110)) + s114)) fun M117 => (bd0 (F_X4_fighter M117 l9_6 (0 : Int32)) fun r120 M119 => (gdb (inb ((2 : Int32) + r120) 4) (gdb (inb ((8 : Int32) * l9_6) 48) (gdb (inb ((2 : Int32) + r120) 4) (nm (wA M119 226 (Int32.toNatClampNeg ((2 : Int32) + r120)) ((rA M119 226 (Int32.toNatClampNeg ((2 : Int32) + r120))) + (rA M119 220 (Int32.toNatClampNeg ((8 : Int32) * l9_6))))) fun M124 => (nm (l9_6 + (1 : Int32)) fun x125 => (k20 x102 x107 x125 M124)))))))))) fun j346_114 => (if r113 = 0 then (j346_114 (0 : Int32)) else (j346_114 (1 : Int32))))))))) fun j318_105 => (if r104 = 0 then (j318_105 (0 : Int32)) else (gdb (inb (((8 : Int32) * l9_6) + (4 : Int32)) 48) (if (rA M95 220 (Int32.toNatClampNeg (((8 : Int32) * l9_6) + (4 : Int32)))) < 0 then (j318_105 (0 : Int32)) else (j318_105 (1 : Int32))))))))) fun j287_100 => (if r99 = 0 then (j287_100 (0 : Int32)) else (gdb (inb (((8 : Int32) * l9_6) + (3 : Int32)) 48) (j287_100 (rA M95 220 (Int32.toNatClampNeg (((8 : Int32) * l9_6) + (3 : Int32))))))))) else (some ((0 : Int32), M95))) else (if l11_93 = 0 then (nm (l12_94 + (1 : Int32)) fun x133 => (F_L_tells_l186 l6_4 l7_5 l9_6 k20 n186 (0 : Int32) x133 M95)) else (bd0 (F_X4_fighter M95 l9_6 ((8 : Int32) + l12_94)) fun r136 M135 => (gdb (inb (((4 : Int32) * l9_6) + l12_94) 24) (if ¬ r136 = (rA M135 221 (Int32.toNatClampNeg (((4 : Int32) * l9_6) + l12_94))) then (nm (l12_94 + (1 : Int32)) fun x139 => (F_L_tells_l186 l6_4 l7_5 l9_6 k20 n186 (0 : Int32) x139 M135)) else (bd0 (F_X4_readied M135 l9_6 l12_94) fun r142 M141 => (gdb (inb ((((8 : Int32) * l9_6) + (4 : Int32)) + l12_94) 48) (if ¬ r142 = (rA M141 220 (Int32.toNatClampNeg ((((8 : Int32) * l9_6) + (4 : Int32)) + l12_94))) then (nm (l12_94 + (1 : Int32)) fun x145 => (F_L_tells_l186 l6_4 l7_5 l9_6 k20 n186 (0 : Int32) x145 M141)) else (nm (l12_94 + (1 : Int32)) fun x146 => (F_L_tells_l186 l6_4 l7_5 l9_6 k20 n186 (1 : Int32) x146 M141))))))))))

def F_L_tells_l20 (x2 : Int32) : Nat → Int32 → Int32 → Int32 → MS → Option (Int32 × MS)
  | 0, _, _, _, _ => none
  | n20 + 1, l6_4, l7_5, l9_6, M7 => (if x2 ≤ l9_6 then (bd0 (F_X4_count M7 (1 : Int32)) fun r11 M10 => (gdb (inb (1 : Int32) 7) (nm (fun (s13 : Int32) (M14 : MS) => (if s13 = 0 then (some ((0 : Int32), M14)) else (bd0 (F_X4_inRow M14 x2) fun r19 M18 => (if ¬ r19 = (-1 : Int32) then (some ((0 : Int32), M18)) else (bd (F_X4_standing M18) fun r22 => (gdb (inb (2 : Int32) 4) (gdb (inb (3 : Int32) 4) (nm (fun (s25 : UInt64) => (if ¬ (Op.cmpValue (FP.dcmp r22 s25) .l) = 0 then (some ((0 : Int32), M18)) else (some ((1 : Int32), M18)))) fun j570_25 => (if ¬ ((rA M18 226 (Int32.toNatClampNeg (2 : Int32))) + (rA M18 226 (Int32.toNatClampNeg (3 : Int32)))) = 0 then (gdb (inb (2 : Int32) 4) (gdb (inb (2 : Int32) 4) (gdb (inb (3 : Int32) 4) (gdb (nnb (FP.ddiv (FP.i2d (rA M18 226 (Int32.toNatClampNeg (2 : Int32)))) (FP.i2d ((rA M18 226 (Int32.toNatClampNeg (2 : Int32))) + (rA M18 226 (Int32.toNatClampNeg (3 : Int32))))))) (j570_25 (FP.ddiv (FP.i2d (rA M18 226 (Int32.toNatClampNeg (2 : Int32)))) (FP.i2d ((rA M18 226 (Int32.toNatClampNeg (2 : Int32))) + (rA M18 226 (Int32.toNatClampNeg (3 : Int32))))))))))) else (j570_25 (4602678819172646912 : UInt64))))))))))) fun j515_14 => (if ¬ r11 = (rA M10 223 (Int32.toNatClampNeg (1 : Int32))) then (j515_14 (0 : Int32) M10) else (bd0 (F_X4_count M10 (2 : Int32)) fun r36 M35 => (gdb (inb (0 : Int32) 7) (if ¬ r36 = (rA M35 223 (Int32.toNatClampNeg (0 : Int32))) then (j515_14 (0 : Int32) M35) else (bd0 (F_X4_count M35 (3 : Int32)) fun r41 M40 => (gdb (inb (0 : Int32) 4) (if ¬ r41 = (rA M40 226 (Int32.toNatClampNeg (0 : Int32))) then (j515_14 (0 : Int32) M40) else (bd0 (F_X4_count M40 (4 : Int32)) fun r46 M45 => (gdb (inb (1 : Int32) 4) (if ¬ r46 = (rA M45 226 (Int32.toNatClampNeg (1 : Int32))) then (j515_14 (0 : Int32) M45) else (bd0 (F_X4_count M45 (5 : Int32)) fun r51 M50 => (if ¬ r51 = l6_4 then (j515_14 (0 : Int32) M50) else (bd0 (F_X4_count M50 (6 : Int32)) fun r55 M54 => (if ¬ r55 = l7_5 then (j515_14 (0 : Int32) M54) else (bd0 (F_X4_count M54 (7 : Int32)) fun r59 M58 => (gdb (inb (2 : Int32) 7) (if ¬ r59 = (rA M58 223 (Int32.toNatClampNeg (2 : Int32))) then (j515_14 (0 : Int32) M58) else (bd0 (F_X4_count M58 (8 : Int32)) fun r64 M63 => (gdb (inb (3 : Int32) 7) (if ¬ r64 = (rA M63 223 (Int32.toNatClampNeg (3 : Int32))) then (j515_14 (0 : Int32) M63) else (bd0 (F_X4_count M63 (9 : Int32)) fun r69 M68 => (gdb (inb (4 : Int32) 7) (if ¬ r69 = (rA M68 223 (Int32.toNatClampNeg (4 : Int32))) then (j515_14 (0 : Int32) M68) else (bd0 (F_X4_count M68 (10 : Int32)) fun r74 M73 => (gdb (inb (2 : Int32) 4) (if ¬ r74 = (rA M73 226 (Int32.toNatClampNeg (2 : Int32))) then (j515_14 (0 : Int32) M73) else (bd0 (F_X4_count M73 (11 : Int32)) fun r79 M78 => (gdb (inb (3 : Int32) 4) (if ¬ r79 = (rA M78 226 (Int32.toNatClampNeg (3 : Int32))) then (j515_14 (0 : Int32) M78) else (j515_14 (1 : Int32) M78))))))))))))))))))))))))))))))))) else (bd (F_L_lives M7 l9_6) fun r83 => (nm (fun (s84 : Int32) => (bd0 (F_X4_fighter M7 l9_6 (2 : Int32)) fun r88 M87 => (gdb (inb ((8 : Int32) * l9_6) 48) (nm (fun (s90 : Int32) (M91 : MS) => (F_L_tells_l186 l6_4 l7_5 l9_6 (fun zz0 zz1 zz2 zz3 => F_L_tells_l20 x2 n20 zz0 zz1 zz2 zz3) 8 s90 (0 : Int32) M91)) fun j181_91 => (if ¬ r88 = (rA M87 220 (Int32.toNatClampNeg ((8 : Int32) * l9_6))) then (j181_91 (0 : Int32) M87) else (bd0 (F_X4_fighter M87 l9_6 (5 : Int32)) fun r150 M149 => (gdb (inb (((8 : Int32) * l9_6) + (1 : Int32)) 48) (if ¬ r150 = (rA M149 220 (Int32.toNatClampNeg (((8 : Int32) * l9_6) + (1 : Int32)))) then (j181_91 (0 : Int32) M149) else (bd0 (F_X4_fighter M149 l9_6 (1 : Int32)) fun r155 M154 => (gdb (inb (((8 : Int32) * l9_6) + (2 : Int32)) 48) (if ¬ r155 = (rA M154 220 (Int32.toNatClampNeg (((8 : Int32) * l9_6) + (2 : Int32)))) then (j181_91 (0 : Int32) M154) else (bd0 (F_X4_fighter M154 l9_6 (6 : Int32)) fun r160 M159 => (bd (F_L_rank M159 l9_6) fun r162 => (if ¬ r160 = r162 then (j181_91 (0 : Int32) M159) else (bd0 (F_X4_fighter M159 l9_6 (7 : Int32)) fun r166 M165 => (if ¬ r166 = s84 then (j181_91 (0 : Int32) M165) else (bd (F_L_rank M165 l9_6) fun r169 => (bd0 (F_X4_inRow M165 r169) fun r172 M171 => (if ¬ r172 = l9_6 then (j181_91 (0 : Int32) M171) else (j181_91 (1 : Int32) M171)))))))))))))))))))) fun j74_84 => (if ¬ r83 = 0 then (gdb (inb (((8 : Int32) * l9_6) + (3 : Int32)) 48) (if ¬ (rA M7 220 (Int32.toNatClampNeg (((8 : Int32) * l9_6) + (3 : Int32)))) = (1 : Int32) then (gdb (inb (((8 : Int32) * l9_6) + (4 : Int32)) 48) (if (rA M7 220 (Int32.toNatClampNeg (((8 : Int32) * l9_6) + (4 : Int32)))) < 0 then (j74_84 (0 : Int32)) else (j74_84 (2 : Int32)))) else (j74_84 (1 : Int32)))) else (j74_84 (3 : Int32))))))

def F_L_tells (M : MS) : Option (Int32 × MS) := (gdb (inb (5 : Int32) 7) (nm (rA M 223 (Int32.toNatClampNeg (5 : Int32))) fun x2 => (nm (wZ M 226) fun M3 => (F_L_tells_l20 x2 8 (0 : Int32) (0 : Int32) (0 : Int32) M3))))

set_option maxHeartbeats 8000000 in
set_option maxRecDepth 100000 in
theorem k_L_tells (l : Launch) (hst : l.stackTraces = false) (G : GG) (B0 : Nat) (sa : Nat × Nat × Nat) (M : MS) {r : Int32} {Mf : MS} (hF : F_L_tells M = some (r, Mf)) (hfr226 : fr G 226) : LI l yL_tells (WS yL_tells cL_tells 13 (some .boolean)) (RmL 8 817) 817 G B0 sa [.ref (gad G 216), .ref (gad G 220), .ref (gad G 221), .ref (gad G 222), .ref (gad G 223)] M r Mf := by
  intro sz
  refine z_met (by decide +kernel) (Nat.le_of_ble_eq_true rfl) (fun p e s m below meth c ls hsz C0 hM hT hl => ?_)
  have hl : lv_has ls 13 [(0, .ref (gad G 216)), (1, .ref (gad G 220)), (2, .ref (gad G 221)), (3, .ref (gad G 222)), (4, .ref (gad G 223))] := hl
  have C0 : CX p s m meth c ([.ref (gad G 216), .ref (gad G 220), .ref (gad G 221), .ref (gad G 222), .ref (gad G 223)] : List Value).toArray cL_tells RL 13 (some .boolean) := C0
  rw [F_L_tells] at hF
  refine lv_aload C0.1 C0.2.1 dL_tells_0 (lv_at hl 4 rfl) ?_
  refine lv_iconst (v := (5 : Int32)) C0.1 C0.2.1 dL_tells_2 (by decide) ?_
  obtain ⟨g1, hF⟩ := gdb_some hF
  refine y_iald C0 hM oka_t g1 dL_tells_3 ?_
  obtain ⟨x2, ex2, hF⟩ := nm_some hF
  refine y_topi ex2 ?_
  refine lv_istore (lv' := [(5, .int x2), (0, .ref (gad G 216)), (1, .ref (gad G 220)), (2, .ref (gad G 221)), (3, .ref (gad G 222)), (4, .ref (gad G 223))]) C0.1 C0.2.1 dL_tells_4 hl (by decide) rfl (fun ls hl => ?_)
  refine lv_iconst (v := (0 : Int32)) C0.1 C0.2.1 dL_tells_6 (by decide) ?_
  refine lv_istore (lv' := [(6, .int (0 : Int32)), (5, .int x2), (0, .ref (gad G 216)), (1, .ref (gad G 220)), (2, .ref (gad G 221)), (3, .ref (gad G 222)), (4, .ref (gad G 223))]) C0.1 C0.2.1 dL_tells_7 hl (by decide) rfl (fun ls hl => ?_)
  refine lv_iconst (v := (0 : Int32)) C0.1 C0.2.1 dL_tells_9 (by decide) ?_
  refine lv_istore (lv' := [(7, .int (0 : Int32)), (6, .int (0 : Int32)), (5, .int x2), (0, .ref (gad G 216)), (1, .ref (gad G 220)), (2, .ref (gad G 221)), (3, .ref (gad G 222)), (4, .ref (gad G 223))]) C0.1 C0.2.1 dL_tells_10 hl (by decide) rfl (fun ls hl => ?_)
  refine lv_iconst (v := (4 : Int32)) C0.1 C0.2.1 dL_tells_12 (by decide) ?_
  refine z_new (v := 226) (n := 4) (0 + 1) (6 * (0 + 1)) C0 hM hT hfr226 (by decide) rfl (by decide) (by decide) (tb1 96 (by decide +kernel) (by decide +kernel)) (by decide) (by show _ ≤ 817; omega) (by show _ ≤ 6 * 817; omega) (by omega) (by omega) dL_tells_13 (fun q H hM hT hq => ?_)
  obtain ⟨M3, eM3, hF⟩ := nm_some hF
  have hM := y_mn eM3 hM
  refine lv_astore (lv' := [(8, .ref q), (7, .int (0 : Int32)), (6, .int (0 : Int32)), (5, .int x2), (0, .ref (gad G 216)), (1, .ref (gad G 220)), (2, .ref (gad G 221)), (3, .ref (gad G 222)), (4, .ref (gad G 223))]) C0.1 C0.2.1 dL_tells_15 hl (by decide) rfl (fun ls hl => ?_)
  refine lv_iconst (v := (0 : Int32)) C0.1 C0.2.1 dL_tells_17 (by decide) ?_
  refine lv_istore (lv' := [(9, .int (0 : Int32)), (8, .ref q), (7, .int (0 : Int32)), (6, .int (0 : Int32)), (5, .int x2), (0, .ref (gad G 216)), (1, .ref (gad G 220)), (2, .ref (gad G 221)), (3, .ref (gad G 222)), (4, .ref (gad G 223))]) C0.1 C0.2.1 dL_tells_18 hl (by decide) rfl (fun ls hl => ?_)
  have L20 : ∀ (n : Nat) (l6_4 : Int32) (l7_5 : Int32) (l9_6 : Int32) (M7 : MS) (H : Heap) (locs : List Loc) (ls : Array Slot), n ≤ 8 → MX (GE G 226 q) M7 s H locs → lv_has ls 13 [(0, .ref (gad G 216)), (1, .ref (gad G 220)), (2, .ref (gad G 221)), (3, .ref (gad G 222)), (4, .ref (gad G 223)), (5, .int x2), (6, .int l6_4), (7, .int l7_5), (8, .ref q), (9, .int l9_6)] → F_L_tells_l20 x2 n l6_4 l7_5 l9_6 M7 = some (r, Mf) → W p l e (RmL 8 817) s m ([.ref (gad G 216), .ref (gad G 220), .ref (gad G 221), .ref (gad G 222), .ref (gad G 223)] : List Value).toArray below meth c H locs (0 + 1 + 96 * (8 - n) + 0) (6 * (0 + 1 + 96 * (8 - n) + 0)) (QLI below ([.ref (gad G 216), .ref (gad G 220), .ref (gad G 221), .ref (gad G 222), .ref (gad G 223)] : List Value).toArray s G sz 817 r Mf) (F0 m 20 ls []) := by
    intro n
    induction n with
    | zero => intro l6_4 l7_5 l9_6 M7 H locs ls hn20 hM hl hF; rw [F_L_tells_l20] at hF; cases hF
    | succ n20 ih20 =>
      intro l6_4 l7_5 l9_6 M7 H locs ls hn20 hM hl hF
      rw [F_L_tells_l20] at hF
      refine lv_iload C0.1 C0.2.1 dL_tells_20 (lv_at hl 9 rfl) ?_
      refine lv_iload C0.1 C0.2.1 dL_tells_22 (lv_at hl 5 rfl) ?_
      refine lv_icmp_ge (tgt := 376) C0.1 C0.2.1 dL_tells_24 (by decide) (fun c8 => ?_) (fun c8 => ?_)
      · have hF := if_t c8 hF
        refine lv_aload_n C0.1 C0.2.1 dL_tells_376 rfl (lv_at hl 0 rfl) ?_
        refine lv_iconst (v := (1 : Int32)) C0.1 C0.2.1 dL_tells_377 (by decide) ?_
        obtain ⟨r11, M10, h9, hF⟩ := bd0_some hF
        refine z_vi (rest := []) (0 + 1 + 96 * (8 - (n20 + 1)) + 4) (6 * (0 + 1 + 96 * (8 - (n20 + 1)) + 4)) C0 hM hT hl.1 (k_X4_count l hst (GE G 226 q) B0 sa M7 (1 : Int32) h9) cw_RL_32 rfl rfl ⟨Nat.le_of_ble_eq_true rfl, Nat.le_of_ble_eq_true rfl⟩ rfl (Nat.le_of_ble_eq_true rfl) ⟨by show _ ≤ 817; omega, by show _ ≤ 6 * 817; omega⟩ (by omega) (by omega) dL_tells_378 (fun H locs hM => ?_)
        refine lv_aload C0.1 C0.2.1 dL_tells_381 (lv_at hl 4 rfl) ?_
        refine lv_iconst (v := (1 : Int32)) C0.1 C0.2.1 dL_tells_383 (by decide) ?_
        obtain ⟨g12, hF⟩ := gdb_some hF
        refine y_iald C0 hM oka_t g12 dL_tells_384 ?_
        obtain ⟨j515_14, ej515_14, hF⟩ := nm_some hF
        have J515 : ∀ (s13 : Int32) (M14 : MS) (H : Heap) (locs : List Loc) (ls : Array Slot), MX (GE G 226 q) M14 s H locs → lv_has ls 13 [(0, .ref (gad G 216)), (1, .ref (gad G 220)), (2, .ref (gad G 221)), (3, .ref (gad G 222)), (4, .ref (gad G 223)), (5, .int x2), (6, .int l6_4), (7, .int l7_5), (8, .ref q), (9, .int l9_6)] → j515_14 s13 M14 = some (r, Mf) → W p l e (RmL 8 817) s m ([.ref (gad G 216), .ref (gad G 220), .ref (gad G 221), .ref (gad G 222), .ref (gad G 223)] : List Value).toArray below meth c H locs (0 + 1 + 96 * (8 - (n20 + 1)) + 44) (6 * (0 + 1 + 96 * (8 - (n20 + 1)) + 44)) (QLI below ([.ref (gad G 216), .ref (gad G 220), .ref (gad G 221), .ref (gad G 222), .ref (gad G 223)] : List Value).toArray s G sz 817 r Mf) (F0 m 515 ls [.int s13]) := by
          intro s13 M14 H locs ls hM hl hF
          rw [ej515_14] at hF
          refine lv_istore (lv' := [(9, .int s13), (0, .ref (gad G 216)), (1, .ref (gad G 220)), (2, .ref (gad G 221)), (3, .ref (gad G 222)), (4, .ref (gad G 223)), (5, .int x2), (6, .int l6_4), (7, .int l7_5), (8, .ref q)]) C0.1 C0.2.1 dL_tells_515 hl (by decide) rfl (fun ls hl => ?_)
          refine lv_iload C0.1 C0.2.1 dL_tells_517 (lv_at hl 0 rfl) ?_
          refine lv_if_eq (tgt := 578) C0.1 C0.2.1 dL_tells_519 (by decide) (fun c16 => ?_) (fun c16 => ?_)
          · have hF := if_t c16 hF
            refine lv_iconst (v := (0 : Int32)) C0.1 C0.2.1 dL_tells_578 (by decide) ?_
            obtain ⟨e8, e9⟩ := y_2 hF
            subst e8
            subst e9
            have hM := hM.drop hq
            exact z_zret C0 hM hsz rfl (by omega) (by omega) dL_tells_579
          · have hF := if_f c16 hF
            refine lv_aload_n C0.1 C0.2.1 dL_tells_522 rfl (lv_at hl 1 rfl) ?_
            refine lv_iload C0.1 C0.2.1 dL_tells_523 (lv_at hl 6 rfl) ?_
            obtain ⟨r19, M18, h17, hF⟩ := bd0_some hF
            refine z_vi (rest := []) (0 + 1 + 96 * (8 - (n20 + 1)) + 48) (6 * (0 + 1 + 96 * (8 - (n20 + 1)) + 48)) C0 hM hT hl.1 (k_X4_inRow l hst (GE G 226 q) B0 sa M14 x2 h17) cw_RL_70 rfl rfl ⟨Nat.le_of_ble_eq_true rfl, Nat.le_of_ble_eq_true rfl⟩ rfl (Nat.le_of_ble_eq_true rfl) ⟨by show _ ≤ 817; omega, by show _ ≤ 6 * 817; omega⟩ (by omega) (by omega) dL_tells_525 (fun H locs hM => ?_)
            refine lv_iconst (v := (-1 : Int32)) C0.1 C0.2.1 dL_tells_528 (by decide) ?_
            refine lv_icmp_ne (tgt := 578) C0.1 C0.2.1 dL_tells_529 (by decide) (fun c20 => ?_) (fun c20 => ?_)
            · have hF := if_t c20 hF
              refine lv_iconst (v := (0 : Int32)) C0.1 C0.2.1 dL_tells_578 (by decide) ?_
              obtain ⟨e8, e9⟩ := y_2 hF
              subst e8
              subst e9
              have hM := hM.drop hq
              exact z_zret C0 hM hsz rfl (by omega) (by omega) dL_tells_579
            · have hF := if_f (fun q => q c20) hF
              refine lv_aload_n C0.1 C0.2.1 dL_tells_532 rfl (lv_at hl 1 rfl) ?_
              obtain ⟨r22, h21, hF⟩ := bd_some hF
              refine y_vd (rest := []) C0 hM hl.1 ok_tt (ent4 ok_tt) rfl (k_X4_standing l (GE G 226 q) M18 h21) cw_RL_73 rfl rfl ⟨Nat.le_of_ble_eq_true rfl, Nat.le_of_ble_eq_true rfl⟩ rfl (Nat.le_of_ble_eq_true rfl) ⟨by show _ ≤ 817; omega, by show _ ≤ 6 * 817; omega⟩ dL_tells_533 (fun H locs hM => ?_)
              refine lv_aload C0.1 C0.2.1 dL_tells_536 (lv_at hl 9 rfl) ?_
              refine lv_iconst (v := (2 : Int32)) C0.1 C0.2.1 dL_tells_538 (by decide) ?_
              obtain ⟨g23, hF⟩ := gdb_some hF
              refine z_tld (n := 4) C0 hM rfl g23 dL_tells_539 ?_
              refine lv_aload C0.1 C0.2.1 dL_tells_540 (lv_at hl 9 rfl) ?_
              refine lv_iconst (v := (3 : Int32)) C0.1 C0.2.1 dL_tells_542 (by decide) ?_
              obtain ⟨g24, hF⟩ := gdb_some hF
              refine z_tld (n := 4) C0 hM rfl g24 dL_tells_543 ?_
              refine lv_iadd C0.1 C0.2.1 dL_tells_544 ?_
              obtain ⟨j570_25, ej570_25, hF⟩ := nm_some hF
              have J570 : ∀ (s25 : UInt64) (H : Heap) (locs : List Loc) (ls : Array Slot), MX (GE G 226 q) M18 s H locs → lv_has ls 13 [(0, .ref (gad G 216)), (1, .ref (gad G 220)), (2, .ref (gad G 221)), (3, .ref (gad G 222)), (4, .ref (gad G 223)), (5, .int x2), (6, .int l6_4), (7, .int l7_5), (8, .ref q), (9, .int s13)] → j570_25 s25 = some (r, Mf) → W p l e (RmL 8 817) s m ([.ref (gad G 216), .ref (gad G 220), .ref (gad G 221), .ref (gad G 222), .ref (gad G 223)] : List Value).toArray below meth c H locs (0 + 1 + 96 * (8 - (n20 + 1)) + 48) (6 * (0 + 1 + 96 * (8 - (n20 + 1)) + 48)) (QLI below ([.ref (gad G 216), .ref (gad G 220), .ref (gad G 221), .ref (gad G 222), .ref (gad G 223)] : List Value).toArray s G sz 817 r Mf) (F0 m 570 ls [.double s25, .double r22]) := by
                intro s25 H locs ls hM hl hF
                rw [ej570_25] at hF
                refine lv_dcmp C0.1 C0.2.1 dL_tells_570 ?_
                refine lv_if_ne (tgt := 578) C0.1 C0.2.1 dL_tells_571 (by decide) (fun c27 => ?_) (fun c27 => ?_)
                · have hF := if_t c27 hF
                  refine lv_iconst (v := (0 : Int32)) C0.1 C0.2.1 dL_tells_578 (by decide) ?_
                  obtain ⟨e8, e9⟩ := y_2 hF
                  subst e8
                  subst e9
                  have hM := hM.drop hq
                  exact z_zret C0 hM hsz rfl (by omega) (by omega) dL_tells_579
                · have hF := if_f (fun q => q c27) hF
                  refine lv_iconst (v := (1 : Int32)) C0.1 C0.2.1 dL_tells_574 (by decide) ?_
                  refine lv_goto (tgt := 579) C0.1 C0.2.1 dL_tells_575 (by decide) ?_
                  obtain ⟨e8, e9⟩ := y_2 hF
                  subst e8
                  subst e9
                  have hM := hM.drop hq
                  exact z_zret C0 hM hsz rfl (by omega) (by omega) dL_tells_579
              refine lv_if_ne (tgt := 554) C0.1 C0.2.1 dL_tells_545 (by decide) (fun c28 => ?_) (fun c28 => ?_)
              · have hF := if_t c28 hF
                refine lv_aload C0.1 C0.2.1 dL_tells_554 (lv_at hl 9 rfl) ?_
                refine lv_iconst (v := (2 : Int32)) C0.1 C0.2.1 dL_tells_556 (by decide) ?_
                obtain ⟨g29, hF⟩ := gdb_some hF
                refine z_tld (n := 4) C0 hM rfl g29 dL_tells_557 ?_
                refine lv_i2d C0.1 C0.2.1 dL_tells_558 ?_
                refine lv_aload C0.1 C0.2.1 dL_tells_559 (lv_at hl 9 rfl) ?_
                refine lv_iconst (v := (2 : Int32)) C0.1 C0.2.1 dL_tells_561 (by decide) ?_
                obtain ⟨g30, hF⟩ := gdb_some hF
                refine z_tld (n := 4) C0 hM rfl g30 dL_tells_562 ?_
                refine lv_aload C0.1 C0.2.1 dL_tells_563 (lv_at hl 9 rfl) ?_
                refine lv_iconst (v := (3 : Int32)) C0.1 C0.2.1 dL_tells_565 (by decide) ?_
                obtain ⟨g31, hF⟩ := gdb_some hF
                refine z_tld (n := 4) C0 hM rfl g31 dL_tells_566 ?_
                refine lv_iadd C0.1 C0.2.1 dL_tells_567 ?_
                refine lv_i2d C0.1 C0.2.1 dL_tells_568 ?_
                obtain ⟨g32, hF⟩ := gdb_some hF
                refine lv_ddiv C0.1 C0.2.1 dL_tells_569 (nnb_n g32) ?_
                refine W.widen (k := 0 + 1 + 96 * (8 - (n20 + 1)) + 48) (n := 6 * (0 + 1 + 96 * (8 - (n20 + 1)) + 48)) (by omega) (by omega) ?_
                exact J570 (FP.ddiv (FP.i2d (rA M18 226 (Int32.toNatClampNeg (2 : Int32)))) (FP.i2d ((rA M18 226 (Int32.toNatClampNeg (2 : Int32))) + (rA M18 226 (Int32.toNatClampNeg (3 : Int32)))))) _ _ _ hM (lv_sub hl [1, 2, 3, 4, 5, 6, 7, 8, 9, 0] rfl) hF
              · have hF := if_f (fun q => q c28) hF
                refine lv_ldc2d (v := (4602678819172646912 : UInt64)) C0.1 C0.2.1 C0.2.2.2.1 (C0.2.2.2.2.1 _ (tb1 631 (by decide +kernel) (by decide +kernel))) dL_tells_548 ?_
                refine lv_goto (tgt := 570) C0.1 C0.2.1 dL_tells_551 (by decide) ?_
                refine W.widen (k := 0 + 1 + 96 * (8 - (n20 + 1)) + 48) (n := 6 * (0 + 1 + 96 * (8 - (n20 + 1)) + 48)) (by omega) (by omega) ?_
                exact J570 (4602678819172646912 : UInt64) _ _ _ hM (lv_sub hl [1, 2, 3, 4, 5, 6, 7, 8, 9, 0] rfl) hF
        refine lv_icmp_ne (tgt := 514) C0.1 C0.2.1 dL_tells_385 (by decide) (fun c33 => ?_) (fun c33 => ?_)
        · have hF := if_t c33 hF
          refine lv_iconst (v := (0 : Int32)) C0.1 C0.2.1 dL_tells_514 (by decide) ?_
          refine W.widen (k := 0 + 1 + 96 * (8 - (n20 + 1)) + 44) (n := 6 * (0 + 1 + 96 * (8 - (n20 + 1)) + 44)) (by omega) (by omega) ?_
          exact J515 (0 : Int32) M10 _ _ _ hM (lv_sub hl [0, 1, 2, 3, 4, 5, 6, 7, 8, 9] rfl) hF
        · have hF := if_f (fun q => q c33) hF
          refine lv_aload_n C0.1 C0.2.1 dL_tells_388 rfl (lv_at hl 0 rfl) ?_
          refine lv_iconst (v := (2 : Int32)) C0.1 C0.2.1 dL_tells_389 (by decide) ?_
          obtain ⟨r36, M35, h34, hF⟩ := bd0_some hF
          refine z_vi (rest := []) (0 + 1 + 96 * (8 - (n20 + 1)) + 8) (6 * (0 + 1 + 96 * (8 - (n20 + 1)) + 8)) C0 hM hT hl.1 (k_X4_count l hst (GE G 226 q) B0 sa M10 (2 : Int32) h34) cw_RL_32 rfl rfl ⟨Nat.le_of_ble_eq_true rfl, Nat.le_of_ble_eq_true rfl⟩ rfl (Nat.le_of_ble_eq_true rfl) ⟨by show _ ≤ 817; omega, by show _ ≤ 6 * 817; omega⟩ (by omega) (by omega) dL_tells_390 (fun H locs hM => ?_)
          refine lv_aload C0.1 C0.2.1 dL_tells_393 (lv_at hl 4 rfl) ?_
          refine lv_iconst (v := (0 : Int32)) C0.1 C0.2.1 dL_tells_395 (by decide) ?_
          obtain ⟨g37, hF⟩ := gdb_some hF
          refine y_iald C0 hM oka_t g37 dL_tells_396 ?_
          refine lv_icmp_ne (tgt := 514) C0.1 C0.2.1 dL_tells_397 (by decide) (fun c38 => ?_) (fun c38 => ?_)
          · have hF := if_t c38 hF
            refine lv_iconst (v := (0 : Int32)) C0.1 C0.2.1 dL_tells_514 (by decide) ?_
            refine W.widen (k := 0 + 1 + 96 * (8 - (n20 + 1)) + 44) (n := 6 * (0 + 1 + 96 * (8 - (n20 + 1)) + 44)) (by omega) (by omega) ?_
            exact J515 (0 : Int32) M35 _ _ _ hM (lv_sub hl [0, 1, 2, 3, 4, 5, 6, 7, 8, 9] rfl) hF
          · have hF := if_f (fun q => q c38) hF
            refine lv_aload_n C0.1 C0.2.1 dL_tells_400 rfl (lv_at hl 0 rfl) ?_
            refine lv_iconst (v := (3 : Int32)) C0.1 C0.2.1 dL_tells_401 (by decide) ?_
            obtain ⟨r41, M40, h39, hF⟩ := bd0_some hF
            refine z_vi (rest := []) (0 + 1 + 96 * (8 - (n20 + 1)) + 12) (6 * (0 + 1 + 96 * (8 - (n20 + 1)) + 12)) C0 hM hT hl.1 (k_X4_count l hst (GE G 226 q) B0 sa M35 (3 : Int32) h39) cw_RL_32 rfl rfl ⟨Nat.le_of_ble_eq_true rfl, Nat.le_of_ble_eq_true rfl⟩ rfl (Nat.le_of_ble_eq_true rfl) ⟨by show _ ≤ 817; omega, by show _ ≤ 6 * 817; omega⟩ (by omega) (by omega) dL_tells_402 (fun H locs hM => ?_)
            refine lv_aload C0.1 C0.2.1 dL_tells_405 (lv_at hl 8 rfl) ?_
            refine lv_iconst (v := (0 : Int32)) C0.1 C0.2.1 dL_tells_407 (by decide) ?_
            obtain ⟨g42, hF⟩ := gdb_some hF
            refine z_tld (n := 4) C0 hM rfl g42 dL_tells_408 ?_
            refine lv_icmp_ne (tgt := 514) C0.1 C0.2.1 dL_tells_409 (by decide) (fun c43 => ?_) (fun c43 => ?_)
            · have hF := if_t c43 hF
              refine lv_iconst (v := (0 : Int32)) C0.1 C0.2.1 dL_tells_514 (by decide) ?_
              refine W.widen (k := 0 + 1 + 96 * (8 - (n20 + 1)) + 44) (n := 6 * (0 + 1 + 96 * (8 - (n20 + 1)) + 44)) (by omega) (by omega) ?_
              exact J515 (0 : Int32) M40 _ _ _ hM (lv_sub hl [0, 1, 2, 3, 4, 5, 6, 7, 8, 9] rfl) hF
            · have hF := if_f (fun q => q c43) hF
              refine lv_aload_n C0.1 C0.2.1 dL_tells_412 rfl (lv_at hl 0 rfl) ?_
              refine lv_iconst (v := (4 : Int32)) C0.1 C0.2.1 dL_tells_413 (by decide) ?_
              obtain ⟨r46, M45, h44, hF⟩ := bd0_some hF
              refine z_vi (rest := []) (0 + 1 + 96 * (8 - (n20 + 1)) + 16) (6 * (0 + 1 + 96 * (8 - (n20 + 1)) + 16)) C0 hM hT hl.1 (k_X4_count l hst (GE G 226 q) B0 sa M40 (4 : Int32) h44) cw_RL_32 rfl rfl ⟨Nat.le_of_ble_eq_true rfl, Nat.le_of_ble_eq_true rfl⟩ rfl (Nat.le_of_ble_eq_true rfl) ⟨by show _ ≤ 817; omega, by show _ ≤ 6 * 817; omega⟩ (by omega) (by omega) dL_tells_414 (fun H locs hM => ?_)
              refine lv_aload C0.1 C0.2.1 dL_tells_417 (lv_at hl 8 rfl) ?_
              refine lv_iconst (v := (1 : Int32)) C0.1 C0.2.1 dL_tells_419 (by decide) ?_
              obtain ⟨g47, hF⟩ := gdb_some hF
              refine z_tld (n := 4) C0 hM rfl g47 dL_tells_420 ?_
              refine lv_icmp_ne (tgt := 514) C0.1 C0.2.1 dL_tells_421 (by decide) (fun c48 => ?_) (fun c48 => ?_)
              · have hF := if_t c48 hF
                refine lv_iconst (v := (0 : Int32)) C0.1 C0.2.1 dL_tells_514 (by decide) ?_
                refine W.widen (k := 0 + 1 + 96 * (8 - (n20 + 1)) + 44) (n := 6 * (0 + 1 + 96 * (8 - (n20 + 1)) + 44)) (by omega) (by omega) ?_
                exact J515 (0 : Int32) M45 _ _ _ hM (lv_sub hl [0, 1, 2, 3, 4, 5, 6, 7, 8, 9] rfl) hF
              · have hF := if_f (fun q => q c48) hF
                refine lv_aload_n C0.1 C0.2.1 dL_tells_424 rfl (lv_at hl 0 rfl) ?_
                refine lv_iconst (v := (5 : Int32)) C0.1 C0.2.1 dL_tells_425 (by decide) ?_
                obtain ⟨r51, M50, h49, hF⟩ := bd0_some hF
                refine z_vi (rest := []) (0 + 1 + 96 * (8 - (n20 + 1)) + 20) (6 * (0 + 1 + 96 * (8 - (n20 + 1)) + 20)) C0 hM hT hl.1 (k_X4_count l hst (GE G 226 q) B0 sa M45 (5 : Int32) h49) cw_RL_32 rfl rfl ⟨Nat.le_of_ble_eq_true rfl, Nat.le_of_ble_eq_true rfl⟩ rfl (Nat.le_of_ble_eq_true rfl) ⟨by show _ ≤ 817; omega, by show _ ≤ 6 * 817; omega⟩ (by omega) (by omega) dL_tells_426 (fun H locs hM => ?_)
                refine lv_iload C0.1 C0.2.1 dL_tells_429 (lv_at hl 6 rfl) ?_
                refine lv_icmp_ne (tgt := 514) C0.1 C0.2.1 dL_tells_431 (by decide) (fun c52 => ?_) (fun c52 => ?_)
                · have hF := if_t c52 hF
                  refine lv_iconst (v := (0 : Int32)) C0.1 C0.2.1 dL_tells_514 (by decide) ?_
                  refine W.widen (k := 0 + 1 + 96 * (8 - (n20 + 1)) + 44) (n := 6 * (0 + 1 + 96 * (8 - (n20 + 1)) + 44)) (by omega) (by omega) ?_
                  exact J515 (0 : Int32) M50 _ _ _ hM (lv_sub hl [0, 1, 2, 3, 4, 5, 6, 7, 8, 9] rfl) hF
                · have hF := if_f (fun q => q c52) hF
                  refine lv_aload_n C0.1 C0.2.1 dL_tells_434 rfl (lv_at hl 0 rfl) ?_
                  refine lv_bipush (v := (6 : Int32)) C0.1 C0.2.1 dL_tells_435 (by decide) ?_
                  obtain ⟨r55, M54, h53, hF⟩ := bd0_some hF
                  refine z_vi (rest := []) (0 + 1 + 96 * (8 - (n20 + 1)) + 24) (6 * (0 + 1 + 96 * (8 - (n20 + 1)) + 24)) C0 hM hT hl.1 (k_X4_count l hst (GE G 226 q) B0 sa M50 (6 : Int32) h53) cw_RL_32 rfl rfl ⟨Nat.le_of_ble_eq_true rfl, Nat.le_of_ble_eq_true rfl⟩ rfl (Nat.le_of_ble_eq_true rfl) ⟨by show _ ≤ 817; omega, by show _ ≤ 6 * 817; omega⟩ (by omega) (by omega) dL_tells_437 (fun H locs hM => ?_)
                  refine lv_iload C0.1 C0.2.1 dL_tells_440 (lv_at hl 7 rfl) ?_
                  refine lv_icmp_ne (tgt := 514) C0.1 C0.2.1 dL_tells_442 (by decide) (fun c56 => ?_) (fun c56 => ?_)
                  · have hF := if_t c56 hF
                    refine lv_iconst (v := (0 : Int32)) C0.1 C0.2.1 dL_tells_514 (by decide) ?_
                    refine W.widen (k := 0 + 1 + 96 * (8 - (n20 + 1)) + 44) (n := 6 * (0 + 1 + 96 * (8 - (n20 + 1)) + 44)) (by omega) (by omega) ?_
                    exact J515 (0 : Int32) M54 _ _ _ hM (lv_sub hl [0, 1, 2, 3, 4, 5, 6, 7, 8, 9] rfl) hF
                  · have hF := if_f (fun q => q c56) hF
                    refine lv_aload_n C0.1 C0.2.1 dL_tells_445 rfl (lv_at hl 0 rfl) ?_
                    refine lv_bipush (v := (7 : Int32)) C0.1 C0.2.1 dL_tells_446 (by decide) ?_
                    obtain ⟨r59, M58, h57, hF⟩ := bd0_some hF
                    refine z_vi (rest := []) (0 + 1 + 96 * (8 - (n20 + 1)) + 28) (6 * (0 + 1 + 96 * (8 - (n20 + 1)) + 28)) C0 hM hT hl.1 (k_X4_count l hst (GE G 226 q) B0 sa M54 (7 : Int32) h57) cw_RL_32 rfl rfl ⟨Nat.le_of_ble_eq_true rfl, Nat.le_of_ble_eq_true rfl⟩ rfl (Nat.le_of_ble_eq_true rfl) ⟨by show _ ≤ 817; omega, by show _ ≤ 6 * 817; omega⟩ (by omega) (by omega) dL_tells_448 (fun H locs hM => ?_)
                    refine lv_aload C0.1 C0.2.1 dL_tells_451 (lv_at hl 4 rfl) ?_
                    refine lv_iconst (v := (2 : Int32)) C0.1 C0.2.1 dL_tells_453 (by decide) ?_
                    obtain ⟨g60, hF⟩ := gdb_some hF
                    refine y_iald C0 hM oka_t g60 dL_tells_454 ?_
                    refine lv_icmp_ne (tgt := 514) C0.1 C0.2.1 dL_tells_455 (by decide) (fun c61 => ?_) (fun c61 => ?_)
                    · have hF := if_t c61 hF
                      refine lv_iconst (v := (0 : Int32)) C0.1 C0.2.1 dL_tells_514 (by decide) ?_
                      refine W.widen (k := 0 + 1 + 96 * (8 - (n20 + 1)) + 44) (n := 6 * (0 + 1 + 96 * (8 - (n20 + 1)) + 44)) (by omega) (by omega) ?_
                      exact J515 (0 : Int32) M58 _ _ _ hM (lv_sub hl [0, 1, 2, 3, 4, 5, 6, 7, 8, 9] rfl) hF
                    · have hF := if_f (fun q => q c61) hF
                      refine lv_aload_n C0.1 C0.2.1 dL_tells_458 rfl (lv_at hl 0 rfl) ?_
                      refine lv_bipush (v := (8 : Int32)) C0.1 C0.2.1 dL_tells_459 (by decide) ?_
                      obtain ⟨r64, M63, h62, hF⟩ := bd0_some hF
                      refine z_vi (rest := []) (0 + 1 + 96 * (8 - (n20 + 1)) + 32) (6 * (0 + 1 + 96 * (8 - (n20 + 1)) + 32)) C0 hM hT hl.1 (k_X4_count l hst (GE G 226 q) B0 sa M58 (8 : Int32) h62) cw_RL_32 rfl rfl ⟨Nat.le_of_ble_eq_true rfl, Nat.le_of_ble_eq_true rfl⟩ rfl (Nat.le_of_ble_eq_true rfl) ⟨by show _ ≤ 817; omega, by show _ ≤ 6 * 817; omega⟩ (by omega) (by omega) dL_tells_461 (fun H locs hM => ?_)
                      refine lv_aload C0.1 C0.2.1 dL_tells_464 (lv_at hl 4 rfl) ?_
                      refine lv_iconst (v := (3 : Int32)) C0.1 C0.2.1 dL_tells_466 (by decide) ?_
                      obtain ⟨g65, hF⟩ := gdb_some hF
                      refine y_iald C0 hM oka_t g65 dL_tells_467 ?_
                      refine lv_icmp_ne (tgt := 514) C0.1 C0.2.1 dL_tells_468 (by decide) (fun c66 => ?_) (fun c66 => ?_)
                      · have hF := if_t c66 hF
                        refine lv_iconst (v := (0 : Int32)) C0.1 C0.2.1 dL_tells_514 (by decide) ?_
                        refine W.widen (k := 0 + 1 + 96 * (8 - (n20 + 1)) + 44) (n := 6 * (0 + 1 + 96 * (8 - (n20 + 1)) + 44)) (by omega) (by omega) ?_
                        exact J515 (0 : Int32) M63 _ _ _ hM (lv_sub hl [0, 1, 2, 3, 4, 5, 6, 7, 8, 9] rfl) hF
                      · have hF := if_f (fun q => q c66) hF
                        refine lv_aload_n C0.1 C0.2.1 dL_tells_471 rfl (lv_at hl 0 rfl) ?_
                        refine lv_bipush (v := (9 : Int32)) C0.1 C0.2.1 dL_tells_472 (by decide) ?_
                        obtain ⟨r69, M68, h67, hF⟩ := bd0_some hF
                        refine z_vi (rest := []) (0 + 1 + 96 * (8 - (n20 + 1)) + 36) (6 * (0 + 1 + 96 * (8 - (n20 + 1)) + 36)) C0 hM hT hl.1 (k_X4_count l hst (GE G 226 q) B0 sa M63 (9 : Int32) h67) cw_RL_32 rfl rfl ⟨Nat.le_of_ble_eq_true rfl, Nat.le_of_ble_eq_true rfl⟩ rfl (Nat.le_of_ble_eq_true rfl) ⟨by show _ ≤ 817; omega, by show _ ≤ 6 * 817; omega⟩ (by omega) (by omega) dL_tells_474 (fun H locs hM => ?_)
                        refine lv_aload C0.1 C0.2.1 dL_tells_477 (lv_at hl 4 rfl) ?_
                        refine lv_iconst (v := (4 : Int32)) C0.1 C0.2.1 dL_tells_479 (by decide) ?_
                        obtain ⟨g70, hF⟩ := gdb_some hF
                        refine y_iald C0 hM oka_t g70 dL_tells_480 ?_
                        refine lv_icmp_ne (tgt := 514) C0.1 C0.2.1 dL_tells_481 (by decide) (fun c71 => ?_) (fun c71 => ?_)
                        · have hF := if_t c71 hF
                          refine lv_iconst (v := (0 : Int32)) C0.1 C0.2.1 dL_tells_514 (by decide) ?_
                          refine W.widen (k := 0 + 1 + 96 * (8 - (n20 + 1)) + 44) (n := 6 * (0 + 1 + 96 * (8 - (n20 + 1)) + 44)) (by omega) (by omega) ?_
                          exact J515 (0 : Int32) M68 _ _ _ hM (lv_sub hl [0, 1, 2, 3, 4, 5, 6, 7, 8, 9] rfl) hF
                        · have hF := if_f (fun q => q c71) hF
                          refine lv_aload_n C0.1 C0.2.1 dL_tells_484 rfl (lv_at hl 0 rfl) ?_
                          refine lv_bipush (v := (10 : Int32)) C0.1 C0.2.1 dL_tells_485 (by decide) ?_
                          obtain ⟨r74, M73, h72, hF⟩ := bd0_some hF
                          refine z_vi (rest := []) (0 + 1 + 96 * (8 - (n20 + 1)) + 40) (6 * (0 + 1 + 96 * (8 - (n20 + 1)) + 40)) C0 hM hT hl.1 (k_X4_count l hst (GE G 226 q) B0 sa M68 (10 : Int32) h72) cw_RL_32 rfl rfl ⟨Nat.le_of_ble_eq_true rfl, Nat.le_of_ble_eq_true rfl⟩ rfl (Nat.le_of_ble_eq_true rfl) ⟨by show _ ≤ 817; omega, by show _ ≤ 6 * 817; omega⟩ (by omega) (by omega) dL_tells_487 (fun H locs hM => ?_)
                          refine lv_aload C0.1 C0.2.1 dL_tells_490 (lv_at hl 8 rfl) ?_
                          refine lv_iconst (v := (2 : Int32)) C0.1 C0.2.1 dL_tells_492 (by decide) ?_
                          obtain ⟨g75, hF⟩ := gdb_some hF
                          refine z_tld (n := 4) C0 hM rfl g75 dL_tells_493 ?_
                          refine lv_icmp_ne (tgt := 514) C0.1 C0.2.1 dL_tells_494 (by decide) (fun c76 => ?_) (fun c76 => ?_)
                          · have hF := if_t c76 hF
                            refine lv_iconst (v := (0 : Int32)) C0.1 C0.2.1 dL_tells_514 (by decide) ?_
                            refine W.widen (k := 0 + 1 + 96 * (8 - (n20 + 1)) + 44) (n := 6 * (0 + 1 + 96 * (8 - (n20 + 1)) + 44)) (by omega) (by omega) ?_
                            exact J515 (0 : Int32) M73 _ _ _ hM (lv_sub hl [0, 1, 2, 3, 4, 5, 6, 7, 8, 9] rfl) hF
                          · have hF := if_f (fun q => q c76) hF
                            refine lv_aload_n C0.1 C0.2.1 dL_tells_497 rfl (lv_at hl 0 rfl) ?_
                            refine lv_bipush (v := (11 : Int32)) C0.1 C0.2.1 dL_tells_498 (by decide) ?_
                            obtain ⟨r79, M78, h77, hF⟩ := bd0_some hF
                            refine z_vi (rest := []) (0 + 1 + 96 * (8 - (n20 + 1)) + 44) (6 * (0 + 1 + 96 * (8 - (n20 + 1)) + 44)) C0 hM hT hl.1 (k_X4_count l hst (GE G 226 q) B0 sa M73 (11 : Int32) h77) cw_RL_32 rfl rfl ⟨Nat.le_of_ble_eq_true rfl, Nat.le_of_ble_eq_true rfl⟩ rfl (Nat.le_of_ble_eq_true rfl) ⟨by show _ ≤ 817; omega, by show _ ≤ 6 * 817; omega⟩ (by omega) (by omega) dL_tells_500 (fun H locs hM => ?_)
                            refine lv_aload C0.1 C0.2.1 dL_tells_503 (lv_at hl 8 rfl) ?_
                            refine lv_iconst (v := (3 : Int32)) C0.1 C0.2.1 dL_tells_505 (by decide) ?_
                            obtain ⟨g80, hF⟩ := gdb_some hF
                            refine z_tld (n := 4) C0 hM rfl g80 dL_tells_506 ?_
                            refine lv_icmp_ne (tgt := 514) C0.1 C0.2.1 dL_tells_507 (by decide) (fun c81 => ?_) (fun c81 => ?_)
                            · have hF := if_t c81 hF
                              refine lv_iconst (v := (0 : Int32)) C0.1 C0.2.1 dL_tells_514 (by decide) ?_
                              refine W.widen (k := 0 + 1 + 96 * (8 - (n20 + 1)) + 44) (n := 6 * (0 + 1 + 96 * (8 - (n20 + 1)) + 44)) (by omega) (by omega) ?_
                              exact J515 (0 : Int32) M78 _ _ _ hM (lv_sub hl [0, 1, 2, 3, 4, 5, 6, 7, 8, 9] rfl) hF
                            · have hF := if_f (fun q => q c81) hF
                              refine lv_iconst (v := (1 : Int32)) C0.1 C0.2.1 dL_tells_510 (by decide) ?_
                              refine lv_goto (tgt := 515) C0.1 C0.2.1 dL_tells_511 (by decide) ?_
                              refine W.widen (k := 0 + 1 + 96 * (8 - (n20 + 1)) + 44) (n := 6 * (0 + 1 + 96 * (8 - (n20 + 1)) + 44)) (by omega) (by omega) ?_
                              exact J515 (1 : Int32) M78 _ _ _ hM (lv_sub hl [0, 1, 2, 3, 4, 5, 6, 7, 8, 9] rfl) hF
      · have hF := if_f c8 hF
        refine lv_aload_n C0.1 C0.2.1 dL_tells_27 rfl (lv_at hl 1 rfl) ?_
        refine lv_iload C0.1 C0.2.1 dL_tells_28 (lv_at hl 9 rfl) ?_
        obtain ⟨r83, h82, hF⟩ := bd_some hF
        refine y_si (rest := []) C0 hM hl.1 (k_L_lives l (GE G 226 q) M7 l9_6 h82) cw_RL_36 rfl rfl ⟨Nat.le_of_ble_eq_true rfl, Nat.le_of_ble_eq_true rfl⟩ rfl (Nat.le_of_ble_eq_true rfl) ⟨by show _ ≤ 817; omega, by show _ ≤ 6 * 817; omega⟩ dL_tells_30 (fun H locs hM => ?_)
        obtain ⟨j74_84, ej74_84, hF⟩ := nm_some hF
        have J74 : ∀ (s84 : Int32) (H : Heap) (locs : List Loc) (ls : Array Slot), MX (GE G 226 q) M7 s H locs → lv_has ls 13 [(0, .ref (gad G 216)), (1, .ref (gad G 220)), (2, .ref (gad G 221)), (3, .ref (gad G 222)), (4, .ref (gad G 223)), (5, .int x2), (6, .int l6_4), (7, .int l7_5), (8, .ref q), (9, .int l9_6)] → j74_84 s84 = some (r, Mf) → W p l e (RmL 8 817) s m ([.ref (gad G 216), .ref (gad G 220), .ref (gad G 221), .ref (gad G 222), .ref (gad G 223)] : List Value).toArray below meth c H locs (0 + 1 + 96 * (8 - (n20 + 1)) + 0) (6 * (0 + 1 + 96 * (8 - (n20 + 1)) + 0)) (QLI below ([.ref (gad G 216), .ref (gad G 220), .ref (gad G 221), .ref (gad G 222), .ref (gad G 223)] : List Value).toArray s G sz 817 r Mf) (F0 m 74 ls [.int s84]) := by
          intro s84 H locs ls hM hl hF
          rw [ej74_84] at hF
          refine lv_istore (lv' := [(10, .int s84), (0, .ref (gad G 216)), (1, .ref (gad G 220)), (2, .ref (gad G 221)), (3, .ref (gad G 222)), (4, .ref (gad G 223)), (5, .int x2), (6, .int l6_4), (7, .int l7_5), (8, .ref q), (9, .int l9_6)]) C0.1 C0.2.1 dL_tells_74 hl (by decide) rfl (fun ls hl => ?_)
          refine lv_aload_n C0.1 C0.2.1 dL_tells_76 rfl (lv_at hl 1 rfl) ?_
          refine lv_iload C0.1 C0.2.1 dL_tells_77 (lv_at hl 10 rfl) ?_
          refine lv_iconst (v := (2 : Int32)) C0.1 C0.2.1 dL_tells_79 (by decide) ?_
          obtain ⟨r88, M87, h86, hF⟩ := bd0_some hF
          refine z_vi (rest := []) (0 + 1 + 96 * (8 - (n20 + 1)) + 4) (6 * (0 + 1 + 96 * (8 - (n20 + 1)) + 4)) C0 hM hT hl.1 (k_X4_fighter l hst (GE G 226 q) B0 sa M7 l9_6 (2 : Int32) h86) cw_RL_26 rfl rfl ⟨Nat.le_of_ble_eq_true rfl, Nat.le_of_ble_eq_true rfl⟩ rfl (Nat.le_of_ble_eq_true rfl) ⟨by show _ ≤ 817; omega, by show _ ≤ 6 * 817; omega⟩ (by omega) (by omega) dL_tells_80 (fun H locs hM => ?_)
          refine lv_aload_n C0.1 C0.2.1 dL_tells_83 rfl (lv_at hl 2 rfl) ?_
          refine lv_bipush (v := (8 : Int32)) C0.1 C0.2.1 dL_tells_84 (by decide) ?_
          refine lv_iload C0.1 C0.2.1 dL_tells_86 (lv_at hl 10 rfl) ?_
          refine lv_imul C0.1 C0.2.1 dL_tells_88 ?_
          obtain ⟨g89, hF⟩ := gdb_some hF
          refine y_iald C0 hM oka_a g89 dL_tells_89 ?_
          obtain ⟨j181_91, ej181_91, hF⟩ := nm_some hF
          have J181 : ∀ (s90 : Int32) (M91 : MS) (H : Heap) (locs : List Loc) (ls : Array Slot), MX (GE G 226 q) M91 s H locs → lv_has ls 13 [(0, .ref (gad G 216)), (1, .ref (gad G 220)), (2, .ref (gad G 221)), (3, .ref (gad G 222)), (4, .ref (gad G 223)), (5, .int x2), (6, .int l6_4), (7, .int l7_5), (8, .ref q), (9, .int l9_6), (10, .int s84)] → j181_91 s90 M91 = some (r, Mf) → W p l e (RmL 8 817) s m ([.ref (gad G 216), .ref (gad G 220), .ref (gad G 221), .ref (gad G 222), .ref (gad G 223)] : List Value).toArray below meth c H locs (0 + 1 + 96 * (8 - (n20 + 1)) + 24) (6 * (0 + 1 + 96 * (8 - (n20 + 1)) + 24)) (QLI below ([.ref (gad G 216), .ref (gad G 220), .ref (gad G 221), .ref (gad G 222), .ref (gad G 223)] : List Value).toArray s G sz 817 r Mf) (F0 m 181 ls [.int s90]) := by
            intro s90 M91 H locs ls hM hl hF
            rw [ej181_91] at hF
            refine lv_istore (lv' := [(11, .int s90), (0, .ref (gad G 216)), (1, .ref (gad G 220)), (2, .ref (gad G 221)), (3, .ref (gad G 222)), (4, .ref (gad G 223)), (5, .int x2), (6, .int l6_4), (7, .int l7_5), (8, .ref q), (9, .int l9_6), (10, .int s84)]) C0.1 C0.2.1 dL_tells_181 hl (by decide) rfl (fun ls hl => ?_)
            refine lv_iconst (v := (0 : Int32)) C0.1 C0.2.1 dL_tells_183 (by decide) ?_
            refine lv_istore (lv' := [(12, .int (0 : Int32)), (11, .int s90), (0, .ref (gad G 216)), (1, .ref (gad G 220)), (2, .ref (gad G 221)), (3, .ref (gad G 222)), (4, .ref (gad G 223)), (5, .int x2), (6, .int l6_4), (7, .int l7_5), (8, .ref q), (9, .int l9_6), (10, .int s84)]) C0.1 C0.2.1 dL_tells_184 hl (by decide) rfl (fun ls hl => ?_)
            have L186 : ∀ (n : Nat) (l11_93 : Int32) (l12_94 : Int32) (M95 : MS) (H : Heap) (locs : List Loc) (ls : Array Slot), n ≤ 8 → MX (GE G 226 q) M95 s H locs → lv_has ls 13 [(0, .ref (gad G 216)), (1, .ref (gad G 220)), (2, .ref (gad G 221)), (3, .ref (gad G 222)), (4, .ref (gad G 223)), (5, .int x2), (6, .int l6_4), (7, .int l7_5), (8, .ref q), (9, .int l9_6), (10, .int s84), (11, .int l11_93), (12, .int l12_94)] → F_L_tells_l186 l6_4 l7_5 l9_6 (fun zz0 zz1 zz2 zz3 => F_L_tells_l20 x2 n20 zz0 zz1 zz2 zz3) n l11_93 l12_94 M95 = some (r, Mf) → W p l e (RmL 8 817) s m ([.ref (gad G 216), .ref (gad G 220), .ref (gad G 221), .ref (gad G 222), .ref (gad G 223)] : List Value).toArray below meth c H locs (0 + 1 + 96 * (8 - (n20 + 1)) + 24 + 8 * (8 - n) + 0) (6 * (0 + 1 + 96 * (8 - (n20 + 1)) + 24 + 8 * (8 - n) + 0)) (QLI below ([.ref (gad G 216), .ref (gad G 220), .ref (gad G 221), .ref (gad G 222), .ref (gad G 223)] : List Value).toArray s G sz 817 r Mf) (F0 m 186 ls []) := by
              intro n
              induction n with
              | zero => intro l11_93 l12_94 M95 H locs ls hn186 hM hl hF; rw [F_L_tells_l186] at hF; cases hF
              | succ n186 ih186 =>
                intro l11_93 l12_94 M95 H locs ls hn186 hM hl hF
                rw [F_L_tells_l186] at hF
                refine lv_iload C0.1 C0.2.1 dL_tells_186 (lv_at hl 12 rfl) ?_
                refine lv_iconst (v := (4 : Int32)) C0.1 C0.2.1 dL_tells_188 (by decide) ?_
                refine lv_icmp_ge (tgt := 256) C0.1 C0.2.1 dL_tells_189 (by decide) (fun c96 => ?_) (fun c96 => ?_)
                · have hF := if_t c96 hF
                  refine lv_iload C0.1 C0.2.1 dL_tells_256 (lv_at hl 11 rfl) ?_
                  refine lv_if_ne (tgt := 263) C0.1 C0.2.1 dL_tells_258 (by decide) (fun c97 => ?_) (fun c97 => ?_)
                  · have hF := if_t c97 hF
                    refine lv_iload C0.1 C0.2.1 dL_tells_263 (lv_at hl 6 rfl) ?_
                    refine lv_aload_n C0.1 C0.2.1 dL_tells_265 rfl (lv_at hl 1 rfl) ?_
                    refine lv_iload C0.1 C0.2.1 dL_tells_266 (lv_at hl 9 rfl) ?_
                    obtain ⟨r99, h98, hF⟩ := bd_some hF
                    refine y_si (rest := [.int l6_4]) C0 hM hl.1 (k_L_lives l (GE G 226 q) M95 l9_6 h98) cw_RL_36 rfl rfl ⟨Nat.le_of_ble_eq_true rfl, Nat.le_of_ble_eq_true rfl⟩ rfl (Nat.le_of_ble_eq_true rfl) ⟨by show _ ≤ 817; omega, by show _ ≤ 6 * 817; omega⟩ dL_tells_268 (fun H locs hM => ?_)
                    obtain ⟨j287_100, ej287_100, hF⟩ := nm_some hF
                    have J287 : ∀ (s100 : Int32) (H : Heap) (locs : List Loc) (ls : Array Slot), MX (GE G 226 q) M95 s H locs → lv_has ls 13 [(0, .ref (gad G 216)), (1, .ref (gad G 220)), (2, .ref (gad G 221)), (3, .ref (gad G 222)), (4, .ref (gad G 223)), (5, .int x2), (6, .int l6_4), (7, .int l7_5), (8, .ref q), (9, .int l9_6), (10, .int s84), (11, .int l11_93), (12, .int l12_94)] → j287_100 s100 = some (r, Mf) → W p l e (RmL 8 817) s m ([.ref (gad G 216), .ref (gad G 220), .ref (gad G 221), .ref (gad G 222), .ref (gad G 223)] : List Value).toArray below meth c H locs (0 + 1 + 96 * (8 - (n20 + 1)) + 24 + 8 * (8 - (n186 + 1)) + 0) (6 * (0 + 1 + 96 * (8 - (n20 + 1)) + 24 + 8 * (8 - (n186 + 1)) + 0)) (QLI below ([.ref (gad G 216), .ref (gad G 220), .ref (gad G 221), .ref (gad G 222), .ref (gad G 223)] : List Value).toArray s G sz 817 r Mf) (F0 m 287 ls [.int s100, .int l6_4]) := by
                      intro s100 H locs ls hM hl hF
                      rw [ej287_100] at hF
                      refine lv_iadd C0.1 C0.2.1 dL_tells_287 ?_
                      obtain ⟨x102, ex102, hF⟩ := nm_some hF
                      refine y_topi ex102 ?_
                      refine lv_istore (lv' := [(6, .int x102), (0, .ref (gad G 216)), (1, .ref (gad G 220)), (2, .ref (gad G 221)), (3, .ref (gad G 222)), (4, .ref (gad G 223)), (5, .int x2), (7, .int l7_5), (8, .ref q), (9, .int l9_6), (10, .int s84), (11, .int l11_93), (12, .int l12_94)]) C0.1 C0.2.1 dL_tells_288 hl (by decide) rfl (fun ls hl => ?_)
                      refine lv_iload C0.1 C0.2.1 dL_tells_290 (lv_at hl 7 rfl) ?_
                      refine lv_aload_n C0.1 C0.2.1 dL_tells_292 rfl (lv_at hl 2 rfl) ?_
                      refine lv_iload C0.1 C0.2.1 dL_tells_293 (lv_at hl 9 rfl) ?_
                      obtain ⟨r104, h103, hF⟩ := bd_some hF
                      refine y_si (rest := [.int l7_5]) C0 hM hl.1 (k_L_lives l (GE G 226 q) M95 l9_6 h103) cw_RL_36 rfl rfl ⟨Nat.le_of_ble_eq_true rfl, Nat.le_of_ble_eq_true rfl⟩ rfl (Nat.le_of_ble_eq_true rfl) ⟨by show _ ≤ 817; omega, by show _ ≤ 6 * 817; omega⟩ dL_tells_295 (fun H locs hM => ?_)
                      obtain ⟨j318_105, ej318_105, hF⟩ := nm_some hF
                      have J318 : ∀ (s105 : Int32) (H : Heap) (locs : List Loc) (ls : Array Slot), MX (GE G 226 q) M95 s H locs → lv_has ls 13 [(0, .ref (gad G 216)), (1, .ref (gad G 220)), (2, .ref (gad G 221)), (3, .ref (gad G 222)), (4, .ref (gad G 223)), (5, .int x2), (6, .int x102), (7, .int l7_5), (8, .ref q), (9, .int l9_6), (10, .int s84), (11, .int l11_93), (12, .int l12_94)] → j318_105 s105 = some (r, Mf) → W p l e (RmL 8 817) s m ([.ref (gad G 216), .ref (gad G 220), .ref (gad G 221), .ref (gad G 222), .ref (gad G 223)] : List Value).toArray below meth c H locs (0 + 1 + 96 * (8 - (n20 + 1)) + 24 + 8 * (8 - (n186 + 1)) + 0) (6 * (0 + 1 + 96 * (8 - (n20 + 1)) + 24 + 8 * (8 - (n186 + 1)) + 0)) (QLI below ([.ref (gad G 216), .ref (gad G 220), .ref (gad G 221), .ref (gad G 222), .ref (gad G 223)] : List Value).toArray s G sz 817 r Mf) (F0 m 318 ls [.int s105, .int l7_5]) := by
                        intro s105 H locs ls hM hl hF
                        rw [ej318_105] at hF
                        refine lv_iadd C0.1 C0.2.1 dL_tells_318 ?_
                        obtain ⟨x107, ex107, hF⟩ := nm_some hF
                        refine y_topi ex107 ?_
                        refine lv_istore (lv' := [(7, .int x107), (0, .ref (gad G 216)), (1, .ref (gad G 220)), (2, .ref (gad G 221)), (3, .ref (gad G 222)), (4, .ref (gad G 223)), (5, .int x2), (6, .int x102), (8, .ref q), (9, .int l9_6), (10, .int s84), (11, .int l11_93), (12, .int l12_94)]) C0.1 C0.2.1 dL_tells_319 hl (by decide) rfl (fun ls hl => ?_)
                        refine lv_aload C0.1 C0.2.1 dL_tells_321 (lv_at hl 8 rfl) ?_
                        refine lv_aload_n C0.1 C0.2.1 dL_tells_323 rfl (lv_at hl 1 rfl) ?_
                        refine lv_iload C0.1 C0.2.1 dL_tells_324 (lv_at hl 9 rfl) ?_
                        refine lv_iconst (v := (0 : Int32)) C0.1 C0.2.1 dL_tells_326 (by decide) ?_
                        obtain ⟨r110, M109, h108, hF⟩ := bd0_some hF
                        refine z_vi (rest := [.ref q]) (0 + 1 + 96 * (8 - (n20 + 1)) + 24 + 8 * (8 - (n186 + 1)) + 4) (6 * (0 + 1 + 96 * (8 - (n20 + 1)) + 24 + 8 * (8 - (n186 + 1)) + 4)) C0 hM hT hl.1 (k_X4_fighter l hst (GE G 226 q) B0 sa M95 l9_6 (0 : Int32) h108) cw_RL_26 rfl rfl ⟨Nat.le_of_ble_eq_true rfl, Nat.le_of_ble_eq_true rfl⟩ rfl (Nat.le_of_ble_eq_true rfl) ⟨by show _ ≤ 817; omega, by show _ ≤ 6 * 817; omega⟩ (by omega) (by omega) dL_tells_327 (fun H locs hM => ?_)
                        refine lv_dup2_11 C0.1 C0.2.1 dL_tells_330 rfl rfl ?_
                        obtain ⟨g111, hF⟩ := gdb_some hF
                        refine z_tld (n := 4) C0 hM rfl g111 dL_tells_331 ?_
                        refine lv_aload_n C0.1 C0.2.1 dL_tells_332 rfl (lv_at hl 2 rfl) ?_
                        refine lv_iload C0.1 C0.2.1 dL_tells_333 (lv_at hl 9 rfl) ?_
                        obtain ⟨r113, h112, hF⟩ := bd_some hF
                        refine y_si (rest := [.int (rA M109 226 (Int32.toNatClampNeg r110)), .int r110, .ref q]) C0 hM hl.1 (k_L_lives l (GE G 226 q) M109 l9_6 h112) cw_RL_36 rfl rfl ⟨Nat.le_of_ble_eq_true rfl, Nat.le_of_ble_eq_true rfl⟩ rfl (Nat.le_of_ble_eq_true rfl) ⟨by show _ ≤ 817; omega, by show _ ≤ 6 * 817; omega⟩ dL_tells_335 (fun H locs hM => ?_)
                        obtain ⟨j346_114, ej346_114, hF⟩ := nm_some hF
                        have J346 : ∀ (s114 : Int32) (H : Heap) (locs : List Loc) (ls : Array Slot), MX (GE G 226 q) M109 s H locs → lv_has ls 13 [(0, .ref (gad G 216)), (1, .ref (gad G 220)), (2, .ref (gad G 221)), (3, .ref (gad G 222)), (4, .ref (gad G 223)), (5, .int x2), (6, .int x102), (7, .int x107), (8, .ref q), (9, .int l9_6), (10, .int s84), (11, .int l11_93), (12, .int l12_94)] → j346_114 s114 = some (r, Mf) → W p l e (RmL 8 817) s m ([.ref (gad G 216), .ref (gad G 220), .ref (gad G 221), .ref (gad G 222), .ref (gad G 223)] : List Value).toArray below meth c H locs (0 + 1 + 96 * (8 - (n20 + 1)) + 24 + 8 * (8 - (n186 + 1)) + 4) (6 * (0 + 1 + 96 * (8 - (n20 + 1)) + 24 + 8 * (8 - (n186 + 1)) + 4)) (QLI below ([.ref (gad G 216), .ref (gad G 220), .ref (gad G 221), .ref (gad G 222), .ref (gad G 223)] : List Value).toArray s G sz 817 r Mf) (F0 m 346 ls [.int s114, .int (rA M109 226 (Int32.toNatClampNeg r110)), .int r110, .ref q]) := by
                          intro s114 H locs ls hM hl hF
                          rw [ej346_114] at hF
                          refine lv_iadd C0.1 C0.2.1 dL_tells_346 ?_
                          obtain ⟨g116, hF⟩ := gdb_some hF
                          refine z_tst (n := 4) C0 hM rfl g116 dL_tells_347 (fun H locs hM => ?_)
                          obtain ⟨M117, eM117, hF⟩ := nm_some hF
                          have hM := y_mn eM117 hM
                          refine lv_aload C0.1 C0.2.1 dL_tells_348 (lv_at hl 8 rfl) ?_
                          refine lv_iconst (v := (2 : Int32)) C0.1 C0.2.1 dL_tells_350 (by decide) ?_
                          refine lv_aload_n C0.1 C0.2.1 dL_tells_351 rfl (lv_at hl 0 rfl) ?_
                          refine lv_iload C0.1 C0.2.1 dL_tells_352 (lv_at hl 9 rfl) ?_
                          refine lv_iconst (v := (0 : Int32)) C0.1 C0.2.1 dL_tells_354 (by decide) ?_
                          obtain ⟨r120, M119, h118, hF⟩ := bd0_some hF
                          refine z_vi (rest := [.int (2 : Int32), .ref q]) (0 + 1 + 96 * (8 - (n20 + 1)) + 24 + 8 * (8 - (n186 + 1)) + 8) (6 * (0 + 1 + 96 * (8 - (n20 + 1)) + 24 + 8 * (8 - (n186 + 1)) + 8)) C0 hM hT hl.1 (k_X4_fighter l hst (GE G 226 q) B0 sa M117 l9_6 (0 : Int32) h118) cw_RL_26 rfl rfl ⟨Nat.le_of_ble_eq_true rfl, Nat.le_of_ble_eq_true rfl⟩ rfl (Nat.le_of_ble_eq_true rfl) ⟨by show _ ≤ 817; omega, by show _ ≤ 6 * 817; omega⟩ (by omega) (by omega) dL_tells_355 (fun H locs hM => ?_)
                          refine lv_iadd C0.1 C0.2.1 dL_tells_358 ?_
                          refine lv_dup2_11 C0.1 C0.2.1 dL_tells_359 rfl rfl ?_
                          obtain ⟨g121, hF⟩ := gdb_some hF
                          refine z_tld (n := 4) C0 hM rfl g121 dL_tells_360 ?_
                          refine lv_aload_n C0.1 C0.2.1 dL_tells_361 rfl (lv_at hl 1 rfl) ?_
                          refine lv_bipush (v := (8 : Int32)) C0.1 C0.2.1 dL_tells_362 (by decide) ?_
                          refine lv_iload C0.1 C0.2.1 dL_tells_364 (lv_at hl 9 rfl) ?_
                          refine lv_imul C0.1 C0.2.1 dL_tells_366 ?_
                          obtain ⟨g122, hF⟩ := gdb_some hF
                          refine y_iald C0 hM oka_a g122 dL_tells_367 ?_
                          refine lv_iadd C0.1 C0.2.1 dL_tells_368 ?_
                          obtain ⟨g123, hF⟩ := gdb_some hF
                          refine z_tst (n := 4) C0 hM rfl g123 dL_tells_369 (fun H locs hM => ?_)
                          obtain ⟨M124, eM124, hF⟩ := nm_some hF
                          have hM := y_mn eM124 hM
                          obtain ⟨x125, ex125, hF⟩ := nm_some hF
                          refine lv_iinc (v := x125) (lv' := [(9, .int x125), (0, .ref (gad G 216)), (1, .ref (gad G 220)), (2, .ref (gad G 221)), (3, .ref (gad G 222)), (4, .ref (gad G 223)), (5, .int x2), (6, .int x102), (7, .int x107), (8, .ref q), (10, .int s84), (11, .int l11_93), (12, .int l12_94)]) C0.1 C0.2.1 dL_tells_370 hl (k := 9) rfl (by rw [ex125]; rfl) (by decide) rfl (fun ls hl => ?_)
                          refine lv_goto (tgt := 20) C0.1 C0.2.1 dL_tells_373 (by decide) ?_
                          refine W.widen (k := 0 + 1 + 96 * (8 - n20) + 0) (n := 6 * (0 + 1 + 96 * (8 - n20) + 0)) (by omega) (by omega) ?_
                          exact ih20 x102 x107 x125 M124 _ _ _ (by omega) hM (lv_sub hl [1, 2, 3, 4, 5, 6, 7, 8, 9, 0] rfl) hF
                        refine lv_if_eq (tgt := 345) C0.1 C0.2.1 dL_tells_338 (by decide) (fun c126 => ?_) (fun c126 => ?_)
                        · have hF := if_t c126 hF
                          refine lv_iconst (v := (0 : Int32)) C0.1 C0.2.1 dL_tells_345 (by decide) ?_
                          refine W.widen (k := 0 + 1 + 96 * (8 - (n20 + 1)) + 24 + 8 * (8 - (n186 + 1)) + 4) (n := 6 * (0 + 1 + 96 * (8 - (n20 + 1)) + 24 + 8 * (8 - (n186 + 1)) + 4)) (by omega) (by omega) ?_
                          exact J346 (0 : Int32) _ _ _ hM (lv_sub hl [1, 2, 3, 4, 5, 6, 7, 0, 8, 9, 10, 11, 12] rfl) hF
                        · have hF := if_f c126 hF
                          refine lv_iconst (v := (1 : Int32)) C0.1 C0.2.1 dL_tells_341 (by decide) ?_
                          refine lv_goto (tgt := 346) C0.1 C0.2.1 dL_tells_342 (by decide) ?_
                          refine W.widen (k := 0 + 1 + 96 * (8 - (n20 + 1)) + 24 + 8 * (8 - (n186 + 1)) + 4) (n := 6 * (0 + 1 + 96 * (8 - (n20 + 1)) + 24 + 8 * (8 - (n186 + 1)) + 4)) (by omega) (by omega) ?_
                          exact J346 (1 : Int32) _ _ _ hM (lv_sub hl [1, 2, 3, 4, 5, 6, 7, 0, 8, 9, 10, 11, 12] rfl) hF
                      refine lv_if_eq (tgt := 317) C0.1 C0.2.1 dL_tells_298 (by decide) (fun c127 => ?_) (fun c127 => ?_)
                      · have hF := if_t c127 hF
                        refine lv_iconst (v := (0 : Int32)) C0.1 C0.2.1 dL_tells_317 (by decide) ?_
                        refine W.widen (k := 0 + 1 + 96 * (8 - (n20 + 1)) + 24 + 8 * (8 - (n186 + 1)) + 0) (n := 6 * (0 + 1 + 96 * (8 - (n20 + 1)) + 24 + 8 * (8 - (n186 + 1)) + 0)) (by omega) (by omega) ?_
                        exact J318 (0 : Int32) _ _ _ hM (lv_sub hl [1, 2, 3, 4, 5, 6, 0, 7, 8, 9, 10, 11, 12] rfl) hF
                      · have hF := if_f c127 hF
                        refine lv_aload_n C0.1 C0.2.1 dL_tells_301 rfl (lv_at hl 2 rfl) ?_
                        refine lv_bipush (v := (8 : Int32)) C0.1 C0.2.1 dL_tells_302 (by decide) ?_
                        refine lv_iload C0.1 C0.2.1 dL_tells_304 (lv_at hl 9 rfl) ?_
                        refine lv_imul C0.1 C0.2.1 dL_tells_306 ?_
                        refine lv_iconst (v := (4 : Int32)) C0.1 C0.2.1 dL_tells_307 (by decide) ?_
                        refine lv_iadd C0.1 C0.2.1 dL_tells_308 ?_
                        obtain ⟨g128, hF⟩ := gdb_some hF
                        refine y_iald C0 hM oka_a g128 dL_tells_309 ?_
                        refine lv_if_lt (tgt := 317) C0.1 C0.2.1 dL_tells_310 (by decide) (fun c129 => ?_) (fun c129 => ?_)
                        · have hF := if_t c129 hF
                          refine lv_iconst (v := (0 : Int32)) C0.1 C0.2.1 dL_tells_317 (by decide) ?_
                          refine W.widen (k := 0 + 1 + 96 * (8 - (n20 + 1)) + 24 + 8 * (8 - (n186 + 1)) + 0) (n := 6 * (0 + 1 + 96 * (8 - (n20 + 1)) + 24 + 8 * (8 - (n186 + 1)) + 0)) (by omega) (by omega) ?_
                          exact J318 (0 : Int32) _ _ _ hM (lv_sub hl [1, 2, 3, 4, 5, 6, 0, 7, 8, 9, 10, 11, 12] rfl) hF
                        · have hF := if_f c129 hF
                          refine lv_iconst (v := (1 : Int32)) C0.1 C0.2.1 dL_tells_313 (by decide) ?_
                          refine lv_goto (tgt := 318) C0.1 C0.2.1 dL_tells_314 (by decide) ?_
                          refine W.widen (k := 0 + 1 + 96 * (8 - (n20 + 1)) + 24 + 8 * (8 - (n186 + 1)) + 0) (n := 6 * (0 + 1 + 96 * (8 - (n20 + 1)) + 24 + 8 * (8 - (n186 + 1)) + 0)) (by omega) (by omega) ?_
                          exact J318 (1 : Int32) _ _ _ hM (lv_sub hl [1, 2, 3, 4, 5, 6, 0, 7, 8, 9, 10, 11, 12] rfl) hF
                    refine lv_if_eq (tgt := 286) C0.1 C0.2.1 dL_tells_271 (by decide) (fun c130 => ?_) (fun c130 => ?_)
                    · have hF := if_t c130 hF
                      refine lv_iconst (v := (0 : Int32)) C0.1 C0.2.1 dL_tells_286 (by decide) ?_
                      refine W.widen (k := 0 + 1 + 96 * (8 - (n20 + 1)) + 24 + 8 * (8 - (n186 + 1)) + 0) (n := 6 * (0 + 1 + 96 * (8 - (n20 + 1)) + 24 + 8 * (8 - (n186 + 1)) + 0)) (by omega) (by omega) ?_
                      exact J287 (0 : Int32) _ _ _ hM (lv_sub hl [0, 1, 2, 3, 4, 5, 6, 7, 8, 9, 10, 11, 12] rfl) hF
                    · have hF := if_f c130 hF
                      refine lv_aload_n C0.1 C0.2.1 dL_tells_274 rfl (lv_at hl 1 rfl) ?_
                      refine lv_bipush (v := (8 : Int32)) C0.1 C0.2.1 dL_tells_275 (by decide) ?_
                      refine lv_iload C0.1 C0.2.1 dL_tells_277 (lv_at hl 9 rfl) ?_
                      refine lv_imul C0.1 C0.2.1 dL_tells_279 ?_
                      refine lv_iconst (v := (3 : Int32)) C0.1 C0.2.1 dL_tells_280 (by decide) ?_
                      refine lv_iadd C0.1 C0.2.1 dL_tells_281 ?_
                      obtain ⟨g131, hF⟩ := gdb_some hF
                      refine y_iald C0 hM oka_a g131 dL_tells_282 ?_
                      refine lv_goto (tgt := 287) C0.1 C0.2.1 dL_tells_283 (by decide) ?_
                      refine W.widen (k := 0 + 1 + 96 * (8 - (n20 + 1)) + 24 + 8 * (8 - (n186 + 1)) + 0) (n := 6 * (0 + 1 + 96 * (8 - (n20 + 1)) + 24 + 8 * (8 - (n186 + 1)) + 0)) (by omega) (by omega) ?_
                      exact J287 (rA M95 220 (Int32.toNatClampNeg (((8 : Int32) * l9_6) + (3 : Int32)))) _ _ _ hM (lv_sub hl [0, 1, 2, 3, 4, 5, 6, 7, 8, 9, 10, 11, 12] rfl) hF
                  · have hF := if_f (fun q => q c97) hF
                    refine lv_iconst (v := (0 : Int32)) C0.1 C0.2.1 dL_tells_261 (by decide) ?_
                    obtain ⟨e8, e9⟩ := y_2 hF
                    subst e8
                    subst e9
                    have hM := hM.drop hq
                    exact z_zret C0 hM hsz rfl (by omega) (by omega) dL_tells_262
                · have hF := if_f c96 hF
                  refine lv_iload C0.1 C0.2.1 dL_tells_192 (lv_at hl 11 rfl) ?_
                  refine lv_if_eq (tgt := 247) C0.1 C0.2.1 dL_tells_194 (by decide) (fun c132 => ?_) (fun c132 => ?_)
                  · have hF := if_t c132 hF
                    refine lv_iconst (v := (0 : Int32)) C0.1 C0.2.1 dL_tells_247 (by decide) ?_
                    refine lv_istore (lv' := [(11, .int (0 : Int32)), (0, .ref (gad G 216)), (1, .ref (gad G 220)), (2, .ref (gad G 221)), (3, .ref (gad G 222)), (4, .ref (gad G 223)), (5, .int x2), (6, .int l6_4), (7, .int l7_5), (8, .ref q), (9, .int l9_6), (10, .int s84), (12, .int l12_94)]) C0.1 C0.2.1 dL_tells_248 hl (by decide) rfl (fun ls hl => ?_)
                    obtain ⟨x133, ex133, hF⟩ := nm_some hF
                    refine lv_iinc (v := x133) (lv' := [(12, .int x133), (11, .int (0 : Int32)), (0, .ref (gad G 216)), (1, .ref (gad G 220)), (2, .ref (gad G 221)), (3, .ref (gad G 222)), (4, .ref (gad G 223)), (5, .int x2), (6, .int l6_4), (7, .int l7_5), (8, .ref q), (9, .int l9_6), (10, .int s84)]) C0.1 C0.2.1 dL_tells_250 hl (k := 12) rfl (by rw [ex133]; rfl) (by decide) rfl (fun ls hl => ?_)
                    refine lv_goto (tgt := 186) C0.1 C0.2.1 dL_tells_253 (by decide) ?_
                    refine W.widen (k := 0 + 1 + 96 * (8 - (n20 + 1)) + 24 + 8 * (8 - n186) + 0) (n := 6 * (0 + 1 + 96 * (8 - (n20 + 1)) + 24 + 8 * (8 - n186) + 0)) (by omega) (by omega) ?_
                    exact ih186 (0 : Int32) x133 M95 _ _ _ (by omega) hM (lv_sub hl [2, 3, 4, 5, 6, 7, 8, 9, 10, 11, 12, 1, 0] rfl) hF
                  · have hF := if_f c132 hF
                    refine lv_aload_n C0.1 C0.2.1 dL_tells_197 rfl (lv_at hl 0 rfl) ?_
                    refine lv_iload C0.1 C0.2.1 dL_tells_198 (lv_at hl 9 rfl) ?_
                    refine lv_bipush (v := (8 : Int32)) C0.1 C0.2.1 dL_tells_200 (by decide) ?_
                    refine lv_iload C0.1 C0.2.1 dL_tells_202 (lv_at hl 12 rfl) ?_
                    refine lv_iadd C0.1 C0.2.1 dL_tells_204 ?_
                    obtain ⟨r136, M135, h134, hF⟩ := bd0_some hF
                    refine z_vi (rest := []) (0 + 1 + 96 * (8 - (n20 + 1)) + 24 + 8 * (8 - (n186 + 1)) + 4) (6 * (0 + 1 + 96 * (8 - (n20 + 1)) + 24 + 8 * (8 - (n186 + 1)) + 4)) C0 hM hT hl.1 (k_X4_fighter l hst (GE G 226 q) B0 sa M95 l9_6 ((8 : Int32) + l12_94) h134) cw_RL_26 rfl rfl ⟨Nat.le_of_ble_eq_true rfl, Nat.le_of_ble_eq_true rfl⟩ rfl (Nat.le_of_ble_eq_true rfl) ⟨by show _ ≤ 817; omega, by show _ ≤ 6 * 817; omega⟩ (by omega) (by omega) dL_tells_205 (fun H locs hM => ?_)
                    refine lv_aload_n C0.1 C0.2.1 dL_tells_208 rfl (lv_at hl 2 rfl) ?_
                    refine lv_iconst (v := (4 : Int32)) C0.1 C0.2.1 dL_tells_209 (by decide) ?_
                    refine lv_iload C0.1 C0.2.1 dL_tells_210 (lv_at hl 9 rfl) ?_
                    refine lv_imul C0.1 C0.2.1 dL_tells_212 ?_
                    refine lv_iload C0.1 C0.2.1 dL_tells_213 (lv_at hl 12 rfl) ?_
                    refine lv_iadd C0.1 C0.2.1 dL_tells_215 ?_
                    obtain ⟨g137, hF⟩ := gdb_some hF
                    refine y_iald C0 hM oka_cc g137 dL_tells_216 ?_
                    refine lv_icmp_ne (tgt := 247) C0.1 C0.2.1 dL_tells_217 (by decide) (fun c138 => ?_) (fun c138 => ?_)
                    · have hF := if_t c138 hF
                      refine lv_iconst (v := (0 : Int32)) C0.1 C0.2.1 dL_tells_247 (by decide) ?_
                      refine lv_istore (lv' := [(11, .int (0 : Int32)), (0, .ref (gad G 216)), (1, .ref (gad G 220)), (2, .ref (gad G 221)), (3, .ref (gad G 222)), (4, .ref (gad G 223)), (5, .int x2), (6, .int l6_4), (7, .int l7_5), (8, .ref q), (9, .int l9_6), (10, .int s84), (12, .int l12_94)]) C0.1 C0.2.1 dL_tells_248 hl (by decide) rfl (fun ls hl => ?_)
                      obtain ⟨x139, ex139, hF⟩ := nm_some hF
                      refine lv_iinc (v := x139) (lv' := [(12, .int x139), (11, .int (0 : Int32)), (0, .ref (gad G 216)), (1, .ref (gad G 220)), (2, .ref (gad G 221)), (3, .ref (gad G 222)), (4, .ref (gad G 223)), (5, .int x2), (6, .int l6_4), (7, .int l7_5), (8, .ref q), (9, .int l9_6), (10, .int s84)]) C0.1 C0.2.1 dL_tells_250 hl (k := 12) rfl (by rw [ex139]; rfl) (by decide) rfl (fun ls hl => ?_)
                      refine lv_goto (tgt := 186) C0.1 C0.2.1 dL_tells_253 (by decide) ?_
                      refine W.widen (k := 0 + 1 + 96 * (8 - (n20 + 1)) + 24 + 8 * (8 - n186) + 0) (n := 6 * (0 + 1 + 96 * (8 - (n20 + 1)) + 24 + 8 * (8 - n186) + 0)) (by omega) (by omega) ?_
                      exact ih186 (0 : Int32) x139 M135 _ _ _ (by omega) hM (lv_sub hl [2, 3, 4, 5, 6, 7, 8, 9, 10, 11, 12, 1, 0] rfl) hF
                    · have hF := if_f (fun q => q c138) hF
                      refine lv_aload_n C0.1 C0.2.1 dL_tells_220 rfl (lv_at hl 0 rfl) ?_
                      refine lv_iload C0.1 C0.2.1 dL_tells_221 (lv_at hl 9 rfl) ?_
                      refine lv_iload C0.1 C0.2.1 dL_tells_223 (lv_at hl 12 rfl) ?_
                      obtain ⟨r142, M141, h140, hF⟩ := bd0_some hF
                      refine z_vi (rest := []) (0 + 1 + 96 * (8 - (n20 + 1)) + 24 + 8 * (8 - (n186 + 1)) + 8) (6 * (0 + 1 + 96 * (8 - (n20 + 1)) + 24 + 8 * (8 - (n186 + 1)) + 8)) C0 hM hT hl.1 (k_X4_readied l hst (GE G 226 q) B0 sa M135 l9_6 l12_94 h140) cw_RL_29 rfl rfl ⟨Nat.le_of_ble_eq_true rfl, Nat.le_of_ble_eq_true rfl⟩ rfl (Nat.le_of_ble_eq_true rfl) ⟨by show _ ≤ 817; omega, by show _ ≤ 6 * 817; omega⟩ (by omega) (by omega) dL_tells_225 (fun H locs hM => ?_)
                      refine lv_aload_n C0.1 C0.2.1 dL_tells_228 rfl (lv_at hl 1 rfl) ?_
                      refine lv_bipush (v := (8 : Int32)) C0.1 C0.2.1 dL_tells_229 (by decide) ?_
                      refine lv_iload C0.1 C0.2.1 dL_tells_231 (lv_at hl 9 rfl) ?_
                      refine lv_imul C0.1 C0.2.1 dL_tells_233 ?_
                      refine lv_iconst (v := (4 : Int32)) C0.1 C0.2.1 dL_tells_234 (by decide) ?_
                      refine lv_iadd C0.1 C0.2.1 dL_tells_235 ?_
                      refine lv_iload C0.1 C0.2.1 dL_tells_236 (lv_at hl 12 rfl) ?_
                      refine lv_iadd C0.1 C0.2.1 dL_tells_238 ?_
                      obtain ⟨g143, hF⟩ := gdb_some hF
                      refine y_iald C0 hM oka_a g143 dL_tells_239 ?_
                      refine lv_icmp_ne (tgt := 247) C0.1 C0.2.1 dL_tells_240 (by decide) (fun c144 => ?_) (fun c144 => ?_)
                      · have hF := if_t c144 hF
                        refine lv_iconst (v := (0 : Int32)) C0.1 C0.2.1 dL_tells_247 (by decide) ?_
                        refine lv_istore (lv' := [(11, .int (0 : Int32)), (0, .ref (gad G 216)), (1, .ref (gad G 220)), (2, .ref (gad G 221)), (3, .ref (gad G 222)), (4, .ref (gad G 223)), (5, .int x2), (6, .int l6_4), (7, .int l7_5), (8, .ref q), (9, .int l9_6), (10, .int s84), (12, .int l12_94)]) C0.1 C0.2.1 dL_tells_248 hl (by decide) rfl (fun ls hl => ?_)
                        obtain ⟨x145, ex145, hF⟩ := nm_some hF
                        refine lv_iinc (v := x145) (lv' := [(12, .int x145), (11, .int (0 : Int32)), (0, .ref (gad G 216)), (1, .ref (gad G 220)), (2, .ref (gad G 221)), (3, .ref (gad G 222)), (4, .ref (gad G 223)), (5, .int x2), (6, .int l6_4), (7, .int l7_5), (8, .ref q), (9, .int l9_6), (10, .int s84)]) C0.1 C0.2.1 dL_tells_250 hl (k := 12) rfl (by rw [ex145]; rfl) (by decide) rfl (fun ls hl => ?_)
                        refine lv_goto (tgt := 186) C0.1 C0.2.1 dL_tells_253 (by decide) ?_
                        refine W.widen (k := 0 + 1 + 96 * (8 - (n20 + 1)) + 24 + 8 * (8 - n186) + 0) (n := 6 * (0 + 1 + 96 * (8 - (n20 + 1)) + 24 + 8 * (8 - n186) + 0)) (by omega) (by omega) ?_
                        exact ih186 (0 : Int32) x145 M141 _ _ _ (by omega) hM (lv_sub hl [2, 3, 4, 5, 6, 7, 8, 9, 10, 11, 12, 1, 0] rfl) hF
                      · have hF := if_f (fun q => q c144) hF
                        refine lv_iconst (v := (1 : Int32)) C0.1 C0.2.1 dL_tells_243 (by decide) ?_
                        refine lv_goto (tgt := 248) C0.1 C0.2.1 dL_tells_244 (by decide) ?_
                        refine lv_istore (lv' := [(11, .int (1 : Int32)), (0, .ref (gad G 216)), (1, .ref (gad G 220)), (2, .ref (gad G 221)), (3, .ref (gad G 222)), (4, .ref (gad G 223)), (5, .int x2), (6, .int l6_4), (7, .int l7_5), (8, .ref q), (9, .int l9_6), (10, .int s84), (12, .int l12_94)]) C0.1 C0.2.1 dL_tells_248 hl (by decide) rfl (fun ls hl => ?_)
                        obtain ⟨x146, ex146, hF⟩ := nm_some hF
                        refine lv_iinc (v := x146) (lv' := [(12, .int x146), (11, .int (1 : Int32)), (0, .ref (gad G 216)), (1, .ref (gad G 220)), (2, .ref (gad G 221)), (3, .ref (gad G 222)), (4, .ref (gad G 223)), (5, .int x2), (6, .int l6_4), (7, .int l7_5), (8, .ref q), (9, .int l9_6), (10, .int s84)]) C0.1 C0.2.1 dL_tells_250 hl (k := 12) rfl (by rw [ex146]; rfl) (by decide) rfl (fun ls hl => ?_)
                        refine lv_goto (tgt := 186) C0.1 C0.2.1 dL_tells_253 (by decide) ?_
                        refine W.widen (k := 0 + 1 + 96 * (8 - (n20 + 1)) + 24 + 8 * (8 - n186) + 0) (n := 6 * (0 + 1 + 96 * (8 - (n20 + 1)) + 24 + 8 * (8 - n186) + 0)) (by omega) (by omega) ?_
                        exact ih186 (1 : Int32) x146 M141 _ _ _ (by omega) hM (lv_sub hl [2, 3, 4, 5, 6, 7, 8, 9, 10, 11, 12, 1, 0] rfl) hF
            refine W.widen (k := 0 + 1 + 96 * (8 - (n20 + 1)) + 24 + 8 * (8 - 8) + 0) (n := 6 * (0 + 1 + 96 * (8 - (n20 + 1)) + 24 + 8 * (8 - 8) + 0)) (by omega) (by omega) ?_
            exact L186 8 s90 (0 : Int32) M91 _ _ _ (by omega) hM (lv_sub hl [2, 3, 4, 5, 6, 7, 8, 9, 10, 11, 12, 1, 0] rfl) hF
          refine lv_icmp_ne (tgt := 180) C0.1 C0.2.1 dL_tells_90 (by decide) (fun c147 => ?_) (fun c147 => ?_)
          · have hF := if_t c147 hF
            refine lv_iconst (v := (0 : Int32)) C0.1 C0.2.1 dL_tells_180 (by decide) ?_
            refine W.widen (k := 0 + 1 + 96 * (8 - (n20 + 1)) + 24) (n := 6 * (0 + 1 + 96 * (8 - (n20 + 1)) + 24)) (by omega) (by omega) ?_
            exact J181 (0 : Int32) M87 _ _ _ hM (lv_sub hl [1, 2, 3, 4, 5, 6, 7, 8, 9, 10, 0] rfl) hF
          · have hF := if_f (fun q => q c147) hF
            refine lv_aload_n C0.1 C0.2.1 dL_tells_93 rfl (lv_at hl 1 rfl) ?_
            refine lv_iload C0.1 C0.2.1 dL_tells_94 (lv_at hl 10 rfl) ?_
            refine lv_iconst (v := (5 : Int32)) C0.1 C0.2.1 dL_tells_96 (by decide) ?_
            obtain ⟨r150, M149, h148, hF⟩ := bd0_some hF
            refine z_vi (rest := []) (0 + 1 + 96 * (8 - (n20 + 1)) + 8) (6 * (0 + 1 + 96 * (8 - (n20 + 1)) + 8)) C0 hM hT hl.1 (k_X4_fighter l hst (GE G 226 q) B0 sa M87 l9_6 (5 : Int32) h148) cw_RL_26 rfl rfl ⟨Nat.le_of_ble_eq_true rfl, Nat.le_of_ble_eq_true rfl⟩ rfl (Nat.le_of_ble_eq_true rfl) ⟨by show _ ≤ 817; omega, by show _ ≤ 6 * 817; omega⟩ (by omega) (by omega) dL_tells_97 (fun H locs hM => ?_)
            refine lv_aload_n C0.1 C0.2.1 dL_tells_100 rfl (lv_at hl 2 rfl) ?_
            refine lv_bipush (v := (8 : Int32)) C0.1 C0.2.1 dL_tells_101 (by decide) ?_
            refine lv_iload C0.1 C0.2.1 dL_tells_103 (lv_at hl 10 rfl) ?_
            refine lv_imul C0.1 C0.2.1 dL_tells_105 ?_
            refine lv_iconst (v := (1 : Int32)) C0.1 C0.2.1 dL_tells_106 (by decide) ?_
            refine lv_iadd C0.1 C0.2.1 dL_tells_107 ?_
            obtain ⟨g151, hF⟩ := gdb_some hF
            refine y_iald C0 hM oka_a g151 dL_tells_108 ?_
            refine lv_icmp_ne (tgt := 180) C0.1 C0.2.1 dL_tells_109 (by decide) (fun c152 => ?_) (fun c152 => ?_)
            · have hF := if_t c152 hF
              refine lv_iconst (v := (0 : Int32)) C0.1 C0.2.1 dL_tells_180 (by decide) ?_
              refine W.widen (k := 0 + 1 + 96 * (8 - (n20 + 1)) + 24) (n := 6 * (0 + 1 + 96 * (8 - (n20 + 1)) + 24)) (by omega) (by omega) ?_
              exact J181 (0 : Int32) M149 _ _ _ hM (lv_sub hl [1, 2, 3, 4, 5, 6, 7, 8, 9, 10, 0] rfl) hF
            · have hF := if_f (fun q => q c152) hF
              refine lv_aload_n C0.1 C0.2.1 dL_tells_112 rfl (lv_at hl 1 rfl) ?_
              refine lv_iload C0.1 C0.2.1 dL_tells_113 (lv_at hl 10 rfl) ?_
              refine lv_iconst (v := (1 : Int32)) C0.1 C0.2.1 dL_tells_115 (by decide) ?_
              obtain ⟨r155, M154, h153, hF⟩ := bd0_some hF
              refine z_vi (rest := []) (0 + 1 + 96 * (8 - (n20 + 1)) + 12) (6 * (0 + 1 + 96 * (8 - (n20 + 1)) + 12)) C0 hM hT hl.1 (k_X4_fighter l hst (GE G 226 q) B0 sa M149 l9_6 (1 : Int32) h153) cw_RL_26 rfl rfl ⟨Nat.le_of_ble_eq_true rfl, Nat.le_of_ble_eq_true rfl⟩ rfl (Nat.le_of_ble_eq_true rfl) ⟨by show _ ≤ 817; omega, by show _ ≤ 6 * 817; omega⟩ (by omega) (by omega) dL_tells_116 (fun H locs hM => ?_)
              refine lv_aload_n C0.1 C0.2.1 dL_tells_119 rfl (lv_at hl 2 rfl) ?_
              refine lv_bipush (v := (8 : Int32)) C0.1 C0.2.1 dL_tells_120 (by decide) ?_
              refine lv_iload C0.1 C0.2.1 dL_tells_122 (lv_at hl 10 rfl) ?_
              refine lv_imul C0.1 C0.2.1 dL_tells_124 ?_
              refine lv_iconst (v := (2 : Int32)) C0.1 C0.2.1 dL_tells_125 (by decide) ?_
              refine lv_iadd C0.1 C0.2.1 dL_tells_126 ?_
              obtain ⟨g156, hF⟩ := gdb_some hF
              refine y_iald C0 hM oka_a g156 dL_tells_127 ?_
              refine lv_icmp_ne (tgt := 180) C0.1 C0.2.1 dL_tells_128 (by decide) (fun c157 => ?_) (fun c157 => ?_)
              · have hF := if_t c157 hF
                refine lv_iconst (v := (0 : Int32)) C0.1 C0.2.1 dL_tells_180 (by decide) ?_
                refine W.widen (k := 0 + 1 + 96 * (8 - (n20 + 1)) + 24) (n := 6 * (0 + 1 + 96 * (8 - (n20 + 1)) + 24)) (by omega) (by omega) ?_
                exact J181 (0 : Int32) M154 _ _ _ hM (lv_sub hl [1, 2, 3, 4, 5, 6, 7, 8, 9, 10, 0] rfl) hF
              · have hF := if_f (fun q => q c157) hF
                refine lv_aload_n C0.1 C0.2.1 dL_tells_131 rfl (lv_at hl 1 rfl) ?_
                refine lv_iload C0.1 C0.2.1 dL_tells_132 (lv_at hl 10 rfl) ?_
                refine lv_bipush (v := (6 : Int32)) C0.1 C0.2.1 dL_tells_134 (by decide) ?_
                obtain ⟨r160, M159, h158, hF⟩ := bd0_some hF
                refine z_vi (rest := []) (0 + 1 + 96 * (8 - (n20 + 1)) + 16) (6 * (0 + 1 + 96 * (8 - (n20 + 1)) + 16)) C0 hM hT hl.1 (k_X4_fighter l hst (GE G 226 q) B0 sa M154 l9_6 (6 : Int32) h158) cw_RL_26 rfl rfl ⟨Nat.le_of_ble_eq_true rfl, Nat.le_of_ble_eq_true rfl⟩ rfl (Nat.le_of_ble_eq_true rfl) ⟨by show _ ≤ 817; omega, by show _ ≤ 6 * 817; omega⟩ (by omega) (by omega) dL_tells_136 (fun H locs hM => ?_)
                refine lv_aload_n C0.1 C0.2.1 dL_tells_139 rfl (lv_at hl 4 rfl) ?_
                refine lv_iload C0.1 C0.2.1 dL_tells_140 (lv_at hl 10 rfl) ?_
                obtain ⟨r162, h161, hF⟩ := bd_some hF
                refine y_si (rest := [.int r160]) C0 hM hl.1 (k_L_rank l (GE G 226 q) M159 l9_6 h161) cw_RL_47 rfl rfl ⟨Nat.le_of_ble_eq_true rfl, Nat.le_of_ble_eq_true rfl⟩ rfl (Nat.le_of_ble_eq_true rfl) ⟨by show _ ≤ 817; omega, by show _ ≤ 6 * 817; omega⟩ dL_tells_142 (fun H locs hM => ?_)
                refine lv_icmp_ne (tgt := 180) C0.1 C0.2.1 dL_tells_145 (by decide) (fun c163 => ?_) (fun c163 => ?_)
                · have hF := if_t c163 hF
                  refine lv_iconst (v := (0 : Int32)) C0.1 C0.2.1 dL_tells_180 (by decide) ?_
                  refine W.widen (k := 0 + 1 + 96 * (8 - (n20 + 1)) + 24) (n := 6 * (0 + 1 + 96 * (8 - (n20 + 1)) + 24)) (by omega) (by omega) ?_
                  exact J181 (0 : Int32) M159 _ _ _ hM (lv_sub hl [1, 2, 3, 4, 5, 6, 7, 8, 9, 10, 0] rfl) hF
                · have hF := if_f (fun q => q c163) hF
                  refine lv_aload_n C0.1 C0.2.1 dL_tells_148 rfl (lv_at hl 1 rfl) ?_
                  refine lv_iload C0.1 C0.2.1 dL_tells_149 (lv_at hl 10 rfl) ?_
                  refine lv_bipush (v := (7 : Int32)) C0.1 C0.2.1 dL_tells_151 (by decide) ?_
                  obtain ⟨r166, M165, h164, hF⟩ := bd0_some hF
                  refine z_vi (rest := []) (0 + 1 + 96 * (8 - (n20 + 1)) + 20) (6 * (0 + 1 + 96 * (8 - (n20 + 1)) + 20)) C0 hM hT hl.1 (k_X4_fighter l hst (GE G 226 q) B0 sa M159 l9_6 (7 : Int32) h164) cw_RL_26 rfl rfl ⟨Nat.le_of_ble_eq_true rfl, Nat.le_of_ble_eq_true rfl⟩ rfl (Nat.le_of_ble_eq_true rfl) ⟨by show _ ≤ 817; omega, by show _ ≤ 6 * 817; omega⟩ (by omega) (by omega) dL_tells_153 (fun H locs hM => ?_)
                  refine lv_iload C0.1 C0.2.1 dL_tells_156 (lv_at hl 0 rfl) ?_
                  refine lv_icmp_ne (tgt := 180) C0.1 C0.2.1 dL_tells_158 (by decide) (fun c167 => ?_) (fun c167 => ?_)
                  · have hF := if_t c167 hF
                    refine lv_iconst (v := (0 : Int32)) C0.1 C0.2.1 dL_tells_180 (by decide) ?_
                    refine W.widen (k := 0 + 1 + 96 * (8 - (n20 + 1)) + 24) (n := 6 * (0 + 1 + 96 * (8 - (n20 + 1)) + 24)) (by omega) (by omega) ?_
                    exact J181 (0 : Int32) M165 _ _ _ hM (lv_sub hl [1, 2, 3, 4, 5, 6, 7, 8, 9, 10, 0] rfl) hF
                  · have hF := if_f (fun q => q c167) hF
                    refine lv_aload_n C0.1 C0.2.1 dL_tells_161 rfl (lv_at hl 1 rfl) ?_
                    refine lv_aload_n C0.1 C0.2.1 dL_tells_162 rfl (lv_at hl 4 rfl) ?_
                    refine lv_iload C0.1 C0.2.1 dL_tells_163 (lv_at hl 10 rfl) ?_
                    obtain ⟨r169, h168, hF⟩ := bd_some hF
                    refine y_si (rest := [.ref (gad G 216)]) C0 hM hl.1 (k_L_rank l (GE G 226 q) M165 l9_6 h168) cw_RL_47 rfl rfl ⟨Nat.le_of_ble_eq_true rfl, Nat.le_of_ble_eq_true rfl⟩ rfl (Nat.le_of_ble_eq_true rfl) ⟨by show _ ≤ 817; omega, by show _ ≤ 6 * 817; omega⟩ dL_tells_165 (fun H locs hM => ?_)
                    obtain ⟨r172, M171, h170, hF⟩ := bd0_some hF
                    refine z_vi (rest := []) (0 + 1 + 96 * (8 - (n20 + 1)) + 24) (6 * (0 + 1 + 96 * (8 - (n20 + 1)) + 24)) C0 hM hT hl.1 (k_X4_inRow l hst (GE G 226 q) B0 sa M165 r169 h170) cw_RL_70 rfl rfl ⟨Nat.le_of_ble_eq_true rfl, Nat.le_of_ble_eq_true rfl⟩ rfl (Nat.le_of_ble_eq_true rfl) ⟨by show _ ≤ 817; omega, by show _ ≤ 6 * 817; omega⟩ (by omega) (by omega) dL_tells_168 (fun H locs hM => ?_)
                    refine lv_iload C0.1 C0.2.1 dL_tells_171 (lv_at hl 10 rfl) ?_
                    refine lv_icmp_ne (tgt := 180) C0.1 C0.2.1 dL_tells_173 (by decide) (fun c173 => ?_) (fun c173 => ?_)
                    · have hF := if_t c173 hF
                      refine lv_iconst (v := (0 : Int32)) C0.1 C0.2.1 dL_tells_180 (by decide) ?_
                      refine W.widen (k := 0 + 1 + 96 * (8 - (n20 + 1)) + 24) (n := 6 * (0 + 1 + 96 * (8 - (n20 + 1)) + 24)) (by omega) (by omega) ?_
                      exact J181 (0 : Int32) M171 _ _ _ hM (lv_sub hl [1, 2, 3, 4, 5, 6, 7, 8, 9, 10, 0] rfl) hF
                    · have hF := if_f (fun q => q c173) hF
                      refine lv_iconst (v := (1 : Int32)) C0.1 C0.2.1 dL_tells_176 (by decide) ?_
                      refine lv_goto (tgt := 181) C0.1 C0.2.1 dL_tells_177 (by decide) ?_
                      refine W.widen (k := 0 + 1 + 96 * (8 - (n20 + 1)) + 24) (n := 6 * (0 + 1 + 96 * (8 - (n20 + 1)) + 24)) (by omega) (by omega) ?_
                      exact J181 (1 : Int32) M171 _ _ _ hM (lv_sub hl [1, 2, 3, 4, 5, 6, 7, 8, 9, 10, 0] rfl) hF
        refine lv_if_ne (tgt := 40) C0.1 C0.2.1 dL_tells_33 (by decide) (fun c174 => ?_) (fun c174 => ?_)
        · have hF := if_t c174 hF
          refine lv_aload_n C0.1 C0.2.1 dL_tells_40 rfl (lv_at hl 1 rfl) ?_
          refine lv_bipush (v := (8 : Int32)) C0.1 C0.2.1 dL_tells_41 (by decide) ?_
          refine lv_iload C0.1 C0.2.1 dL_tells_43 (lv_at hl 9 rfl) ?_
          refine lv_imul C0.1 C0.2.1 dL_tells_45 ?_
          refine lv_iconst (v := (3 : Int32)) C0.1 C0.2.1 dL_tells_46 (by decide) ?_
          refine lv_iadd C0.1 C0.2.1 dL_tells_47 ?_
          obtain ⟨g175, hF⟩ := gdb_some hF
          refine y_iald C0 hM oka_a g175 dL_tells_48 ?_
          refine lv_iconst (v := (1 : Int32)) C0.1 C0.2.1 dL_tells_49 (by decide) ?_
          refine lv_icmp_ne (tgt := 57) C0.1 C0.2.1 dL_tells_50 (by decide) (fun c176 => ?_) (fun c176 => ?_)
          · have hF := if_t c176 hF
            refine lv_aload_n C0.1 C0.2.1 dL_tells_57 rfl (lv_at hl 1 rfl) ?_
            refine lv_bipush (v := (8 : Int32)) C0.1 C0.2.1 dL_tells_58 (by decide) ?_
            refine lv_iload C0.1 C0.2.1 dL_tells_60 (lv_at hl 9 rfl) ?_
            refine lv_imul C0.1 C0.2.1 dL_tells_62 ?_
            refine lv_iconst (v := (4 : Int32)) C0.1 C0.2.1 dL_tells_63 (by decide) ?_
            refine lv_iadd C0.1 C0.2.1 dL_tells_64 ?_
            obtain ⟨g177, hF⟩ := gdb_some hF
            refine y_iald C0 hM oka_a g177 dL_tells_65 ?_
            refine lv_if_lt (tgt := 73) C0.1 C0.2.1 dL_tells_66 (by decide) (fun c178 => ?_) (fun c178 => ?_)
            · have hF := if_t c178 hF
              refine lv_iconst (v := (0 : Int32)) C0.1 C0.2.1 dL_tells_73 (by decide) ?_
              refine W.widen (k := 0 + 1 + 96 * (8 - (n20 + 1)) + 0) (n := 6 * (0 + 1 + 96 * (8 - (n20 + 1)) + 0)) (by omega) (by omega) ?_
              exact J74 (0 : Int32) _ _ _ hM (lv_sub hl [0, 1, 2, 3, 4, 5, 6, 7, 8, 9] rfl) hF
            · have hF := if_f c178 hF
              refine lv_iconst (v := (2 : Int32)) C0.1 C0.2.1 dL_tells_69 (by decide) ?_
              refine lv_goto (tgt := 74) C0.1 C0.2.1 dL_tells_70 (by decide) ?_
              refine W.widen (k := 0 + 1 + 96 * (8 - (n20 + 1)) + 0) (n := 6 * (0 + 1 + 96 * (8 - (n20 + 1)) + 0)) (by omega) (by omega) ?_
              exact J74 (2 : Int32) _ _ _ hM (lv_sub hl [0, 1, 2, 3, 4, 5, 6, 7, 8, 9] rfl) hF
          · have hF := if_f (fun q => q c176) hF
            refine lv_iconst (v := (1 : Int32)) C0.1 C0.2.1 dL_tells_53 (by decide) ?_
            refine lv_goto (tgt := 74) C0.1 C0.2.1 dL_tells_54 (by decide) ?_
            refine W.widen (k := 0 + 1 + 96 * (8 - (n20 + 1)) + 0) (n := 6 * (0 + 1 + 96 * (8 - (n20 + 1)) + 0)) (by omega) (by omega) ?_
            exact J74 (1 : Int32) _ _ _ hM (lv_sub hl [0, 1, 2, 3, 4, 5, 6, 7, 8, 9] rfl) hF
        · have hF := if_f (fun q => q c174) hF
          refine lv_iconst (v := (3 : Int32)) C0.1 C0.2.1 dL_tells_36 (by decide) ?_
          refine lv_goto (tgt := 74) C0.1 C0.2.1 dL_tells_37 (by decide) ?_
          refine W.widen (k := 0 + 1 + 96 * (8 - (n20 + 1)) + 0) (n := 6 * (0 + 1 + 96 * (8 - (n20 + 1)) + 0)) (by omega) (by omega) ?_
          exact J74 (3 : Int32) _ _ _ hM (lv_sub hl [0, 1, 2, 3, 4, 5, 6, 7, 8, 9] rfl) hF
  refine W.widen (k := 0 + 1 + 96 * (8 - 8) + 0) (n := 6 * (0 + 1 + 96 * (8 - 8) + 0)) (by omega) (by omega) ?_
  exact L20 8 (0 : Int32) (0 : Int32) (0 : Int32) M3 _ _ _ (by omega) hM (lv_sub hl [5, 6, 7, 8, 9, 4, 3, 2, 1, 0] rfl) hF

def F_L_come_l3 (a2 : Int32) (a3 : Int32) (xs : Nat → Int32) (L : Nat) : Nat → Int32 → MS → Option (Int32 × MS)
  | 0, _, _ => none
  | n3 + 1, l4_1, M2 => (if a3 ≤ l4_1 then (some ((1 : Int32), M2)) else (bd (F_L_cell xs L (a2 + l4_1)) fun r5 => (bd (F_L_low M2 r5 (2 : Int32)) fun r7 => (bd (F_L_low M2 (r5 >>> ((7 : Int32) &&& 31)) (2 : Int32)) fun r9 => (nm (fun (s10 : Int32) => (bd (F_L_low M2 (r5 >>> ((1 : Int32) &&& 31)) s10) fun r13 => (bd (F_L_low M2 (r5 >>> ((15 : Int32) &&& 31)) (3 : Int32)) fun r15 => (nm (fun (s16 : Int32) => (bd (F_L_low M2 (r5 >>> ((8 : Int32) &&& 31)) s16) fun r19 => (nm ((1 : Int32) + r19) fun x20 => (bd (F_L_low M2 (r5 >>> ((22 : Int32) &&& 31)) (2 : Int32)) fun r22 => (nm (fun (s23 : Int32) => (bd (F_L_low M2 (r5 >>> ((17 : Int32) &&& 31)) s23) fun r26 => (nm ((1 : Int32) + r26) fun x27 => (bd0 (F_X4_come M2 r7 r13 x20 x27) fun r30 M29 => (nm (fun (s31 : Int32) (M32 : MS) => (if ¬ s31 = 0 then (nm (l4_1 + (1 : Int32)) fun x35 => (F_L_come_l3 a2 a3 xs L n3 x35 M32)) else (some ((0 : Int32), M32)))) fun j248_32 => (if ¬ r30 = l4_1 then (j248_32 (0 : Int32) M29) else (bd0 (F_X4_fighter M29 l4_1 (0 : Int32)) fun r39 M38 => (if ¬ r39 = r7 then (j248_32 (0 : Int32) M38) else (bd0 (F_X4_fighter M38 l4_1 (1 : Int32)) fun r43 M42 => (if ¬ r43 = r13 then (j248_32 (0 : Int32) M42) else (bd0 (F_X4_fighter M42 l4_1 (2 : Int32)) fun r47 M46 => (if ¬ r47 = x20 then (j248_32 (0 : Int32) M46) else (bd0 (F_X4_fighter M46 l4_1 (3 : Int32)) fun r51 M50 => (if ¬ r51 = x20 then (j248_32 (0 : Int32) M50) else (bd0 (F_X4_fighter M50 l4_1 (4 : Int32)) fun r55 M54 => (if ¬ r55 = x27 then (j248_32 (0 : Int32) M54) else (bd0 (F_X4_fighter M54 l4_1 (5 : Int32)) fun r59 M58 => (if ¬ r59 = ((9 : Int32) * r7) then (j248_32 (0 : Int32) M58) else (bd0 (F_X4_fighter M58 l4_1 (7 : Int32)) fun r63 M62 => (if ¬ r63 = 0 then (j248_32 (0 : Int32) M62) else (bd0 (F_X4_readied M62 l4_1 (0 : Int32)) fun r67 M66 => (if ¬ r67 = (-1 : Int32) then (j248_32 (0 : Int32) M66) else (bd0 (F_X4_count M66 (0 : Int32)) fun r71 M70 => (if ¬ r71 = (l4_1 + (1 : Int32)) then (j248_32 (0 : Int32) M70) else (j248_32 (1 : Int32) M70))))))))))))))))))))))))) fun j111_23 => (if ¬ r22 = 0 then (j111_23 (6 : Int32)) else (j111_23 (20 : Int32)))))))) fun j80_16 => (if ¬ r15 = 0 then (j80_16 (20 : Int32)) else (j80_16 (99 : Int32))))))) fun j50_10 => (if ¬ r9 = 0 then (j50_10 (6 : Int32)) else (j50_10 (41 : Int32))))))))

def F_L_come (xs : Nat → Int32) (L : Nat) (M : MS) (a2 : Int32) (a3 : Int32) : Option (Int32 × MS) := (F_L_come_l3 a2 a3 xs L 8 (0 : Int32) M)

set_option maxHeartbeats 8000000 in
set_option maxRecDepth 100000 in
theorem k_L_come (l : Launch) (hst : l.stackTraces = false) (G : GG) (B0 : Nat) (sa : Nat × Nat × Nat) (b L : Nat) (xs : Nat → Int32) (M : MS) (a2 : Int32) (a3 : Int32) {r : Int32} {Mf : MS} (hF : F_L_come xs L M a2 a3 = some (r, Mf)) : LSc l yL_come (WS yL_come cL_come 11 (some .boolean)) (RmL 8 320) 320 G B0 sa b L xs [.ref (gad G 216), .ref b, .int a2, .int a3] M r Mf := by
  intro sz
  refine s_met (by decide +kernel) (Nat.le_of_ble_eq_true rfl) (fun p e s m below meth c ls hsz C0 hM hT hX hbl hbA hl => ?_)
  have hl : lv_has ls 11 [(0, .ref (gad G 216)), (1, .ref b), (2, .int a2), (3, .int a3)] := hl
  have C0 : CX p s m meth c ([.ref (gad G 216), .ref b, .int a2, .int a3] : List Value).toArray cL_come RL 11 (some .boolean) := C0
  rw [F_L_come] at hF
  refine lv_iconst (v := (0 : Int32)) C0.1 C0.2.1 dL_come_0 (by decide) ?_
  refine lv_istore (lv' := [(4, .int (0 : Int32)), (0, .ref (gad G 216)), (1, .ref b), (2, .int a2), (3, .int a3)]) C0.1 C0.2.1 dL_come_1 hl (by decide) rfl (fun ls hl => ?_)
  have L3 : ∀ (n : Nat) (l4_1 : Int32) (M2 : MS) (H : Heap) (locs : List Loc) (ls : Array Slot), n ≤ 8 → MX G M2 s H locs → lv_has ls 11 [(0, .ref (gad G 216)), (1, .ref b), (2, .int a2), (3, .int a3), (4, .int l4_1)] → F_L_come_l3 a2 a3 xs L n l4_1 M2 = some (r, Mf) → W p l e (RmL 8 320) s m ([.ref (gad G 216), .ref b, .int a2, .int a3] : List Value).toArray below meth c H locs (0 + 0 + 40 * (8 - n) + 0) (6 * (0 + 0 + 40 * (8 - n) + 0)) (QLI below ([.ref (gad G 216), .ref b, .int a2, .int a3] : List Value).toArray s G sz 320 r Mf) (F0 m 3 ls []) := by
    intro n
    induction n with
    | zero => intro l4_1 M2 H locs ls hn3 hM hl hF; rw [F_L_come_l3] at hF; cases hF
    | succ n3 ih3 =>
      intro l4_1 M2 H locs ls hn3 hM hl hF
      rw [F_L_come_l3] at hF
      refine lv_iload C0.1 C0.2.1 dL_come_3 (lv_at hl 4 rfl) ?_
      refine lv_iload_n C0.1 C0.2.1 dL_come_5 rfl (lv_at hl 3 rfl) ?_
      refine lv_icmp_ge (tgt := 263) C0.1 C0.2.1 dL_come_6 (by decide) (fun c3 => ?_) (fun c3 => ?_)
      · have hF := if_t c3 hF
        refine lv_iconst (v := (1 : Int32)) C0.1 C0.2.1 dL_come_263 (by decide) ?_
        obtain ⟨e8, e9⟩ := y_2 hF
        subst e8
        subst e9
        exact z_zret C0 hM hsz rfl (by omega) (by omega) dL_come_264
      · have hF := if_f c3 hF
        refine lv_aload_n C0.1 C0.2.1 dL_come_9 rfl (lv_at hl 1 rfl) ?_
        refine lv_iload_n C0.1 C0.2.1 dL_come_10 rfl (lv_at hl 2 rfl) ?_
        refine lv_iload C0.1 C0.2.1 dL_come_11 (lv_at hl 4 rfl) ?_
        refine lv_iadd C0.1 C0.2.1 dL_come_13 ?_
        obtain ⟨r5, h4, hF⟩ := bd_some hF
        refine z_cell (rest := []) C0 hM hT hX hbl hbA hl.1 (k_L_cell l G B0 sa b L xs M2 (a2 + l4_1) h4) cw_RL_10 rfl rfl ⟨Nat.le_of_ble_eq_true rfl, Nat.le_of_ble_eq_true rfl⟩ rfl (Nat.le_of_ble_eq_true rfl) ⟨by show _ ≤ 320; omega, by show _ ≤ 6 * 320; omega⟩ (0 + 0 + 40 * (8 - (n3 + 1)) + 0) (6 * (0 + 0 + 40 * (8 - (n3 + 1)) + 0)) (by omega) (by omega) dL_come_14 (fun H locs hM => ?_)
        refine lv_istore (lv' := [(5, .int r5), (0, .ref (gad G 216)), (1, .ref b), (2, .int a2), (3, .int a3), (4, .int l4_1)]) C0.1 C0.2.1 dL_come_17 hl (by decide) rfl (fun ls hl => ?_)
        refine lv_iload C0.1 C0.2.1 dL_come_19 (lv_at hl 0 rfl) ?_
        refine lv_iconst (v := (2 : Int32)) C0.1 C0.2.1 dL_come_21 (by decide) ?_
        obtain ⟨r7, h6, hF⟩ := bd_some hF
        refine y_si (rest := []) C0 hM hl.1 (k_L_low l G M2 r5 (2 : Int32) h6) cw_RL_16 rfl rfl ⟨Nat.le_of_ble_eq_true rfl, Nat.le_of_ble_eq_true rfl⟩ rfl (Nat.le_of_ble_eq_true rfl) ⟨by show _ ≤ 320; omega, by show _ ≤ 6 * 320; omega⟩ dL_come_22 (fun H locs hM => ?_)
        refine lv_istore (lv' := [(6, .int r7), (5, .int r5), (0, .ref (gad G 216)), (1, .ref b), (2, .int a2), (3, .int a3), (4, .int l4_1)]) C0.1 C0.2.1 dL_come_25 hl (by decide) rfl (fun ls hl => ?_)
        refine lv_iload C0.1 C0.2.1 dL_come_27 (lv_at hl 1 rfl) ?_
        refine lv_iconst (v := (1 : Int32)) C0.1 C0.2.1 dL_come_29 (by decide) ?_
        refine lv_ishr C0.1 C0.2.1 dL_come_30 ?_
        refine lv_iload C0.1 C0.2.1 dL_come_31 (lv_at hl 1 rfl) ?_
        refine lv_bipush (v := (7 : Int32)) C0.1 C0.2.1 dL_come_33 (by decide) ?_
        refine lv_ishr C0.1 C0.2.1 dL_come_35 ?_
        refine lv_iconst (v := (2 : Int32)) C0.1 C0.2.1 dL_come_36 (by decide) ?_
        obtain ⟨r9, h8, hF⟩ := bd_some hF
        refine y_si (rest := [.int (r5 >>> ((1 : Int32) &&& 31))]) C0 hM hl.1 (k_L_low l G M2 (r5 >>> ((7 : Int32) &&& 31)) (2 : Int32) h8) cw_RL_16 rfl rfl ⟨Nat.le_of_ble_eq_true rfl, Nat.le_of_ble_eq_true rfl⟩ rfl (Nat.le_of_ble_eq_true rfl) ⟨by show _ ≤ 320; omega, by show _ ≤ 6 * 320; omega⟩ dL_come_37 (fun H locs hM => ?_)
        obtain ⟨j50_10, ej50_10, hF⟩ := nm_some hF
        have J50 : ∀ (s10 : Int32) (H : Heap) (locs : List Loc) (ls : Array Slot), MX G M2 s H locs → lv_has ls 11 [(0, .ref (gad G 216)), (1, .ref b), (2, .int a2), (3, .int a3), (4, .int l4_1), (5, .int r5), (6, .int r7)] → j50_10 s10 = some (r, Mf) → W p l e (RmL 8 320) s m ([.ref (gad G 216), .ref b, .int a2, .int a3] : List Value).toArray below meth c H locs (0 + 0 + 40 * (8 - (n3 + 1)) + 0) (6 * (0 + 0 + 40 * (8 - (n3 + 1)) + 0)) (QLI below ([.ref (gad G 216), .ref b, .int a2, .int a3] : List Value).toArray s G sz 320 r Mf) (F0 m 50 ls [.int s10, .int (r5 >>> ((1 : Int32) &&& 31))]) := by
          intro s10 H locs ls hM hl hF
          rw [ej50_10] at hF
          obtain ⟨r13, h12, hF⟩ := bd_some hF
          refine y_si (rest := []) C0 hM hl.1 (k_L_low l G M2 (r5 >>> ((1 : Int32) &&& 31)) s10 h12) cw_RL_16 rfl rfl ⟨Nat.le_of_ble_eq_true rfl, Nat.le_of_ble_eq_true rfl⟩ rfl (Nat.le_of_ble_eq_true rfl) ⟨by show _ ≤ 320; omega, by show _ ≤ 6 * 320; omega⟩ dL_come_50 (fun H locs hM => ?_)
          refine lv_istore (lv' := [(7, .int r13), (0, .ref (gad G 216)), (1, .ref b), (2, .int a2), (3, .int a3), (4, .int l4_1), (5, .int r5), (6, .int r7)]) C0.1 C0.2.1 dL_come_53 hl (by decide) rfl (fun ls hl => ?_)
          refine lv_iconst (v := (1 : Int32)) C0.1 C0.2.1 dL_come_55 (by decide) ?_
          refine lv_iload C0.1 C0.2.1 dL_come_56 (lv_at hl 6 rfl) ?_
          refine lv_bipush (v := (8 : Int32)) C0.1 C0.2.1 dL_come_58 (by decide) ?_
          refine lv_ishr C0.1 C0.2.1 dL_come_60 ?_
          refine lv_iload C0.1 C0.2.1 dL_come_61 (lv_at hl 6 rfl) ?_
          refine lv_bipush (v := (15 : Int32)) C0.1 C0.2.1 dL_come_63 (by decide) ?_
          refine lv_ishr C0.1 C0.2.1 dL_come_65 ?_
          refine lv_iconst (v := (3 : Int32)) C0.1 C0.2.1 dL_come_66 (by decide) ?_
          obtain ⟨r15, h14, hF⟩ := bd_some hF
          refine y_si (rest := [.int (r5 >>> ((8 : Int32) &&& 31)), .int (1 : Int32)]) C0 hM hl.1 (k_L_low l G M2 (r5 >>> ((15 : Int32) &&& 31)) (3 : Int32) h14) cw_RL_16 rfl rfl ⟨Nat.le_of_ble_eq_true rfl, Nat.le_of_ble_eq_true rfl⟩ rfl (Nat.le_of_ble_eq_true rfl) ⟨by show _ ≤ 320; omega, by show _ ≤ 6 * 320; omega⟩ dL_come_67 (fun H locs hM => ?_)
          obtain ⟨j80_16, ej80_16, hF⟩ := nm_some hF
          have J80 : ∀ (s16 : Int32) (H : Heap) (locs : List Loc) (ls : Array Slot), MX G M2 s H locs → lv_has ls 11 [(0, .ref (gad G 216)), (1, .ref b), (2, .int a2), (3, .int a3), (4, .int l4_1), (5, .int r5), (6, .int r7), (7, .int r13)] → j80_16 s16 = some (r, Mf) → W p l e (RmL 8 320) s m ([.ref (gad G 216), .ref b, .int a2, .int a3] : List Value).toArray below meth c H locs (0 + 0 + 40 * (8 - (n3 + 1)) + 0) (6 * (0 + 0 + 40 * (8 - (n3 + 1)) + 0)) (QLI below ([.ref (gad G 216), .ref b, .int a2, .int a3] : List Value).toArray s G sz 320 r Mf) (F0 m 80 ls [.int s16, .int (r5 >>> ((8 : Int32) &&& 31)), .int (1 : Int32)]) := by
            intro s16 H locs ls hM hl hF
            rw [ej80_16] at hF
            obtain ⟨r19, h18, hF⟩ := bd_some hF
            refine y_si (rest := [.int (1 : Int32)]) C0 hM hl.1 (k_L_low l G M2 (r5 >>> ((8 : Int32) &&& 31)) s16 h18) cw_RL_16 rfl rfl ⟨Nat.le_of_ble_eq_true rfl, Nat.le_of_ble_eq_true rfl⟩ rfl (Nat.le_of_ble_eq_true rfl) ⟨by show _ ≤ 320; omega, by show _ ≤ 6 * 320; omega⟩ dL_come_80 (fun H locs hM => ?_)
            refine lv_iadd C0.1 C0.2.1 dL_come_83 ?_
            obtain ⟨x20, ex20, hF⟩ := nm_some hF
            refine y_topi ex20 ?_
            refine lv_istore (lv' := [(8, .int x20), (0, .ref (gad G 216)), (1, .ref b), (2, .int a2), (3, .int a3), (4, .int l4_1), (5, .int r5), (6, .int r7), (7, .int r13)]) C0.1 C0.2.1 dL_come_84 hl (by decide) rfl (fun ls hl => ?_)
            refine lv_iconst (v := (1 : Int32)) C0.1 C0.2.1 dL_come_86 (by decide) ?_
            refine lv_iload C0.1 C0.2.1 dL_come_87 (lv_at hl 6 rfl) ?_
            refine lv_bipush (v := (17 : Int32)) C0.1 C0.2.1 dL_come_89 (by decide) ?_
            refine lv_ishr C0.1 C0.2.1 dL_come_91 ?_
            refine lv_iload C0.1 C0.2.1 dL_come_92 (lv_at hl 6 rfl) ?_
            refine lv_bipush (v := (22 : Int32)) C0.1 C0.2.1 dL_come_94 (by decide) ?_
            refine lv_ishr C0.1 C0.2.1 dL_come_96 ?_
            refine lv_iconst (v := (2 : Int32)) C0.1 C0.2.1 dL_come_97 (by decide) ?_
            obtain ⟨r22, h21, hF⟩ := bd_some hF
            refine y_si (rest := [.int (r5 >>> ((17 : Int32) &&& 31)), .int (1 : Int32)]) C0 hM hl.1 (k_L_low l G M2 (r5 >>> ((22 : Int32) &&& 31)) (2 : Int32) h21) cw_RL_16 rfl rfl ⟨Nat.le_of_ble_eq_true rfl, Nat.le_of_ble_eq_true rfl⟩ rfl (Nat.le_of_ble_eq_true rfl) ⟨by show _ ≤ 320; omega, by show _ ≤ 6 * 320; omega⟩ dL_come_98 (fun H locs hM => ?_)
            obtain ⟨j111_23, ej111_23, hF⟩ := nm_some hF
            have J111 : ∀ (s23 : Int32) (H : Heap) (locs : List Loc) (ls : Array Slot), MX G M2 s H locs → lv_has ls 11 [(0, .ref (gad G 216)), (1, .ref b), (2, .int a2), (3, .int a3), (4, .int l4_1), (5, .int r5), (6, .int r7), (7, .int r13), (8, .int x20)] → j111_23 s23 = some (r, Mf) → W p l e (RmL 8 320) s m ([.ref (gad G 216), .ref b, .int a2, .int a3] : List Value).toArray below meth c H locs (0 + 0 + 40 * (8 - (n3 + 1)) + 0) (6 * (0 + 0 + 40 * (8 - (n3 + 1)) + 0)) (QLI below ([.ref (gad G 216), .ref b, .int a2, .int a3] : List Value).toArray s G sz 320 r Mf) (F0 m 111 ls [.int s23, .int (r5 >>> ((17 : Int32) &&& 31)), .int (1 : Int32)]) := by
              intro s23 H locs ls hM hl hF
              rw [ej111_23] at hF
              obtain ⟨r26, h25, hF⟩ := bd_some hF
              refine y_si (rest := [.int (1 : Int32)]) C0 hM hl.1 (k_L_low l G M2 (r5 >>> ((17 : Int32) &&& 31)) s23 h25) cw_RL_16 rfl rfl ⟨Nat.le_of_ble_eq_true rfl, Nat.le_of_ble_eq_true rfl⟩ rfl (Nat.le_of_ble_eq_true rfl) ⟨by show _ ≤ 320; omega, by show _ ≤ 6 * 320; omega⟩ dL_come_111 (fun H locs hM => ?_)
              refine lv_iadd C0.1 C0.2.1 dL_come_114 ?_
              obtain ⟨x27, ex27, hF⟩ := nm_some hF
              refine y_topi ex27 ?_
              refine lv_istore (lv' := [(9, .int x27), (0, .ref (gad G 216)), (1, .ref b), (2, .int a2), (3, .int a3), (4, .int l4_1), (5, .int r5), (6, .int r7), (7, .int r13), (8, .int x20)]) C0.1 C0.2.1 dL_come_115 hl (by decide) rfl (fun ls hl => ?_)
              refine lv_aload_n C0.1 C0.2.1 dL_come_117 rfl (lv_at hl 1 rfl) ?_
              refine lv_iload C0.1 C0.2.1 dL_come_118 (lv_at hl 7 rfl) ?_
              refine lv_iload C0.1 C0.2.1 dL_come_120 (lv_at hl 8 rfl) ?_
              refine lv_iload C0.1 C0.2.1 dL_come_122 (lv_at hl 9 rfl) ?_
              refine lv_iload C0.1 C0.2.1 dL_come_124 (lv_at hl 0 rfl) ?_
              obtain ⟨r30, M29, h28, hF⟩ := bd0_some hF
              refine z_vi (rest := []) (0 + 0 + 40 * (8 - (n3 + 1)) + 4) (6 * (0 + 0 + 40 * (8 - (n3 + 1)) + 4)) C0 hM hT hl.1 (k_X4_come l hst G B0 sa M2 r7 r13 x20 x27 h28) cw_RL_20 rfl rfl ⟨Nat.le_of_ble_eq_true rfl, Nat.le_of_ble_eq_true rfl⟩ rfl (Nat.le_of_ble_eq_true rfl) ⟨by show _ ≤ 320; omega, by show _ ≤ 6 * 320; omega⟩ (by omega) (by omega) dL_come_126 (fun H locs hM => ?_)
              refine lv_iload C0.1 C0.2.1 dL_come_129 (lv_at hl 5 rfl) ?_
              obtain ⟨j248_32, ej248_32, hF⟩ := nm_some hF
              have J248 : ∀ (s31 : Int32) (M32 : MS) (H : Heap) (locs : List Loc) (ls : Array Slot), MX G M32 s H locs → lv_has ls 11 [(0, .ref (gad G 216)), (1, .ref b), (2, .int a2), (3, .int a3), (4, .int l4_1), (5, .int r5), (6, .int r7), (7, .int r13), (8, .int x20), (9, .int x27)] → j248_32 s31 M32 = some (r, Mf) → W p l e (RmL 8 320) s m ([.ref (gad G 216), .ref b, .int a2, .int a3] : List Value).toArray below meth c H locs (0 + 0 + 40 * (8 - (n3 + 1)) + 40) (6 * (0 + 0 + 40 * (8 - (n3 + 1)) + 40)) (QLI below ([.ref (gad G 216), .ref b, .int a2, .int a3] : List Value).toArray s G sz 320 r Mf) (F0 m 248 ls [.int s31]) := by
                intro s31 M32 H locs ls hM hl hF
                rw [ej248_32] at hF
                refine lv_istore (lv' := [(10, .int s31), (0, .ref (gad G 216)), (1, .ref b), (2, .int a2), (3, .int a3), (4, .int l4_1), (5, .int r5), (6, .int r7), (7, .int r13), (8, .int x20), (9, .int x27)]) C0.1 C0.2.1 dL_come_248 hl (by decide) rfl (fun ls hl => ?_)
                refine lv_iload C0.1 C0.2.1 dL_come_250 (lv_at hl 0 rfl) ?_
                refine lv_if_ne (tgt := 257) C0.1 C0.2.1 dL_come_252 (by decide) (fun c34 => ?_) (fun c34 => ?_)
                · have hF := if_t c34 hF
                  obtain ⟨x35, ex35, hF⟩ := nm_some hF
                  refine lv_iinc (v := x35) (lv' := [(4, .int x35), (10, .int s31), (0, .ref (gad G 216)), (1, .ref b), (2, .int a2), (3, .int a3), (5, .int r5), (6, .int r7), (7, .int r13), (8, .int x20), (9, .int x27)]) C0.1 C0.2.1 dL_come_257 hl (k := 5) rfl (by rw [ex35]; rfl) (by decide) rfl (fun ls hl => ?_)
                  refine lv_goto (tgt := 3) C0.1 C0.2.1 dL_come_260 (by decide) ?_
                  refine W.widen (k := 0 + 0 + 40 * (8 - n3) + 0) (n := 6 * (0 + 0 + 40 * (8 - n3) + 0)) (by omega) (by omega) ?_
                  exact ih3 x35 M32 _ _ _ (by omega) hM (lv_sub hl [2, 3, 4, 5, 0] rfl) hF
                · have hF := if_f (fun q => q c34) hF
                  refine lv_iconst (v := (0 : Int32)) C0.1 C0.2.1 dL_come_255 (by decide) ?_
                  obtain ⟨e8, e9⟩ := y_2 hF
                  subst e8
                  subst e9
                  exact z_zret C0 hM hsz rfl (by omega) (by omega) dL_come_256
              refine lv_icmp_ne (tgt := 247) C0.1 C0.2.1 dL_come_131 (by decide) (fun c36 => ?_) (fun c36 => ?_)
              · have hF := if_t c36 hF
                refine lv_iconst (v := (0 : Int32)) C0.1 C0.2.1 dL_come_247 (by decide) ?_
                refine W.widen (k := 0 + 0 + 40 * (8 - (n3 + 1)) + 40) (n := 6 * (0 + 0 + 40 * (8 - (n3 + 1)) + 40)) (by omega) (by omega) ?_
                exact J248 (0 : Int32) M29 _ _ _ hM (lv_sub hl [1, 2, 3, 4, 5, 6, 7, 8, 9, 0] rfl) hF
              · have hF := if_f (fun q => q c36) hF
                refine lv_aload_n C0.1 C0.2.1 dL_come_134 rfl (lv_at hl 1 rfl) ?_
                refine lv_iload C0.1 C0.2.1 dL_come_135 (lv_at hl 5 rfl) ?_
                refine lv_iconst (v := (0 : Int32)) C0.1 C0.2.1 dL_come_137 (by decide) ?_
                obtain ⟨r39, M38, h37, hF⟩ := bd0_some hF
                refine z_vi (rest := []) (0 + 0 + 40 * (8 - (n3 + 1)) + 8) (6 * (0 + 0 + 40 * (8 - (n3 + 1)) + 8)) C0 hM hT hl.1 (k_X4_fighter l hst G B0 sa M29 l4_1 (0 : Int32) h37) cw_RL_26 rfl rfl ⟨Nat.le_of_ble_eq_true rfl, Nat.le_of_ble_eq_true rfl⟩ rfl (Nat.le_of_ble_eq_true rfl) ⟨by show _ ≤ 320; omega, by show _ ≤ 6 * 320; omega⟩ (by omega) (by omega) dL_come_138 (fun H locs hM => ?_)
                refine lv_iload C0.1 C0.2.1 dL_come_141 (lv_at hl 7 rfl) ?_
                refine lv_icmp_ne (tgt := 247) C0.1 C0.2.1 dL_come_143 (by decide) (fun c40 => ?_) (fun c40 => ?_)
                · have hF := if_t c40 hF
                  refine lv_iconst (v := (0 : Int32)) C0.1 C0.2.1 dL_come_247 (by decide) ?_
                  refine W.widen (k := 0 + 0 + 40 * (8 - (n3 + 1)) + 40) (n := 6 * (0 + 0 + 40 * (8 - (n3 + 1)) + 40)) (by omega) (by omega) ?_
                  exact J248 (0 : Int32) M38 _ _ _ hM (lv_sub hl [1, 2, 3, 4, 5, 6, 7, 8, 9, 0] rfl) hF
                · have hF := if_f (fun q => q c40) hF
                  refine lv_aload_n C0.1 C0.2.1 dL_come_146 rfl (lv_at hl 1 rfl) ?_
                  refine lv_iload C0.1 C0.2.1 dL_come_147 (lv_at hl 5 rfl) ?_
                  refine lv_iconst (v := (1 : Int32)) C0.1 C0.2.1 dL_come_149 (by decide) ?_
                  obtain ⟨r43, M42, h41, hF⟩ := bd0_some hF
                  refine z_vi (rest := []) (0 + 0 + 40 * (8 - (n3 + 1)) + 12) (6 * (0 + 0 + 40 * (8 - (n3 + 1)) + 12)) C0 hM hT hl.1 (k_X4_fighter l hst G B0 sa M38 l4_1 (1 : Int32) h41) cw_RL_26 rfl rfl ⟨Nat.le_of_ble_eq_true rfl, Nat.le_of_ble_eq_true rfl⟩ rfl (Nat.le_of_ble_eq_true rfl) ⟨by show _ ≤ 320; omega, by show _ ≤ 6 * 320; omega⟩ (by omega) (by omega) dL_come_150 (fun H locs hM => ?_)
                  refine lv_iload C0.1 C0.2.1 dL_come_153 (lv_at hl 8 rfl) ?_
                  refine lv_icmp_ne (tgt := 247) C0.1 C0.2.1 dL_come_155 (by decide) (fun c44 => ?_) (fun c44 => ?_)
                  · have hF := if_t c44 hF
                    refine lv_iconst (v := (0 : Int32)) C0.1 C0.2.1 dL_come_247 (by decide) ?_
                    refine W.widen (k := 0 + 0 + 40 * (8 - (n3 + 1)) + 40) (n := 6 * (0 + 0 + 40 * (8 - (n3 + 1)) + 40)) (by omega) (by omega) ?_
                    exact J248 (0 : Int32) M42 _ _ _ hM (lv_sub hl [1, 2, 3, 4, 5, 6, 7, 8, 9, 0] rfl) hF
                  · have hF := if_f (fun q => q c44) hF
                    refine lv_aload_n C0.1 C0.2.1 dL_come_158 rfl (lv_at hl 1 rfl) ?_
                    refine lv_iload C0.1 C0.2.1 dL_come_159 (lv_at hl 5 rfl) ?_
                    refine lv_iconst (v := (2 : Int32)) C0.1 C0.2.1 dL_come_161 (by decide) ?_
                    obtain ⟨r47, M46, h45, hF⟩ := bd0_some hF
                    refine z_vi (rest := []) (0 + 0 + 40 * (8 - (n3 + 1)) + 16) (6 * (0 + 0 + 40 * (8 - (n3 + 1)) + 16)) C0 hM hT hl.1 (k_X4_fighter l hst G B0 sa M42 l4_1 (2 : Int32) h45) cw_RL_26 rfl rfl ⟨Nat.le_of_ble_eq_true rfl, Nat.le_of_ble_eq_true rfl⟩ rfl (Nat.le_of_ble_eq_true rfl) ⟨by show _ ≤ 320; omega, by show _ ≤ 6 * 320; omega⟩ (by omega) (by omega) dL_come_162 (fun H locs hM => ?_)
                    refine lv_iload C0.1 C0.2.1 dL_come_165 (lv_at hl 9 rfl) ?_
                    refine lv_icmp_ne (tgt := 247) C0.1 C0.2.1 dL_come_167 (by decide) (fun c48 => ?_) (fun c48 => ?_)
                    · have hF := if_t c48 hF
                      refine lv_iconst (v := (0 : Int32)) C0.1 C0.2.1 dL_come_247 (by decide) ?_
                      refine W.widen (k := 0 + 0 + 40 * (8 - (n3 + 1)) + 40) (n := 6 * (0 + 0 + 40 * (8 - (n3 + 1)) + 40)) (by omega) (by omega) ?_
                      exact J248 (0 : Int32) M46 _ _ _ hM (lv_sub hl [1, 2, 3, 4, 5, 6, 7, 8, 9, 0] rfl) hF
                    · have hF := if_f (fun q => q c48) hF
                      refine lv_aload_n C0.1 C0.2.1 dL_come_170 rfl (lv_at hl 1 rfl) ?_
                      refine lv_iload C0.1 C0.2.1 dL_come_171 (lv_at hl 5 rfl) ?_
                      refine lv_iconst (v := (3 : Int32)) C0.1 C0.2.1 dL_come_173 (by decide) ?_
                      obtain ⟨r51, M50, h49, hF⟩ := bd0_some hF
                      refine z_vi (rest := []) (0 + 0 + 40 * (8 - (n3 + 1)) + 20) (6 * (0 + 0 + 40 * (8 - (n3 + 1)) + 20)) C0 hM hT hl.1 (k_X4_fighter l hst G B0 sa M46 l4_1 (3 : Int32) h49) cw_RL_26 rfl rfl ⟨Nat.le_of_ble_eq_true rfl, Nat.le_of_ble_eq_true rfl⟩ rfl (Nat.le_of_ble_eq_true rfl) ⟨by show _ ≤ 320; omega, by show _ ≤ 6 * 320; omega⟩ (by omega) (by omega) dL_come_174 (fun H locs hM => ?_)
                      refine lv_iload C0.1 C0.2.1 dL_come_177 (lv_at hl 9 rfl) ?_
                      refine lv_icmp_ne (tgt := 247) C0.1 C0.2.1 dL_come_179 (by decide) (fun c52 => ?_) (fun c52 => ?_)
                      · have hF := if_t c52 hF
                        refine lv_iconst (v := (0 : Int32)) C0.1 C0.2.1 dL_come_247 (by decide) ?_
                        refine W.widen (k := 0 + 0 + 40 * (8 - (n3 + 1)) + 40) (n := 6 * (0 + 0 + 40 * (8 - (n3 + 1)) + 40)) (by omega) (by omega) ?_
                        exact J248 (0 : Int32) M50 _ _ _ hM (lv_sub hl [1, 2, 3, 4, 5, 6, 7, 8, 9, 0] rfl) hF
                      · have hF := if_f (fun q => q c52) hF
                        refine lv_aload_n C0.1 C0.2.1 dL_come_182 rfl (lv_at hl 1 rfl) ?_
                        refine lv_iload C0.1 C0.2.1 dL_come_183 (lv_at hl 5 rfl) ?_
                        refine lv_iconst (v := (4 : Int32)) C0.1 C0.2.1 dL_come_185 (by decide) ?_
                        obtain ⟨r55, M54, h53, hF⟩ := bd0_some hF
                        refine z_vi (rest := []) (0 + 0 + 40 * (8 - (n3 + 1)) + 24) (6 * (0 + 0 + 40 * (8 - (n3 + 1)) + 24)) C0 hM hT hl.1 (k_X4_fighter l hst G B0 sa M50 l4_1 (4 : Int32) h53) cw_RL_26 rfl rfl ⟨Nat.le_of_ble_eq_true rfl, Nat.le_of_ble_eq_true rfl⟩ rfl (Nat.le_of_ble_eq_true rfl) ⟨by show _ ≤ 320; omega, by show _ ≤ 6 * 320; omega⟩ (by omega) (by omega) dL_come_186 (fun H locs hM => ?_)
                        refine lv_iload C0.1 C0.2.1 dL_come_189 (lv_at hl 0 rfl) ?_
                        refine lv_icmp_ne (tgt := 247) C0.1 C0.2.1 dL_come_191 (by decide) (fun c56 => ?_) (fun c56 => ?_)
                        · have hF := if_t c56 hF
                          refine lv_iconst (v := (0 : Int32)) C0.1 C0.2.1 dL_come_247 (by decide) ?_
                          refine W.widen (k := 0 + 0 + 40 * (8 - (n3 + 1)) + 40) (n := 6 * (0 + 0 + 40 * (8 - (n3 + 1)) + 40)) (by omega) (by omega) ?_
                          exact J248 (0 : Int32) M54 _ _ _ hM (lv_sub hl [1, 2, 3, 4, 5, 6, 7, 8, 9, 0] rfl) hF
                        · have hF := if_f (fun q => q c56) hF
                          refine lv_aload_n C0.1 C0.2.1 dL_come_194 rfl (lv_at hl 1 rfl) ?_
                          refine lv_iload C0.1 C0.2.1 dL_come_195 (lv_at hl 5 rfl) ?_
                          refine lv_iconst (v := (5 : Int32)) C0.1 C0.2.1 dL_come_197 (by decide) ?_
                          obtain ⟨r59, M58, h57, hF⟩ := bd0_some hF
                          refine z_vi (rest := []) (0 + 0 + 40 * (8 - (n3 + 1)) + 28) (6 * (0 + 0 + 40 * (8 - (n3 + 1)) + 28)) C0 hM hT hl.1 (k_X4_fighter l hst G B0 sa M54 l4_1 (5 : Int32) h57) cw_RL_26 rfl rfl ⟨Nat.le_of_ble_eq_true rfl, Nat.le_of_ble_eq_true rfl⟩ rfl (Nat.le_of_ble_eq_true rfl) ⟨by show _ ≤ 320; omega, by show _ ≤ 6 * 320; omega⟩ (by omega) (by omega) dL_come_198 (fun H locs hM => ?_)
                          refine lv_bipush (v := (9 : Int32)) C0.1 C0.2.1 dL_come_201 (by decide) ?_
                          refine lv_iload C0.1 C0.2.1 dL_come_203 (lv_at hl 7 rfl) ?_
                          refine lv_imul C0.1 C0.2.1 dL_come_205 ?_
                          refine lv_icmp_ne (tgt := 247) C0.1 C0.2.1 dL_come_206 (by decide) (fun c60 => ?_) (fun c60 => ?_)
                          · have hF := if_t c60 hF
                            refine lv_iconst (v := (0 : Int32)) C0.1 C0.2.1 dL_come_247 (by decide) ?_
                            refine W.widen (k := 0 + 0 + 40 * (8 - (n3 + 1)) + 40) (n := 6 * (0 + 0 + 40 * (8 - (n3 + 1)) + 40)) (by omega) (by omega) ?_
                            exact J248 (0 : Int32) M58 _ _ _ hM (lv_sub hl [1, 2, 3, 4, 5, 6, 7, 8, 9, 0] rfl) hF
                          · have hF := if_f (fun q => q c60) hF
                            refine lv_aload_n C0.1 C0.2.1 dL_come_209 rfl (lv_at hl 1 rfl) ?_
                            refine lv_iload C0.1 C0.2.1 dL_come_210 (lv_at hl 5 rfl) ?_
                            refine lv_bipush (v := (7 : Int32)) C0.1 C0.2.1 dL_come_212 (by decide) ?_
                            obtain ⟨r63, M62, h61, hF⟩ := bd0_some hF
                            refine z_vi (rest := []) (0 + 0 + 40 * (8 - (n3 + 1)) + 32) (6 * (0 + 0 + 40 * (8 - (n3 + 1)) + 32)) C0 hM hT hl.1 (k_X4_fighter l hst G B0 sa M58 l4_1 (7 : Int32) h61) cw_RL_26 rfl rfl ⟨Nat.le_of_ble_eq_true rfl, Nat.le_of_ble_eq_true rfl⟩ rfl (Nat.le_of_ble_eq_true rfl) ⟨by show _ ≤ 320; omega, by show _ ≤ 6 * 320; omega⟩ (by omega) (by omega) dL_come_214 (fun H locs hM => ?_)
                            refine lv_if_ne (tgt := 247) C0.1 C0.2.1 dL_come_217 (by decide) (fun c64 => ?_) (fun c64 => ?_)
                            · have hF := if_t c64 hF
                              refine lv_iconst (v := (0 : Int32)) C0.1 C0.2.1 dL_come_247 (by decide) ?_
                              refine W.widen (k := 0 + 0 + 40 * (8 - (n3 + 1)) + 40) (n := 6 * (0 + 0 + 40 * (8 - (n3 + 1)) + 40)) (by omega) (by omega) ?_
                              exact J248 (0 : Int32) M62 _ _ _ hM (lv_sub hl [1, 2, 3, 4, 5, 6, 7, 8, 9, 0] rfl) hF
                            · have hF := if_f (fun q => q c64) hF
                              refine lv_aload_n C0.1 C0.2.1 dL_come_220 rfl (lv_at hl 1 rfl) ?_
                              refine lv_iload C0.1 C0.2.1 dL_come_221 (lv_at hl 5 rfl) ?_
                              refine lv_iconst (v := (0 : Int32)) C0.1 C0.2.1 dL_come_223 (by decide) ?_
                              obtain ⟨r67, M66, h65, hF⟩ := bd0_some hF
                              refine z_vi (rest := []) (0 + 0 + 40 * (8 - (n3 + 1)) + 36) (6 * (0 + 0 + 40 * (8 - (n3 + 1)) + 36)) C0 hM hT hl.1 (k_X4_readied l hst G B0 sa M62 l4_1 (0 : Int32) h65) cw_RL_29 rfl rfl ⟨Nat.le_of_ble_eq_true rfl, Nat.le_of_ble_eq_true rfl⟩ rfl (Nat.le_of_ble_eq_true rfl) ⟨by show _ ≤ 320; omega, by show _ ≤ 6 * 320; omega⟩ (by omega) (by omega) dL_come_224 (fun H locs hM => ?_)
                              refine lv_iconst (v := (-1 : Int32)) C0.1 C0.2.1 dL_come_227 (by decide) ?_
                              refine lv_icmp_ne (tgt := 247) C0.1 C0.2.1 dL_come_228 (by decide) (fun c68 => ?_) (fun c68 => ?_)
                              · have hF := if_t c68 hF
                                refine lv_iconst (v := (0 : Int32)) C0.1 C0.2.1 dL_come_247 (by decide) ?_
                                refine W.widen (k := 0 + 0 + 40 * (8 - (n3 + 1)) + 40) (n := 6 * (0 + 0 + 40 * (8 - (n3 + 1)) + 40)) (by omega) (by omega) ?_
                                exact J248 (0 : Int32) M66 _ _ _ hM (lv_sub hl [1, 2, 3, 4, 5, 6, 7, 8, 9, 0] rfl) hF
                              · have hF := if_f (fun q => q c68) hF
                                refine lv_aload_n C0.1 C0.2.1 dL_come_231 rfl (lv_at hl 1 rfl) ?_
                                refine lv_iconst (v := (0 : Int32)) C0.1 C0.2.1 dL_come_232 (by decide) ?_
                                obtain ⟨r71, M70, h69, hF⟩ := bd0_some hF
                                refine z_vi (rest := []) (0 + 0 + 40 * (8 - (n3 + 1)) + 40) (6 * (0 + 0 + 40 * (8 - (n3 + 1)) + 40)) C0 hM hT hl.1 (k_X4_count l hst G B0 sa M66 (0 : Int32) h69) cw_RL_32 rfl rfl ⟨Nat.le_of_ble_eq_true rfl, Nat.le_of_ble_eq_true rfl⟩ rfl (Nat.le_of_ble_eq_true rfl) ⟨by show _ ≤ 320; omega, by show _ ≤ 6 * 320; omega⟩ (by omega) (by omega) dL_come_233 (fun H locs hM => ?_)
                                refine lv_iload C0.1 C0.2.1 dL_come_236 (lv_at hl 5 rfl) ?_
                                refine lv_iconst (v := (1 : Int32)) C0.1 C0.2.1 dL_come_238 (by decide) ?_
                                refine lv_iadd C0.1 C0.2.1 dL_come_239 ?_
                                refine lv_icmp_ne (tgt := 247) C0.1 C0.2.1 dL_come_240 (by decide) (fun c72 => ?_) (fun c72 => ?_)
                                · have hF := if_t c72 hF
                                  refine lv_iconst (v := (0 : Int32)) C0.1 C0.2.1 dL_come_247 (by decide) ?_
                                  refine W.widen (k := 0 + 0 + 40 * (8 - (n3 + 1)) + 40) (n := 6 * (0 + 0 + 40 * (8 - (n3 + 1)) + 40)) (by omega) (by omega) ?_
                                  exact J248 (0 : Int32) M70 _ _ _ hM (lv_sub hl [1, 2, 3, 4, 5, 6, 7, 8, 9, 0] rfl) hF
                                · have hF := if_f (fun q => q c72) hF
                                  refine lv_iconst (v := (1 : Int32)) C0.1 C0.2.1 dL_come_243 (by decide) ?_
                                  refine lv_goto (tgt := 248) C0.1 C0.2.1 dL_come_244 (by decide) ?_
                                  refine W.widen (k := 0 + 0 + 40 * (8 - (n3 + 1)) + 40) (n := 6 * (0 + 0 + 40 * (8 - (n3 + 1)) + 40)) (by omega) (by omega) ?_
                                  exact J248 (1 : Int32) M70 _ _ _ hM (lv_sub hl [1, 2, 3, 4, 5, 6, 7, 8, 9, 0] rfl) hF
            refine lv_if_ne (tgt := 109) C0.1 C0.2.1 dL_come_101 (by decide) (fun c73 => ?_) (fun c73 => ?_)
            · have hF := if_t c73 hF
              refine lv_bipush (v := (6 : Int32)) C0.1 C0.2.1 dL_come_109 (by decide) ?_
              refine W.widen (k := 0 + 0 + 40 * (8 - (n3 + 1)) + 0) (n := 6 * (0 + 0 + 40 * (8 - (n3 + 1)) + 0)) (by omega) (by omega) ?_
              exact J111 (6 : Int32) _ _ _ hM (lv_sub hl [1, 2, 3, 4, 5, 6, 7, 8, 0] rfl) hF
            · have hF := if_f (fun q => q c73) hF
              refine lv_bipush (v := (20 : Int32)) C0.1 C0.2.1 dL_come_104 (by decide) ?_
              refine lv_goto (tgt := 111) C0.1 C0.2.1 dL_come_106 (by decide) ?_
              refine W.widen (k := 0 + 0 + 40 * (8 - (n3 + 1)) + 0) (n := 6 * (0 + 0 + 40 * (8 - (n3 + 1)) + 0)) (by omega) (by omega) ?_
              exact J111 (20 : Int32) _ _ _ hM (lv_sub hl [1, 2, 3, 4, 5, 6, 7, 8, 0] rfl) hF
          refine lv_if_ne (tgt := 78) C0.1 C0.2.1 dL_come_70 (by decide) (fun c74 => ?_) (fun c74 => ?_)
          · have hF := if_t c74 hF
            refine lv_bipush (v := (20 : Int32)) C0.1 C0.2.1 dL_come_78 (by decide) ?_
            refine W.widen (k := 0 + 0 + 40 * (8 - (n3 + 1)) + 0) (n := 6 * (0 + 0 + 40 * (8 - (n3 + 1)) + 0)) (by omega) (by omega) ?_
            exact J80 (20 : Int32) _ _ _ hM (lv_sub hl [1, 2, 3, 4, 5, 6, 7, 0] rfl) hF
          · have hF := if_f (fun q => q c74) hF
            refine lv_bipush (v := (99 : Int32)) C0.1 C0.2.1 dL_come_73 (by decide) ?_
            refine lv_goto (tgt := 80) C0.1 C0.2.1 dL_come_75 (by decide) ?_
            refine W.widen (k := 0 + 0 + 40 * (8 - (n3 + 1)) + 0) (n := 6 * (0 + 0 + 40 * (8 - (n3 + 1)) + 0)) (by omega) (by omega) ?_
            exact J80 (99 : Int32) _ _ _ hM (lv_sub hl [1, 2, 3, 4, 5, 6, 7, 0] rfl) hF
        refine lv_if_ne (tgt := 48) C0.1 C0.2.1 dL_come_40 (by decide) (fun c75 => ?_) (fun c75 => ?_)
        · have hF := if_t c75 hF
          refine lv_bipush (v := (6 : Int32)) C0.1 C0.2.1 dL_come_48 (by decide) ?_
          refine W.widen (k := 0 + 0 + 40 * (8 - (n3 + 1)) + 0) (n := 6 * (0 + 0 + 40 * (8 - (n3 + 1)) + 0)) (by omega) (by omega) ?_
          exact J50 (6 : Int32) _ _ _ hM (lv_sub hl [2, 3, 4, 5, 6, 1, 0] rfl) hF
        · have hF := if_f (fun q => q c75) hF
          refine lv_bipush (v := (41 : Int32)) C0.1 C0.2.1 dL_come_43 (by decide) ?_
          refine lv_goto (tgt := 50) C0.1 C0.2.1 dL_come_45 (by decide) ?_
          refine W.widen (k := 0 + 0 + 40 * (8 - (n3 + 1)) + 0) (n := 6 * (0 + 0 + 40 * (8 - (n3 + 1)) + 0)) (by omega) (by omega) ?_
          exact J50 (41 : Int32) _ _ _ hM (lv_sub hl [2, 3, 4, 5, 6, 1, 0] rfl) hF
  refine W.widen (k := 0 + 0 + 40 * (8 - 8) + 0) (n := 6 * (0 + 0 + 40 * (8 - 8) + 0)) (by omega) (by omega) ?_
  exact L3 8 (0 : Int32) M _ _ _ (by omega) hM (lv_sub hl [1, 2, 3, 4, 0] rfl) hF
