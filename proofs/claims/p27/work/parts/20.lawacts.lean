def F_L_can (M : MS) (a3 : Int32) (a4 : Int32) (a5 : Int32) : Option (Int32 × MS) := (nm (fun (s1 : Int32) => (nm (fun (s3 : Int32) => (if ¬ a4 = (1 : Int32) then (bd0 (F_X4_fighter M a3 (0 : Int32)) fun r8 M7 => (bd0 (F_X4_fighter M7 a5 (0 : Int32)) fun r11 M10 => (nm (fun (s12 : Int32) => (if a5 = a3 then (some ((0 : Int32), M10)) else (bd (F_L_lives M10 a5) fun r16 => (if r16 = 0 then (some ((0 : Int32), M10)) else (if ¬ a4 = (3 : Int32) then (if (2 : Int32) < s3 then (some ((0 : Int32), M10)) else (if a4 = 0 then (some ((1 : Int32), M10)) else (if s12 = 0 then (some ((0 : Int32), M10)) else (some ((1 : Int32), M10))))) else (if ¬ s12 = 0 then (some ((0 : Int32), M10)) else (some ((1 : Int32), M10)))))))) fun j119_12 => (if ¬ r8 = r11 then (j119_12 (0 : Int32)) else (j119_12 (1 : Int32)))))) else (gdb (inb (((4 : Int32) * a3) + (1 : Int32)) 24) (nm (fun (s25 : Int32) => (if s25 < s3 then (some ((0 : Int32), M)) else (some ((1 : Int32), M)))) fun j89_25 => (if (rA M 221 (Int32.toNatClampNeg (((4 : Int32) * a3) + (1 : Int32)))) ≤ 0 then (j89_25 (3 : Int32)) else (j89_25 (1 : Int32))))))) fun j64_3 => (if 0 ≤ s1 then (j64_3 s1) else (j64_3 (0 - s1))))) fun j49_1 => (if ¬ a4 = (1 : Int32) then (if ¬ a5 = a3 then (gdb (inb (((8 : Int32) * a5) + (1 : Int32)) 48) (gdb (inb (((8 : Int32) * a3) + (1 : Int32)) 48) (j49_1 ((rA M 220 (Int32.toNatClampNeg (((8 : Int32) * a5) + (1 : Int32)))) - (rA M 220 (Int32.toNatClampNeg (((8 : Int32) * a3) + (1 : Int32)))))))) else (j49_1 (99 : Int32))) else (gdb (inb (((8 : Int32) * a3) + (1 : Int32)) 48) (j49_1 (a5 - (rA M 220 (Int32.toNatClampNeg (((8 : Int32) * a3) + (1 : Int32)))))))))

set_option maxHeartbeats 8000000 in
set_option maxRecDepth 100000 in
theorem k_L_can (l : Launch) (hst : l.stackTraces = false) (G : GG) (B0 : Nat) (sa : Nat × Nat × Nat) (M : MS) (a3 : Int32) (a4 : Int32) (a5 : Int32) {r : Int32} {Mf : MS} (hF : F_L_can M a3 a4 a5 = some (r, Mf)) : LI l yL_can (WS yL_can cL_can 8 (some .boolean)) (RmL 8 8) 8 G B0 sa [.ref (gad G 216), .ref (gad G 220), .ref (gad G 221), .int a3, .int a4, .int a5] M r Mf := by
  intro sz
  refine z_met (by decide +kernel) (Nat.le_of_ble_eq_true rfl) (fun p e s m below meth c ls hsz C0 hM hT hl => ?_)
  have hl : lv_has ls 8 [(0, .ref (gad G 216)), (1, .ref (gad G 220)), (2, .ref (gad G 221)), (3, .int a3), (4, .int a4), (5, .int a5)] := hl
  have C0 : CX p s m meth c ([.ref (gad G 216), .ref (gad G 220), .ref (gad G 221), .int a3, .int a4, .int a5] : List Value).toArray cL_can RL 8 (some .boolean) := C0
  rw [F_L_can] at hF
  refine lv_iload C0.1 C0.2.1 dL_can_0 (lv_at hl 4 rfl) ?_
  refine lv_iconst (v := (1 : Int32)) C0.1 C0.2.1 dL_can_2 (by decide) ?_
  obtain ⟨j49_1, ej49_1, hF⟩ := nm_some hF
  have J49 : ∀ (s1 : Int32) (H : Heap) (locs : List Loc) (ls : Array Slot), MX G M s H locs → lv_has ls 8 [(0, .ref (gad G 216)), (1, .ref (gad G 220)), (2, .ref (gad G 221)), (3, .int a3), (4, .int a4), (5, .int a5)] → j49_1 s1 = some (r, Mf) → W p l e (RmL 8 8) s m ([.ref (gad G 216), .ref (gad G 220), .ref (gad G 221), .int a3, .int a4, .int a5] : List Value).toArray below meth c H locs (0 + 0) (6 * (0 + 0)) (QLI below ([.ref (gad G 216), .ref (gad G 220), .ref (gad G 221), .int a3, .int a4, .int a5] : List Value).toArray s G sz 8 r Mf) (F0 m 49 ls [.int s1]) := by
    intro s1 H locs ls hM hl hF
    rw [ej49_1] at hF
    refine lv_istore (lv' := [(6, .int s1), (0, .ref (gad G 216)), (1, .ref (gad G 220)), (2, .ref (gad G 221)), (3, .int a3), (4, .int a4), (5, .int a5)]) C0.1 C0.2.1 dL_can_49 hl (by decide) rfl (fun ls hl => ?_)
    refine lv_iload C0.1 C0.2.1 dL_can_51 (lv_at hl 0 rfl) ?_
    obtain ⟨j64_3, ej64_3, hF⟩ := nm_some hF
    have J64 : ∀ (s3 : Int32) (H : Heap) (locs : List Loc) (ls : Array Slot), MX G M s H locs → lv_has ls 8 [(0, .ref (gad G 216)), (1, .ref (gad G 220)), (2, .ref (gad G 221)), (3, .int a3), (4, .int a4), (5, .int a5), (6, .int s1)] → j64_3 s3 = some (r, Mf) → W p l e (RmL 8 8) s m ([.ref (gad G 216), .ref (gad G 220), .ref (gad G 221), .int a3, .int a4, .int a5] : List Value).toArray below meth c H locs (0 + 0) (6 * (0 + 0)) (QLI below ([.ref (gad G 216), .ref (gad G 220), .ref (gad G 221), .int a3, .int a4, .int a5] : List Value).toArray s G sz 8 r Mf) (F0 m 64 ls [.int s3]) := by
      intro s3 H locs ls hM hl hF
      rw [ej64_3] at hF
      refine lv_istore (lv' := [(6, .int s3), (0, .ref (gad G 216)), (1, .ref (gad G 220)), (2, .ref (gad G 221)), (3, .int a3), (4, .int a4), (5, .int a5)]) C0.1 C0.2.1 dL_can_64 hl (by decide) rfl (fun ls hl => ?_)
      refine lv_iload C0.1 C0.2.1 dL_can_66 (lv_at hl 5 rfl) ?_
      refine lv_iconst (v := (1 : Int32)) C0.1 C0.2.1 dL_can_68 (by decide) ?_
      refine lv_icmp_ne (tgt := 98) C0.1 C0.2.1 dL_can_69 (by decide) (fun c5 => ?_) (fun c5 => ?_)
      · have hF := if_t c5 hF
        refine lv_aload_n C0.1 C0.2.1 dL_can_98 rfl (lv_at hl 1 rfl) ?_
        refine lv_iload_n C0.1 C0.2.1 dL_can_99 rfl (lv_at hl 4 rfl) ?_
        refine lv_iconst (v := (0 : Int32)) C0.1 C0.2.1 dL_can_100 (by decide) ?_
        obtain ⟨r8, M7, h6, hF⟩ := bd0_some hF
        refine z_vi (rest := []) (0 + 4) (6 * (0 + 4)) C0 hM hT hl.1 (k_X4_fighter l hst G B0 sa M a3 (0 : Int32) h6) cw_RL_26 rfl rfl ⟨Nat.le_of_ble_eq_true rfl, Nat.le_of_ble_eq_true rfl⟩ rfl (Nat.le_of_ble_eq_true rfl) ⟨by show _ ≤ 8; omega, by show _ ≤ 6 * 8; omega⟩ (by omega) (by omega) dL_can_101 (fun H locs hM => ?_)
        refine lv_aload_n C0.1 C0.2.1 dL_can_104 rfl (lv_at hl 1 rfl) ?_
        refine lv_iload C0.1 C0.2.1 dL_can_105 (lv_at hl 6 rfl) ?_
        refine lv_iconst (v := (0 : Int32)) C0.1 C0.2.1 dL_can_107 (by decide) ?_
        obtain ⟨r11, M10, h9, hF⟩ := bd0_some hF
        refine z_vi (rest := [.int r8]) (0 + 8) (6 * (0 + 8)) C0 hM hT hl.1 (k_X4_fighter l hst G B0 sa M7 a5 (0 : Int32) h9) cw_RL_26 rfl rfl ⟨Nat.le_of_ble_eq_true rfl, Nat.le_of_ble_eq_true rfl⟩ rfl (Nat.le_of_ble_eq_true rfl) ⟨by show _ ≤ 8; omega, by show _ ≤ 6 * 8; omega⟩ (by omega) (by omega) dL_can_108 (fun H locs hM => ?_)
        obtain ⟨j119_12, ej119_12, hF⟩ := nm_some hF
        have J119 : ∀ (s12 : Int32) (H : Heap) (locs : List Loc) (ls : Array Slot), MX G M10 s H locs → lv_has ls 8 [(0, .ref (gad G 216)), (1, .ref (gad G 220)), (2, .ref (gad G 221)), (3, .int a3), (4, .int a4), (5, .int a5), (6, .int s3)] → j119_12 s12 = some (r, Mf) → W p l e (RmL 8 8) s m ([.ref (gad G 216), .ref (gad G 220), .ref (gad G 221), .int a3, .int a4, .int a5] : List Value).toArray below meth c H locs (0 + 8) (6 * (0 + 8)) (QLI below ([.ref (gad G 216), .ref (gad G 220), .ref (gad G 221), .int a3, .int a4, .int a5] : List Value).toArray s G sz 8 r Mf) (F0 m 119 ls [.int s12]) := by
          intro s12 H locs ls hM hl hF
          rw [ej119_12] at hF
          refine lv_istore (lv' := [(7, .int s12), (0, .ref (gad G 216)), (1, .ref (gad G 220)), (2, .ref (gad G 221)), (3, .int a3), (4, .int a4), (5, .int a5), (6, .int s3)]) C0.1 C0.2.1 dL_can_119 hl (by decide) rfl (fun ls hl => ?_)
          refine lv_iload C0.1 C0.2.1 dL_can_121 (lv_at hl 6 rfl) ?_
          refine lv_iload_n C0.1 C0.2.1 dL_can_123 rfl (lv_at hl 4 rfl) ?_
          refine lv_icmp_eq (tgt := 170) C0.1 C0.2.1 dL_can_124 (by decide) (fun c14 => ?_) (fun c14 => ?_)
          · have hF := if_t c14 hF
            refine lv_iconst (v := (0 : Int32)) C0.1 C0.2.1 dL_can_170 (by decide) ?_
            obtain ⟨e8, e9⟩ := y_2 hF
            subst e8
            subst e9
            exact z_zret C0 hM hsz rfl (by omega) (by omega) dL_can_171
          · have hF := if_f c14 hF
            refine lv_aload_n C0.1 C0.2.1 dL_can_127 rfl (lv_at hl 2 rfl) ?_
            refine lv_iload C0.1 C0.2.1 dL_can_128 (lv_at hl 6 rfl) ?_
            obtain ⟨r16, h15, hF⟩ := bd_some hF
            refine y_si (rest := []) C0 hM hl.1 (k_L_lives l G M10 a5 h15) cw_RL_36 rfl rfl ⟨Nat.le_of_ble_eq_true rfl, Nat.le_of_ble_eq_true rfl⟩ rfl (Nat.le_of_ble_eq_true rfl) ⟨by show _ ≤ 8; omega, by show _ ≤ 6 * 8; omega⟩ dL_can_130 (fun H locs hM => ?_)
            refine lv_if_eq (tgt := 170) C0.1 C0.2.1 dL_can_133 (by decide) (fun c17 => ?_) (fun c17 => ?_)
            · have hF := if_t c17 hF
              refine lv_iconst (v := (0 : Int32)) C0.1 C0.2.1 dL_can_170 (by decide) ?_
              obtain ⟨e8, e9⟩ := y_2 hF
              subst e8
              subst e9
              exact z_zret C0 hM hsz rfl (by omega) (by omega) dL_can_171
            · have hF := if_f c17 hF
              refine lv_iload C0.1 C0.2.1 dL_can_136 (lv_at hl 5 rfl) ?_
              refine lv_iconst (v := (3 : Int32)) C0.1 C0.2.1 dL_can_138 (by decide) ?_
              refine lv_icmp_ne (tgt := 150) C0.1 C0.2.1 dL_can_139 (by decide) (fun c18 => ?_) (fun c18 => ?_)
              · have hF := if_t c18 hF
                refine lv_iload C0.1 C0.2.1 dL_can_150 (lv_at hl 7 rfl) ?_
                refine lv_iconst (v := (2 : Int32)) C0.1 C0.2.1 dL_can_152 (by decide) ?_
                refine lv_icmp_gt (tgt := 170) C0.1 C0.2.1 dL_can_153 (by decide) (fun c19 => ?_) (fun c19 => ?_)
                · have hF := if_t c19 hF
                  refine lv_iconst (v := (0 : Int32)) C0.1 C0.2.1 dL_can_170 (by decide) ?_
                  obtain ⟨e8, e9⟩ := y_2 hF
                  subst e8
                  subst e9
                  exact z_zret C0 hM hsz rfl (by omega) (by omega) dL_can_171
                · have hF := if_f c19 hF
                  refine lv_iload C0.1 C0.2.1 dL_can_156 (lv_at hl 5 rfl) ?_
                  refine lv_if_eq (tgt := 166) C0.1 C0.2.1 dL_can_158 (by decide) (fun c20 => ?_) (fun c20 => ?_)
                  · have hF := if_t c20 hF
                    refine lv_iconst (v := (1 : Int32)) C0.1 C0.2.1 dL_can_166 (by decide) ?_
                    refine lv_goto (tgt := 171) C0.1 C0.2.1 dL_can_167 (by decide) ?_
                    obtain ⟨e8, e9⟩ := y_2 hF
                    subst e8
                    subst e9
                    exact z_zret C0 hM hsz rfl (by omega) (by omega) dL_can_171
                  · have hF := if_f c20 hF
                    refine lv_iload C0.1 C0.2.1 dL_can_161 (lv_at hl 0 rfl) ?_
                    refine lv_if_eq (tgt := 170) C0.1 C0.2.1 dL_can_163 (by decide) (fun c21 => ?_) (fun c21 => ?_)
                    · have hF := if_t c21 hF
                      refine lv_iconst (v := (0 : Int32)) C0.1 C0.2.1 dL_can_170 (by decide) ?_
                      obtain ⟨e8, e9⟩ := y_2 hF
                      subst e8
                      subst e9
                      exact z_zret C0 hM hsz rfl (by omega) (by omega) dL_can_171
                    · have hF := if_f c21 hF
                      refine lv_iconst (v := (1 : Int32)) C0.1 C0.2.1 dL_can_166 (by decide) ?_
                      refine lv_goto (tgt := 171) C0.1 C0.2.1 dL_can_167 (by decide) ?_
                      obtain ⟨e8, e9⟩ := y_2 hF
                      subst e8
                      subst e9
                      exact z_zret C0 hM hsz rfl (by omega) (by omega) dL_can_171
              · have hF := if_f (fun q => q c18) hF
                refine lv_iload C0.1 C0.2.1 dL_can_142 (lv_at hl 0 rfl) ?_
                refine lv_if_ne (tgt := 170) C0.1 C0.2.1 dL_can_144 (by decide) (fun c22 => ?_) (fun c22 => ?_)
                · have hF := if_t c22 hF
                  refine lv_iconst (v := (0 : Int32)) C0.1 C0.2.1 dL_can_170 (by decide) ?_
                  obtain ⟨e8, e9⟩ := y_2 hF
                  subst e8
                  subst e9
                  exact z_zret C0 hM hsz rfl (by omega) (by omega) dL_can_171
                · have hF := if_f (fun q => q c22) hF
                  refine lv_goto (tgt := 166) C0.1 C0.2.1 dL_can_147 (by decide) ?_
                  refine lv_iconst (v := (1 : Int32)) C0.1 C0.2.1 dL_can_166 (by decide) ?_
                  refine lv_goto (tgt := 171) C0.1 C0.2.1 dL_can_167 (by decide) ?_
                  obtain ⟨e8, e9⟩ := y_2 hF
                  subst e8
                  subst e9
                  exact z_zret C0 hM hsz rfl (by omega) (by omega) dL_can_171
        refine lv_icmp_ne (tgt := 118) C0.1 C0.2.1 dL_can_111 (by decide) (fun c23 => ?_) (fun c23 => ?_)
        · have hF := if_t c23 hF
          refine lv_iconst (v := (0 : Int32)) C0.1 C0.2.1 dL_can_118 (by decide) ?_
          refine W.widen (k := 0 + 8) (n := 6 * (0 + 8)) (by omega) (by omega) ?_
          exact J119 (0 : Int32) _ _ _ hM (lv_sub hl [1, 2, 3, 4, 5, 6, 0] rfl) hF
        · have hF := if_f (fun q => q c23) hF
          refine lv_iconst (v := (1 : Int32)) C0.1 C0.2.1 dL_can_114 (by decide) ?_
          refine lv_goto (tgt := 119) C0.1 C0.2.1 dL_can_115 (by decide) ?_
          refine W.widen (k := 0 + 8) (n := 6 * (0 + 8)) (by omega) (by omega) ?_
          exact J119 (1 : Int32) _ _ _ hM (lv_sub hl [1, 2, 3, 4, 5, 6, 0] rfl) hF
      · have hF := if_f (fun q => q c5) hF
        refine lv_iload C0.1 C0.2.1 dL_can_72 (lv_at hl 0 rfl) ?_
        refine lv_aload_n C0.1 C0.2.1 dL_can_74 rfl (lv_at hl 3 rfl) ?_
        refine lv_iconst (v := (4 : Int32)) C0.1 C0.2.1 dL_can_75 (by decide) ?_
        refine lv_iload_n C0.1 C0.2.1 dL_can_76 rfl (lv_at hl 4 rfl) ?_
        refine lv_imul C0.1 C0.2.1 dL_can_77 ?_
        refine lv_iconst (v := (1 : Int32)) C0.1 C0.2.1 dL_can_78 (by decide) ?_
        refine lv_iadd C0.1 C0.2.1 dL_can_79 ?_
        obtain ⟨g24, hF⟩ := gdb_some hF
        refine y_iald C0 hM oka_cc g24 dL_can_80 ?_
        obtain ⟨j89_25, ej89_25, hF⟩ := nm_some hF
        have J89 : ∀ (s25 : Int32) (H : Heap) (locs : List Loc) (ls : Array Slot), MX G M s H locs → lv_has ls 8 [(0, .ref (gad G 216)), (1, .ref (gad G 220)), (2, .ref (gad G 221)), (3, .int a3), (4, .int a4), (5, .int a5), (6, .int s3)] → j89_25 s25 = some (r, Mf) → W p l e (RmL 8 8) s m ([.ref (gad G 216), .ref (gad G 220), .ref (gad G 221), .int a3, .int a4, .int a5] : List Value).toArray below meth c H locs (0 + 0) (6 * (0 + 0)) (QLI below ([.ref (gad G 216), .ref (gad G 220), .ref (gad G 221), .int a3, .int a4, .int a5] : List Value).toArray s G sz 8 r Mf) (F0 m 89 ls [.int s25, .int s3]) := by
          intro s25 H locs ls hM hl hF
          rw [ej89_25] at hF
          refine lv_icmp_gt (tgt := 96) C0.1 C0.2.1 dL_can_89 (by decide) (fun c27 => ?_) (fun c27 => ?_)
          · have hF := if_t c27 hF
            refine lv_iconst (v := (0 : Int32)) C0.1 C0.2.1 dL_can_96 (by decide) ?_
            obtain ⟨e8, e9⟩ := y_2 hF
            subst e8
            subst e9
            exact z_zret C0 hM hsz rfl (by omega) (by omega) dL_can_97
          · have hF := if_f c27 hF
            refine lv_iconst (v := (1 : Int32)) C0.1 C0.2.1 dL_can_92 (by decide) ?_
            refine lv_goto (tgt := 97) C0.1 C0.2.1 dL_can_93 (by decide) ?_
            obtain ⟨e8, e9⟩ := y_2 hF
            subst e8
            subst e9
            exact z_zret C0 hM hsz rfl (by omega) (by omega) dL_can_97
        refine lv_if_le (tgt := 88) C0.1 C0.2.1 dL_can_81 (by decide) (fun c28 => ?_) (fun c28 => ?_)
        · have hF := if_t c28 hF
          refine lv_iconst (v := (3 : Int32)) C0.1 C0.2.1 dL_can_88 (by decide) ?_
          refine W.widen (k := 0 + 0) (n := 6 * (0 + 0)) (by omega) (by omega) ?_
          exact J89 (3 : Int32) _ _ _ hM (lv_sub hl [1, 2, 3, 4, 5, 6, 0] rfl) hF
        · have hF := if_f c28 hF
          refine lv_iconst (v := (1 : Int32)) C0.1 C0.2.1 dL_can_84 (by decide) ?_
          refine lv_goto (tgt := 89) C0.1 C0.2.1 dL_can_85 (by decide) ?_
          refine W.widen (k := 0 + 0) (n := 6 * (0 + 0)) (by omega) (by omega) ?_
          exact J89 (1 : Int32) _ _ _ hM (lv_sub hl [1, 2, 3, 4, 5, 6, 0] rfl) hF
    refine lv_if_ge (tgt := 62) C0.1 C0.2.1 dL_can_53 (by decide) (fun c29 => ?_) (fun c29 => ?_)
    · have hF := if_t c29 hF
      refine lv_iload C0.1 C0.2.1 dL_can_62 (lv_at hl 0 rfl) ?_
      refine W.widen (k := 0 + 0) (n := 6 * (0 + 0)) (by omega) (by omega) ?_
      exact J64 s1 _ _ _ hM (lv_sub hl [1, 2, 3, 4, 5, 6, 0] rfl) hF
    · have hF := if_f c29 hF
      refine lv_iload C0.1 C0.2.1 dL_can_56 (lv_at hl 0 rfl) ?_
      refine lv_ineg C0.1 C0.2.1 dL_can_58 ?_
      refine lv_goto (tgt := 64) C0.1 C0.2.1 dL_can_59 (by decide) ?_
      refine W.widen (k := 0 + 0) (n := 6 * (0 + 0)) (by omega) (by omega) ?_
      exact J64 (0 - s1) _ _ _ hM (lv_sub hl [1, 2, 3, 4, 5, 6, 0] rfl) hF
  refine lv_icmp_ne (tgt := 20) C0.1 C0.2.1 dL_can_3 (by decide) (fun c30 => ?_) (fun c30 => ?_)
  · have hF := if_t c30 hF
    refine lv_iload C0.1 C0.2.1 dL_can_20 (lv_at hl 5 rfl) ?_
    refine lv_iload_n C0.1 C0.2.1 dL_can_22 rfl (lv_at hl 3 rfl) ?_
    refine lv_icmp_ne (tgt := 31) C0.1 C0.2.1 dL_can_23 (by decide) (fun c31 => ?_) (fun c31 => ?_)
    · have hF := if_t c31 hF
      refine lv_aload_n C0.1 C0.2.1 dL_can_31 rfl (lv_at hl 1 rfl) ?_
      refine lv_bipush (v := (8 : Int32)) C0.1 C0.2.1 dL_can_32 (by decide) ?_
      refine lv_iload C0.1 C0.2.1 dL_can_34 (lv_at hl 5 rfl) ?_
      refine lv_imul C0.1 C0.2.1 dL_can_36 ?_
      refine lv_iconst (v := (1 : Int32)) C0.1 C0.2.1 dL_can_37 (by decide) ?_
      refine lv_iadd C0.1 C0.2.1 dL_can_38 ?_
      obtain ⟨g32, hF⟩ := gdb_some hF
      refine y_iald C0 hM oka_a g32 dL_can_39 ?_
      refine lv_aload_n C0.1 C0.2.1 dL_can_40 rfl (lv_at hl 1 rfl) ?_
      refine lv_bipush (v := (8 : Int32)) C0.1 C0.2.1 dL_can_41 (by decide) ?_
      refine lv_iload_n C0.1 C0.2.1 dL_can_43 rfl (lv_at hl 3 rfl) ?_
      refine lv_imul C0.1 C0.2.1 dL_can_44 ?_
      refine lv_iconst (v := (1 : Int32)) C0.1 C0.2.1 dL_can_45 (by decide) ?_
      refine lv_iadd C0.1 C0.2.1 dL_can_46 ?_
      obtain ⟨g33, hF⟩ := gdb_some hF
      refine y_iald C0 hM oka_a g33 dL_can_47 ?_
      refine lv_isub C0.1 C0.2.1 dL_can_48 ?_
      refine W.widen (k := 0 + 0) (n := 6 * (0 + 0)) (by omega) (by omega) ?_
      exact J49 ((rA M 220 (Int32.toNatClampNeg (((8 : Int32) * a5) + (1 : Int32)))) - (rA M 220 (Int32.toNatClampNeg (((8 : Int32) * a3) + (1 : Int32))))) _ _ _ hM (lv_sub hl [0, 1, 2, 3, 4, 5] rfl) hF
    · have hF := if_f (fun q => q c31) hF
      refine lv_bipush (v := (99 : Int32)) C0.1 C0.2.1 dL_can_26 (by decide) ?_
      refine lv_goto (tgt := 49) C0.1 C0.2.1 dL_can_28 (by decide) ?_
      refine W.widen (k := 0 + 0) (n := 6 * (0 + 0)) (by omega) (by omega) ?_
      exact J49 (99 : Int32) _ _ _ hM (lv_sub hl [0, 1, 2, 3, 4, 5] rfl) hF
  · have hF := if_f (fun q => q c30) hF
    refine lv_iload C0.1 C0.2.1 dL_can_6 (lv_at hl 5 rfl) ?_
    refine lv_aload_n C0.1 C0.2.1 dL_can_8 rfl (lv_at hl 1 rfl) ?_
    refine lv_bipush (v := (8 : Int32)) C0.1 C0.2.1 dL_can_9 (by decide) ?_
    refine lv_iload_n C0.1 C0.2.1 dL_can_11 rfl (lv_at hl 3 rfl) ?_
    refine lv_imul C0.1 C0.2.1 dL_can_12 ?_
    refine lv_iconst (v := (1 : Int32)) C0.1 C0.2.1 dL_can_13 (by decide) ?_
    refine lv_iadd C0.1 C0.2.1 dL_can_14 ?_
    obtain ⟨g34, hF⟩ := gdb_some hF
    refine y_iald C0 hM oka_a g34 dL_can_15 ?_
    refine lv_isub C0.1 C0.2.1 dL_can_16 ?_
    refine lv_goto (tgt := 49) C0.1 C0.2.1 dL_can_17 (by decide) ?_
    refine W.widen (k := 0 + 0) (n := 6 * (0 + 0)) (by omega) (by omega) ?_
    exact J49 (a5 - (rA M 220 (Int32.toNatClampNeg (((8 : Int32) * a3) + (1 : Int32))))) _ _ _ hM (lv_sub hl [0, 1, 2, 3, 4, 5] rfl) hF

def F_L_does (M : MS) (a4 : Int32) (a5 : Int32) (a6 : Int32) (a7 : Int32) (a8 : Int32) : Option (Int32 × MS) := (gdb (inb (2 : Int32) 7) (gdb (inb (2 : Int32) 7) (nm (wA M 223 (Int32.toNatClampNeg (2 : Int32)) ((rA M 223 (Int32.toNatClampNeg (2 : Int32))) + (1 : Int32))) fun M3 => (bd0 (F_X4_fighter M3 a4 (4 : Int32)) fun r6 M5 => (gdb (inb (((4 : Int32) * a4) + (2 : Int32)) 24) (nm (fun (s8 : Int32) => (nm (r6 + s8) fun x10 => (gdb (inb (((4 : Int32) * a4) + (1 : Int32)) 24) (nm (fun (s12 : Int32) => (if ¬ a5 = 0 then (if ¬ a5 = (1 : Int32) then (if ¬ a5 = (2 : Int32) then (gdb (inb (((4 : Int32) * a6) + a7) 24) (nm (fun (s18 : Int32) => (gdb (inb (((4 : Int32) * a6) + a7) 24) (nm (wA M5 221 (Int32.toNatClampNeg (((4 : Int32) * a6) + a7)) s18) fun M21 => (gdb (inb (((4 : Int32) * a6) + a7) 24) (some ((rA M21 221 (Int32.toNatClampNeg (((4 : Int32) * a6) + a7))), M21)))))) fun j251_18 => (if a8 ≤ (rA M5 221 (Int32.toNatClampNeg (((4 : Int32) * a6) + a7))) then (gdb (inb (((4 : Int32) * a6) + a7) 24) (j251_18 (rA M5 221 (Int32.toNatClampNeg (((4 : Int32) * a6) + a7))))) else (j251_18 a8)))) else (bd0 (F_X4_fighter M5 a6 (3 : Int32)) fun r27 M26 => (gdb (inb ((8 : Int32) * a6) 48) (nm (fun (s29 : Int32) => (gdb (inb ((8 : Int32) * a6) 48) (nm (wA M26 220 (Int32.toNatClampNeg ((8 : Int32) * a6)) s29) fun M32 => (gdb (inb (((4 : Int32) * a6) + (3 : Int32)) 24) (nm (wA M32 221 (Int32.toNatClampNeg (((4 : Int32) * a6) + (3 : Int32))) (0 : Int32)) fun M34 => (gdb (inb ((8 : Int32) * a6) 48) (some ((rA M34 220 (Int32.toNatClampNeg ((8 : Int32) * a6))), M34)))))))) fun j197_29 => (if ((rA M26 220 (Int32.toNatClampNeg ((8 : Int32) * a6))) + (4 : Int32)) ≤ r27 then (gdb (inb ((8 : Int32) * a6) 48) (j197_29 ((rA M26 220 (Int32.toNatClampNeg ((8 : Int32) * a6))) + (4 : Int32)))) else (j197_29 r27)))))) else (gdb (inb (((8 : Int32) * a4) + (1 : Int32)) 48) (nm (a6 - (rA M5 220 (Int32.toNatClampNeg (((8 : Int32) * a4) + (1 : Int32))))) fun x39 => (gdb (inb (((8 : Int32) * a4) + (1 : Int32)) 48) (nm (wA M5 220 (Int32.toNatClampNeg (((8 : Int32) * a4) + (1 : Int32))) a6) fun M41 => (if 0 ≤ x39 then (some (x39, M41)) else (some ((0 - x39), M41)))))))) else (gdb (inb ((8 : Int32) * a6) 48) (nm (rA M5 220 (Int32.toNatClampNeg ((8 : Int32) * a6))) fun x44 => (nm (fun (s45 : Int32) => (gdb (inb ((8 : Int32) * a6) 48) (nm (wA M5 220 (Int32.toNatClampNeg ((8 : Int32) * a6)) s45) fun M48 => (gdb (inb ((8 : Int32) * a6) 48) (some ((x44 - (rA M48 220 (Int32.toNatClampNeg ((8 : Int32) * a6)))), M48)))))) fun j91_45 => (if s12 ≤ x44 then (j91_45 (x44 - s12)) else (j91_45 (0 : Int32)))))))) fun j53_12 => (if (rA M5 221 (Int32.toNatClampNeg (((4 : Int32) * a4) + (1 : Int32)))) ≤ 0 then (j53_12 x10) else (j53_12 (x10 / (2 : Int32)))))))) fun j30_8 => (if (rA M5 221 (Int32.toNatClampNeg (((4 : Int32) * a4) + (2 : Int32)))) ≤ 0 then (j30_8 (0 : Int32)) else (j30_8 (3 : Int32)))))))))

set_option maxHeartbeats 8000000 in
set_option maxRecDepth 100000 in
theorem k_L_does (l : Launch) (hst : l.stackTraces = false) (G : GG) (B0 : Nat) (sa : Nat × Nat × Nat) (M : MS) (a4 : Int32) (a5 : Int32) (a6 : Int32) (a7 : Int32) (a8 : Int32) {r : Int32} {Mf : MS} (hF : F_L_does M a4 a5 a6 a7 a8 = some (r, Mf)) : LI l yL_does (WS yL_does cL_does 11 (some .int)) (RmL 8 8) 8 G B0 sa [.ref (gad G 216), .ref (gad G 220), .ref (gad G 221), .ref (gad G 223), .int a4, .int a5, .int a6, .int a7, .int a8] M r Mf := by
  intro sz
  refine z_met (by decide +kernel) (Nat.le_of_ble_eq_true rfl) (fun p e s m below meth c ls hsz C0 hM hT hl => ?_)
  have hl : lv_has ls 11 [(0, .ref (gad G 216)), (1, .ref (gad G 220)), (2, .ref (gad G 221)), (3, .ref (gad G 223)), (4, .int a4), (5, .int a5), (6, .int a6), (7, .int a7), (8, .int a8)] := hl
  have C0 : CX p s m meth c ([.ref (gad G 216), .ref (gad G 220), .ref (gad G 221), .ref (gad G 223), .int a4, .int a5, .int a6, .int a7, .int a8] : List Value).toArray cL_does RL 11 (some .int) := C0
  rw [F_L_does] at hF
  refine lv_aload_n C0.1 C0.2.1 dL_does_0 rfl (lv_at hl 3 rfl) ?_
  refine lv_iconst (v := (2 : Int32)) C0.1 C0.2.1 dL_does_1 (by decide) ?_
  refine lv_dup2_11 C0.1 C0.2.1 dL_does_2 rfl rfl ?_
  obtain ⟨g1, hF⟩ := gdb_some hF
  refine y_iald C0 hM oka_t g1 dL_does_3 ?_
  refine lv_iconst (v := (1 : Int32)) C0.1 C0.2.1 dL_does_4 (by decide) ?_
  refine lv_iadd C0.1 C0.2.1 dL_does_5 ?_
  obtain ⟨g2, hF⟩ := gdb_some hF
  refine y_iast C0 hM oka_t g2 dL_does_6 (fun H locs hM => ?_)
  obtain ⟨M3, eM3, hF⟩ := nm_some hF
  have hM := y_mn eM3 hM
  refine lv_aload_n C0.1 C0.2.1 dL_does_7 rfl (lv_at hl 0 rfl) ?_
  refine lv_iload C0.1 C0.2.1 dL_does_8 (lv_at hl 4 rfl) ?_
  refine lv_iconst (v := (4 : Int32)) C0.1 C0.2.1 dL_does_10 (by decide) ?_
  obtain ⟨r6, M5, h4, hF⟩ := bd0_some hF
  refine z_vi (rest := []) (0 + 4) (6 * (0 + 4)) C0 hM hT hl.1 (k_X4_fighter l hst G B0 sa M3 a4 (4 : Int32) h4) cw_RL_26 rfl rfl ⟨Nat.le_of_ble_eq_true rfl, Nat.le_of_ble_eq_true rfl⟩ rfl (Nat.le_of_ble_eq_true rfl) ⟨by show _ ≤ 8; omega, by show _ ≤ 6 * 8; omega⟩ (by omega) (by omega) dL_does_11 (fun H locs hM => ?_)
  refine lv_aload_n C0.1 C0.2.1 dL_does_14 rfl (lv_at hl 2 rfl) ?_
  refine lv_iconst (v := (4 : Int32)) C0.1 C0.2.1 dL_does_15 (by decide) ?_
  refine lv_iload C0.1 C0.2.1 dL_does_16 (lv_at hl 4 rfl) ?_
  refine lv_imul C0.1 C0.2.1 dL_does_18 ?_
  refine lv_iconst (v := (2 : Int32)) C0.1 C0.2.1 dL_does_19 (by decide) ?_
  refine lv_iadd C0.1 C0.2.1 dL_does_20 ?_
  obtain ⟨g7, hF⟩ := gdb_some hF
  refine y_iald C0 hM oka_cc g7 dL_does_21 ?_
  obtain ⟨j30_8, ej30_8, hF⟩ := nm_some hF
  have J30 : ∀ (s8 : Int32) (H : Heap) (locs : List Loc) (ls : Array Slot), MX G M5 s H locs → lv_has ls 11 [(0, .ref (gad G 216)), (1, .ref (gad G 220)), (2, .ref (gad G 221)), (3, .ref (gad G 223)), (4, .int a4), (5, .int a5), (6, .int a6), (7, .int a7), (8, .int a8)] → j30_8 s8 = some (r, Mf) → W p l e (RmL 8 8) s m ([.ref (gad G 216), .ref (gad G 220), .ref (gad G 221), .ref (gad G 223), .int a4, .int a5, .int a6, .int a7, .int a8] : List Value).toArray below meth c H locs (0 + 4) (6 * (0 + 4)) (QLI below ([.ref (gad G 216), .ref (gad G 220), .ref (gad G 221), .ref (gad G 223), .int a4, .int a5, .int a6, .int a7, .int a8] : List Value).toArray s G sz 8 r Mf) (F0 m 30 ls [.int s8, .int r6]) := by
    intro s8 H locs ls hM hl hF
    rw [ej30_8] at hF
    refine lv_iadd C0.1 C0.2.1 dL_does_30 ?_
    obtain ⟨x10, ex10, hF⟩ := nm_some hF
    refine y_topi ex10 ?_
    refine lv_istore (lv' := [(9, .int x10), (0, .ref (gad G 216)), (1, .ref (gad G 220)), (2, .ref (gad G 221)), (3, .ref (gad G 223)), (4, .int a4), (5, .int a5), (6, .int a6), (7, .int a7), (8, .int a8)]) C0.1 C0.2.1 dL_does_31 hl (by decide) rfl (fun ls hl => ?_)
    refine lv_aload_n C0.1 C0.2.1 dL_does_33 rfl (lv_at hl 3 rfl) ?_
    refine lv_iconst (v := (4 : Int32)) C0.1 C0.2.1 dL_does_34 (by decide) ?_
    refine lv_iload C0.1 C0.2.1 dL_does_35 (lv_at hl 5 rfl) ?_
    refine lv_imul C0.1 C0.2.1 dL_does_37 ?_
    refine lv_iconst (v := (1 : Int32)) C0.1 C0.2.1 dL_does_38 (by decide) ?_
    refine lv_iadd C0.1 C0.2.1 dL_does_39 ?_
    obtain ⟨g11, hF⟩ := gdb_some hF
    refine y_iald C0 hM oka_cc g11 dL_does_40 ?_
    obtain ⟨j53_12, ej53_12, hF⟩ := nm_some hF
    have J53 : ∀ (s12 : Int32) (H : Heap) (locs : List Loc) (ls : Array Slot), MX G M5 s H locs → lv_has ls 11 [(0, .ref (gad G 216)), (1, .ref (gad G 220)), (2, .ref (gad G 221)), (3, .ref (gad G 223)), (4, .int a4), (5, .int a5), (6, .int a6), (7, .int a7), (8, .int a8), (9, .int x10)] → j53_12 s12 = some (r, Mf) → W p l e (RmL 8 8) s m ([.ref (gad G 216), .ref (gad G 220), .ref (gad G 221), .ref (gad G 223), .int a4, .int a5, .int a6, .int a7, .int a8] : List Value).toArray below meth c H locs (0 + 4) (6 * (0 + 4)) (QLI below ([.ref (gad G 216), .ref (gad G 220), .ref (gad G 221), .ref (gad G 223), .int a4, .int a5, .int a6, .int a7, .int a8] : List Value).toArray s G sz 8 r Mf) (F0 m 53 ls [.int s12]) := by
      intro s12 H locs ls hM hl hF
      rw [ej53_12] at hF
      refine lv_istore (lv' := [(9, .int s12), (0, .ref (gad G 216)), (1, .ref (gad G 220)), (2, .ref (gad G 221)), (3, .ref (gad G 223)), (4, .int a4), (5, .int a5), (6, .int a6), (7, .int a7), (8, .int a8)]) C0.1 C0.2.1 dL_does_53 hl (by decide) rfl (fun ls hl => ?_)
      refine lv_iload C0.1 C0.2.1 dL_does_55 (lv_at hl 6 rfl) ?_
      refine lv_if_ne (tgt := 103) C0.1 C0.2.1 dL_does_57 (by decide) (fun c14 => ?_) (fun c14 => ?_)
      · have hF := if_t c14 hF
        refine lv_iload C0.1 C0.2.1 dL_does_103 (lv_at hl 6 rfl) ?_
        refine lv_iconst (v := (1 : Int32)) C0.1 C0.2.1 dL_does_105 (by decide) ?_
        refine lv_icmp_ne (tgt := 148) C0.1 C0.2.1 dL_does_106 (by decide) (fun c15 => ?_) (fun c15 => ?_)
        · have hF := if_t c15 hF
          refine lv_iload C0.1 C0.2.1 dL_does_148 (lv_at hl 6 rfl) ?_
          refine lv_iconst (v := (2 : Int32)) C0.1 C0.2.1 dL_does_150 (by decide) ?_
          refine lv_icmp_ne (tgt := 215) C0.1 C0.2.1 dL_does_151 (by decide) (fun c16 => ?_) (fun c16 => ?_)
          · have hF := if_t c16 hF
            refine lv_aload_n C0.1 C0.2.1 dL_does_215 rfl (lv_at hl 3 rfl) ?_
            refine lv_iconst (v := (4 : Int32)) C0.1 C0.2.1 dL_does_216 (by decide) ?_
            refine lv_iload C0.1 C0.2.1 dL_does_217 (lv_at hl 7 rfl) ?_
            refine lv_imul C0.1 C0.2.1 dL_does_219 ?_
            refine lv_iload C0.1 C0.2.1 dL_does_220 (lv_at hl 8 rfl) ?_
            refine lv_iadd C0.1 C0.2.1 dL_does_222 ?_
            refine lv_aload_n C0.1 C0.2.1 dL_does_223 rfl (lv_at hl 3 rfl) ?_
            refine lv_iconst (v := (4 : Int32)) C0.1 C0.2.1 dL_does_224 (by decide) ?_
            refine lv_iload C0.1 C0.2.1 dL_does_225 (lv_at hl 7 rfl) ?_
            refine lv_imul C0.1 C0.2.1 dL_does_227 ?_
            refine lv_iload C0.1 C0.2.1 dL_does_228 (lv_at hl 8 rfl) ?_
            refine lv_iadd C0.1 C0.2.1 dL_does_230 ?_
            obtain ⟨g17, hF⟩ := gdb_some hF
            refine y_iald C0 hM oka_cc g17 dL_does_231 ?_
            refine lv_iload C0.1 C0.2.1 dL_does_232 (lv_at hl 9 rfl) ?_
            obtain ⟨j251_18, ej251_18, hF⟩ := nm_some hF
            have J251 : ∀ (s18 : Int32) (H : Heap) (locs : List Loc) (ls : Array Slot), MX G M5 s H locs → lv_has ls 11 [(0, .ref (gad G 216)), (1, .ref (gad G 220)), (2, .ref (gad G 221)), (3, .ref (gad G 223)), (4, .int a4), (5, .int a5), (6, .int a6), (7, .int a7), (8, .int a8), (9, .int s12)] → j251_18 s18 = some (r, Mf) → W p l e (RmL 8 8) s m ([.ref (gad G 216), .ref (gad G 220), .ref (gad G 221), .ref (gad G 223), .int a4, .int a5, .int a6, .int a7, .int a8] : List Value).toArray below meth c H locs (0 + 4) (6 * (0 + 4)) (QLI below ([.ref (gad G 216), .ref (gad G 220), .ref (gad G 221), .ref (gad G 223), .int a4, .int a5, .int a6, .int a7, .int a8] : List Value).toArray s G sz 8 r Mf) (F0 m 251 ls [.int s18, .int (((4 : Int32) * a6) + a7), .ref (gad G 221)]) := by
              intro s18 H locs ls hM hl hF
              rw [ej251_18] at hF
              obtain ⟨g20, hF⟩ := gdb_some hF
              refine y_iast C0 hM oka_cc g20 dL_does_251 (fun H locs hM => ?_)
              obtain ⟨M21, eM21, hF⟩ := nm_some hF
              have hM := y_mn eM21 hM
              refine lv_aload_n C0.1 C0.2.1 dL_does_252 rfl (lv_at hl 2 rfl) ?_
              refine lv_iconst (v := (4 : Int32)) C0.1 C0.2.1 dL_does_253 (by decide) ?_
              refine lv_iload C0.1 C0.2.1 dL_does_254 (lv_at hl 6 rfl) ?_
              refine lv_imul C0.1 C0.2.1 dL_does_256 ?_
              refine lv_iload C0.1 C0.2.1 dL_does_257 (lv_at hl 7 rfl) ?_
              refine lv_iadd C0.1 C0.2.1 dL_does_259 ?_
              obtain ⟨g22, hF⟩ := gdb_some hF
              refine y_iald C0 hM oka_cc g22 dL_does_260 ?_
              obtain ⟨e8, e9⟩ := y_2 hF
              subst e8
              subst e9
              exact z_iret C0 hM hsz (by omega) (by omega) dL_does_261
            refine lv_icmp_ge (tgt := 242) C0.1 C0.2.1 dL_does_234 (by decide) (fun c23 => ?_) (fun c23 => ?_)
            · have hF := if_t c23 hF
              refine lv_aload_n C0.1 C0.2.1 dL_does_242 rfl (lv_at hl 3 rfl) ?_
              refine lv_iconst (v := (4 : Int32)) C0.1 C0.2.1 dL_does_243 (by decide) ?_
              refine lv_iload C0.1 C0.2.1 dL_does_244 (lv_at hl 7 rfl) ?_
              refine lv_imul C0.1 C0.2.1 dL_does_246 ?_
              refine lv_iload C0.1 C0.2.1 dL_does_247 (lv_at hl 8 rfl) ?_
              refine lv_iadd C0.1 C0.2.1 dL_does_249 ?_
              obtain ⟨g24, hF⟩ := gdb_some hF
              refine y_iald C0 hM oka_cc g24 dL_does_250 ?_
              refine W.widen (k := 0 + 4) (n := 6 * (0 + 4)) (by omega) (by omega) ?_
              exact J251 (rA M5 221 (Int32.toNatClampNeg (((4 : Int32) * a6) + a7))) _ _ _ hM (lv_sub hl [1, 2, 3, 4, 5, 6, 7, 8, 9, 0] rfl) hF
            · have hF := if_f c23 hF
              refine lv_iload C0.1 C0.2.1 dL_does_237 (lv_at hl 9 rfl) ?_
              refine lv_goto (tgt := 251) C0.1 C0.2.1 dL_does_239 (by decide) ?_
              refine W.widen (k := 0 + 4) (n := 6 * (0 + 4)) (by omega) (by omega) ?_
              exact J251 a8 _ _ _ hM (lv_sub hl [1, 2, 3, 4, 5, 6, 7, 8, 9, 0] rfl) hF
          · have hF := if_f (fun q => q c16) hF
            refine lv_aload_n C0.1 C0.2.1 dL_does_154 rfl (lv_at hl 1 rfl) ?_
            refine lv_iload C0.1 C0.2.1 dL_does_155 (lv_at hl 7 rfl) ?_
            refine lv_iconst (v := (3 : Int32)) C0.1 C0.2.1 dL_does_157 (by decide) ?_
            obtain ⟨r27, M26, h25, hF⟩ := bd0_some hF
            refine z_vi (rest := []) (0 + 8) (6 * (0 + 8)) C0 hM hT hl.1 (k_X4_fighter l hst G B0 sa M5 a6 (3 : Int32) h25) cw_RL_26 rfl rfl ⟨Nat.le_of_ble_eq_true rfl, Nat.le_of_ble_eq_true rfl⟩ rfl (Nat.le_of_ble_eq_true rfl) ⟨by show _ ≤ 8; omega, by show _ ≤ 6 * 8; omega⟩ (by omega) (by omega) dL_does_158 (fun H locs hM => ?_)
            refine lv_istore (lv' := [(10, .int r27), (9, .int s12), (0, .ref (gad G 216)), (1, .ref (gad G 220)), (2, .ref (gad G 221)), (3, .ref (gad G 223)), (4, .int a4), (5, .int a5), (6, .int a6), (7, .int a7), (8, .int a8)]) C0.1 C0.2.1 dL_does_161 hl (by decide) rfl (fun ls hl => ?_)
            refine lv_aload_n C0.1 C0.2.1 dL_does_163 rfl (lv_at hl 3 rfl) ?_
            refine lv_bipush (v := (8 : Int32)) C0.1 C0.2.1 dL_does_164 (by decide) ?_
            refine lv_iload C0.1 C0.2.1 dL_does_166 (lv_at hl 8 rfl) ?_
            refine lv_imul C0.1 C0.2.1 dL_does_168 ?_
            refine lv_aload_n C0.1 C0.2.1 dL_does_169 rfl (lv_at hl 3 rfl) ?_
            refine lv_bipush (v := (8 : Int32)) C0.1 C0.2.1 dL_does_170 (by decide) ?_
            refine lv_iload C0.1 C0.2.1 dL_does_172 (lv_at hl 8 rfl) ?_
            refine lv_imul C0.1 C0.2.1 dL_does_174 ?_
            obtain ⟨g28, hF⟩ := gdb_some hF
            refine y_iald C0 hM oka_a g28 dL_does_175 ?_
            refine lv_iconst (v := (4 : Int32)) C0.1 C0.2.1 dL_does_176 (by decide) ?_
            refine lv_iadd C0.1 C0.2.1 dL_does_177 ?_
            refine lv_iload C0.1 C0.2.1 dL_does_178 (lv_at hl 0 rfl) ?_
            obtain ⟨j197_29, ej197_29, hF⟩ := nm_some hF
            have J197 : ∀ (s29 : Int32) (H : Heap) (locs : List Loc) (ls : Array Slot), MX G M26 s H locs → lv_has ls 11 [(0, .ref (gad G 216)), (1, .ref (gad G 220)), (2, .ref (gad G 221)), (3, .ref (gad G 223)), (4, .int a4), (5, .int a5), (6, .int a6), (7, .int a7), (8, .int a8), (9, .int s12), (10, .int r27)] → j197_29 s29 = some (r, Mf) → W p l e (RmL 8 8) s m ([.ref (gad G 216), .ref (gad G 220), .ref (gad G 221), .ref (gad G 223), .int a4, .int a5, .int a6, .int a7, .int a8] : List Value).toArray below meth c H locs (0 + 8) (6 * (0 + 8)) (QLI below ([.ref (gad G 216), .ref (gad G 220), .ref (gad G 221), .ref (gad G 223), .int a4, .int a5, .int a6, .int a7, .int a8] : List Value).toArray s G sz 8 r Mf) (F0 m 197 ls [.int s29, .int ((8 : Int32) * a6), .ref (gad G 220)]) := by
              intro s29 H locs ls hM hl hF
              rw [ej197_29] at hF
              obtain ⟨g31, hF⟩ := gdb_some hF
              refine y_iast C0 hM oka_a g31 dL_does_197 (fun H locs hM => ?_)
              obtain ⟨M32, eM32, hF⟩ := nm_some hF
              have hM := y_mn eM32 hM
              refine lv_aload_n C0.1 C0.2.1 dL_does_198 rfl (lv_at hl 2 rfl) ?_
              refine lv_iconst (v := (4 : Int32)) C0.1 C0.2.1 dL_does_199 (by decide) ?_
              refine lv_iload C0.1 C0.2.1 dL_does_200 (lv_at hl 6 rfl) ?_
              refine lv_imul C0.1 C0.2.1 dL_does_202 ?_
              refine lv_iconst (v := (3 : Int32)) C0.1 C0.2.1 dL_does_203 (by decide) ?_
              refine lv_iadd C0.1 C0.2.1 dL_does_204 ?_
              refine lv_iconst (v := (0 : Int32)) C0.1 C0.2.1 dL_does_205 (by decide) ?_
              obtain ⟨g33, hF⟩ := gdb_some hF
              refine y_iast C0 hM oka_cc g33 dL_does_206 (fun H locs hM => ?_)
              obtain ⟨M34, eM34, hF⟩ := nm_some hF
              have hM := y_mn eM34 hM
              refine lv_aload_n C0.1 C0.2.1 dL_does_207 rfl (lv_at hl 1 rfl) ?_
              refine lv_bipush (v := (8 : Int32)) C0.1 C0.2.1 dL_does_208 (by decide) ?_
              refine lv_iload C0.1 C0.2.1 dL_does_210 (lv_at hl 6 rfl) ?_
              refine lv_imul C0.1 C0.2.1 dL_does_212 ?_
              obtain ⟨g35, hF⟩ := gdb_some hF
              refine y_iald C0 hM oka_a g35 dL_does_213 ?_
              obtain ⟨e8, e9⟩ := y_2 hF
              subst e8
              subst e9
              exact z_iret C0 hM hsz (by omega) (by omega) dL_does_214
            refine lv_icmp_le (tgt := 188) C0.1 C0.2.1 dL_does_180 (by decide) (fun c36 => ?_) (fun c36 => ?_)
            · have hF := if_t c36 hF
              refine lv_aload_n C0.1 C0.2.1 dL_does_188 rfl (lv_at hl 3 rfl) ?_
              refine lv_bipush (v := (8 : Int32)) C0.1 C0.2.1 dL_does_189 (by decide) ?_
              refine lv_iload C0.1 C0.2.1 dL_does_191 (lv_at hl 8 rfl) ?_
              refine lv_imul C0.1 C0.2.1 dL_does_193 ?_
              obtain ⟨g37, hF⟩ := gdb_some hF
              refine y_iald C0 hM oka_a g37 dL_does_194 ?_
              refine lv_iconst (v := (4 : Int32)) C0.1 C0.2.1 dL_does_195 (by decide) ?_
              refine lv_iadd C0.1 C0.2.1 dL_does_196 ?_
              refine W.widen (k := 0 + 8) (n := 6 * (0 + 8)) (by omega) (by omega) ?_
              exact J197 ((rA M26 220 (Int32.toNatClampNeg ((8 : Int32) * a6))) + (4 : Int32)) _ _ _ hM (lv_sub hl [2, 3, 4, 5, 6, 7, 8, 9, 10, 1, 0] rfl) hF
            · have hF := if_f c36 hF
              refine lv_iload C0.1 C0.2.1 dL_does_183 (lv_at hl 0 rfl) ?_
              refine lv_goto (tgt := 197) C0.1 C0.2.1 dL_does_185 (by decide) ?_
              refine W.widen (k := 0 + 8) (n := 6 * (0 + 8)) (by omega) (by omega) ?_
              exact J197 r27 _ _ _ hM (lv_sub hl [2, 3, 4, 5, 6, 7, 8, 9, 10, 1, 0] rfl) hF
        · have hF := if_f (fun q => q c15) hF
          refine lv_iload C0.1 C0.2.1 dL_does_109 (lv_at hl 7 rfl) ?_
          refine lv_aload_n C0.1 C0.2.1 dL_does_111 rfl (lv_at hl 2 rfl) ?_
          refine lv_bipush (v := (8 : Int32)) C0.1 C0.2.1 dL_does_112 (by decide) ?_
          refine lv_iload C0.1 C0.2.1 dL_does_114 (lv_at hl 5 rfl) ?_
          refine lv_imul C0.1 C0.2.1 dL_does_116 ?_
          refine lv_iconst (v := (1 : Int32)) C0.1 C0.2.1 dL_does_117 (by decide) ?_
          refine lv_iadd C0.1 C0.2.1 dL_does_118 ?_
          obtain ⟨g38, hF⟩ := gdb_some hF
          refine y_iald C0 hM oka_a g38 dL_does_119 ?_
          refine lv_isub C0.1 C0.2.1 dL_does_120 ?_
          obtain ⟨x39, ex39, hF⟩ := nm_some hF
          refine y_topi ex39 ?_
          refine lv_istore (lv' := [(10, .int x39), (9, .int s12), (0, .ref (gad G 216)), (1, .ref (gad G 220)), (2, .ref (gad G 221)), (3, .ref (gad G 223)), (4, .int a4), (5, .int a5), (6, .int a6), (7, .int a7), (8, .int a8)]) C0.1 C0.2.1 dL_does_121 hl (by decide) rfl (fun ls hl => ?_)
          refine lv_aload_n C0.1 C0.2.1 dL_does_123 rfl (lv_at hl 3 rfl) ?_
          refine lv_bipush (v := (8 : Int32)) C0.1 C0.2.1 dL_does_124 (by decide) ?_
          refine lv_iload C0.1 C0.2.1 dL_does_126 (lv_at hl 6 rfl) ?_
          refine lv_imul C0.1 C0.2.1 dL_does_128 ?_
          refine lv_iconst (v := (1 : Int32)) C0.1 C0.2.1 dL_does_129 (by decide) ?_
          refine lv_iadd C0.1 C0.2.1 dL_does_130 ?_
          refine lv_iload C0.1 C0.2.1 dL_does_131 (lv_at hl 8 rfl) ?_
          obtain ⟨g40, hF⟩ := gdb_some hF
          refine y_iast C0 hM oka_a g40 dL_does_133 (fun H locs hM => ?_)
          obtain ⟨M41, eM41, hF⟩ := nm_some hF
          have hM := y_mn eM41 hM
          refine lv_iload C0.1 C0.2.1 dL_does_134 (lv_at hl 0 rfl) ?_
          refine lv_if_ge (tgt := 145) C0.1 C0.2.1 dL_does_136 (by decide) (fun c42 => ?_) (fun c42 => ?_)
          · have hF := if_t c42 hF
            refine lv_iload C0.1 C0.2.1 dL_does_145 (lv_at hl 0 rfl) ?_
            obtain ⟨e8, e9⟩ := y_2 hF
            subst e8
            subst e9
            exact z_iret C0 hM hsz (by omega) (by omega) dL_does_147
          · have hF := if_f c42 hF
            refine lv_iload C0.1 C0.2.1 dL_does_139 (lv_at hl 0 rfl) ?_
            refine lv_ineg C0.1 C0.2.1 dL_does_141 ?_
            refine lv_goto (tgt := 147) C0.1 C0.2.1 dL_does_142 (by decide) ?_
            obtain ⟨e8, e9⟩ := y_2 hF
            subst e8
            subst e9
            exact z_iret C0 hM hsz (by omega) (by omega) dL_does_147
      · have hF := if_f (fun q => q c14) hF
        refine lv_aload_n C0.1 C0.2.1 dL_does_60 rfl (lv_at hl 2 rfl) ?_
        refine lv_bipush (v := (8 : Int32)) C0.1 C0.2.1 dL_does_61 (by decide) ?_
        refine lv_iload C0.1 C0.2.1 dL_does_63 (lv_at hl 7 rfl) ?_
        refine lv_imul C0.1 C0.2.1 dL_does_65 ?_
        obtain ⟨g43, hF⟩ := gdb_some hF
        refine y_iald C0 hM oka_a g43 dL_does_66 ?_
        obtain ⟨x44, ex44, hF⟩ := nm_some hF
        refine y_topi ex44 ?_
        refine lv_istore (lv' := [(10, .int x44), (9, .int s12), (0, .ref (gad G 216)), (1, .ref (gad G 220)), (2, .ref (gad G 221)), (3, .ref (gad G 223)), (4, .int a4), (5, .int a5), (6, .int a6), (7, .int a7), (8, .int a8)]) C0.1 C0.2.1 dL_does_67 hl (by decide) rfl (fun ls hl => ?_)
        refine lv_aload_n C0.1 C0.2.1 dL_does_69 rfl (lv_at hl 3 rfl) ?_
        refine lv_bipush (v := (8 : Int32)) C0.1 C0.2.1 dL_does_70 (by decide) ?_
        refine lv_iload C0.1 C0.2.1 dL_does_72 (lv_at hl 8 rfl) ?_
        refine lv_imul C0.1 C0.2.1 dL_does_74 ?_
        refine lv_iload C0.1 C0.2.1 dL_does_75 (lv_at hl 0 rfl) ?_
        refine lv_iload C0.1 C0.2.1 dL_does_77 (lv_at hl 1 rfl) ?_
        obtain ⟨j91_45, ej91_45, hF⟩ := nm_some hF
        have J91 : ∀ (s45 : Int32) (H : Heap) (locs : List Loc) (ls : Array Slot), MX G M5 s H locs → lv_has ls 11 [(0, .ref (gad G 216)), (1, .ref (gad G 220)), (2, .ref (gad G 221)), (3, .ref (gad G 223)), (4, .int a4), (5, .int a5), (6, .int a6), (7, .int a7), (8, .int a8), (9, .int s12), (10, .int x44)] → j91_45 s45 = some (r, Mf) → W p l e (RmL 8 8) s m ([.ref (gad G 216), .ref (gad G 220), .ref (gad G 221), .ref (gad G 223), .int a4, .int a5, .int a6, .int a7, .int a8] : List Value).toArray below meth c H locs (0 + 4) (6 * (0 + 4)) (QLI below ([.ref (gad G 216), .ref (gad G 220), .ref (gad G 221), .ref (gad G 223), .int a4, .int a5, .int a6, .int a7, .int a8] : List Value).toArray s G sz 8 r Mf) (F0 m 91 ls [.int s45, .int ((8 : Int32) * a6), .ref (gad G 220)]) := by
          intro s45 H locs ls hM hl hF
          rw [ej91_45] at hF
          obtain ⟨g47, hF⟩ := gdb_some hF
          refine y_iast C0 hM oka_a g47 dL_does_91 (fun H locs hM => ?_)
          obtain ⟨M48, eM48, hF⟩ := nm_some hF
          have hM := y_mn eM48 hM
          refine lv_iload C0.1 C0.2.1 dL_does_92 (lv_at hl 10 rfl) ?_
          refine lv_aload_n C0.1 C0.2.1 dL_does_94 rfl (lv_at hl 1 rfl) ?_
          refine lv_bipush (v := (8 : Int32)) C0.1 C0.2.1 dL_does_95 (by decide) ?_
          refine lv_iload C0.1 C0.2.1 dL_does_97 (lv_at hl 6 rfl) ?_
          refine lv_imul C0.1 C0.2.1 dL_does_99 ?_
          obtain ⟨g49, hF⟩ := gdb_some hF
          refine y_iald C0 hM oka_a g49 dL_does_100 ?_
          refine lv_isub C0.1 C0.2.1 dL_does_101 ?_
          obtain ⟨e8, e9⟩ := y_2 hF
          subst e8
          subst e9
          exact z_iret C0 hM hsz (by omega) (by omega) dL_does_102
        refine lv_icmp_ge (tgt := 86) C0.1 C0.2.1 dL_does_79 (by decide) (fun c50 => ?_) (fun c50 => ?_)
        · have hF := if_t c50 hF
          refine lv_iload C0.1 C0.2.1 dL_does_86 (lv_at hl 0 rfl) ?_
          refine lv_iload C0.1 C0.2.1 dL_does_88 (lv_at hl 1 rfl) ?_
          refine lv_isub C0.1 C0.2.1 dL_does_90 ?_
          refine W.widen (k := 0 + 4) (n := 6 * (0 + 4)) (by omega) (by omega) ?_
          exact J91 (x44 - s12) _ _ _ hM (lv_sub hl [2, 3, 4, 5, 6, 7, 8, 9, 10, 1, 0] rfl) hF
        · have hF := if_f c50 hF
          refine lv_iconst (v := (0 : Int32)) C0.1 C0.2.1 dL_does_82 (by decide) ?_
          refine lv_goto (tgt := 91) C0.1 C0.2.1 dL_does_83 (by decide) ?_
          refine W.widen (k := 0 + 4) (n := 6 * (0 + 4)) (by omega) (by omega) ?_
          exact J91 (0 : Int32) _ _ _ hM (lv_sub hl [2, 3, 4, 5, 6, 7, 8, 9, 10, 1, 0] rfl) hF
    refine lv_if_le (tgt := 51) C0.1 C0.2.1 dL_does_41 (by decide) (fun c51 => ?_) (fun c51 => ?_)
    · have hF := if_t c51 hF
      refine lv_iload C0.1 C0.2.1 dL_does_51 (lv_at hl 0 rfl) ?_
      refine W.widen (k := 0 + 4) (n := 6 * (0 + 4)) (by omega) (by omega) ?_
      exact J53 x10 _ _ _ hM (lv_sub hl [1, 2, 3, 4, 5, 6, 7, 8, 9, 0] rfl) hF
    · have hF := if_f c51 hF
      refine lv_iload C0.1 C0.2.1 dL_does_44 (lv_at hl 0 rfl) ?_
      refine lv_iconst (v := (2 : Int32)) C0.1 C0.2.1 dL_does_46 (by decide) ?_
      refine lv_idiv C0.1 C0.2.1 dL_does_47 (by decide) ?_
      refine lv_goto (tgt := 53) C0.1 C0.2.1 dL_does_48 (by decide) ?_
      refine W.widen (k := 0 + 4) (n := 6 * (0 + 4)) (by omega) (by omega) ?_
      exact J53 (x10 / (2 : Int32)) _ _ _ hM (lv_sub hl [1, 2, 3, 4, 5, 6, 7, 8, 9, 0] rfl) hF
  refine lv_if_le (tgt := 29) C0.1 C0.2.1 dL_does_22 (by decide) (fun c52 => ?_) (fun c52 => ?_)
  · have hF := if_t c52 hF
    refine lv_iconst (v := (0 : Int32)) C0.1 C0.2.1 dL_does_29 (by decide) ?_
    refine W.widen (k := 0 + 4) (n := 6 * (0 + 4)) (by omega) (by omega) ?_
    exact J30 (0 : Int32) _ _ _ hM (lv_sub hl [0, 1, 2, 3, 4, 5, 6, 7, 8] rfl) hF
  · have hF := if_f c52 hF
    refine lv_iconst (v := (3 : Int32)) C0.1 C0.2.1 dL_does_25 (by decide) ?_
    refine lv_goto (tgt := 30) C0.1 C0.2.1 dL_does_26 (by decide) ?_
    refine W.widen (k := 0 + 4) (n := 6 * (0 + 4)) (by omega) (by omega) ?_
    exact J30 (3 : Int32) _ _ _ hM (lv_sub hl [0, 1, 2, 3, 4, 5, 6, 7, 8] rfl) hF

def F_L_act_l145 (a5 : Int32) (a6 : Int32) (a7 : Int32) (a8 : Int32) (x2 : Int32) (x4 : Int32) : Nat → Int32 → MS → Option (Int32 × MS)
  | 0, _, _ => none
  | n145 + 1, l12_11, M12 => (gdb (inb (6 : Int32) 7) (if (rA M12 223 (Int32.toNatClampNeg (6 : Int32))) ≤ l12_11 then (bd (F_L_lives M12 x2) fun r16 => (nm (fun (l12_17 : Int32) (M18 : MS) => (bd (F_L_endTurn M18) fun M21 => (some (l12_17, M21)))) fun j327_18 => (nm (fun (M22 : MS) => (gdb (inb (3 : Int32) 7) (gdb (inb (3 : Int32) 7) (nm (wA M22 223 (Int32.toNatClampNeg (3 : Int32)) ((rA M22 223 (Int32.toNatClampNeg (3 : Int32))) + (1 : Int32))) fun M26 => (j327_18 (-1 : Int32) M26))))) fun j319_22 => (if r16 = 0 then (j319_22 M12) else (bd2 (F_L_can M12 x2 a5 a6) fun r30 M29 => (if r30 = 0 then (j319_22 M29) else (bd2 (F_L_does M29 x2 a5 a6 a7 a8) fun r34 M33 => (j327_18 r34 M33)))))))) else (gdb (inb l12_11 6) (nm (rA M12 224 (Int32.toNatClampNeg l12_11)) fun x36 => (gdb (inb (((8 : Int32) * x36) + (4 : Int32)) 48) (nm (rA M12 220 (Int32.toNatClampNeg (((8 : Int32) * x36) + (4 : Int32)))) fun x38 => (gdb (inb (((8 : Int32) * x36) + (5 : Int32)) 48) (nm (rA M12 220 (Int32.toNatClampNeg (((8 : Int32) * x36) + (5 : Int32)))) fun x40 => (bd (F_L_forget M12 x36) fun M42 => (bd (F_L_lives M42 x36) fun r44 => (nm (fun (M45 : MS) => (bd (F_L_stand M45 x4 x36 x2 (0 : Int32)) fun M48 => (nm (l12_11 + (1 : Int32)) fun x49 => (F_L_act_l145 a5 a6 a7 a8 x2 x4 n145 x49 M48)))) fun j251_45 => (nm (fun (M50 : MS) => (gdb (inb (3 : Int32) 7) (gdb (inb (3 : Int32) 7) (nm (wA M50 223 (Int32.toNatClampNeg (3 : Int32)) ((rA M50 223 (Int32.toNatClampNeg (3 : Int32))) + (1 : Int32))) fun M54 => (j251_45 M54))))) fun j243_50 => (if r44 = 0 then (j243_50 M42) else (gdb (inb ((4 : Int32) * x36) 24) (if ¬ (rA M42 221 (Int32.toNatClampNeg ((4 : Int32) * x36))) = 0 then (j243_50 M42) else (bd2 (F_L_can M42 x36 x38 x40) fun r60 M59 => (if r60 = 0 then (j243_50 M59) else (bd2 (F_L_does M59 x36 x38 x40 (0 : Int32) (0 : Int32)) fun r64 M63 => (j251_45 M63)))))))))))))))))))

def F_L_act_l27 (a5 : Int32) (a6 : Int32) (a7 : Int32) (a8 : Int32) (x2 : Int32) (x4 : Int32) : Nat → Int32 → MS → Option (Int32 × MS)
  | 0, _, _ => none
  | n27 + 1, l12_8, M9 => (if x4 ≤ l12_8 then (F_L_act_l145 a5 a6 a7 a8 x2 x4 8 (0 : Int32) M9) else (gdb (inb l12_8 6) (nm (rA M9 222 (Int32.toNatClampNeg l12_8)) fun x66 => (gdb (inb (((8 : Int32) * x66) + (6 : Int32)) 48) (nm (rA M9 220 (Int32.toNatClampNeg (((8 : Int32) * x66) + (6 : Int32)))) fun x68 => (bd (F_L_lives M9 x66) fun r70 => (if r70 = 0 then (nm (l12_8 + (1 : Int32)) fun x72 => (F_L_act_l27 a5 a6 a7 a8 x2 x4 n27 x72 M9)) else (gdb (inb (((8 : Int32) * x66) + (4 : Int32)) 48) (if (rA M9 220 (Int32.toNatClampNeg (((8 : Int32) * x66) + (4 : Int32)))) < 0 then (nm (l12_8 + (1 : Int32)) fun x75 => (F_L_act_l27 a5 a6 a7 a8 x2 x4 n27 x75 M9)) else (gdb (inb (((8 : Int32) * x66) + (7 : Int32)) 48) (if ¬ (rA M9 220 (Int32.toNatClampNeg (((8 : Int32) * x66) + (7 : Int32)))) = a5 then (nm (l12_8 + (1 : Int32)) fun x78 => (F_L_act_l27 a5 a6 a7 a8 x2 x4 n27 x78 M9)) else (nm (fun (M79 : MS) => (gdb (inb (6 : Int32) 7) (gdb (inb (rA M79 223 (Int32.toNatClampNeg (6 : Int32))) 6) (nm (wA M79 224 (Int32.toNatClampNeg (rA M79 223 (Int32.toNatClampNeg (6 : Int32)))) x66) fun M83 => (gdb (inb (6 : Int32) 7) (gdb (inb (6 : Int32) 7) (nm (wA M83 223 (Int32.toNatClampNeg (6 : Int32)) ((rA M83 223 (Int32.toNatClampNeg (6 : Int32))) + (1 : Int32))) fun M86 => (nm (l12_8 + (1 : Int32)) fun x87 => (F_L_act_l27 a5 a6 a7 a8 x2 x4 n27 x87 M86))))))))) fun j117_79 => (if x68 = x2 then (j117_79 M9) else (if 0 ≤ x68 then (nm (l12_8 + (1 : Int32)) fun x90 => (F_L_act_l27 a5 a6 a7 a8 x2 x4 n27 x90 M9)) else (bd0 (F_X4_fighter M9 x66 (0 : Int32)) fun r93 M92 => (bd0 (F_X4_fighter M92 x2 (0 : Int32)) fun r96 M95 => (if r93 = r96 then (nm (l12_8 + (1 : Int32)) fun x98 => (F_L_act_l27 a5 a6 a7 a8 x2 x4 n27 x98 M95)) else (j117_79 M95))))))))))))))))))

def F_L_act (M : MS) (a5 : Int32) (a6 : Int32) (a7 : Int32) (a8 : Int32) : Option (Int32 × MS) := (gdb (inb (0 : Int32) 7) (nm (rA M 223 (Int32.toNatClampNeg (0 : Int32))) fun x2 => (gdb (inb (5 : Int32) 7) (nm (rA M 223 (Int32.toNatClampNeg (5 : Int32))) fun x4 => (nm (wZ M 224) fun M5 => (gdb (inb (6 : Int32) 7) (nm (wA M5 223 (Int32.toNatClampNeg (6 : Int32)) (0 : Int32)) fun M7 => (F_L_act_l27 a5 a6 a7 a8 x2 x4 8 (0 : Int32) M7))))))))

set_option maxHeartbeats 8000000 in
set_option maxRecDepth 100000 in
theorem k_L_act (l : Launch) (hst : l.stackTraces = false) (G : GG) (B0 : Nat) (sa : Nat × Nat × Nat) (M : MS) (a5 : Int32) (a6 : Int32) (a7 : Int32) (a8 : Int32) {r : Int32} {Mf : MS} (hF : F_L_act M a5 a6 a7 a8 = some (r, Mf)) (hfr224 : fr G 224) (hfr225 : fr G 225) : LI l yL_act (WS yL_act cL_act 16 (some .int)) (RmL 9 217) 217 G B0 sa [.ref (gad G 216), .ref (gad G 220), .ref (gad G 221), .ref (gad G 222), .ref (gad G 223), .int a5, .int a6, .int a7, .int a8] M r Mf := by
  intro sz
  refine z_met (by decide +kernel) (Nat.le_of_ble_eq_true rfl) (fun p e s m below meth c ls hsz C0 hM hT hl => ?_)
  have hl : lv_has ls 16 [(0, .ref (gad G 216)), (1, .ref (gad G 220)), (2, .ref (gad G 221)), (3, .ref (gad G 222)), (4, .ref (gad G 223)), (5, .int a5), (6, .int a6), (7, .int a7), (8, .int a8)] := hl
  have C0 : CX p s m meth c ([.ref (gad G 216), .ref (gad G 220), .ref (gad G 221), .ref (gad G 222), .ref (gad G 223), .int a5, .int a6, .int a7, .int a8] : List Value).toArray cL_act RL 16 (some .int) := C0
  rw [F_L_act] at hF
  refine lv_aload C0.1 C0.2.1 dL_act_0 (lv_at hl 4 rfl) ?_
  refine lv_iconst (v := (0 : Int32)) C0.1 C0.2.1 dL_act_2 (by decide) ?_
  obtain ⟨g1, hF⟩ := gdb_some hF
  refine y_iald C0 hM oka_t g1 dL_act_3 ?_
  obtain ⟨x2, ex2, hF⟩ := nm_some hF
  refine y_topi ex2 ?_
  refine lv_istore (lv' := [(9, .int x2), (0, .ref (gad G 216)), (1, .ref (gad G 220)), (2, .ref (gad G 221)), (3, .ref (gad G 222)), (4, .ref (gad G 223)), (5, .int a5), (6, .int a6), (7, .int a7), (8, .int a8)]) C0.1 C0.2.1 dL_act_4 hl (by decide) rfl (fun ls hl => ?_)
  refine lv_aload C0.1 C0.2.1 dL_act_6 (lv_at hl 5 rfl) ?_
  refine lv_iconst (v := (5 : Int32)) C0.1 C0.2.1 dL_act_8 (by decide) ?_
  obtain ⟨g3, hF⟩ := gdb_some hF
  refine y_iald C0 hM oka_t g3 dL_act_9 ?_
  obtain ⟨x4, ex4, hF⟩ := nm_some hF
  refine y_topi ex4 ?_
  refine lv_istore (lv' := [(10, .int x4), (9, .int x2), (0, .ref (gad G 216)), (1, .ref (gad G 220)), (2, .ref (gad G 221)), (3, .ref (gad G 222)), (4, .ref (gad G 223)), (5, .int a5), (6, .int a6), (7, .int a7), (8, .int a8)]) C0.1 C0.2.1 dL_act_10 hl (by decide) rfl (fun ls hl => ?_)
  refine lv_bipush (v := (6 : Int32)) C0.1 C0.2.1 dL_act_12 (by decide) ?_
  refine z_new (v := 224) (n := 6) (0 + 1) (6 * (0 + 1)) C0 hM hT hfr224 (by decide) rfl (by decide) (by decide) (tb1 96 (by decide +kernel) (by decide +kernel)) (by decide) (by show _ ≤ 217; omega) (by show _ ≤ 6 * 217; omega) (by omega) (by omega) dL_act_14 (fun q H hM hT hq => ?_)
  obtain ⟨M5, eM5, hF⟩ := nm_some hF
  have hM := y_mn eM5 hM
  refine lv_astore (lv' := [(11, .ref q), (10, .int x4), (9, .int x2), (0, .ref (gad G 216)), (1, .ref (gad G 220)), (2, .ref (gad G 221)), (3, .ref (gad G 222)), (4, .ref (gad G 223)), (5, .int a5), (6, .int a6), (7, .int a7), (8, .int a8)]) C0.1 C0.2.1 dL_act_16 hl (by decide) rfl (fun ls hl => ?_)
  refine lv_aload C0.1 C0.2.1 dL_act_18 (lv_at hl 7 rfl) ?_
  refine lv_bipush (v := (6 : Int32)) C0.1 C0.2.1 dL_act_20 (by decide) ?_
  refine lv_iconst (v := (0 : Int32)) C0.1 C0.2.1 dL_act_22 (by decide) ?_
  obtain ⟨g6, hF⟩ := gdb_some hF
  refine y_iast C0 hM oka_t g6 dL_act_23 (fun H locs hM => ?_)
  obtain ⟨M7, eM7, hF⟩ := nm_some hF
  have hM := y_mn eM7 hM
  refine lv_iconst (v := (0 : Int32)) C0.1 C0.2.1 dL_act_24 (by decide) ?_
  refine lv_istore (lv' := [(12, .int (0 : Int32)), (11, .ref q), (10, .int x4), (9, .int x2), (0, .ref (gad G 216)), (1, .ref (gad G 220)), (2, .ref (gad G 221)), (3, .ref (gad G 222)), (4, .ref (gad G 223)), (5, .int a5), (6, .int a6), (7, .int a7), (8, .int a8)]) C0.1 C0.2.1 dL_act_25 hl (by decide) rfl (fun ls hl => ?_)
  have L27 : ∀ (n : Nat) (l12_8 : Int32) (M9 : MS) (H : Heap) (locs : List Loc) (ls : Array Slot), n ≤ 8 → MX (GE G 224 q) M9 s H locs → lv_has ls 16 [(0, .ref (gad G 216)), (1, .ref (gad G 220)), (2, .ref (gad G 221)), (3, .ref (gad G 222)), (4, .ref (gad G 223)), (5, .int a5), (6, .int a6), (7, .int a7), (8, .int a8), (9, .int x2), (10, .int x4), (11, .ref q), (12, .int l12_8)] → F_L_act_l27 a5 a6 a7 a8 x2 x4 n l12_8 M9 = some (r, Mf) → W p l e (RmL 9 217) s m ([.ref (gad G 216), .ref (gad G 220), .ref (gad G 221), .ref (gad G 222), .ref (gad G 223), .int a5, .int a6, .int a7, .int a8] : List Value).toArray below meth c H locs (0 + 1 + 8 * (8 - n) + 0) (6 * (0 + 1 + 8 * (8 - n) + 0)) (QLI below ([.ref (gad G 216), .ref (gad G 220), .ref (gad G 221), .ref (gad G 222), .ref (gad G 223), .int a5, .int a6, .int a7, .int a8] : List Value).toArray s G sz 217 r Mf) (F0 m 27 ls []) := by
    intro n
    induction n with
    | zero => intro l12_8 M9 H locs ls hn27 hM hl hF; rw [F_L_act_l27] at hF; cases hF
    | succ n27 ih27 =>
      intro l12_8 M9 H locs ls hn27 hM hl hF
      rw [F_L_act_l27] at hF
      refine lv_iload C0.1 C0.2.1 dL_act_27 (lv_at hl 12 rfl) ?_
      refine lv_iload C0.1 C0.2.1 dL_act_29 (lv_at hl 10 rfl) ?_
      refine lv_icmp_ge (tgt := 142) C0.1 C0.2.1 dL_act_31 (by decide) (fun c10 => ?_) (fun c10 => ?_)
      · have hF := if_t c10 hF
        refine lv_iconst (v := (0 : Int32)) C0.1 C0.2.1 dL_act_142 (by decide) ?_
        refine lv_istore (lv' := [(12, .int (0 : Int32)), (0, .ref (gad G 216)), (1, .ref (gad G 220)), (2, .ref (gad G 221)), (3, .ref (gad G 222)), (4, .ref (gad G 223)), (5, .int a5), (6, .int a6), (7, .int a7), (8, .int a8), (9, .int x2), (10, .int x4), (11, .ref q)]) C0.1 C0.2.1 dL_act_143 hl (by decide) rfl (fun ls hl => ?_)
        have L145 : ∀ (n : Nat) (l12_11 : Int32) (M12 : MS) (H : Heap) (locs : List Loc) (ls : Array Slot), n ≤ 8 → MX (GE G 224 q) M12 s H locs → lv_has ls 16 [(0, .ref (gad G 216)), (1, .ref (gad G 220)), (2, .ref (gad G 221)), (3, .ref (gad G 222)), (4, .ref (gad G 223)), (5, .int a5), (6, .int a6), (7, .int a7), (8, .int a8), (9, .int x2), (10, .int x4), (11, .ref q), (12, .int l12_11)] → F_L_act_l145 a5 a6 a7 a8 x2 x4 n l12_11 M12 = some (r, Mf) → W p l e (RmL 9 217) s m ([.ref (gad G 216), .ref (gad G 220), .ref (gad G 221), .ref (gad G 222), .ref (gad G 223), .int a5, .int a6, .int a7, .int a8] : List Value).toArray below meth c H locs (0 + 1 + 8 * (8 - (n27 + 1)) + 0 + 17 * (8 - n) + 0) (6 * (0 + 1 + 8 * (8 - (n27 + 1)) + 0 + 17 * (8 - n) + 0)) (QLI below ([.ref (gad G 216), .ref (gad G 220), .ref (gad G 221), .ref (gad G 222), .ref (gad G 223), .int a5, .int a6, .int a7, .int a8] : List Value).toArray s G sz 217 r Mf) (F0 m 145 ls []) := by
          intro n
          induction n with
          | zero => intro l12_11 M12 H locs ls hn145 hM hl hF; rw [F_L_act_l145] at hF; cases hF
          | succ n145 ih145 =>
            intro l12_11 M12 H locs ls hn145 hM hl hF
            rw [F_L_act_l145] at hF
            refine lv_iload C0.1 C0.2.1 dL_act_145 (lv_at hl 12 rfl) ?_
            refine lv_aload C0.1 C0.2.1 dL_act_147 (lv_at hl 4 rfl) ?_
            refine lv_bipush (v := (6 : Int32)) C0.1 C0.2.1 dL_act_149 (by decide) ?_
            obtain ⟨g13, hF⟩ := gdb_some hF
            refine y_iald C0 hM oka_t g13 dL_act_151 ?_
            refine lv_icmp_ge (tgt := 269) C0.1 C0.2.1 dL_act_152 (by decide) (fun c14 => ?_) (fun c14 => ?_)
            · have hF := if_t c14 hF
              refine lv_iconst (v := (-1 : Int32)) C0.1 C0.2.1 dL_act_269 (by decide) ?_
              refine lv_istore (lv' := [(12, .int (-1 : Int32)), (0, .ref (gad G 216)), (1, .ref (gad G 220)), (2, .ref (gad G 221)), (3, .ref (gad G 222)), (4, .ref (gad G 223)), (5, .int a5), (6, .int a6), (7, .int a7), (8, .int a8), (9, .int x2), (10, .int x4), (11, .ref q)]) C0.1 C0.2.1 dL_act_270 hl (by decide) rfl (fun ls hl => ?_)
              refine lv_aload_n C0.1 C0.2.1 dL_act_272 rfl (lv_at hl 2 rfl) ?_
              refine lv_iload C0.1 C0.2.1 dL_act_273 (lv_at hl 10 rfl) ?_
              obtain ⟨r16, h15, hF⟩ := bd_some hF
              refine y_si (rest := []) C0 hM hl.1 (k_L_lives l (GE G 224 q) M12 x2 h15) cw_RL_36 rfl rfl ⟨Nat.le_of_ble_eq_true rfl, Nat.le_of_ble_eq_true rfl⟩ rfl (Nat.le_of_ble_eq_true rfl) ⟨by show _ ≤ 217; omega, by show _ ≤ 6 * 217; omega⟩ dL_act_275 (fun H locs hM => ?_)
              obtain ⟨j327_18, ej327_18, hF⟩ := nm_some hF
              have J327 : ∀ (l12_17 : Int32) (M18 : MS) (H : Heap) (locs : List Loc) (ls : Array Slot), MX (GE G 224 q) M18 s H locs → lv_has ls 16 [(0, .ref (gad G 216)), (1, .ref (gad G 220)), (2, .ref (gad G 221)), (3, .ref (gad G 222)), (4, .ref (gad G 223)), (5, .int a5), (6, .int a6), (7, .int a7), (8, .int a8), (9, .int x2), (10, .int x4), (11, .ref q), (12, .int l12_17)] → j327_18 l12_17 M18 = some (r, Mf) → W p l e (RmL 9 217) s m ([.ref (gad G 216), .ref (gad G 220), .ref (gad G 221), .ref (gad G 222), .ref (gad G 223), .int a5, .int a6, .int a7, .int a8] : List Value).toArray below meth c H locs (0 + 1 + 8 * (8 - (n27 + 1)) + 0 + 17 * (8 - (n145 + 1)) + 16) (6 * (0 + 1 + 8 * (8 - (n27 + 1)) + 0 + 17 * (8 - (n145 + 1)) + 16)) (QLI below ([.ref (gad G 216), .ref (gad G 220), .ref (gad G 221), .ref (gad G 222), .ref (gad G 223), .int a5, .int a6, .int a7, .int a8] : List Value).toArray s G sz 217 r Mf) (F0 m 327 ls []) := by
                intro l12_17 M18 H locs ls hM hl hF
                rw [ej327_18] at hF
                refine lv_aload_n C0.1 C0.2.1 dL_act_327 rfl (lv_at hl 1 rfl) ?_
                refine lv_aload_n C0.1 C0.2.1 dL_act_328 rfl (lv_at hl 2 rfl) ?_
                refine lv_aload_n C0.1 C0.2.1 dL_act_329 rfl (lv_at hl 3 rfl) ?_
                refine lv_aload C0.1 C0.2.1 dL_act_330 (lv_at hl 4 rfl) ?_
                obtain ⟨M21, h20, hF⟩ := bd_some hF
                refine y_sv (rest := []) C0 hM hl.1 (k_L_endTurn l (GE G 224 q) M18 h20) cw_RL_66 rfl rfl ⟨Nat.le_of_ble_eq_true rfl, Nat.le_of_ble_eq_true rfl⟩ rfl (Nat.le_of_ble_eq_true rfl) ⟨by show _ ≤ 217; omega, by show _ ≤ 6 * 217; omega⟩ dL_act_332 (fun H locs hM => ?_)
                refine lv_iload C0.1 C0.2.1 dL_act_335 (lv_at hl 12 rfl) ?_
                obtain ⟨e8, e9⟩ := y_2 hF
                subst e8
                subst e9
                have hM := hM.drop hq
                exact z_iret C0 hM hsz (by omega) (by omega) dL_act_337
              obtain ⟨j319_22, ej319_22, hF⟩ := nm_some hF
              have J319 : ∀ (M22 : MS) (H : Heap) (locs : List Loc) (ls : Array Slot), MX (GE G 224 q) M22 s H locs → lv_has ls 16 [(0, .ref (gad G 216)), (1, .ref (gad G 220)), (2, .ref (gad G 221)), (3, .ref (gad G 222)), (4, .ref (gad G 223)), (5, .int a5), (6, .int a6), (7, .int a7), (8, .int a8), (9, .int x2), (10, .int x4), (11, .ref q), (12, .int (-1 : Int32))] → j319_22 M22 = some (r, Mf) → W p l e (RmL 9 217) s m ([.ref (gad G 216), .ref (gad G 220), .ref (gad G 221), .ref (gad G 222), .ref (gad G 223), .int a5, .int a6, .int a7, .int a8] : List Value).toArray below meth c H locs (0 + 1 + 8 * (8 - (n27 + 1)) + 0 + 17 * (8 - (n145 + 1)) + 8) (6 * (0 + 1 + 8 * (8 - (n27 + 1)) + 0 + 17 * (8 - (n145 + 1)) + 8)) (QLI below ([.ref (gad G 216), .ref (gad G 220), .ref (gad G 221), .ref (gad G 222), .ref (gad G 223), .int a5, .int a6, .int a7, .int a8] : List Value).toArray s G sz 217 r Mf) (F0 m 319 ls []) := by
                intro M22 H locs ls hM hl hF
                rw [ej319_22] at hF
                refine lv_aload C0.1 C0.2.1 dL_act_319 (lv_at hl 4 rfl) ?_
                refine lv_iconst (v := (3 : Int32)) C0.1 C0.2.1 dL_act_321 (by decide) ?_
                refine lv_dup2_11 C0.1 C0.2.1 dL_act_322 rfl rfl ?_
                obtain ⟨g24, hF⟩ := gdb_some hF
                refine y_iald C0 hM oka_t g24 dL_act_323 ?_
                refine lv_iconst (v := (1 : Int32)) C0.1 C0.2.1 dL_act_324 (by decide) ?_
                refine lv_iadd C0.1 C0.2.1 dL_act_325 ?_
                obtain ⟨g25, hF⟩ := gdb_some hF
                refine y_iast C0 hM oka_t g25 dL_act_326 (fun H locs hM => ?_)
                obtain ⟨M26, eM26, hF⟩ := nm_some hF
                have hM := y_mn eM26 hM
                refine W.widen (k := 0 + 1 + 8 * (8 - (n27 + 1)) + 0 + 17 * (8 - (n145 + 1)) + 16) (n := 6 * (0 + 1 + 8 * (8 - (n27 + 1)) + 0 + 17 * (8 - (n145 + 1)) + 16)) (by omega) (by omega) ?_
                exact J327 (-1 : Int32) M26 _ _ _ hM (lv_sub hl [0, 1, 2, 3, 4, 5, 6, 7, 8, 9, 10, 11, 12] rfl) hF
              refine lv_if_eq (tgt := 319) C0.1 C0.2.1 dL_act_278 (by decide) (fun c27 => ?_) (fun c27 => ?_)
              · have hF := if_t c27 hF
                refine W.widen (k := 0 + 1 + 8 * (8 - (n27 + 1)) + 0 + 17 * (8 - (n145 + 1)) + 8) (n := 6 * (0 + 1 + 8 * (8 - (n27 + 1)) + 0 + 17 * (8 - (n145 + 1)) + 8)) (by omega) (by omega) ?_
                exact J319 M12 _ _ _ hM (lv_sub hl [1, 2, 3, 4, 5, 6, 7, 8, 9, 10, 11, 12, 0] rfl) hF
              · have hF := if_f c27 hF
                refine lv_aload_n C0.1 C0.2.1 dL_act_281 rfl (lv_at hl 1 rfl) ?_
                refine lv_aload_n C0.1 C0.2.1 dL_act_282 rfl (lv_at hl 2 rfl) ?_
                refine lv_aload_n C0.1 C0.2.1 dL_act_283 rfl (lv_at hl 3 rfl) ?_
                refine lv_iload C0.1 C0.2.1 dL_act_284 (lv_at hl 10 rfl) ?_
                refine lv_iload C0.1 C0.2.1 dL_act_286 (lv_at hl 6 rfl) ?_
                refine lv_iload C0.1 C0.2.1 dL_act_288 (lv_at hl 7 rfl) ?_
                obtain ⟨r30, M29, h28, hF⟩ := bd2_some hF
                refine z_si (rest := []) (0 + 1 + 8 * (8 - (n27 + 1)) + 0 + 17 * (8 - (n145 + 1)) + 8) (6 * (0 + 1 + 8 * (8 - (n27 + 1)) + 0 + 17 * (8 - (n145 + 1)) + 8)) C0 hM hT hl.1 (k_L_can l hst (GE G 224 q) B0 sa M12 x2 a5 a6 h28) cw_RL_54 rfl rfl ⟨Nat.le_of_ble_eq_true rfl, Nat.le_of_ble_eq_true rfl⟩ rfl (Nat.le_of_ble_eq_true rfl) ⟨by show _ ≤ 217; omega, by show _ ≤ 6 * 217; omega⟩ (by omega) (by omega) dL_act_290 (fun H locs hM => ?_)
                refine lv_if_eq (tgt := 319) C0.1 C0.2.1 dL_act_293 (by decide) (fun c31 => ?_) (fun c31 => ?_)
                · have hF := if_t c31 hF
                  refine W.widen (k := 0 + 1 + 8 * (8 - (n27 + 1)) + 0 + 17 * (8 - (n145 + 1)) + 8) (n := 6 * (0 + 1 + 8 * (8 - (n27 + 1)) + 0 + 17 * (8 - (n145 + 1)) + 8)) (by omega) (by omega) ?_
                  exact J319 M29 _ _ _ hM (lv_sub hl [1, 2, 3, 4, 5, 6, 7, 8, 9, 10, 11, 12, 0] rfl) hF
                · have hF := if_f c31 hF
                  refine lv_aload_n C0.1 C0.2.1 dL_act_296 rfl (lv_at hl 1 rfl) ?_
                  refine lv_aload_n C0.1 C0.2.1 dL_act_297 rfl (lv_at hl 2 rfl) ?_
                  refine lv_aload_n C0.1 C0.2.1 dL_act_298 rfl (lv_at hl 3 rfl) ?_
                  refine lv_aload C0.1 C0.2.1 dL_act_299 (lv_at hl 5 rfl) ?_
                  refine lv_iload C0.1 C0.2.1 dL_act_301 (lv_at hl 10 rfl) ?_
                  refine lv_iload C0.1 C0.2.1 dL_act_303 (lv_at hl 6 rfl) ?_
                  refine lv_iload C0.1 C0.2.1 dL_act_305 (lv_at hl 7 rfl) ?_
                  refine lv_iload C0.1 C0.2.1 dL_act_307 (lv_at hl 8 rfl) ?_
                  refine lv_iload C0.1 C0.2.1 dL_act_309 (lv_at hl 9 rfl) ?_
                  obtain ⟨r34, M33, h32, hF⟩ := bd2_some hF
                  refine z_si (rest := []) (0 + 1 + 8 * (8 - (n27 + 1)) + 0 + 17 * (8 - (n145 + 1)) + 16) (6 * (0 + 1 + 8 * (8 - (n27 + 1)) + 0 + 17 * (8 - (n145 + 1)) + 16)) C0 hM hT hl.1 (k_L_does l hst (GE G 224 q) B0 sa M29 x2 a5 a6 a7 a8 h32) cw_RL_58 rfl rfl ⟨Nat.le_of_ble_eq_true rfl, Nat.le_of_ble_eq_true rfl⟩ rfl (Nat.le_of_ble_eq_true rfl) ⟨by show _ ≤ 217; omega, by show _ ≤ 6 * 217; omega⟩ (by omega) (by omega) dL_act_311 (fun H locs hM => ?_)
                  refine lv_istore (lv' := [(12, .int r34), (0, .ref (gad G 216)), (1, .ref (gad G 220)), (2, .ref (gad G 221)), (3, .ref (gad G 222)), (4, .ref (gad G 223)), (5, .int a5), (6, .int a6), (7, .int a7), (8, .int a8), (9, .int x2), (10, .int x4), (11, .ref q)]) C0.1 C0.2.1 dL_act_314 hl (by decide) rfl (fun ls hl => ?_)
                  refine lv_goto (tgt := 327) C0.1 C0.2.1 dL_act_316 (by decide) ?_
                  refine W.widen (k := 0 + 1 + 8 * (8 - (n27 + 1)) + 0 + 17 * (8 - (n145 + 1)) + 16) (n := 6 * (0 + 1 + 8 * (8 - (n27 + 1)) + 0 + 17 * (8 - (n145 + 1)) + 16)) (by omega) (by omega) ?_
                  exact J327 r34 M33 _ _ _ hM (lv_sub hl [1, 2, 3, 4, 5, 6, 7, 8, 9, 10, 11, 12, 0] rfl) hF
            · have hF := if_f c14 hF
              refine lv_aload C0.1 C0.2.1 dL_act_155 (lv_at hl 11 rfl) ?_
              refine lv_iload C0.1 C0.2.1 dL_act_157 (lv_at hl 12 rfl) ?_
              obtain ⟨g35, hF⟩ := gdb_some hF
              refine z_tld (n := 6) C0 hM rfl g35 dL_act_159 ?_
              obtain ⟨x36, ex36, hF⟩ := nm_some hF
              refine y_topi ex36 ?_
              refine lv_istore (lv' := [(13, .int x36), (0, .ref (gad G 216)), (1, .ref (gad G 220)), (2, .ref (gad G 221)), (3, .ref (gad G 222)), (4, .ref (gad G 223)), (5, .int a5), (6, .int a6), (7, .int a7), (8, .int a8), (9, .int x2), (10, .int x4), (11, .ref q), (12, .int l12_11)]) C0.1 C0.2.1 dL_act_160 hl (by decide) rfl (fun ls hl => ?_)
              refine lv_aload_n C0.1 C0.2.1 dL_act_162 rfl (lv_at hl 2 rfl) ?_
              refine lv_bipush (v := (8 : Int32)) C0.1 C0.2.1 dL_act_163 (by decide) ?_
              refine lv_iload C0.1 C0.2.1 dL_act_165 (lv_at hl 0 rfl) ?_
              refine lv_imul C0.1 C0.2.1 dL_act_167 ?_
              refine lv_iconst (v := (4 : Int32)) C0.1 C0.2.1 dL_act_168 (by decide) ?_
              refine lv_iadd C0.1 C0.2.1 dL_act_169 ?_
              obtain ⟨g37, hF⟩ := gdb_some hF
              refine y_iald C0 hM oka_a g37 dL_act_170 ?_
              obtain ⟨x38, ex38, hF⟩ := nm_some hF
              refine y_topi ex38 ?_
              refine lv_istore (lv' := [(14, .int x38), (13, .int x36), (0, .ref (gad G 216)), (1, .ref (gad G 220)), (2, .ref (gad G 221)), (3, .ref (gad G 222)), (4, .ref (gad G 223)), (5, .int a5), (6, .int a6), (7, .int a7), (8, .int a8), (9, .int x2), (10, .int x4), (11, .ref q), (12, .int l12_11)]) C0.1 C0.2.1 dL_act_171 hl (by decide) rfl (fun ls hl => ?_)
              refine lv_aload_n C0.1 C0.2.1 dL_act_173 rfl (lv_at hl 3 rfl) ?_
              refine lv_bipush (v := (8 : Int32)) C0.1 C0.2.1 dL_act_174 (by decide) ?_
              refine lv_iload C0.1 C0.2.1 dL_act_176 (lv_at hl 1 rfl) ?_
              refine lv_imul C0.1 C0.2.1 dL_act_178 ?_
              refine lv_iconst (v := (5 : Int32)) C0.1 C0.2.1 dL_act_179 (by decide) ?_
              refine lv_iadd C0.1 C0.2.1 dL_act_180 ?_
              obtain ⟨g39, hF⟩ := gdb_some hF
              refine y_iald C0 hM oka_a g39 dL_act_181 ?_
              obtain ⟨x40, ex40, hF⟩ := nm_some hF
              refine y_topi ex40 ?_
              refine lv_istore (lv' := [(15, .int x40), (14, .int x38), (13, .int x36), (0, .ref (gad G 216)), (1, .ref (gad G 220)), (2, .ref (gad G 221)), (3, .ref (gad G 222)), (4, .ref (gad G 223)), (5, .int a5), (6, .int a6), (7, .int a7), (8, .int a8), (9, .int x2), (10, .int x4), (11, .ref q), (12, .int l12_11)]) C0.1 C0.2.1 dL_act_182 hl (by decide) rfl (fun ls hl => ?_)
              refine lv_aload_n C0.1 C0.2.1 dL_act_184 rfl (lv_at hl 4 rfl) ?_
              refine lv_iload C0.1 C0.2.1 dL_act_185 (lv_at hl 2 rfl) ?_
              obtain ⟨M42, h41, hF⟩ := bd_some hF
              refine y_sv (rest := []) C0 hM hl.1 (k_L_forget l (GE G 224 q) M12 x36 h41) cw_RL_40 rfl rfl ⟨Nat.le_of_ble_eq_true rfl, Nat.le_of_ble_eq_true rfl⟩ rfl (Nat.le_of_ble_eq_true rfl) ⟨by show _ ≤ 217; omega, by show _ ≤ 6 * 217; omega⟩ dL_act_187 (fun H locs hM => ?_)
              refine lv_aload_n C0.1 C0.2.1 dL_act_190 rfl (lv_at hl 4 rfl) ?_
              refine lv_iload C0.1 C0.2.1 dL_act_191 (lv_at hl 2 rfl) ?_
              obtain ⟨r44, h43, hF⟩ := bd_some hF
              refine y_si (rest := []) C0 hM hl.1 (k_L_lives l (GE G 224 q) M42 x36 h43) cw_RL_36 rfl rfl ⟨Nat.le_of_ble_eq_true rfl, Nat.le_of_ble_eq_true rfl⟩ rfl (Nat.le_of_ble_eq_true rfl) ⟨by show _ ≤ 217; omega, by show _ ≤ 6 * 217; omega⟩ dL_act_193 (fun H locs hM => ?_)
              obtain ⟨j251_45, ej251_45, hF⟩ := nm_some hF
              have J251 : ∀ (M45 : MS) (H : Heap) (locs : List Loc) (ls : Array Slot), MX (GE G 224 q) M45 s H locs → lv_has ls 16 [(0, .ref (gad G 216)), (1, .ref (gad G 220)), (2, .ref (gad G 221)), (3, .ref (gad G 222)), (4, .ref (gad G 223)), (5, .int a5), (6, .int a6), (7, .int a7), (8, .int a8), (9, .int x2), (10, .int x4), (11, .ref q), (12, .int l12_11), (13, .int x36), (14, .int x38), (15, .int x40)] → j251_45 M45 = some (r, Mf) → W p l e (RmL 9 217) s m ([.ref (gad G 216), .ref (gad G 220), .ref (gad G 221), .ref (gad G 222), .ref (gad G 223), .int a5, .int a6, .int a7, .int a8] : List Value).toArray below meth c H locs (0 + 1 + 8 * (8 - (n27 + 1)) + 0 + 17 * (8 - (n145 + 1)) + 16) (6 * (0 + 1 + 8 * (8 - (n27 + 1)) + 0 + 17 * (8 - (n145 + 1)) + 16)) (QLI below ([.ref (gad G 216), .ref (gad G 220), .ref (gad G 221), .ref (gad G 222), .ref (gad G 223), .int a5, .int a6, .int a7, .int a8] : List Value).toArray s G sz 217 r Mf) (F0 m 251 ls []) := by
                intro M45 H locs ls hM hl hF
                rw [ej251_45] at hF
                refine lv_aload_n C0.1 C0.2.1 dL_act_251 rfl (lv_at hl 1 rfl) ?_
                refine lv_aload_n C0.1 C0.2.1 dL_act_252 rfl (lv_at hl 3 rfl) ?_
                refine lv_iload C0.1 C0.2.1 dL_act_253 (lv_at hl 10 rfl) ?_
                refine lv_iload C0.1 C0.2.1 dL_act_255 (lv_at hl 13 rfl) ?_
                refine lv_iload C0.1 C0.2.1 dL_act_257 (lv_at hl 9 rfl) ?_
                refine lv_iconst (v := (0 : Int32)) C0.1 C0.2.1 dL_act_259 (by decide) ?_
                obtain ⟨M48, h47, hF⟩ := bd_some hF
                refine z_sv (rest := []) (0 + 1 + 8 * (8 - (n27 + 1)) + 0 + 17 * (8 - (n145 + 1)) + 17) (6 * (0 + 1 + 8 * (8 - (n27 + 1)) + 0 + 17 * (8 - (n145 + 1)) + 17)) C0 hM hT hl.1 (k_L_stand l hst (GE G 224 q) B0 sa M45 x4 x36 x2 (0 : Int32) h47 (fr_GE hfr225 (by decide))) cw_RL_62 rfl rfl ⟨Nat.le_of_ble_eq_true rfl, Nat.le_of_ble_eq_true rfl⟩ rfl (Nat.le_of_ble_eq_true rfl) ⟨by show _ ≤ 217; omega, by show _ ≤ 6 * 217; omega⟩ (by omega) (by omega) dL_act_260 (fun H locs hM => ?_)
                obtain ⟨x49, ex49, hF⟩ := nm_some hF
                refine lv_iinc (v := x49) (lv' := [(12, .int x49), (0, .ref (gad G 216)), (1, .ref (gad G 220)), (2, .ref (gad G 221)), (3, .ref (gad G 222)), (4, .ref (gad G 223)), (5, .int a5), (6, .int a6), (7, .int a7), (8, .int a8), (9, .int x2), (10, .int x4), (11, .ref q), (13, .int x36), (14, .int x38), (15, .int x40)]) C0.1 C0.2.1 dL_act_263 hl (k := 12) rfl (by rw [ex49]; rfl) (by decide) rfl (fun ls hl => ?_)
                refine lv_goto (tgt := 145) C0.1 C0.2.1 dL_act_266 (by decide) ?_
                refine W.widen (k := 0 + 1 + 8 * (8 - (n27 + 1)) + 0 + 17 * (8 - n145) + 0) (n := 6 * (0 + 1 + 8 * (8 - (n27 + 1)) + 0 + 17 * (8 - n145) + 0)) (by omega) (by omega) ?_
                exact ih145 x49 M48 _ _ _ (by omega) hM (lv_sub hl [1, 2, 3, 4, 5, 6, 7, 8, 9, 10, 11, 12, 0] rfl) hF
              obtain ⟨j243_50, ej243_50, hF⟩ := nm_some hF
              have J243 : ∀ (M50 : MS) (H : Heap) (locs : List Loc) (ls : Array Slot), MX (GE G 224 q) M50 s H locs → lv_has ls 16 [(0, .ref (gad G 216)), (1, .ref (gad G 220)), (2, .ref (gad G 221)), (3, .ref (gad G 222)), (4, .ref (gad G 223)), (5, .int a5), (6, .int a6), (7, .int a7), (8, .int a8), (9, .int x2), (10, .int x4), (11, .ref q), (12, .int l12_11), (13, .int x36), (14, .int x38), (15, .int x40)] → j243_50 M50 = some (r, Mf) → W p l e (RmL 9 217) s m ([.ref (gad G 216), .ref (gad G 220), .ref (gad G 221), .ref (gad G 222), .ref (gad G 223), .int a5, .int a6, .int a7, .int a8] : List Value).toArray below meth c H locs (0 + 1 + 8 * (8 - (n27 + 1)) + 0 + 17 * (8 - (n145 + 1)) + 8) (6 * (0 + 1 + 8 * (8 - (n27 + 1)) + 0 + 17 * (8 - (n145 + 1)) + 8)) (QLI below ([.ref (gad G 216), .ref (gad G 220), .ref (gad G 221), .ref (gad G 222), .ref (gad G 223), .int a5, .int a6, .int a7, .int a8] : List Value).toArray s G sz 217 r Mf) (F0 m 243 ls []) := by
                intro M50 H locs ls hM hl hF
                rw [ej243_50] at hF
                refine lv_aload C0.1 C0.2.1 dL_act_243 (lv_at hl 4 rfl) ?_
                refine lv_iconst (v := (3 : Int32)) C0.1 C0.2.1 dL_act_245 (by decide) ?_
                refine lv_dup2_11 C0.1 C0.2.1 dL_act_246 rfl rfl ?_
                obtain ⟨g52, hF⟩ := gdb_some hF
                refine y_iald C0 hM oka_t g52 dL_act_247 ?_
                refine lv_iconst (v := (1 : Int32)) C0.1 C0.2.1 dL_act_248 (by decide) ?_
                refine lv_iadd C0.1 C0.2.1 dL_act_249 ?_
                obtain ⟨g53, hF⟩ := gdb_some hF
                refine y_iast C0 hM oka_t g53 dL_act_250 (fun H locs hM => ?_)
                obtain ⟨M54, eM54, hF⟩ := nm_some hF
                have hM := y_mn eM54 hM
                refine W.widen (k := 0 + 1 + 8 * (8 - (n27 + 1)) + 0 + 17 * (8 - (n145 + 1)) + 16) (n := 6 * (0 + 1 + 8 * (8 - (n27 + 1)) + 0 + 17 * (8 - (n145 + 1)) + 16)) (by omega) (by omega) ?_
                exact J251 M54 _ _ _ hM (lv_sub hl [0, 1, 2, 3, 4, 5, 6, 7, 8, 9, 10, 11, 12, 13, 14, 15] rfl) hF
              refine lv_if_eq (tgt := 243) C0.1 C0.2.1 dL_act_196 (by decide) (fun c55 => ?_) (fun c55 => ?_)
              · have hF := if_t c55 hF
                refine W.widen (k := 0 + 1 + 8 * (8 - (n27 + 1)) + 0 + 17 * (8 - (n145 + 1)) + 8) (n := 6 * (0 + 1 + 8 * (8 - (n27 + 1)) + 0 + 17 * (8 - (n145 + 1)) + 8)) (by omega) (by omega) ?_
                exact J243 M42 _ _ _ hM (lv_sub hl [3, 4, 5, 6, 7, 8, 9, 10, 11, 12, 13, 14, 15, 2, 1, 0] rfl) hF
              · have hF := if_f c55 hF
                refine lv_aload_n C0.1 C0.2.1 dL_act_199 rfl (lv_at hl 5 rfl) ?_
                refine lv_iconst (v := (4 : Int32)) C0.1 C0.2.1 dL_act_200 (by decide) ?_
                refine lv_iload C0.1 C0.2.1 dL_act_201 (lv_at hl 2 rfl) ?_
                refine lv_imul C0.1 C0.2.1 dL_act_203 ?_
                obtain ⟨g56, hF⟩ := gdb_some hF
                refine y_iald C0 hM oka_cc g56 dL_act_204 ?_
                refine lv_if_ne (tgt := 243) C0.1 C0.2.1 dL_act_205 (by decide) (fun c57 => ?_) (fun c57 => ?_)
                · have hF := if_t c57 hF
                  refine W.widen (k := 0 + 1 + 8 * (8 - (n27 + 1)) + 0 + 17 * (8 - (n145 + 1)) + 8) (n := 6 * (0 + 1 + 8 * (8 - (n27 + 1)) + 0 + 17 * (8 - (n145 + 1)) + 8)) (by omega) (by omega) ?_
                  exact J243 M42 _ _ _ hM (lv_sub hl [3, 4, 5, 6, 7, 8, 9, 10, 11, 12, 13, 14, 15, 2, 1, 0] rfl) hF
                · have hF := if_f (fun q => q c57) hF
                  refine lv_aload_n C0.1 C0.2.1 dL_act_208 rfl (lv_at hl 3 rfl) ?_
                  refine lv_aload_n C0.1 C0.2.1 dL_act_209 rfl (lv_at hl 4 rfl) ?_
                  refine lv_aload_n C0.1 C0.2.1 dL_act_210 rfl (lv_at hl 5 rfl) ?_
                  refine lv_iload C0.1 C0.2.1 dL_act_211 (lv_at hl 2 rfl) ?_
                  refine lv_iload C0.1 C0.2.1 dL_act_213 (lv_at hl 1 rfl) ?_
                  refine lv_iload C0.1 C0.2.1 dL_act_215 (lv_at hl 0 rfl) ?_
                  obtain ⟨r60, M59, h58, hF⟩ := bd2_some hF
                  refine z_si (rest := []) (0 + 1 + 8 * (8 - (n27 + 1)) + 0 + 17 * (8 - (n145 + 1)) + 8) (6 * (0 + 1 + 8 * (8 - (n27 + 1)) + 0 + 17 * (8 - (n145 + 1)) + 8)) C0 hM hT hl.1 (k_L_can l hst (GE G 224 q) B0 sa M42 x36 x38 x40 h58) cw_RL_54 rfl rfl ⟨Nat.le_of_ble_eq_true rfl, Nat.le_of_ble_eq_true rfl⟩ rfl (Nat.le_of_ble_eq_true rfl) ⟨by show _ ≤ 217; omega, by show _ ≤ 6 * 217; omega⟩ (by omega) (by omega) dL_act_217 (fun H locs hM => ?_)
                  refine lv_if_eq (tgt := 243) C0.1 C0.2.1 dL_act_220 (by decide) (fun c61 => ?_) (fun c61 => ?_)
                  · have hF := if_t c61 hF
                    refine W.widen (k := 0 + 1 + 8 * (8 - (n27 + 1)) + 0 + 17 * (8 - (n145 + 1)) + 8) (n := 6 * (0 + 1 + 8 * (8 - (n27 + 1)) + 0 + 17 * (8 - (n145 + 1)) + 8)) (by omega) (by omega) ?_
                    exact J243 M59 _ _ _ hM (lv_sub hl [3, 4, 5, 6, 7, 8, 9, 10, 11, 12, 13, 14, 15, 2, 1, 0] rfl) hF
                  · have hF := if_f c61 hF
                    refine lv_aload_n C0.1 C0.2.1 dL_act_223 rfl (lv_at hl 3 rfl) ?_
                    refine lv_aload_n C0.1 C0.2.1 dL_act_224 rfl (lv_at hl 4 rfl) ?_
                    refine lv_aload_n C0.1 C0.2.1 dL_act_225 rfl (lv_at hl 5 rfl) ?_
                    refine lv_aload C0.1 C0.2.1 dL_act_226 (lv_at hl 7 rfl) ?_
                    refine lv_iload C0.1 C0.2.1 dL_act_228 (lv_at hl 2 rfl) ?_
                    refine lv_iload C0.1 C0.2.1 dL_act_230 (lv_at hl 1 rfl) ?_
                    refine lv_iload C0.1 C0.2.1 dL_act_232 (lv_at hl 0 rfl) ?_
                    refine lv_iconst (v := (0 : Int32)) C0.1 C0.2.1 dL_act_234 (by decide) ?_
                    refine lv_iconst (v := (0 : Int32)) C0.1 C0.2.1 dL_act_235 (by decide) ?_
                    obtain ⟨r64, M63, h62, hF⟩ := bd2_some hF
                    refine z_si (rest := []) (0 + 1 + 8 * (8 - (n27 + 1)) + 0 + 17 * (8 - (n145 + 1)) + 16) (6 * (0 + 1 + 8 * (8 - (n27 + 1)) + 0 + 17 * (8 - (n145 + 1)) + 16)) C0 hM hT hl.1 (k_L_does l hst (GE G 224 q) B0 sa M59 x36 x38 x40 (0 : Int32) (0 : Int32) h62) cw_RL_58 rfl rfl ⟨Nat.le_of_ble_eq_true rfl, Nat.le_of_ble_eq_true rfl⟩ rfl (Nat.le_of_ble_eq_true rfl) ⟨by show _ ≤ 217; omega, by show _ ≤ 6 * 217; omega⟩ (by omega) (by omega) dL_act_236 (fun H locs hM => ?_)
                    refine lv_pop C0.1 C0.2.1 dL_act_239 rfl ?_
                    refine lv_goto (tgt := 251) C0.1 C0.2.1 dL_act_240 (by decide) ?_
                    refine W.widen (k := 0 + 1 + 8 * (8 - (n27 + 1)) + 0 + 17 * (8 - (n145 + 1)) + 16) (n := 6 * (0 + 1 + 8 * (8 - (n27 + 1)) + 0 + 17 * (8 - (n145 + 1)) + 16)) (by omega) (by omega) ?_
                    exact J251 M63 _ _ _ hM (lv_sub hl [3, 4, 5, 6, 7, 8, 9, 10, 11, 12, 13, 14, 15, 2, 1, 0] rfl) hF
        refine W.widen (k := 0 + 1 + 8 * (8 - (n27 + 1)) + 0 + 17 * (8 - 8) + 0) (n := 6 * (0 + 1 + 8 * (8 - (n27 + 1)) + 0 + 17 * (8 - 8) + 0)) (by omega) (by omega) ?_
        exact L145 8 (0 : Int32) M9 _ _ _ (by omega) hM (lv_sub hl [1, 2, 3, 4, 5, 6, 7, 8, 9, 10, 11, 12, 0] rfl) hF
      · have hF := if_f c10 hF
        refine lv_aload_n C0.1 C0.2.1 dL_act_34 rfl (lv_at hl 3 rfl) ?_
        refine lv_iload C0.1 C0.2.1 dL_act_35 (lv_at hl 12 rfl) ?_
        obtain ⟨g65, hF⟩ := gdb_some hF
        refine y_iald C0 hM oka_r g65 dL_act_37 ?_
        obtain ⟨x66, ex66, hF⟩ := nm_some hF
        refine y_topi ex66 ?_
        refine lv_istore (lv' := [(13, .int x66), (0, .ref (gad G 216)), (1, .ref (gad G 220)), (2, .ref (gad G 221)), (3, .ref (gad G 222)), (4, .ref (gad G 223)), (5, .int a5), (6, .int a6), (7, .int a7), (8, .int a8), (9, .int x2), (10, .int x4), (11, .ref q), (12, .int l12_8)]) C0.1 C0.2.1 dL_act_38 hl (by decide) rfl (fun ls hl => ?_)
        refine lv_aload_n C0.1 C0.2.1 dL_act_40 rfl (lv_at hl 2 rfl) ?_
        refine lv_bipush (v := (8 : Int32)) C0.1 C0.2.1 dL_act_41 (by decide) ?_
        refine lv_iload C0.1 C0.2.1 dL_act_43 (lv_at hl 0 rfl) ?_
        refine lv_imul C0.1 C0.2.1 dL_act_45 ?_
        refine lv_bipush (v := (6 : Int32)) C0.1 C0.2.1 dL_act_46 (by decide) ?_
        refine lv_iadd C0.1 C0.2.1 dL_act_48 ?_
        obtain ⟨g67, hF⟩ := gdb_some hF
        refine y_iald C0 hM oka_a g67 dL_act_49 ?_
        obtain ⟨x68, ex68, hF⟩ := nm_some hF
        refine y_topi ex68 ?_
        refine lv_istore (lv' := [(14, .int x68), (13, .int x66), (0, .ref (gad G 216)), (1, .ref (gad G 220)), (2, .ref (gad G 221)), (3, .ref (gad G 222)), (4, .ref (gad G 223)), (5, .int a5), (6, .int a6), (7, .int a7), (8, .int a8), (9, .int x2), (10, .int x4), (11, .ref q), (12, .int l12_8)]) C0.1 C0.2.1 dL_act_50 hl (by decide) rfl (fun ls hl => ?_)
        refine lv_aload_n C0.1 C0.2.1 dL_act_52 rfl (lv_at hl 3 rfl) ?_
        refine lv_iload C0.1 C0.2.1 dL_act_53 (lv_at hl 1 rfl) ?_
        obtain ⟨r70, h69, hF⟩ := bd_some hF
        refine y_si (rest := []) C0 hM hl.1 (k_L_lives l (GE G 224 q) M9 x66 h69) cw_RL_36 rfl rfl ⟨Nat.le_of_ble_eq_true rfl, Nat.le_of_ble_eq_true rfl⟩ rfl (Nat.le_of_ble_eq_true rfl) ⟨by show _ ≤ 217; omega, by show _ ≤ 6 * 217; omega⟩ dL_act_55 (fun H locs hM => ?_)
        refine lv_if_eq (tgt := 136) C0.1 C0.2.1 dL_act_58 (by decide) (fun c71 => ?_) (fun c71 => ?_)
        · have hF := if_t c71 hF
          obtain ⟨x72, ex72, hF⟩ := nm_some hF
          refine lv_iinc (v := x72) (lv' := [(12, .int x72), (14, .int x68), (13, .int x66), (0, .ref (gad G 216)), (1, .ref (gad G 220)), (2, .ref (gad G 221)), (3, .ref (gad G 222)), (4, .ref (gad G 223)), (5, .int a5), (6, .int a6), (7, .int a7), (8, .int a8), (9, .int x2), (10, .int x4), (11, .ref q)]) C0.1 C0.2.1 dL_act_136 hl (k := 14) rfl (by rw [ex72]; rfl) (by decide) rfl (fun ls hl => ?_)
          refine lv_goto (tgt := 27) C0.1 C0.2.1 dL_act_139 (by decide) ?_
          refine W.widen (k := 0 + 1 + 8 * (8 - n27) + 0) (n := 6 * (0 + 1 + 8 * (8 - n27) + 0)) (by omega) (by omega) ?_
          exact ih27 x72 M9 _ _ _ (by omega) hM (lv_sub hl [3, 4, 5, 6, 7, 8, 9, 10, 11, 12, 13, 14, 0] rfl) hF
        · have hF := if_f c71 hF
          refine lv_aload_n C0.1 C0.2.1 dL_act_61 rfl (lv_at hl 3 rfl) ?_
          refine lv_bipush (v := (8 : Int32)) C0.1 C0.2.1 dL_act_62 (by decide) ?_
          refine lv_iload C0.1 C0.2.1 dL_act_64 (lv_at hl 1 rfl) ?_
          refine lv_imul C0.1 C0.2.1 dL_act_66 ?_
          refine lv_iconst (v := (4 : Int32)) C0.1 C0.2.1 dL_act_67 (by decide) ?_
          refine lv_iadd C0.1 C0.2.1 dL_act_68 ?_
          obtain ⟨g73, hF⟩ := gdb_some hF
          refine y_iald C0 hM oka_a g73 dL_act_69 ?_
          refine lv_if_lt (tgt := 136) C0.1 C0.2.1 dL_act_70 (by decide) (fun c74 => ?_) (fun c74 => ?_)
          · have hF := if_t c74 hF
            obtain ⟨x75, ex75, hF⟩ := nm_some hF
            refine lv_iinc (v := x75) (lv' := [(12, .int x75), (14, .int x68), (13, .int x66), (0, .ref (gad G 216)), (1, .ref (gad G 220)), (2, .ref (gad G 221)), (3, .ref (gad G 222)), (4, .ref (gad G 223)), (5, .int a5), (6, .int a6), (7, .int a7), (8, .int a8), (9, .int x2), (10, .int x4), (11, .ref q)]) C0.1 C0.2.1 dL_act_136 hl (k := 14) rfl (by rw [ex75]; rfl) (by decide) rfl (fun ls hl => ?_)
            refine lv_goto (tgt := 27) C0.1 C0.2.1 dL_act_139 (by decide) ?_
            refine W.widen (k := 0 + 1 + 8 * (8 - n27) + 0) (n := 6 * (0 + 1 + 8 * (8 - n27) + 0)) (by omega) (by omega) ?_
            exact ih27 x75 M9 _ _ _ (by omega) hM (lv_sub hl [3, 4, 5, 6, 7, 8, 9, 10, 11, 12, 13, 14, 0] rfl) hF
          · have hF := if_f c74 hF
            refine lv_aload_n C0.1 C0.2.1 dL_act_73 rfl (lv_at hl 3 rfl) ?_
            refine lv_bipush (v := (8 : Int32)) C0.1 C0.2.1 dL_act_74 (by decide) ?_
            refine lv_iload C0.1 C0.2.1 dL_act_76 (lv_at hl 1 rfl) ?_
            refine lv_imul C0.1 C0.2.1 dL_act_78 ?_
            refine lv_bipush (v := (7 : Int32)) C0.1 C0.2.1 dL_act_79 (by decide) ?_
            refine lv_iadd C0.1 C0.2.1 dL_act_81 ?_
            obtain ⟨g76, hF⟩ := gdb_some hF
            refine y_iald C0 hM oka_a g76 dL_act_82 ?_
            refine lv_iload C0.1 C0.2.1 dL_act_83 (lv_at hl 7 rfl) ?_
            refine lv_icmp_ne (tgt := 136) C0.1 C0.2.1 dL_act_85 (by decide) (fun c77 => ?_) (fun c77 => ?_)
            · have hF := if_t c77 hF
              obtain ⟨x78, ex78, hF⟩ := nm_some hF
              refine lv_iinc (v := x78) (lv' := [(12, .int x78), (14, .int x68), (13, .int x66), (0, .ref (gad G 216)), (1, .ref (gad G 220)), (2, .ref (gad G 221)), (3, .ref (gad G 222)), (4, .ref (gad G 223)), (5, .int a5), (6, .int a6), (7, .int a7), (8, .int a8), (9, .int x2), (10, .int x4), (11, .ref q)]) C0.1 C0.2.1 dL_act_136 hl (k := 14) rfl (by rw [ex78]; rfl) (by decide) rfl (fun ls hl => ?_)
              refine lv_goto (tgt := 27) C0.1 C0.2.1 dL_act_139 (by decide) ?_
              refine W.widen (k := 0 + 1 + 8 * (8 - n27) + 0) (n := 6 * (0 + 1 + 8 * (8 - n27) + 0)) (by omega) (by omega) ?_
              exact ih27 x78 M9 _ _ _ (by omega) hM (lv_sub hl [3, 4, 5, 6, 7, 8, 9, 10, 11, 12, 13, 14, 0] rfl) hF
            · have hF := if_f (fun q => q c77) hF
              refine lv_iload C0.1 C0.2.1 dL_act_88 (lv_at hl 0 rfl) ?_
              refine lv_iload C0.1 C0.2.1 dL_act_90 (lv_at hl 11 rfl) ?_
              obtain ⟨j117_79, ej117_79, hF⟩ := nm_some hF
              have J117 : ∀ (M79 : MS) (H : Heap) (locs : List Loc) (ls : Array Slot), MX (GE G 224 q) M79 s H locs → lv_has ls 16 [(0, .ref (gad G 216)), (1, .ref (gad G 220)), (2, .ref (gad G 221)), (3, .ref (gad G 222)), (4, .ref (gad G 223)), (5, .int a5), (6, .int a6), (7, .int a7), (8, .int a8), (9, .int x2), (10, .int x4), (11, .ref q), (12, .int l12_8), (13, .int x66), (14, .int x68)] → j117_79 M79 = some (r, Mf) → W p l e (RmL 9 217) s m ([.ref (gad G 216), .ref (gad G 220), .ref (gad G 221), .ref (gad G 222), .ref (gad G 223), .int a5, .int a6, .int a7, .int a8] : List Value).toArray below meth c H locs (0 + 1 + 8 * (8 - (n27 + 1)) + 8) (6 * (0 + 1 + 8 * (8 - (n27 + 1)) + 8)) (QLI below ([.ref (gad G 216), .ref (gad G 220), .ref (gad G 221), .ref (gad G 222), .ref (gad G 223), .int a5, .int a6, .int a7, .int a8] : List Value).toArray s G sz 217 r Mf) (F0 m 117 ls []) := by
                intro M79 H locs ls hM hl hF
                rw [ej117_79] at hF
                refine lv_aload C0.1 C0.2.1 dL_act_117 (lv_at hl 11 rfl) ?_
                refine lv_aload C0.1 C0.2.1 dL_act_119 (lv_at hl 4 rfl) ?_
                refine lv_bipush (v := (6 : Int32)) C0.1 C0.2.1 dL_act_121 (by decide) ?_
                obtain ⟨g81, hF⟩ := gdb_some hF
                refine y_iald C0 hM oka_t g81 dL_act_123 ?_
                refine lv_iload C0.1 C0.2.1 dL_act_124 (lv_at hl 13 rfl) ?_
                obtain ⟨g82, hF⟩ := gdb_some hF
                refine z_tst (n := 6) C0 hM rfl g82 dL_act_126 (fun H locs hM => ?_)
                obtain ⟨M83, eM83, hF⟩ := nm_some hF
                have hM := y_mn eM83 hM
                refine lv_aload C0.1 C0.2.1 dL_act_127 (lv_at hl 4 rfl) ?_
                refine lv_bipush (v := (6 : Int32)) C0.1 C0.2.1 dL_act_129 (by decide) ?_
                refine lv_dup2_11 C0.1 C0.2.1 dL_act_131 rfl rfl ?_
                obtain ⟨g84, hF⟩ := gdb_some hF
                refine y_iald C0 hM oka_t g84 dL_act_132 ?_
                refine lv_iconst (v := (1 : Int32)) C0.1 C0.2.1 dL_act_133 (by decide) ?_
                refine lv_iadd C0.1 C0.2.1 dL_act_134 ?_
                obtain ⟨g85, hF⟩ := gdb_some hF
                refine y_iast C0 hM oka_t g85 dL_act_135 (fun H locs hM => ?_)
                obtain ⟨M86, eM86, hF⟩ := nm_some hF
                have hM := y_mn eM86 hM
                obtain ⟨x87, ex87, hF⟩ := nm_some hF
                refine lv_iinc (v := x87) (lv' := [(12, .int x87), (0, .ref (gad G 216)), (1, .ref (gad G 220)), (2, .ref (gad G 221)), (3, .ref (gad G 222)), (4, .ref (gad G 223)), (5, .int a5), (6, .int a6), (7, .int a7), (8, .int a8), (9, .int x2), (10, .int x4), (11, .ref q), (13, .int x66), (14, .int x68)]) C0.1 C0.2.1 dL_act_136 hl (k := 12) rfl (by rw [ex87]; rfl) (by decide) rfl (fun ls hl => ?_)
                refine lv_goto (tgt := 27) C0.1 C0.2.1 dL_act_139 (by decide) ?_
                refine W.widen (k := 0 + 1 + 8 * (8 - n27) + 0) (n := 6 * (0 + 1 + 8 * (8 - n27) + 0)) (by omega) (by omega) ?_
                exact ih27 x87 M86 _ _ _ (by omega) hM (lv_sub hl [1, 2, 3, 4, 5, 6, 7, 8, 9, 10, 11, 12, 0] rfl) hF
              refine lv_icmp_eq (tgt := 117) C0.1 C0.2.1 dL_act_92 (by decide) (fun c88 => ?_) (fun c88 => ?_)
              · have hF := if_t c88 hF
                refine W.widen (k := 0 + 1 + 8 * (8 - (n27 + 1)) + 8) (n := 6 * (0 + 1 + 8 * (8 - (n27 + 1)) + 8)) (by omega) (by omega) ?_
                exact J117 M9 _ _ _ hM (lv_sub hl [2, 3, 4, 5, 6, 7, 8, 9, 10, 11, 12, 13, 14, 1, 0] rfl) hF
              · have hF := if_f c88 hF
                refine lv_iload C0.1 C0.2.1 dL_act_95 (lv_at hl 0 rfl) ?_
                refine lv_if_ge (tgt := 136) C0.1 C0.2.1 dL_act_97 (by decide) (fun c89 => ?_) (fun c89 => ?_)
                · have hF := if_t c89 hF
                  obtain ⟨x90, ex90, hF⟩ := nm_some hF
                  refine lv_iinc (v := x90) (lv' := [(12, .int x90), (14, .int x68), (13, .int x66), (0, .ref (gad G 216)), (1, .ref (gad G 220)), (2, .ref (gad G 221)), (3, .ref (gad G 222)), (4, .ref (gad G 223)), (5, .int a5), (6, .int a6), (7, .int a7), (8, .int a8), (9, .int x2), (10, .int x4), (11, .ref q)]) C0.1 C0.2.1 dL_act_136 hl (k := 14) rfl (by rw [ex90]; rfl) (by decide) rfl (fun ls hl => ?_)
                  refine lv_goto (tgt := 27) C0.1 C0.2.1 dL_act_139 (by decide) ?_
                  refine W.widen (k := 0 + 1 + 8 * (8 - n27) + 0) (n := 6 * (0 + 1 + 8 * (8 - n27) + 0)) (by omega) (by omega) ?_
                  exact ih27 x90 M9 _ _ _ (by omega) hM (lv_sub hl [3, 4, 5, 6, 7, 8, 9, 10, 11, 12, 13, 14, 0] rfl) hF
                · have hF := if_f c89 hF
                  refine lv_aload_n C0.1 C0.2.1 dL_act_100 rfl (lv_at hl 2 rfl) ?_
                  refine lv_iload C0.1 C0.2.1 dL_act_101 (lv_at hl 1 rfl) ?_
                  refine lv_iconst (v := (0 : Int32)) C0.1 C0.2.1 dL_act_103 (by decide) ?_
                  obtain ⟨r93, M92, h91, hF⟩ := bd0_some hF
                  refine z_vi (rest := []) (0 + 1 + 8 * (8 - (n27 + 1)) + 4) (6 * (0 + 1 + 8 * (8 - (n27 + 1)) + 4)) C0 hM hT hl.1 (k_X4_fighter l hst (GE G 224 q) B0 sa M9 x66 (0 : Int32) h91) cw_RL_26 rfl rfl ⟨Nat.le_of_ble_eq_true rfl, Nat.le_of_ble_eq_true rfl⟩ rfl (Nat.le_of_ble_eq_true rfl) ⟨by show _ ≤ 217; omega, by show _ ≤ 6 * 217; omega⟩ (by omega) (by omega) dL_act_104 (fun H locs hM => ?_)
                  refine lv_aload_n C0.1 C0.2.1 dL_act_107 rfl (lv_at hl 2 rfl) ?_
                  refine lv_iload C0.1 C0.2.1 dL_act_108 (lv_at hl 11 rfl) ?_
                  refine lv_iconst (v := (0 : Int32)) C0.1 C0.2.1 dL_act_110 (by decide) ?_
                  obtain ⟨r96, M95, h94, hF⟩ := bd0_some hF
                  refine z_vi (rest := [.int r93]) (0 + 1 + 8 * (8 - (n27 + 1)) + 8) (6 * (0 + 1 + 8 * (8 - (n27 + 1)) + 8)) C0 hM hT hl.1 (k_X4_fighter l hst (GE G 224 q) B0 sa M92 x2 (0 : Int32) h94) cw_RL_26 rfl rfl ⟨Nat.le_of_ble_eq_true rfl, Nat.le_of_ble_eq_true rfl⟩ rfl (Nat.le_of_ble_eq_true rfl) ⟨by show _ ≤ 217; omega, by show _ ≤ 6 * 217; omega⟩ (by omega) (by omega) dL_act_111 (fun H locs hM => ?_)
                  refine lv_icmp_eq (tgt := 136) C0.1 C0.2.1 dL_act_114 (by decide) (fun c97 => ?_) (fun c97 => ?_)
                  · have hF := if_t c97 hF
                    obtain ⟨x98, ex98, hF⟩ := nm_some hF
                    refine lv_iinc (v := x98) (lv' := [(12, .int x98), (14, .int x68), (13, .int x66), (0, .ref (gad G 216)), (1, .ref (gad G 220)), (2, .ref (gad G 221)), (3, .ref (gad G 222)), (4, .ref (gad G 223)), (5, .int a5), (6, .int a6), (7, .int a7), (8, .int a8), (9, .int x2), (10, .int x4), (11, .ref q)]) C0.1 C0.2.1 dL_act_136 hl (k := 14) rfl (by rw [ex98]; rfl) (by decide) rfl (fun ls hl => ?_)
                    refine lv_goto (tgt := 27) C0.1 C0.2.1 dL_act_139 (by decide) ?_
                    refine W.widen (k := 0 + 1 + 8 * (8 - n27) + 0) (n := 6 * (0 + 1 + 8 * (8 - n27) + 0)) (by omega) (by omega) ?_
                    exact ih27 x98 M95 _ _ _ (by omega) hM (lv_sub hl [3, 4, 5, 6, 7, 8, 9, 10, 11, 12, 13, 14, 0] rfl) hF
                  · have hF := if_f c97 hF
                    refine W.widen (k := 0 + 1 + 8 * (8 - (n27 + 1)) + 8) (n := 6 * (0 + 1 + 8 * (8 - (n27 + 1)) + 8)) (by omega) (by omega) ?_
                    exact J117 M95 _ _ _ hM (lv_sub hl [2, 3, 4, 5, 6, 7, 8, 9, 10, 11, 12, 13, 14, 1, 0] rfl) hF
  refine W.widen (k := 0 + 1 + 8 * (8 - 8) + 0) (n := 6 * (0 + 1 + 8 * (8 - 8) + 0)) (by omega) (by omega) ?_
  exact L27 8 (0 : Int32) M7 _ _ _ (by omega) hM (lv_sub hl [4, 5, 6, 7, 8, 9, 10, 11, 12, 3, 2, 1, 0] rfl) hF
