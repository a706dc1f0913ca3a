def R_law : String := "TurnTrackerLaw"
def lw_P (b : Addr) (xs : List Int32) (args : Array Value) (s : State) : Prop := args = #[.ref b] ∧ s.IntsAt b xs ∧ xs.length ≤ 2560 ∧ (Jvm.Cond.and given_1 narrow_1).before args s = true
/-- what a walk over the start with the record d0 says of its end, said of the start itself -/
theorem lw_closed {s t : State} {o : Outcome} {d0 : Drawn} {L : List Loc} {k n : Nat} (hd0 : s.drawn.sameBut d0 lw_cs) (hv : ∃ v, o = .returned v) (hW : (s.setDrawn d0).WarmedH t.vm) (hs : (s.setDrawn d0).sameButNew ({ t with vm := s.vm } : State) L k n) : State.butDraws s t lw_cs (fun t1 => Framed s o t1 L k n) := by
  have h2 : t.drawn = d0 := congrArg State.drawn hs.1
  refine ⟨⟨hv, hW, State.sameButNew.setDrawn hs s.drawn⟩, ?_, by decide⟩
  rw [h2]
  exact hd0
def lw_Q (_ : Array Value) (s : State) (o : Outcome) (t : State) : Prop := o = .returned (some (.int 1)) ∧ State.butDraws s t lw_cs (fun t1 => Framed s o t1 [] 601024 7293034)
def lw_Z (below : List Frame) (a : Array Value) (s : State) : State → Prop := fun t => ∃ o, t.status = .running ∧ Ended t below o ∧ lw_Q a s o t
/-- the law's own end, with 1 on the stack, nothing written that was there before, its room as the claim has it; d0: the record of draws at this point (at the entry s.drawn: begin with 'refine W.base ?_' and 'have hd0 := Drawn.sameBut.refl s.drawn lw_cs') -/
theorem lw_ret {p : Program} {l : Launch} {e : Env} {s : State} {m : MethodId} {below : List Frame} {meth : Method} {c : Code} {b : Nat} {d0 : Drawn} (hd0 : s.drawn.sameBut d0 lw_cs) (hx : p.tables.exec = Jvm.exec) (hb : c.code = code) (hr : meth.sig.returnType = ret) (hlocks : meth.locks = false) {pc : Nat} {H : Heap} {ls : Array Slot} (hdg : decode code pc = .ok (.ireturn, 1)) : W p l e room_1 (s.setDrawn d0) m #[Value.ref b] below meth c H [] 601024 7293034 (lw_Z below #[Value.ref b] s) (F0 m pc ls [.int 1]) := by
  intro T hT X
  obtain ⟨fs, hret, hrun, hended, hW, hframe⟩ := X.leave (v := some (.int 1)) (hlocks := hlocks) (fun h => by rw [hr] at h; cases h)
  have hmeth' : T.vm.method? m = some meth := X.method'
  refine ⟨T.setFrames fs, ?_, .returned (some (.int 1)), hrun, hended, rfl, lw_closed hd0 ⟨_, rfl⟩ hW hframe⟩
  jvm_step X.here [X.here.top, hx, hb, hdg, hmeth', hr, ret, narrow_b1]
  (try refine ⟨rfl, ?_⟩); (try refine ⟨rfl, ?_⟩)
  first | (intro acts; rw [hret _ acts rfl rfl rfl]) | rw [hret _ _ rfl rfl rfl]
  exact Steps.refl _
/-- what holds at the law's entry: the machine, the code, the tables' words (any of lw_tbl by 'hts w (by decide +kernel)'), the script of L ints xs at the cell b, what the Statement gives of the start (any of its parts by flat_of_before) -/
def lw_At (p : Program) (s : State) (m : MethodId) (meth : Method) (c : Code) (b L : Nat) (xs : Nat → Int32) : Prop :=
  p.tables.exec = Jvm.exec ∧ c.code = code ∧ meth.sig.returnType = ret ∧ c.maxLocals = 9 ∧ s.vm.findClass R_law = some m.cls ∧ (∀ w ∈ lw_tbl, w.before #[Value.ref b] s = true) ∧ va_X b L xs s s.heap ∧ b < s.heap.size ∧ meth.locks = false ∧ (Jvm.Cond.and given_1 narrow_1).before #[Value.ref b] s = true
section LR
variable {p : Program} {l : Launch} {e : Env} {R : Room} {s : State} {m : MethodId} {args : Array Value} {below : List Frame} {meth : Method} {c : Code} {H : Heap} {locs : List Loc} {cells slots : Nat} {Q : State → Prop}
variable {cc : ByteArray} {own : String} {nL : Nat} {ret0 : Option FieldType} {pc : Nat} {ls : Array Slot} {rest : List Value} {G : GG} {M : MS} {B0 : Nat} {sa : Nat × Nat × Nat}
theorem y_lald (C0 : CX p s m meth c args cc own nL ret0) (hM : MX G M s H locs) (hdg : decode cc pc = .ok (.laload, 1))
    (kk : W p l e R s m args below meth c H locs cells slots Q (F0 m (pc + 1) ls (.long (rO M) :: rest))) : W p l e R s m args below meth c H locs cells slots Q (F0 m pc ls (.int 0 :: .ref (gad G 227) :: rest)) := by
  have hv : ok 9 227 := ok_c (by decide +kernel)
  obtain ⟨hx, hb, -, hown, hts, -, -⟩ := C0
  obtain ⟨hK, hP, -, -⟩ := hM
  exact va_lald (f := fun _ => rO M) hx hb hK hP 227 3 ((wsM_at hv.1).trans (by rw [ent9 hv])) rfl (inb_in (by decide +kernel)) hdg kk
theorem l_hi {na : Nat} {y : MethodName} {cc' : ByteArray} {nL' index : Nat} {ret' : Option FieldType} {hh : List (Nat × Nat × Nat × Nat)} {rm : Room} {As st0 : List Value} {r : Int32} {M' : MS} (C0 : CX p s m meth c args cc own nL ret0) (hM : MX G M s H locs) (hT : TX G B0 sa s s.heap) (hls : ls.size = nL)
    (hK : HI l y (WH y cc' nL' ret' hh) rm G B0 sa As M r M') (cw : (∀ w ∈ ([.methodLink own index y, .static y, .initialized y.cls, .codeWith y cc' nL' ret' hh] : List Cond), w ∈ TBg) ∧ y.cls ≠ "java/lang/invoke/MethodHandle" ∧ y.cls ≠ "java/lang/invoke/VarHandle" ∧ (parseMethodDescriptor y.desc).map (fun d => d.parameters.length) = some na) (hna : As.length = na) (hm : rm.cells = 4) (hs : rm.slots = 24) (hR : rm.frames + 1 ≤ R.frames ∧ 8 + (nL' + 11) + rm.locals ≤ R.locals) (hst : st0 = As.reverse ++ rest) (hW : (rest.map fun v => v.category).sum ≤ 8) (hf : cells + 4 ≤ R.cells ∧ slots + 24 ≤ R.slots) (hdg : decode cc pc = .ok (.invokestatic index, 3))
    (kk : ∀ (H1 : Heap) (locs1 : List Loc), MX G M' s H1 locs1 → W p l e R s m args below meth c H1 locs1 (cells + 4) (slots + 24) Q (F0 m (pc + 3) ls (.int r :: rest))) : W p l e R s m args below meth c H locs cells slots Q (F0 m pc ls st0) := by
  obtain ⟨hx, hb, hml, hown, hts, -, -⟩ := C0
  obtain ⟨h1, h3, h4, h5⟩ := cw
  have hi : ∀ w ∈ va_wsS own index y (WH y cc' nL' ret' hh), w ∈ TBg := by
    intro w hw
    rcases List.mem_append.mp hw with h | h
    · exact h1 w (List.mem_append_left [Cond.codeWith y cc' nL' ret' hh] h)
    · rcases List.mem_cons.mp h with h | h
      · rw [h]; exact h1 _ (by simp)
      · exact h
  have hp := x_pre (av := As) hM hT
  refine vx_calli (vx_runSX (hh := hh) (As := As) (rest := rest) ⟨hx, hb, hml, hown, hts⟩ (hK H.size) (vx_cwSW na hts (good_TBg hi) rfl hm hs ⟨h3, h4, h5⟩ hR) hp rfl hna hls hst (lv_room hW) hdg hf) hM.2.2.2 (fun q _ h => MX_free hM q h) (MX_free hM) (fun q _ h => MX_free hM q h)
    (fun E ce q9 u t H1 locs1 ht hvm hw hB _ _ hS hce hcv hcl => hw.elim) (fun r' u t H1 locs1 ht hvm hw hB _ _ hS => ?_)
  subst hw
  exact kk H1 locs1 (y_back ht hvm hB hS)
end LR
/-- the law's end over its own start -/
theorem l_end {p : Program} {l : Launch} {e : Env} {s : State} {m : MethodId} {below : List Frame} {meth : Method} {c : Code} {b : Nat} {G : GG} {M : MS} {H : Heap} {locs : List Loc} {pc : Nat} {ls : Array Slot} (C0 : CX p s m meth c #[.ref b] cL_law RL 9 ret) (hM : MX G M s H locs) (hA : ∀ q, Af G s.heap.size q → s.heap.size ≤ q) (hdg : decode cL_law pc = .ok (.ireturn, 1)) :
    W p l e room_1 s m #[Value.ref b] below meth c H locs 601024 7293034 (lw_Z below #[Value.ref b] s) (F0 m pc ls [.int 1]) := by
  obtain ⟨hx, hb, hml, hown, hts, hr, hlk⟩ := C0
  refine va_forget (fun q hq => hA _ (hM.2.2.2.2.2 q hq)) ?_
  exact lw_ret (d0 := s.drawn) (Drawn.sameBut.refl s.drawn lw_cs) hx hb hr hlk hdg

theorem cw_RL_83 : CWV RL 83 RX5 yX5_come cX5_come 9 (some .int) 4 := ⟨tbx [926, 927, 928, 74, 929] (by decide +kernel) (by decide +kernel), rfl, by decide +kernel, by decide +kernel, by decide +kernel⟩
theorem cw_RL_84 : CWV RL 84 RX5 yX5_thrown cX5_thrown 1 (some .int) 0 := ⟨tbx [862, 863, 864, 74, 865] (by decide +kernel) (by decide +kernel), rfl, by decide +kernel, by decide +kernel, by decide +kernel⟩
theorem cw_RL_87 : CWV RL 87 RX4 yX4_begin cX4_begin 1 (some .int) 0 := ⟨tbx [240, 241, 242, 69, 243] (by decide +kernel) (by decide +kernel), rfl, by decide +kernel, by decide +kernel, by decide +kernel⟩
theorem cw_RL_90 : CWV RL 90 RX5 yX5_begin cX5_begin 3 (some .int) 0 := ⟨tbx [870, 871, 872, 74, 873] (by decide +kernel) (by decide +kernel), rfl, by decide +kernel, by decide +kernel, by decide +kernel⟩
theorem cw_RL_94 : CWV RL 94 RX5 yX5_strike cX5_strike 2 (some .int) 1 := ⟨tbx [933, 934, 935, 74, 936] (by decide +kernel) (by decide +kernel), rfl, by decide +kernel, by decide +kernel, by decide +kernel⟩
theorem cw_RL_97 : CWV RL 97 RX5 yX5_step cX5_step 2 (some .int) 1 := ⟨tbx [1000, 1001, 1002, 74, 1003] (by decide +kernel) (by decide +kernel), rfl, by decide +kernel, by decide +kernel, by decide +kernel⟩
theorem cw_RL_100 : CWV RL 100 RX5 yX5_help cX5_help 2 (some .int) 1 := ⟨tbx [1004, 1005, 1006, 74, 1007] (by decide +kernel) (by decide +kernel), rfl, by decide +kernel, by decide +kernel, by decide +kernel⟩
theorem cw_RL_104 : CWV RL 104 RX5 yX5_curse cX5_curse 4 (some .int) 3 := ⟨tbx [1008, 1009, 1010, 74, 1011] (by decide +kernel) (by decide +kernel), rfl, by decide +kernel, by decide +kernel, by decide +kernel⟩
theorem cw_RL_108 : CWV RL 108 RX5 yX5_delay cX5_delay 1 (some .int) 0 := ⟨tbx [1015, 1016, 1017, 74, 1018] (by decide +kernel) (by decide +kernel), rfl, by decide +kernel, by decide +kernel, by decide +kernel⟩
theorem cw_RL_111 : CWV RL 111 RX5 yX5_ready cX5_ready 6 (some .int) 4 := ⟨tbx [1023, 1024, 1025, 74, 1026] (by decide +kernel) (by decide +kernel), rfl, by decide +kernel, by decide +kernel, by decide +kernel⟩
theorem cw_RL_114 : CWV RL 114 RX5 yX5_end cX5_end 1 (some .int) 0 := ⟨tbx [1031, 1032, 1033, 74, 1034] (by decide +kernel) (by decide +kernel), rfl, by decide +kernel, by decide +kernel, by decide +kernel⟩
theorem cw_RL_117 : CWV RL 117 RX5 yX5_comeIn cX5_comeIn 2 (some .int) 1 := ⟨tbx [1035, 1036, 1037, 74, 1038] (by decide +kernel) (by decide +kernel), rfl, by decide +kernel, by decide +kernel, by decide +kernel⟩
theorem cw_RL_120 : CWV RL 120 RX5 yX5_append cX5_append 2 (some .int) 1 := ⟨tbx [1051, 1052, 1053, 74, 1054] (by decide +kernel) (by decide +kernel), rfl, by decide +kernel, by decide +kernel, by decide +kernel⟩
theorem cw_RL_121 : CWV RL 121 RX4 yX4_clearBuffer cX4_clearBuffer 2 (some .int) 0 := ⟨tbx [341, 342, 343, 69, 344] (by decide +kernel) (by decide +kernel), rfl, by decide +kernel, by decide +kernel, by decide +kernel⟩
theorem cw_RL_124 : CWV RL 124 RX5 yX5_clearBuffer cX5_clearBuffer 2 (some .int) 0 := ⟨tbx [1055, 1056, 1057, 74, 1058] (by decide +kernel) (by decide +kernel), rfl, by decide +kernel, by decide +kernel, by decide +kernel⟩
theorem cw_RL_125 : CWV RL 125 RX4 yX4_firstError cX4_firstError 1 (some .int) 0 := ⟨tbx [345, 346, 347, 69, 348] (by decide +kernel) (by decide +kernel), rfl, by decide +kernel, by decide +kernel, by decide +kernel⟩
theorem cw_RL_128 : CWV RL 128 RX5 yX5_firstError cX5_firstError 2 (some .int) 0 := ⟨tbx [1059, 1060, 1061, 74, 1062] (by decide +kernel) (by decide +kernel), rfl, by decide +kernel, by decide +kernel, by decide +kernel⟩
theorem cw_RL_131 : CWV RL 131 RX5 yX5_run cX5_run 2 (some .int) 0 := ⟨tbx [1083, 1084, 1085, 74, 1086] (by decide +kernel) (by decide +kernel), rfl, by decide +kernel, by decide +kernel, by decide +kernel⟩
theorem cw_RL_134 : CWV RL 134 RX5 yX5_undo cX5_undo 2 (some .int) 0 := ⟨tbx [866, 867, 868, 74, 869] (by decide +kernel) (by decide +kernel), rfl, by decide +kernel, by decide +kernel, by decide +kernel⟩
theorem cw_RL_138 : CWV RL 138 RX5 yX5_fighter cX5_fighter 3 (some .int) 2 := ⟨tbx [1103, 1104, 1105, 74, 1106] (by decide +kernel) (by decide +kernel), rfl, by decide +kernel, by decide +kernel, by decide +kernel⟩
theorem cw_RL_141 : CWV RL 141 RX5 yX5_readied cX5_readied 3 (some .int) 2 := ⟨tbx [1115, 1116, 1117, 74, 1118] (by decide +kernel) (by decide +kernel), rfl, by decide +kernel, by decide +kernel, by decide +kernel⟩
theorem cw_RL_144 : CWV RL 144 RX5 yX5_inRow cX5_inRow 2 (some .int) 1 := ⟨tbx [1119, 1120, 1121, 74, 1122] (by decide +kernel) (by decide +kernel), rfl, by decide +kernel, by decide +kernel, by decide +kernel⟩
theorem cw_RL_147 : CWV RL 147 RX5 yX5_count cX5_count 2 (some .int) 1 := ⟨tbx [1127, 1128, 1129, 74, 1130] (by decide +kernel) (by decide +kernel), rfl, by decide +kernel, by decide +kernel, by decide +kernel⟩
theorem cw_RL_150 : CWV RL 150 RX5 yX5_ifDone cX5_ifDone 5 (some .int) 3 := ⟨tbx [1147, 1148, 1149, 74, 1150] (by decide +kernel) (by decide +kernel), rfl, by decide +kernel, by decide +kernel, by decide +kernel⟩
theorem cw_RL_153 : CWV RL 153 RX5 yX5_ifEnded cX5_ifEnded 2 (some .int) 1 := ⟨tbx [1163, 1164, 1165, 74, 1166] (by decide +kernel) (by decide +kernel), rfl, by decide +kernel, by decide +kernel, by decide +kernel⟩
theorem cw_RL_154 : CWV RL 154 RX4 yX4_bestStrike cX4_bestStrike 5 (some .int) 0 := ⟨tbx [366, 367, 368, 69, 369] (by decide +kernel) (by decide +kernel), rfl, by decide +kernel, by decide +kernel, by decide +kernel⟩
theorem cw_RL_157 : CWV RL 157 RX5 yX5_bestStrike cX5_bestStrike 1 (some .int) 0 := ⟨tbx [1171, 1172, 1173, 74, 1174] (by decide +kernel) (by decide +kernel), rfl, by decide +kernel, by decide +kernel, by decide +kernel⟩
theorem cw_RL_158 : CWV RL 158 RX4 yX4_standing cX4_standing 3 (some .double) 0 := ⟨tbx [429, 430, 431, 69, 432] (by decide +kernel) (by decide +kernel), rfl, by decide +kernel, by decide +kernel, by decide +kernel⟩
theorem cw_RL_162 : CWV RL 162 RX5 yX5_standing cX5_standing 1 (some .double) 0 := ⟨tbx [1179, 1180, 1181, 74, 1182] (by decide +kernel) (by decide +kernel), rfl, by decide +kernel, by decide +kernel, by decide +kernel⟩
theorem cw_RL_163 : CWV RL 163 RX4 yX4_digest cX4_digest 4 (some .long) 0 := ⟨tbx [438, 439, 440, 69, 441] (by decide +kernel) (by decide +kernel), rfl, by decide +kernel, by decide +kernel, by decide +kernel⟩
theorem cw_RL_167 : CWV RL 167 RX5 yX5_digest cX5_digest 2 (some .long) 0 := ⟨tbx [1188, 1189, 1190, 74, 1191] (by decide +kernel) (by decide +kernel), rfl, by decide +kernel, by decide +kernel, by decide +kernel⟩
def F_L_loop (xs : Nat → Int32) (L : Nat) : Nat → Int32 → MS → Option Int32
  | 0, _, _ => none
  | n23 + 1, i4, M1 => (if ((Int32.ofNat L) - (5 : Int32)) < i4 then (some (1 : Int32)) else (gdb (inb i4 L) (nm ((xs (Int32.toNatClampNeg i4)) &&& (31 : Int32)) fun x3 => (if x3 = (0 : Int32) then (gdb (inb (i4 + (1 : Int32)) L) (gdb (inb (i4 + (2 : Int32)) L) (gdb (inb (i4 + (3 : Int32)) L) (gdb (inb (i4 + (4 : Int32)) L) (bd2 (F_L_come M1 (xs (Int32.toNatClampNeg (i4 + (1 : Int32)))) (xs (Int32.toNatClampNeg (i4 + (2 : Int32)))) (xs (Int32.toNatClampNeg (i4 + (3 : Int32)))) (xs (Int32.toNatClampNeg (i4 + (4 : Int32))))) fun r10 M11 => (gdb (inb (i4 + (1 : Int32)) L) (gdb (inb (i4 + (2 : Int32)) L) (gdb (inb (i4 + (3 : Int32)) L) (gdb (inb (i4 + (4 : Int32)) L) (bd2 (F_X5_come M11 (xs (Int32.toNatClampNeg (i4 + (1 : Int32)))) (xs (Int32.toNatClampNeg (i4 + (2 : Int32)))) (xs (Int32.toNatClampNeg (i4 + (3 : Int32)))) (xs (Int32.toNatClampNeg (i4 + (4 : Int32))))) fun r18 M17 => (bd (F_X5_thrown M17) fun r20 => (if r20 = r10 then (if ¬ r10 = 0 then (nm (i4 + (5 : Int32)) fun x23 => (F_L_loop xs L n23 x23 M17)) else (if (lg_cmp (rO M17) (Int32.toInt64 r18)) = 0 then (nm (i4 + (5 : Int32)) fun x25 => (F_L_loop xs L n23 x25 M17)) else (some (0 : Int32)))) else (some (0 : Int32)))))))))))))) else (if x3 = (1 : Int32) then (bd2 (F_X4_begin M1) fun r29 M28 => (bd2 (F_X5_begin M28) fun r32 M31 => (if r29 = r32 then (nm (i4 + (5 : Int32)) fun x34 => (F_L_loop xs L n23 x34 M31)) else (some (0 : Int32))))) else (if x3 = (2 : Int32) then (gdb (inb (i4 + (1 : Int32)) L) (bd2 (F_L_strike M1 (xs (Int32.toNatClampNeg (i4 + (1 : Int32))))) fun r38 M39 => (gdb (inb (i4 + (1 : Int32)) L) (bd2 (F_X5_strike M39 (xs (Int32.toNatClampNeg (i4 + (1 : Int32))))) fun r43 M42 => (bd (F_X5_thrown M42) fun r45 => (if r45 = r38 then (if ¬ r38 = 0 then (nm (i4 + (5 : Int32)) fun x48 => (F_L_loop xs L n23 x48 M42)) else (if (lg_cmp (rO M42) (Int32.toInt64 r43)) = 0 then (nm (i4 + (5 : Int32)) fun x50 => (F_L_loop xs L n23 x50 M42)) else (some (0 : Int32)))) else (some (0 : Int32)))))))) else (if x3 = (3 : Int32) then (gdb (inb (i4 + (1 : Int32)) L) (bd2 (F_L_step M1 (xs (Int32.toNatClampNeg (i4 + (1 : Int32))))) fun r54 M55 => (gdb (inb (i4 + (1 : Int32)) L) (bd2 (F_X5_step M55 (xs (Int32.toNatClampNeg (i4 + (1 : Int32))))) fun r59 M58 => (bd (F_X5_thrown M58) fun r61 => (if r61 = r54 then (if ¬ r54 = 0 then (nm (i4 + (5 : Int32)) fun x64 => (F_L_loop xs L n23 x64 M58)) else (if (lg_cmp (rO M58) (Int32.toInt64 r59)) = 0 then (nm (i4 + (5 : Int32)) fun x66 => (F_L_loop xs L n23 x66 M58)) else (some (0 : Int32)))) else (some (0 : Int32)))))))) else (if x3 = (4 : Int32) then (gdb (inb (i4 + (1 : Int32)) L) (bd2 (F_L_help M1 (xs (Int32.toNatClampNeg (i4 + (1 : Int32))))) fun r70 M71 => (gdb (inb (i4 + (1 : Int32)) L) (bd2 (F_X5_help M71 (xs (Int32.toNatClampNeg (i4 + (1 : Int32))))) fun r75 M74 => (bd (F_X5_thrown M74) fun r77 => (if r77 = r70 then (if ¬ r70 = 0 then (nm (i4 + (5 : Int32)) fun x80 => (F_L_loop xs L n23 x80 M74)) else (if (lg_cmp (rO M74) (Int32.toInt64 r75)) = 0 then (nm (i4 + (5 : Int32)) fun x82 => (F_L_loop xs L n23 x82 M74)) else (some (0 : Int32)))) else (some (0 : Int32)))))))) else (if x3 = (5 : Int32) then (gdb (inb (i4 + (1 : Int32)) L) (gdb (inb (i4 + (2 : Int32)) L) (gdb (inb (i4 + (3 : Int32)) L) (bd2 (F_L_curse M1 (xs (Int32.toNatClampNeg (i4 + (1 : Int32)))) (xs (Int32.toNatClampNeg (i4 + (2 : Int32)))) (xs (Int32.toNatClampNeg (i4 + (3 : Int32))))) fun r88 M89 => (gdb (inb (i4 + (1 : Int32)) L) (gdb (inb (i4 + (2 : Int32)) L) (gdb (inb (i4 + (3 : Int32)) L) (bd2 (F_X5_curse M89 (xs (Int32.toNatClampNeg (i4 + (1 : Int32)))) (xs (Int32.toNatClampNeg (i4 + (2 : Int32)))) (xs (Int32.toNatClampNeg (i4 + (3 : Int32))))) fun r95 M94 => (bd (F_X5_thrown M94) fun r97 => (if r97 = r88 then (if ¬ r88 = 0 then (nm (i4 + (5 : Int32)) fun x100 => (F_L_loop xs L n23 x100 M94)) else (if (lg_cmp (rO M94) (Int32.toInt64 r95)) = 0 then (nm (i4 + (5 : Int32)) fun x102 => (F_L_loop xs L n23 x102 M94)) else (some (0 : Int32)))) else (some (0 : Int32)))))))))))) else (if x3 = (6 : Int32) then (bd2 (F_L_delay M1) fun r105 M106 => (bd2 (F_X5_delay M106) fun r109 M108 => (bd (F_X5_thrown M108) fun r111 => (if r111 = r105 then (if ¬ r105 = 0 then (nm (i4 + (5 : Int32)) fun x114 => (F_L_loop xs L n23 x114 M108)) else (if (lg_cmp (rO M108) (Int32.toInt64 r109)) = 0 then (nm (i4 + (5 : Int32)) fun x116 => (F_L_loop xs L n23 x116 M108)) else (some (0 : Int32)))) else (some (0 : Int32)))))) else (if x3 = (7 : Int32) then (gdb (inb (i4 + (1 : Int32)) L) (gdb (inb (i4 + (2 : Int32)) L) (gdb (inb (i4 + (3 : Int32)) L) (gdb (inb (i4 + (4 : Int32)) L) (bd2 (F_L_ready M1 (xs (Int32.toNatClampNeg (i4 + (1 : Int32)))) (xs (Int32.toNatClampNeg (i4 + (2 : Int32)))) (xs (Int32.toNatClampNeg (i4 + (3 : Int32)))) (xs (Int32.toNatClampNeg (i4 + (4 : Int32))))) fun r123 M124 => (gdb (inb (i4 + (1 : Int32)) L) (gdb (inb (i4 + (2 : Int32)) L) (gdb (inb (i4 + (3 : Int32)) L) (gdb (inb (i4 + (4 : Int32)) L) (bd2 (F_X5_ready M124 (xs (Int32.toNatClampNeg (i4 + (1 : Int32)))) (xs (Int32.toNatClampNeg (i4 + (2 : Int32)))) (xs (Int32.toNatClampNeg (i4 + (3 : Int32)))) (xs (Int32.toNatClampNeg (i4 + (4 : Int32))))) fun r131 M130 => (bd (F_X5_thrown M130) fun r133 => (if r133 = r123 then (if ¬ r123 = 0 then (nm (i4 + (5 : Int32)) fun x136 => (F_L_loop xs L n23 x136 M130)) else (if (lg_cmp (rO M130) (Int32.toInt64 r131)) = 0 then (nm (i4 + (5 : Int32)) fun x138 => (F_L_loop xs L n23 x138 M130)) else (some (0 : Int32)))) else (some (0 : Int32)))))))))))))) else (if x3 = (8 : Int32) then (bd2 (F_L_end M1) fun r141 M142 => (bd2 (F_X5_end M142) fun r145 M144 => (bd (F_X5_thrown M144) fun r147 => (if r147 = r141 then (if ¬ r141 = 0 then (nm (i4 + (5 : Int32)) fun x150 => (F_L_loop xs L n23 x150 M144)) else (if (lg_cmp (rO M144) (Int32.toInt64 r145)) = 0 then (nm (i4 + (5 : Int32)) fun x152 => (F_L_loop xs L n23 x152 M144)) else (some (0 : Int32)))) else (some (0 : Int32)))))) else (if x3 = (9 : Int32) then (gdb (inb (i4 + (1 : Int32)) L) (bd2 (F_L_comeIn M1 (xs (Int32.toNatClampNeg (i4 + (1 : Int32))))) fun r156 M157 => (gdb (inb (i4 + (1 : Int32)) L) (bd2 (F_X5_comeIn M157 (xs (Int32.toNatClampNeg (i4 + (1 : Int32))))) fun r161 M160 => (bd (F_X5_thrown M160) fun r163 => (if r163 = r156 then (if ¬ r156 = 0 then (nm (i4 + (5 : Int32)) fun x166 => (F_L_loop xs L n23 x166 M160)) else (if (lg_cmp (rO M160) (Int32.toInt64 r161)) = 0 then (nm (i4 + (5 : Int32)) fun x168 => (F_L_loop xs L n23 x168 M160)) else (some (0 : Int32)))) else (some (0 : Int32)))))))) else (if x3 = (10 : Int32) then (gdb (inb (i4 + (1 : Int32)) L) (bd2 (F_L_append M1 (xs (Int32.toNatClampNeg (i4 + (1 : Int32))))) fun r172 M173 => (gdb (inb (i4 + (1 : Int32)) L) (bd2 (F_X5_append M173 (xs (Int32.toNatClampNeg (i4 + (1 : Int32))))) fun r177 M176 => (bd (F_X5_thrown M176) fun r179 => (if r179 = r172 then (if ¬ r172 = 0 then (nm (i4 + (5 : Int32)) fun x182 => (F_L_loop xs L n23 x182 M176)) else (if (lg_cmp (rO M176) (Int32.toInt64 r177)) = 0 then (nm (i4 + (5 : Int32)) fun x184 => (F_L_loop xs L n23 x184 M176)) else (some (0 : Int32)))) else (some (0 : Int32)))))))) else (if x3 = (11 : Int32) then (bd2 (F_X4_clearBuffer M1) fun r188 M187 => (bd2 (F_X5_clearBuffer M187) fun r191 M190 => (if r188 = r191 then (nm (i4 + (5 : Int32)) fun x193 => (F_L_loop xs L n23 x193 M190)) else (some (0 : Int32))))) else (if x3 = (12 : Int32) then (bd (F_X4_firstError M1) fun r196 => (bd2 (F_X5_firstError M1) fun r199 M198 => (if r196 = r199 then (nm (i4 + (5 : Int32)) fun x201 => (F_L_loop xs L n23 x201 M198)) else (some (0 : Int32))))) else (if x3 = (13 : Int32) then (bd2 (F_L_run M1) fun r204 M205 => (bd2 (F_X5_run M205) fun r208 M207 => (bd (F_X5_thrown M207) fun r210 => (if r210 = r204 then (if ¬ r204 = 0 then (nm (i4 + (5 : Int32)) fun x213 => (F_L_loop xs L n23 x213 M207)) else (if (lg_cmp (rO M207) (Int32.toInt64 r208)) = 0 then (nm (i4 + (5 : Int32)) fun x215 => (F_L_loop xs L n23 x215 M207)) else (some (0 : Int32)))) else (some (0 : Int32)))))) else (if x3 = (14 : Int32) then (bd2 (F_L_undo M1) fun r218 M219 => (bd2 (F_X5_undo M219) fun r222 M221 => (bd (F_X5_thrown M221) fun r224 => (if r224 = r218 then (if ¬ r218 = 0 then (nm (i4 + (5 : Int32)) fun x227 => (F_L_loop xs L n23 x227 M221)) else (if (lg_cmp (rO M221) (Int32.toInt64 r222)) = 0 then (nm (i4 + (5 : Int32)) fun x229 => (F_L_loop xs L n23 x229 M221)) else (some (0 : Int32)))) else (some (0 : Int32)))))) else (if x3 = (15 : Int32) then (gdb (inb (i4 + (1 : Int32)) L) (gdb (inb (i4 + (2 : Int32)) L) (bd2 (F_L_fighter M1 (xs (Int32.toNatClampNeg (i4 + (1 : Int32)))) (xs (Int32.toNatClampNeg (i4 + (2 : Int32))))) fun r234 M235 => (gdb (inb (i4 + (1 : Int32)) L) (gdb (inb (i4 + (2 : Int32)) L) (bd2 (F_X5_fighter M235 (xs (Int32.toNatClampNeg (i4 + (1 : Int32)))) (xs (Int32.toNatClampNeg (i4 + (2 : Int32))))) fun r240 M239 => (bd (F_X5_thrown M239) fun r242 => (if r242 = r234 then (if ¬ r234 = 0 then (nm (i4 + (5 : Int32)) fun x245 => (F_L_loop xs L n23 x245 M239)) else (if (lg_cmp (rO M239) (Int32.toInt64 r240)) = 0 then (nm (i4 + (5 : Int32)) fun x247 => (F_L_loop xs L n23 x247 M239)) else (some (0 : Int32)))) else (some (0 : Int32)))))))))) else (if x3 = (16 : Int32) then (gdb (inb (i4 + (1 : Int32)) L) (gdb (inb (i4 + (2 : Int32)) L) (bd2 (F_L_readied M1 (xs (Int32.toNatClampNeg (i4 + (1 : Int32)))) (xs (Int32.toNatClampNeg (i4 + (2 : Int32))))) fun r252 M253 => (gdb (inb (i4 + (1 : Int32)) L) (gdb (inb (i4 + (2 : Int32)) L) (bd2 (F_X5_readied M253 (xs (Int32.toNatClampNeg (i4 + (1 : Int32)))) (xs (Int32.toNatClampNeg (i4 + (2 : Int32))))) fun r258 M257 => (bd (F_X5_thrown M257) fun r260 => (if r260 = r252 then (if ¬ r252 = 0 then (nm (i4 + (5 : Int32)) fun x263 => (F_L_loop xs L n23 x263 M257)) else (if (lg_cmp (rO M257) (Int32.toInt64 r258)) = 0 then (nm (i4 + (5 : Int32)) fun x265 => (F_L_loop xs L n23 x265 M257)) else (some (0 : Int32)))) else (some (0 : Int32)))))))))) else (if x3 = (17 : Int32) then (gdb (inb (i4 + (1 : Int32)) L) (bd2 (F_L_inRow M1 (xs (Int32.toNatClampNeg (i4 + (1 : Int32))))) fun r269 M270 => (gdb (inb (i4 + (1 : Int32)) L) (bd2 (F_X5_inRow M270 (xs (Int32.toNatClampNeg (i4 + (1 : Int32))))) fun r274 M273 => (bd (F_X5_thrown M273) fun r276 => (if r276 = r269 then (if ¬ r269 = 0 then (nm (i4 + (5 : Int32)) fun x279 => (F_L_loop xs L n23 x279 M273)) else (if (lg_cmp (rO M273) (Int32.toInt64 r274)) = 0 then (nm (i4 + (5 : Int32)) fun x281 => (F_L_loop xs L n23 x281 M273)) else (some (0 : Int32)))) else (some (0 : Int32)))))))) else (if x3 = (18 : Int32) then (gdb (inb (i4 + (1 : Int32)) L) (bd2 (F_L_count M1 (xs (Int32.toNatClampNeg (i4 + (1 : Int32))))) fun r285 M286 => (gdb (inb (i4 + (1 : Int32)) L) (bd2 (F_X5_count M286 (xs (Int32.toNatClampNeg (i4 + (1 : Int32))))) fun r290 M289 => (bd (F_X5_thrown M289) fun r292 => (if r292 = r285 then (if ¬ r285 = 0 then (nm (i4 + (5 : Int32)) fun x295 => (F_L_loop xs L n23 x295 M289)) else (if (lg_cmp (rO M289) (Int32.toInt64 r290)) = 0 then (nm (i4 + (5 : Int32)) fun x297 => (F_L_loop xs L n23 x297 M289)) else (some (0 : Int32)))) else (some (0 : Int32)))))))) else (if x3 = (19 : Int32) then (gdb (inb (i4 + (1 : Int32)) L) (gdb (inb (i4 + (2 : Int32)) L) (gdb (inb (i4 + (3 : Int32)) L) (bd2 (F_L_ifDone M1 (xs (Int32.toNatClampNeg (i4 + (1 : Int32)))) (xs (Int32.toNatClampNeg (i4 + (2 : Int32)))) (xs (Int32.toNatClampNeg (i4 + (3 : Int32))))) fun r303 M304 => (gdb (inb (i4 + (1 : Int32)) L) (gdb (inb (i4 + (2 : Int32)) L) (gdb (inb (i4 + (3 : Int32)) L) (bd2 (F_X5_ifDone M304 (xs (Int32.toNatClampNeg (i4 + (1 : Int32)))) (xs (Int32.toNatClampNeg (i4 + (2 : Int32)))) (xs (Int32.toNatClampNeg (i4 + (3 : Int32))))) fun r310 M309 => (bd (F_X5_thrown M309) fun r312 => (if r312 = r303 then (if ¬ r303 = 0 then (nm (i4 + (5 : Int32)) fun x315 => (F_L_loop xs L n23 x315 M309)) else (if (lg_cmp (rO M309) (Int32.toInt64 r310)) = 0 then (nm (i4 + (5 : Int32)) fun x317 => (F_L_loop xs L n23 x317 M309)) else (some (0 : Int32)))) else (some (0 : Int32)))))))))))) else (if x3 = (20 : Int32) then (gdb (inb (i4 + (1 : Int32)) L) (bd2 (F_L_ifEnded M1 (xs (Int32.toNatClampNeg (i4 + (1 : Int32))))) fun r321 M322 => (gdb (inb (i4 + (1 : Int32)) L) (bd2 (F_X5_ifEnded M322 (xs (Int32.toNatClampNeg (i4 + (1 : Int32))))) fun r326 M325 => (bd (F_X5_thrown M325) fun r328 => (if r328 = r321 then (if ¬ r321 = 0 then (nm (i4 + (5 : Int32)) fun x331 => (F_L_loop xs L n23 x331 M325)) else (if (lg_cmp (rO M325) (Int32.toInt64 r326)) = 0 then (nm (i4 + (5 : Int32)) fun x333 => (F_L_loop xs L n23 x333 M325)) else (some (0 : Int32)))) else (some (0 : Int32)))))))) else (if x3 = (21 : Int32) then (bd2 (F_X4_bestStrike M1) fun r337 M336 => (bd2 (F_X5_bestStrike M336) fun r340 M339 => (if r337 = r340 then (nm (i4 + (5 : Int32)) fun x342 => (F_L_loop xs L n23 x342 M339)) else (some (0 : Int32))))) else (if x3 = (22 : Int32) then (bd (F_X4_standing M1) fun r345 => (bd2 (F_X5_standing M1) fun r348 M347 => (if (Op.cmpValue (FP.dcmp r345 r348) .l) = 0 then (nm (i4 + (5 : Int32)) fun x350 => (F_L_loop xs L n23 x350 M347)) else (if (Op.cmpValue (FP.dcmp r345 r345) .l) = 0 then (some (0 : Int32)) else (if ¬ (Op.cmpValue (FP.dcmp r348 r348) .l) = 0 then (nm (i4 + (5 : Int32)) fun x353 => (F_L_loop xs L n23 x353 M347)) else (some (0 : Int32))))))) else (if x3 = (23 : Int32) then (bd2 (F_X4_digest M1) fun r357 M356 => (bd2 (F_X5_digest M356) fun r360 M359 => (if (lg_cmp r357 r360) = 0 then (nm (i4 + (5 : Int32)) fun x362 => (F_L_loop xs L n23 x362 M359)) else (some (0 : Int32))))) else (nm (i4 + (5 : Int32)) fun x363 => (F_L_loop xs L n23 x363 M1)))))))))))))))))))))))))))))

set_option maxHeartbeats 8000000 in
set_option maxRecDepth 100000 in
theorem law_loop {p : Program} {l : Launch} {e : Env} {s : State} {m : MethodId} {below : List Frame} {meth : Method} {c : Code} {G : GG} {B0 : Nat} {sa : Nat × Nat × Nat} {b L : Nat} {xs : Nat → Int32} (hst : l.stackTraces = false) (C0 : CX p s m meth c #[.ref b] cL_law RL 9 ret) (hX : va_X b L xs s s.heap) (hbl : b < s.heap.size) (hbA : ¬ Af G s.heap.size b) (hT : TX G B0 sa s s.heap) (hA : ∀ q, Af G s.heap.size q → s.heap.size ≤ q) : ∀ (n t : Nat) (i4 : Int32) (M1 : MS) (H : Heap) (locs : List Loc) (ls : Array Slot), t + n ≤ 6000 → MX G M1 s H locs → lv_has ls 9 [(0, .ref b), (1, .ref (gad G 216)), (2, .ref (gad G 220)), (3, .ref (gad G 227)), (4, .int i4)] → F_L_loop xs L n i4 M1 = some 1 → W p l e room_1 s m #[.ref b] below meth c H locs (228 + 4 * t) (3698 + 24 * t) (lw_Z below #[.ref b] s) (F0 m 23 ls []) := by
  intro n
  induction n with
  | zero => intro t i4 M1 H locs ls ht hM hl hF; rw [F_L_loop] at hF; cases hF
  | succ n23 ih23 =>
    intro t i4 M1 H locs ls ht hM hl hF
    have hr1 : 228 + 4 * t + 4 ≤ room_1.cells := by show _ ≤ 601024; omega
    have hr2 : 3698 + 24 * t + 24 ≤ room_1.slots := by show _ ≤ 7293034; omega
    rw [F_L_loop] at hF
    refine lv_iload C0.1 C0.2.1 dL_law_23 (lv_at hl 4 rfl) ?_
    refine lv_aload_n C0.1 C0.2.1 dL_law_25 rfl (lv_at hl 0 rfl) ?_
    refine va_slen C0.1 C0.2.1 hX hbl hbA hM.2.2.2 dL_law_26 ?_
    refine lv_iconst (v := (5 : Int32)) C0.1 C0.2.1 dL_law_27 (by decide) ?_
    refine lv_isub C0.1 C0.2.1 dL_law_28 ?_
    refine lv_icmp_gt (tgt := 1365) C0.1 C0.2.1 dL_law_29 (by decide) (fun c1 => ?_) (fun c1 => ?_)
    · have hF := if_t c1 hF
      refine lv_iconst (v := (1 : Int32)) C0.1 C0.2.1 dL_law_1365 (by decide) ?_
      refine W.widen (k := 601024) (n := 7293034) (by omega) (by omega) ?_
      exact l_end C0 hM hA dL_law_1366
    · have hF := if_f c1 hF
      refine lv_aload_n C0.1 C0.2.1 dL_law_32 rfl (lv_at hl 0 rfl) ?_
      refine lv_iload C0.1 C0.2.1 dL_law_33 (lv_at hl 4 rfl) ?_
      obtain ⟨g2, hF⟩ := gdb_some hF
      refine va_sld C0.1 C0.2.1 hX hbl hbA hM.2.2.2 (inb_in g2) dL_law_35 ?_
      refine lv_bipush (v := (31 : Int32)) C0.1 C0.2.1 dL_law_36 (by decide) ?_
      refine lv_iand C0.1 C0.2.1 dL_law_38 ?_
      obtain ⟨x3, ex3, hF⟩ := nm_some hF
      refine y_topi ex3 ?_
      by_cases c4 : x3 = (0 : Int32)
      · have hF := if_t c4 hF
        refine y_tsw (tgt := 148) (off := 109) C0 dL_law_39 (by decide) (by rw [c4]; decide) (by decide) ?_
        refine lv_aload_n C0.1 C0.2.1 dL_law_148 rfl (lv_at hl 1 rfl) ?_
        refine lv_aload_n C0.1 C0.2.1 dL_law_149 rfl (lv_at hl 0 rfl) ?_
        refine lv_iload C0.1 C0.2.1 dL_law_150 (lv_at hl 4 rfl) ?_
        refine lv_iconst (v := (1 : Int32)) C0.1 C0.2.1 dL_law_152 (by decide) ?_
        refine lv_iadd C0.1 C0.2.1 dL_law_153 ?_
        obtain ⟨g5, hF⟩ := gdb_some hF
        refine va_sld C0.1 C0.2.1 hX hbl hbA hM.2.2.2 (inb_in g5) dL_law_154 ?_
        refine lv_aload_n C0.1 C0.2.1 dL_law_155 rfl (lv_at hl 0 rfl) ?_
        refine lv_iload C0.1 C0.2.1 dL_law_156 (lv_at hl 4 rfl) ?_
        refine lv_iconst (v := (2 : Int32)) C0.1 C0.2.1 dL_law_158 (by decide) ?_
        refine lv_iadd C0.1 C0.2.1 dL_law_159 ?_
        obtain ⟨g6, hF⟩ := gdb_some hF
        refine va_sld C0.1 C0.2.1 hX hbl hbA hM.2.2.2 (inb_in g6) dL_law_160 ?_
        refine lv_aload_n C0.1 C0.2.1 dL_law_161 rfl (lv_at hl 0 rfl) ?_
        refine lv_iload C0.1 C0.2.1 dL_law_162 (lv_at hl 4 rfl) ?_
        refine lv_iconst (v := (3 : Int32)) C0.1 C0.2.1 dL_law_164 (by decide) ?_
        refine lv_iadd C0.1 C0.2.1 dL_law_165 ?_
        obtain ⟨g7, hF⟩ := gdb_some hF
        refine va_sld C0.1 C0.2.1 hX hbl hbA hM.2.2.2 (inb_in g7) dL_law_166 ?_
        refine lv_aload_n C0.1 C0.2.1 dL_law_167 rfl (lv_at hl 0 rfl) ?_
        refine lv_iload C0.1 C0.2.1 dL_law_168 (lv_at hl 4 rfl) ?_
        refine lv_iconst (v := (4 : Int32)) C0.1 C0.2.1 dL_law_170 (by decide) ?_
        refine lv_iadd C0.1 C0.2.1 dL_law_171 ?_
        obtain ⟨g8, hF⟩ := gdb_some hF
        refine va_sld C0.1 C0.2.1 hX hbl hbA hM.2.2.2 (inb_in g8) dL_law_172 ?_
        refine lv_aload_n C0.1 C0.2.1 dL_law_173 rfl (lv_at hl 3 rfl) ?_
        obtain ⟨r10, M11, h9, hF⟩ := bd2_some hF
        refine l_hi (na := 6) (rest := []) C0 hM hT hl.1 (k_L_come l hst G B0 sa M1 (xs (Int32.toNatClampNeg (i4 + (1 : Int32)))) (xs (Int32.toNatClampNeg (i4 + (2 : Int32)))) (xs (Int32.toNatClampNeg (i4 + (3 : Int32)))) (xs (Int32.toNatClampNeg (i4 + (4 : Int32)))) h9) ⟨tbx [511, 512, 68, 513] (by decide +kernel) (by decide +kernel), by decide +kernel, by decide +kernel, by decide +kernel⟩ rfl rfl rfl ⟨Nat.le_of_ble_eq_true rfl, Nat.le_of_ble_eq_true rfl⟩ rfl (Nat.le_of_ble_eq_true rfl) ⟨by omega, by omega⟩ dL_law_174 (fun H locs hM => ?_)
        refine lv_istore (lv' := [(5, .int r10), (0, .ref b), (1, .ref (gad G 216)), (2, .ref (gad G 220)), (3, .ref (gad G 227)), (4, .int i4)]) C0.1 C0.2.1 dL_law_177 hl (by decide) rfl (fun ls hl => ?_)
        refine lv_aload_n C0.1 C0.2.1 dL_law_179 rfl (lv_at hl 3 rfl) ?_
        refine lv_aload_n C0.1 C0.2.1 dL_law_180 rfl (lv_at hl 1 rfl) ?_
        refine lv_iload C0.1 C0.2.1 dL_law_181 (lv_at hl 5 rfl) ?_
        refine lv_iconst (v := (1 : Int32)) C0.1 C0.2.1 dL_law_183 (by decide) ?_
        refine lv_iadd C0.1 C0.2.1 dL_law_184 ?_
        obtain ⟨g12, hF⟩ := gdb_some hF
        refine va_sld C0.1 C0.2.1 hX hbl hbA hM.2.2.2 (inb_in g12) dL_law_185 ?_
        refine lv_aload_n C0.1 C0.2.1 dL_law_186 rfl (lv_at hl 1 rfl) ?_
        refine lv_iload C0.1 C0.2.1 dL_law_187 (lv_at hl 5 rfl) ?_
        refine lv_iconst (v := (2 : Int32)) C0.1 C0.2.1 dL_law_189 (by decide) ?_
        refine lv_iadd C0.1 C0.2.1 dL_law_190 ?_
        obtain ⟨g13, hF⟩ := gdb_some hF
        refine va_sld C0.1 C0.2.1 hX hbl hbA hM.2.2.2 (inb_in g13) dL_law_191 ?_
        refine lv_aload_n C0.1 C0.2.1 dL_law_192 rfl (lv_at hl 1 rfl) ?_
        refine lv_iload C0.1 C0.2.1 dL_law_193 (lv_at hl 5 rfl) ?_
        refine lv_iconst (v := (3 : Int32)) C0.1 C0.2.1 dL_law_195 (by decide) ?_
        refine lv_iadd C0.1 C0.2.1 dL_law_196 ?_
        obtain ⟨g14, hF⟩ := gdb_some hF
        refine va_sld C0.1 C0.2.1 hX hbl hbA hM.2.2.2 (inb_in g14) dL_law_197 ?_
        refine lv_aload_n C0.1 C0.2.1 dL_law_198 rfl (lv_at hl 1 rfl) ?_
        refine lv_iload C0.1 C0.2.1 dL_law_199 (lv_at hl 5 rfl) ?_
        refine lv_iconst (v := (4 : Int32)) C0.1 C0.2.1 dL_law_201 (by decide) ?_
        refine lv_iadd C0.1 C0.2.1 dL_law_202 ?_
        obtain ⟨g15, hF⟩ := gdb_some hF
        refine va_sld C0.1 C0.2.1 hX hbl hbA hM.2.2.2 (inb_in g15) dL_law_203 ?_
        obtain ⟨r18, M17, h16, hF⟩ := bd2_some hF
        refine y_vi (rest := []) C0 hM hl.1 ok_md (ent5 ok_md) rfl (k_X5_come l G M11 (xs (Int32.toNatClampNeg (i4 + (1 : Int32)))) (xs (Int32.toNatClampNeg (i4 + (2 : Int32)))) (xs (Int32.toNatClampNeg (i4 + (3 : Int32)))) (xs (Int32.toNatClampNeg (i4 + (4 : Int32)))) h16) cw_RL_83 rfl rfl ⟨Nat.le_of_ble_eq_true rfl, Nat.le_of_ble_eq_true rfl⟩ rfl (Nat.le_of_ble_eq_true rfl) ⟨by omega, by omega⟩ dL_law_204 (fun H locs hM => ?_)
        refine lv_istore (lv' := [(6, .int r18), (5, .int r10), (0, .ref b), (1, .ref (gad G 216)), (2, .ref (gad G 220)), (3, .ref (gad G 227)), (4, .int i4)]) C0.1 C0.2.1 dL_law_207 hl (by decide) rfl (fun ls hl => ?_)
        refine lv_aload_n C0.1 C0.2.1 dL_law_209 rfl (lv_at hl 4 rfl) ?_
        obtain ⟨r20, h19, hF⟩ := bd_some hF
        refine y_vi (rest := []) C0 hM hl.1 ok_md (ent5 ok_md) rfl (k_X5_thrown l G M17 h19) cw_RL_84 rfl rfl ⟨Nat.le_of_ble_eq_true rfl, Nat.le_of_ble_eq_true rfl⟩ rfl (Nat.le_of_ble_eq_true rfl) ⟨by omega, by omega⟩ dL_law_210 (fun H locs hM => ?_)
        refine lv_iload C0.1 C0.2.1 dL_law_213 (lv_at hl 1 rfl) ?_
        refine lv_icmp_eq (tgt := 220) C0.1 C0.2.1 dL_law_215 (by decide) (fun c21 => ?_) (fun c21 => ?_)
        · have hF := if_t c21 hF
          refine lv_iload C0.1 C0.2.1 dL_law_220 (lv_at hl 1 rfl) ?_
          refine lv_if_ne (tgt := 237) C0.1 C0.2.1 dL_law_222 (by decide) (fun c22 => ?_) (fun c22 => ?_)
          · have hF := if_t c22 hF
            refine lv_goto (tgt := 1359) C0.1 C0.2.1 dL_law_237 (by decide) ?_
            obtain ⟨x23, ex23, hF⟩ := nm_some hF
            refine lv_iinc (v := x23) (lv' := [(4, .int x23), (6, .int r18), (5, .int r10), (0, .ref b), (1, .ref (gad G 216)), (2, .ref (gad G 220)), (3, .ref (gad G 227))]) C0.1 C0.2.1 dL_law_1359 hl (k := 6) rfl (by rw [ex23]; rfl) (by decide) rfl (fun ls hl => ?_)
            refine lv_goto (tgt := 23) C0.1 C0.2.1 dL_law_1362 (by decide) ?_
            refine W.widen (k := 228 + 4 * (t + 1)) (n := 3698 + 24 * (t + 1)) (by omega) (by omega) ?_
            exact ih23 (t + 1) x23 M17 _ _ _ (by omega) hM (lv_sub hl [3, 4, 5, 6, 0] rfl) hF
          · have hF := if_f (fun q => q c22) hF
            refine lv_aload_n C0.1 C0.2.1 dL_law_225 rfl (lv_at hl 5 rfl) ?_
            refine lv_iconst (v := (0 : Int32)) C0.1 C0.2.1 dL_law_226 (by decide) ?_
            refine y_lald C0 hM dL_law_227 ?_
            refine lv_iload C0.1 C0.2.1 dL_law_228 (lv_at hl 0 rfl) ?_
            refine lv_i2l (v := Int32.toInt64 r18) C0.1 C0.2.1 dL_law_230 rfl ?_
            refine W.lcmp C0.1 C0.2.1 dL_law_231 ?_
            refine lv_if_eq (tgt := 237) C0.1 C0.2.1 dL_law_232 (by decide) (fun c24 => ?_) (fun c24 => ?_)
            · have hF := if_t c24 hF
              refine lv_goto (tgt := 1359) C0.1 C0.2.1 dL_law_237 (by decide) ?_
              obtain ⟨x25, ex25, hF⟩ := nm_some hF
              refine lv_iinc (v := x25) (lv' := [(4, .int x25), (6, .int r18), (5, .int r10), (0, .ref b), (1, .ref (gad G 216)), (2, .ref (gad G 220)), (3, .ref (gad G 227))]) C0.1 C0.2.1 dL_law_1359 hl (k := 6) rfl (by rw [ex25]; rfl) (by decide) rfl (fun ls hl => ?_)
              refine lv_goto (tgt := 23) C0.1 C0.2.1 dL_law_1362 (by decide) ?_
              refine W.widen (k := 228 + 4 * (t + 1)) (n := 3698 + 24 * (t + 1)) (by omega) (by omega) ?_
              exact ih23 (t + 1) x25 M17 _ _ _ (by omega) hM (lv_sub hl [3, 4, 5, 6, 0] rfl) hF
            · have hF := if_f c24 hF
              refine lv_iconst (v := (0 : Int32)) C0.1 C0.2.1 dL_law_235 (by decide) ?_
              exact absurd (y_1 hF) (by decide)
        · have hF := if_f c21 hF
          refine lv_iconst (v := (0 : Int32)) C0.1 C0.2.1 dL_law_218 (by decide) ?_
          exact absurd (y_1 hF) (by decide)
      · have hF := if_f c4 hF
        by_cases c26 : x3 = (1 : Int32)
        · have hF := if_t c26 hF
          refine y_tsw (tgt := 240) (off := 201) C0 dL_law_39 (by decide) (by rw [c26]; decide) (by decide) ?_
          refine lv_aload_n C0.1 C0.2.1 dL_law_240 rfl (lv_at hl 1 rfl) ?_
          obtain ⟨r29, M28, h27, hF⟩ := bd2_some hF
          refine y_vi (rest := []) C0 hM hl.1 ok_tt (ent4 ok_tt) rfl (k_X4_begin l G M1 h27) cw_RL_87 rfl rfl ⟨Nat.le_of_ble_eq_true rfl, Nat.le_of_ble_eq_true rfl⟩ rfl (Nat.le_of_ble_eq_true rfl) ⟨by omega, by omega⟩ dL_law_241 (fun H locs hM => ?_)
          refine lv_aload_n C0.1 C0.2.1 dL_law_244 rfl (lv_at hl 2 rfl) ?_
          obtain ⟨r32, M31, h30, hF⟩ := bd2_some hF
          refine y_vi (rest := [.int r29]) C0 hM hl.1 ok_md (ent5 ok_md) rfl (k_X5_begin l G M28 h30) cw_RL_90 rfl rfl ⟨Nat.le_of_ble_eq_true rfl, Nat.le_of_ble_eq_true rfl⟩ rfl (Nat.le_of_ble_eq_true rfl) ⟨by omega, by omega⟩ dL_law_245 (fun H locs hM => ?_)
          refine lv_icmp_eq (tgt := 1359) C0.1 C0.2.1 dL_law_248 (by decide) (fun c33 => ?_) (fun c33 => ?_)
          · have hF := if_t c33 hF
            obtain ⟨x34, ex34, hF⟩ := nm_some hF
            refine lv_iinc (v := x34) (lv' := [(4, .int x34), (0, .ref b), (1, .ref (gad G 216)), (2, .ref (gad G 220)), (3, .ref (gad G 227))]) C0.1 C0.2.1 dL_law_1359 hl (k := 4) rfl (by rw [ex34]; rfl) (by decide) rfl (fun ls hl => ?_)
            refine lv_goto (tgt := 23) C0.1 C0.2.1 dL_law_1362 (by decide) ?_
            refine W.widen (k := 228 + 4 * (t + 1)) (n := 3698 + 24 * (t + 1)) (by omega) (by omega) ?_
            exact ih23 (t + 1) x34 M31 _ _ _ (by omega) hM (lv_sub hl [1, 2, 3, 4, 0] rfl) hF
          · have hF := if_f c33 hF
            refine lv_iconst (v := (0 : Int32)) C0.1 C0.2.1 dL_law_251 (by decide) ?_
            exact absurd (y_1 hF) (by decide)
        · have hF := if_f c26 hF
          by_cases c35 : x3 = (2 : Int32)
          · have hF := if_t c35 hF
            refine y_tsw (tgt := 253) (off := 214) C0 dL_law_39 (by decide) (by rw [c35]; decide) (by decide) ?_
            refine lv_aload_n C0.1 C0.2.1 dL_law_253 rfl (lv_at hl 1 rfl) ?_
            refine lv_aload_n C0.1 C0.2.1 dL_law_254 rfl (lv_at hl 0 rfl) ?_
            refine lv_iload C0.1 C0.2.1 dL_law_255 (lv_at hl 4 rfl) ?_
            refine lv_iconst (v := (1 : Int32)) C0.1 C0.2.1 dL_law_257 (by decide) ?_
            refine lv_iadd C0.1 C0.2.1 dL_law_258 ?_
            obtain ⟨g36, hF⟩ := gdb_some hF
            refine va_sld C0.1 C0.2.1 hX hbl hbA hM.2.2.2 (inb_in g36) dL_law_259 ?_
            refine lv_aload_n C0.1 C0.2.1 dL_law_260 rfl (lv_at hl 3 rfl) ?_
            obtain ⟨r38, M39, h37, hF⟩ := bd2_some hF
            refine l_hi (na := 3) (rest := []) C0 hM hT hl.1 (k_L_strike l hst G B0 sa M1 (xs (Int32.toNatClampNeg (i4 + (1 : Int32)))) h37) ⟨tbx [622, 623, 68, 624] (by decide +kernel) (by decide +kernel), by decide +kernel, by decide +kernel, by decide +kernel⟩ rfl rfl rfl ⟨Nat.le_of_ble_eq_true rfl, Nat.le_of_ble_eq_true rfl⟩ rfl (Nat.le_of_ble_eq_true rfl) ⟨by omega, by omega⟩ dL_law_261 (fun H locs hM => ?_)
            refine lv_istore (lv' := [(5, .int r38), (0, .ref b), (1, .ref (gad G 216)), (2, .ref (gad G 220)), (3, .ref (gad G 227)), (4, .int i4)]) C0.1 C0.2.1 dL_law_264 hl (by decide) rfl (fun ls hl => ?_)
            refine lv_aload_n C0.1 C0.2.1 dL_law_266 rfl (lv_at hl 3 rfl) ?_
            refine lv_aload_n C0.1 C0.2.1 dL_law_267 rfl (lv_at hl 1 rfl) ?_
            refine lv_iload C0.1 C0.2.1 dL_law_268 (lv_at hl 5 rfl) ?_
            refine lv_iconst (v := (1 : Int32)) C0.1 C0.2.1 dL_law_270 (by decide) ?_
            refine lv_iadd C0.1 C0.2.1 dL_law_271 ?_
            obtain ⟨g40, hF⟩ := gdb_some hF
            refine va_sld C0.1 C0.2.1 hX hbl hbA hM.2.2.2 (inb_in g40) dL_law_272 ?_
            obtain ⟨r43, M42, h41, hF⟩ := bd2_some hF
            refine y_vi (rest := []) C0 hM hl.1 ok_md (ent5 ok_md) rfl (k_X5_strike l G M39 (xs (Int32.toNatClampNeg (i4 + (1 : Int32)))) h41) cw_RL_94 rfl rfl ⟨Nat.le_of_ble_eq_true rfl, Nat.le_of_ble_eq_true rfl⟩ rfl (Nat.le_of_ble_eq_true rfl) ⟨by omega, by omega⟩ dL_law_273 (fun H locs hM => ?_)
            refine lv_istore (lv' := [(6, .int r43), (5, .int r38), (0, .ref b), (1, .ref (gad G 216)), (2, .ref (gad G 220)), (3, .ref (gad G 227)), (4, .int i4)]) C0.1 C0.2.1 dL_law_276 hl (by decide) rfl (fun ls hl => ?_)
            refine lv_aload_n C0.1 C0.2.1 dL_law_278 rfl (lv_at hl 4 rfl) ?_
            obtain ⟨r45, h44, hF⟩ := bd_some hF
            refine y_vi (rest := []) C0 hM hl.1 ok_md (ent5 ok_md) rfl (k_X5_thrown l G M42 h44) cw_RL_84 rfl rfl ⟨Nat.le_of_ble_eq_true rfl, Nat.le_of_ble_eq_true rfl⟩ rfl (Nat.le_of_ble_eq_true rfl) ⟨by omega, by omega⟩ dL_law_279 (fun H locs hM => ?_)
            refine lv_iload C0.1 C0.2.1 dL_law_282 (lv_at hl 1 rfl) ?_
            refine lv_icmp_eq (tgt := 289) C0.1 C0.2.1 dL_law_284 (by decide) (fun c46 => ?_) (fun c46 => ?_)
            · have hF := if_t c46 hF
              refine lv_iload C0.1 C0.2.1 dL_law_289 (lv_at hl 1 rfl) ?_
              refine lv_if_ne (tgt := 306) C0.1 C0.2.1 dL_law_291 (by decide) (fun c47 => ?_) (fun c47 => ?_)
              · have hF := if_t c47 hF
                refine lv_goto (tgt := 1359) C0.1 C0.2.1 dL_law_306 (by decide) ?_
                obtain ⟨x48, ex48, hF⟩ := nm_some hF
                refine lv_iinc (v := x48) (lv' := [(4, .int x48), (6, .int r43), (5, .int r38), (0, .ref b), (1, .ref (gad G 216)), (2, .ref (gad G 220)), (3, .ref (gad G 227))]) C0.1 C0.2.1 dL_law_1359 hl (k := 6) rfl (by rw [ex48]; rfl) (by decide) rfl (fun ls hl => ?_)
                refine lv_goto (tgt := 23) C0.1 C0.2.1 dL_law_1362 (by decide) ?_
                refine W.widen (k := 228 + 4 * (t + 1)) (n := 3698 + 24 * (t + 1)) (by omega) (by omega) ?_
                exact ih23 (t + 1) x48 M42 _ _ _ (by omega) hM (lv_sub hl [3, 4, 5, 6, 0] rfl) hF
              · have hF := if_f (fun q => q c47) hF
                refine lv_aload_n C0.1 C0.2.1 dL_law_294 rfl (lv_at hl 5 rfl) ?_
                refine lv_iconst (v := (0 : Int32)) C0.1 C0.2.1 dL_law_295 (by decide) ?_
                refine y_lald C0 hM dL_law_296 ?_
                refine lv_iload C0.1 C0.2.1 dL_law_297 (lv_at hl 0 rfl) ?_
                refine lv_i2l (v := Int32.toInt64 r43) C0.1 C0.2.1 dL_law_299 rfl ?_
                refine W.lcmp C0.1 C0.2.1 dL_law_300 ?_
                refine lv_if_eq (tgt := 306) C0.1 C0.2.1 dL_law_301 (by decide) (fun c49 => ?_) (fun c49 => ?_)
                · have hF := if_t c49 hF
                  refine lv_goto (tgt := 1359) C0.1 C0.2.1 dL_law_306 (by decide) ?_
                  obtain ⟨x50, ex50, hF⟩ := nm_some hF
                  refine lv_iinc (v := x50) (lv' := [(4, .int x50), (6, .int r43), (5, .int r38), (0, .ref b), (1, .ref (gad G 216)), (2, .ref (gad G 220)), (3, .ref (gad G 227))]) C0.1 C0.2.1 dL_law_1359 hl (k := 6) rfl (by rw [ex50]; rfl) (by decide) rfl (fun ls hl => ?_)
                  refine lv_goto (tgt := 23) C0.1 C0.2.1 dL_law_1362 (by decide) ?_
                  refine W.widen (k := 228 + 4 * (t + 1)) (n := 3698 + 24 * (t + 1)) (by omega) (by omega) ?_
                  exact ih23 (t + 1) x50 M42 _ _ _ (by omega) hM (lv_sub hl [3, 4, 5, 6, 0] rfl) hF
                · have hF := if_f c49 hF
                  refine lv_iconst (v := (0 : Int32)) C0.1 C0.2.1 dL_law_304 (by decide) ?_
                  exact absurd (y_1 hF) (by decide)
            · have hF := if_f c46 hF
              refine lv_iconst (v := (0 : Int32)) C0.1 C0.2.1 dL_law_287 (by decide) ?_
              exact absurd (y_1 hF) (by decide)
          · have hF := if_f c35 hF
            by_cases c51 : x3 = (3 : Int32)
            · have hF := if_t c51 hF
              refine y_tsw (tgt := 309) (off := 270) C0 dL_law_39 (by decide) (by rw [c51]; decide) (by decide) ?_
              refine lv_aload_n C0.1 C0.2.1 dL_law_309 rfl (lv_at hl 1 rfl) ?_
              refine lv_aload_n C0.1 C0.2.1 dL_law_310 rfl (lv_at hl 0 rfl) ?_
              refine lv_iload C0.1 C0.2.1 dL_law_311 (lv_at hl 4 rfl) ?_
              refine lv_iconst (v := (1 : Int32)) C0.1 C0.2.1 dL_law_313 (by decide) ?_
              refine lv_iadd C0.1 C0.2.1 dL_law_314 ?_
              obtain ⟨g52, hF⟩ := gdb_some hF
              refine va_sld C0.1 C0.2.1 hX hbl hbA hM.2.2.2 (inb_in g52) dL_law_315 ?_
              refine lv_aload_n C0.1 C0.2.1 dL_law_316 rfl (lv_at hl 3 rfl) ?_
              obtain ⟨r54, M55, h53, hF⟩ := bd2_some hF
              refine l_hi (na := 3) (rest := []) C0 hM hT hl.1 (k_L_step l hst G B0 sa M1 (xs (Int32.toNatClampNeg (i4 + (1 : Int32)))) h53) ⟨tbx [654, 655, 68, 656] (by decide +kernel) (by decide +kernel), by decide +kernel, by decide +kernel, by decide +kernel⟩ rfl rfl rfl ⟨Nat.le_of_ble_eq_true rfl, Nat.le_of_ble_eq_true rfl⟩ rfl (Nat.le_of_ble_eq_true rfl) ⟨by omega, by omega⟩ dL_law_317 (fun H locs hM => ?_)
              refine lv_istore (lv' := [(5, .int r54), (0, .ref b), (1, .ref (gad G 216)), (2, .ref (gad G 220)), (3, .ref (gad G 227)), (4, .int i4)]) C0.1 C0.2.1 dL_law_320 hl (by decide) rfl (fun ls hl => ?_)
              refine lv_aload_n C0.1 C0.2.1 dL_law_322 rfl (lv_at hl 3 rfl) ?_
              refine lv_aload_n C0.1 C0.2.1 dL_law_323 rfl (lv_at hl 1 rfl) ?_
              refine lv_iload C0.1 C0.2.1 dL_law_324 (lv_at hl 5 rfl) ?_
              refine lv_iconst (v := (1 : Int32)) C0.1 C0.2.1 dL_law_326 (by decide) ?_
              refine lv_iadd C0.1 C0.2.1 dL_law_327 ?_
              obtain ⟨g56, hF⟩ := gdb_some hF
              refine va_sld C0.1 C0.2.1 hX hbl hbA hM.2.2.2 (inb_in g56) dL_law_328 ?_
              obtain ⟨r59, M58, h57, hF⟩ := bd2_some hF
              refine y_vi (rest := []) C0 hM hl.1 ok_md (ent5 ok_md) rfl (k_X5_step l G M55 (xs (Int32.toNatClampNeg (i4 + (1 : Int32)))) h57) cw_RL_97 rfl rfl ⟨Nat.le_of_ble_eq_true rfl, Nat.le_of_ble_eq_true rfl⟩ rfl (Nat.le_of_ble_eq_true rfl) ⟨by omega, by omega⟩ dL_law_329 (fun H locs hM => ?_)
              refine lv_istore (lv' := [(6, .int r59), (5, .int r54), (0, .ref b), (1, .ref (gad G 216)), (2, .ref (gad G 220)), (3, .ref (gad G 227)), (4, .int i4)]) C0.1 C0.2.1 dL_law_332 hl (by decide) rfl (fun ls hl => ?_)
              refine lv_aload_n C0.1 C0.2.1 dL_law_334 rfl (lv_at hl 4 rfl) ?_
              obtain ⟨r61, h60, hF⟩ := bd_some hF
              refine y_vi (rest := []) C0 hM hl.1 ok_md (ent5 ok_md) rfl (k_X5_thrown l G M58 h60) cw_RL_84 rfl rfl ⟨Nat.le_of_ble_eq_true rfl, Nat.le_of_ble_eq_true rfl⟩ rfl (Nat.le_of_ble_eq_true rfl) ⟨by omega, by omega⟩ dL_law_335 (fun H locs hM => ?_)
              refine lv_iload C0.1 C0.2.1 dL_law_338 (lv_at hl 1 rfl) ?_
              refine lv_icmp_eq (tgt := 345) C0.1 C0.2.1 dL_law_340 (by decide) (fun c62 => ?_) (fun c62 => ?_)
              · have hF := if_t c62 hF
                refine lv_iload C0.1 C0.2.1 dL_law_345 (lv_at hl 1 rfl) ?_
                refine lv_if_ne (tgt := 362) C0.1 C0.2.1 dL_law_347 (by decide) (fun c63 => ?_) (fun c63 => ?_)
                · have hF := if_t c63 hF
                  refine lv_goto (tgt := 1359) C0.1 C0.2.1 dL_law_362 (by decide) ?_
                  obtain ⟨x64, ex64, hF⟩ := nm_some hF
                  refine lv_iinc (v := x64) (lv' := [(4, .int x64), (6, .int r59), (5, .int r54), (0, .ref b), (1, .ref (gad G 216)), (2, .ref (gad G 220)), (3, .ref (gad G 227))]) C0.1 C0.2.1 dL_law_1359 hl (k := 6) rfl (by rw [ex64]; rfl) (by decide) rfl (fun ls hl => ?_)
                  refine lv_goto (tgt := 23) C0.1 C0.2.1 dL_law_1362 (by decide) ?_
                  refine W.widen (k := 228 + 4 * (t + 1)) (n := 3698 + 24 * (t + 1)) (by omega) (by omega) ?_
                  exact ih23 (t + 1) x64 M58 _ _ _ (by omega) hM (lv_sub hl [3, 4, 5, 6, 0] rfl) hF
                · have hF := if_f (fun q => q c63) hF
                  refine lv_aload_n C0.1 C0.2.1 dL_law_350 rfl (lv_at hl 5 rfl) ?_
                  refine lv_iconst (v := (0 : Int32)) C0.1 C0.2.1 dL_law_351 (by decide) ?_
                  refine y_lald C0 hM dL_law_352 ?_
                  refine lv_iload C0.1 C0.2.1 dL_law_353 (lv_at hl 0 rfl) ?_
                  refine lv_i2l (v := Int32.toInt64 r59) C0.1 C0.2.1 dL_law_355 rfl ?_
                  refine W.lcmp C0.1 C0.2.1 dL_law_356 ?_
                  refine lv_if_eq (tgt := 362) C0.1 C0.2.1 dL_law_357 (by decide) (fun c65 => ?_) (fun c65 => ?_)
                  · have hF := if_t c65 hF
                    refine lv_goto (tgt := 1359) C0.1 C0.2.1 dL_law_362 (by decide) ?_
                    obtain ⟨x66, ex66, hF⟩ := nm_some hF
                    refine lv_iinc (v := x66) (lv' := [(4, .int x66), (6, .int r59), (5, .int r54), (0, .ref b), (1, .ref (gad G 216)), (2, .ref (gad G 220)), (3, .ref (gad G 227))]) C0.1 C0.2.1 dL_law_1359 hl (k := 6) rfl (by rw [ex66]; rfl) (by decide) rfl (fun ls hl => ?_)
                    refine lv_goto (tgt := 23) C0.1 C0.2.1 dL_law_1362 (by decide) ?_
                    refine W.widen (k := 228 + 4 * (t + 1)) (n := 3698 + 24 * (t + 1)) (by omega) (by omega) ?_
                    exact ih23 (t + 1) x66 M58 _ _ _ (by omega) hM (lv_sub hl [3, 4, 5, 6, 0] rfl) hF
                  · have hF := if_f c65 hF
                    refine lv_iconst (v := (0 : Int32)) C0.1 C0.2.1 dL_law_360 (by decide) ?_
                    exact absurd (y_1 hF) (by decide)
              · have hF := if_f c62 hF
                refine lv_iconst (v := (0 : Int32)) C0.1 C0.2.1 dL_law_343 (by decide) ?_
                exact absurd (y_1 hF) (by decide)
            · have hF := if_f c51 hF
              by_cases c67 : x3 = (4 : Int32)
              · have hF := if_t c67 hF
                refine y_tsw (tgt := 365) (off := 326) C0 dL_law_39 (by decide) (by rw [c67]; decide) (by decide) ?_
                refine lv_aload_n C0.1 C0.2.1 dL_law_365 rfl (lv_at hl 1 rfl) ?_
                refine lv_aload_n C0.1 C0.2.1 dL_law_366 rfl (lv_at hl 0 rfl) ?_
                refine lv_iload C0.1 C0.2.1 dL_law_367 (lv_at hl 4 rfl) ?_
                refine lv_iconst (v := (1 : Int32)) C0.1 C0.2.1 dL_law_369 (by decide) ?_
                refine lv_iadd C0.1 C0.2.1 dL_law_370 ?_
                obtain ⟨g68, hF⟩ := gdb_some hF
                refine va_sld C0.1 C0.2.1 hX hbl hbA hM.2.2.2 (inb_in g68) dL_law_371 ?_
                refine lv_aload_n C0.1 C0.2.1 dL_law_372 rfl (lv_at hl 3 rfl) ?_
                obtain ⟨r70, M71, h69, hF⟩ := bd2_some hF
                refine l_hi (na := 3) (rest := []) C0 hM hT hl.1 (k_L_help l hst G B0 sa M1 (xs (Int32.toNatClampNeg (i4 + (1 : Int32)))) h69) ⟨tbx [661, 662, 68, 663] (by decide +kernel) (by decide +kernel), by decide +kernel, by decide +kernel, by decide +kernel⟩ rfl rfl rfl ⟨Nat.le_of_ble_eq_true rfl, Nat.le_of_ble_eq_true rfl⟩ rfl (Nat.le_of_ble_eq_true rfl) ⟨by omega, by omega⟩ dL_law_373 (fun H locs hM => ?_)
                refine lv_istore (lv' := [(5, .int r70), (0, .ref b), (1, .ref (gad G 216)), (2, .ref (gad G 220)), (3, .ref (gad G 227)), (4, .int i4)]) C0.1 C0.2.1 dL_law_376 hl (by decide) rfl (fun ls hl => ?_)
                refine lv_aload_n C0.1 C0.2.1 dL_law_378 rfl (lv_at hl 3 rfl) ?_
                refine lv_aload_n C0.1 C0.2.1 dL_law_379 rfl (lv_at hl 1 rfl) ?_
                refine lv_iload C0.1 C0.2.1 dL_law_380 (lv_at hl 5 rfl) ?_
                refine lv_iconst (v := (1 : Int32)) C0.1 C0.2.1 dL_law_382 (by decide) ?_
                refine lv_iadd C0.1 C0.2.1 dL_law_383 ?_
                obtain ⟨g72, hF⟩ := gdb_some hF
                refine va_sld C0.1 C0.2.1 hX hbl hbA hM.2.2.2 (inb_in g72) dL_law_384 ?_
                obtain ⟨r75, M74, h73, hF⟩ := bd2_some hF
                refine y_vi (rest := []) C0 hM hl.1 ok_md (ent5 ok_md) rfl (k_X5_help l G M71 (xs (Int32.toNatClampNeg (i4 + (1 : Int32)))) h73) cw_RL_100 rfl rfl ⟨Nat.le_of_ble_eq_true rfl, Nat.le_of_ble_eq_true rfl⟩ rfl (Nat.le_of_ble_eq_true rfl) ⟨by omega, by omega⟩ dL_law_385 (fun H locs hM => ?_)
                refine lv_istore (lv' := [(6, .int r75), (5, .int r70), (0, .ref b), (1, .ref (gad G 216)), (2, .ref (gad G 220)), (3, .ref (gad G 227)), (4, .int i4)]) C0.1 C0.2.1 dL_law_388 hl (by decide) rfl (fun ls hl => ?_)
                refine lv_aload_n C0.1 C0.2.1 dL_law_390 rfl (lv_at hl 4 rfl) ?_
                obtain ⟨r77, h76, hF⟩ := bd_some hF
                refine y_vi (rest := []) C0 hM hl.1 ok_md (ent5 ok_md) rfl (k_X5_thrown l G M74 h76) cw_RL_84 rfl rfl ⟨Nat.le_of_ble_eq_true rfl, Nat.le_of_ble_eq_true rfl⟩ rfl (Nat.le_of_ble_eq_true rfl) ⟨by omega, by omega⟩ dL_law_391 (fun H locs hM => ?_)
                refine lv_iload C0.1 C0.2.1 dL_law_394 (lv_at hl 1 rfl) ?_
                refine lv_icmp_eq (tgt := 401) C0.1 C0.2.1 dL_law_396 (by decide) (fun c78 => ?_) (fun c78 => ?_)
                · have hF := if_t c78 hF
                  refine lv_iload C0.1 C0.2.1 dL_law_401 (lv_at hl 1 rfl) ?_
                  refine lv_if_ne (tgt := 418) C0.1 C0.2.1 dL_law_403 (by decide) (fun c79 => ?_) (fun c79 => ?_)
                  · have hF := if_t c79 hF
                    refine lv_goto (tgt := 1359) C0.1 C0.2.1 dL_law_418 (by decide) ?_
                    obtain ⟨x80, ex80, hF⟩ := nm_some hF
                    refine lv_iinc (v := x80) (lv' := [(4, .int x80), (6, .int r75), (5, .int r70), (0, .ref b), (1, .ref (gad G 216)), (2, .ref (gad G 220)), (3, .ref (gad G 227))]) C0.1 C0.2.1 dL_law_1359 hl (k := 6) rfl (by rw [ex80]; rfl) (by decide) rfl (fun ls hl => ?_)
                    refine lv_goto (tgt := 23) C0.1 C0.2.1 dL_law_1362 (by decide) ?_
                    refine W.widen (k := 228 + 4 * (t + 1)) (n := 3698 + 24 * (t + 1)) (by omega) (by omega) ?_
                    exact ih23 (t + 1) x80 M74 _ _ _ (by omega) hM (lv_sub hl [3, 4, 5, 6, 0] rfl) hF
                  · have hF := if_f (fun q => q c79) hF
                    refine lv_aload_n C0.1 C0.2.1 dL_law_406 rfl (lv_at hl 5 rfl) ?_
                    refine lv_iconst (v := (0 : Int32)) C0.1 C0.2.1 dL_law_407 (by decide) ?_
                    refine y_lald C0 hM dL_law_408 ?_
                    refine lv_iload C0.1 C0.2.1 dL_law_409 (lv_at hl 0 rfl) ?_
                    refine lv_i2l (v := Int32.toInt64 r75) C0.1 C0.2.1 dL_law_411 rfl ?_
                    refine W.lcmp C0.1 C0.2.1 dL_law_412 ?_
                    refine lv_if_eq (tgt := 418) C0.1 C0.2.1 dL_law_413 (by decide) (fun c81 => ?_) (fun c81 => ?_)
                    · have hF := if_t c81 hF
                      refine lv_goto (tgt := 1359) C0.1 C0.2.1 dL_law_418 (by decide) ?_
                      obtain ⟨x82, ex82, hF⟩ := nm_some hF
                      refine lv_iinc (v := x82) (lv' := [(4, .int x82), (6, .int r75), (5, .int r70), (0, .ref b), (1, .ref (gad G 216)), (2, .ref (gad G 220)), (3, .ref (gad G 227))]) C0.1 C0.2.1 dL_law_1359 hl (k := 6) rfl (by rw [ex82]; rfl) (by decide) rfl (fun ls hl => ?_)
                      refine lv_goto (tgt := 23) C0.1 C0.2.1 dL_law_1362 (by decide) ?_
                      refine W.widen (k := 228 + 4 * (t + 1)) (n := 3698 + 24 * (t + 1)) (by omega) (by omega) ?_
                      exact ih23 (t + 1) x82 M74 _ _ _ (by omega) hM (lv_sub hl [3, 4, 5, 6, 0] rfl) hF
                    · have hF := if_f c81 hF
                      refine lv_iconst (v := (0 : Int32)) C0.1 C0.2.1 dL_law_416 (by decide) ?_
                      exact absurd (y_1 hF) (by decide)
                · have hF := if_f c78 hF
                  refine lv_iconst (v := (0 : Int32)) C0.1 C0.2.1 dL_law_399 (by decide) ?_
                  exact absurd (y_1 hF) (by decide)
              · have hF := if_f c67 hF
                by_cases c83 : x3 = (5 : Int32)
                · have hF := if_t c83 hF
                  refine y_tsw (tgt := 421) (off := 382) C0 dL_law_39 (by decide) (by rw [c83]; decide) (by decide) ?_
                  refine lv_aload_n C0.1 C0.2.1 dL_law_421 rfl (lv_at hl 1 rfl) ?_
                  refine lv_aload_n C0.1 C0.2.1 dL_law_422 rfl (lv_at hl 0 rfl) ?_
                  refine lv_iload C0.1 C0.2.1 dL_law_423 (lv_at hl 4 rfl) ?_
                  refine lv_iconst (v := (1 : Int32)) C0.1 C0.2.1 dL_law_425 (by decide) ?_
                  refine lv_iadd C0.1 C0.2.1 dL_law_426 ?_
                  obtain ⟨g84, hF⟩ := gdb_some hF
                  refine va_sld C0.1 C0.2.1 hX hbl hbA hM.2.2.2 (inb_in g84) dL_law_427 ?_
                  refine lv_aload_n C0.1 C0.2.1 dL_law_428 rfl (lv_at hl 0 rfl) ?_
                  refine lv_iload C0.1 C0.2.1 dL_law_429 (lv_at hl 4 rfl) ?_
                  refine lv_iconst (v := (2 : Int32)) C0.1 C0.2.1 dL_law_431 (by decide) ?_
                  refine lv_iadd C0.1 C0.2.1 dL_law_432 ?_
                  obtain ⟨g85, hF⟩ := gdb_some hF
                  refine va_sld C0.1 C0.2.1 hX hbl hbA hM.2.2.2 (inb_in g85) dL_law_433 ?_
                  refine lv_aload_n C0.1 C0.2.1 dL_law_434 rfl (lv_at hl 0 rfl) ?_
                  refine lv_iload C0.1 C0.2.1 dL_law_435 (lv_at hl 4 rfl) ?_
                  refine lv_iconst (v := (3 : Int32)) C0.1 C0.2.1 dL_law_437 (by decide) ?_
                  refine lv_iadd C0.1 C0.2.1 dL_law_438 ?_
                  obtain ⟨g86, hF⟩ := gdb_some hF
                  refine va_sld C0.1 C0.2.1 hX hbl hbA hM.2.2.2 (inb_in g86) dL_law_439 ?_
                  refine lv_aload_n C0.1 C0.2.1 dL_law_440 rfl (lv_at hl 3 rfl) ?_
                  obtain ⟨r88, M89, h87, hF⟩ := bd2_some hF
                  refine l_hi (na := 5) (rest := []) C0 hM hT hl.1 (k_L_curse l hst G B0 sa M1 (xs (Int32.toNatClampNeg (i4 + (1 : Int32)))) (xs (Int32.toNatClampNeg (i4 + (2 : Int32)))) (xs (Int32.toNatClampNeg (i4 + (3 : Int32)))) h87) ⟨tbx [668, 669, 68, 670] (by decide +kernel) (by decide +kernel), by decide +kernel, by decide +kernel, by decide +kernel⟩ rfl rfl rfl ⟨Nat.le_of_ble_eq_true rfl, Nat.le_of_ble_eq_true rfl⟩ rfl (Nat.le_of_ble_eq_true rfl) ⟨by omega, by omega⟩ dL_law_441 (fun H locs hM => ?_)
                  refine lv_istore (lv' := [(5, .int r88), (0, .ref b), (1, .ref (gad G 216)), (2, .ref (gad G 220)), (3, .ref (gad G 227)), (4, .int i4)]) C0.1 C0.2.1 dL_law_444 hl (by decide) rfl (fun ls hl => ?_)
                  refine lv_aload_n C0.1 C0.2.1 dL_law_446 rfl (lv_at hl 3 rfl) ?_
                  refine lv_aload_n C0.1 C0.2.1 dL_law_447 rfl (lv_at hl 1 rfl) ?_
                  refine lv_iload C0.1 C0.2.1 dL_law_448 (lv_at hl 5 rfl) ?_
                  refine lv_iconst (v := (1 : Int32)) C0.1 C0.2.1 dL_law_450 (by decide) ?_
                  refine lv_iadd C0.1 C0.2.1 dL_law_451 ?_
                  obtain ⟨g90, hF⟩ := gdb_some hF
                  refine va_sld C0.1 C0.2.1 hX hbl hbA hM.2.2.2 (inb_in g90) dL_law_452 ?_
                  refine lv_aload_n C0.1 C0.2.1 dL_law_453 rfl (lv_at hl 1 rfl) ?_
                  refine lv_iload C0.1 C0.2.1 dL_law_454 (lv_at hl 5 rfl) ?_
                  refine lv_iconst (v := (2 : Int32)) C0.1 C0.2.1 dL_law_456 (by decide) ?_
                  refine lv_iadd C0.1 C0.2.1 dL_law_457 ?_
                  obtain ⟨g91, hF⟩ := gdb_some hF
                  refine va_sld C0.1 C0.2.1 hX hbl hbA hM.2.2.2 (inb_in g91) dL_law_458 ?_
                  refine lv_aload_n C0.1 C0.2.1 dL_law_459 rfl (lv_at hl 1 rfl) ?_
                  refine lv_iload C0.1 C0.2.1 dL_law_460 (lv_at hl 5 rfl) ?_
                  refine lv_iconst (v := (3 : Int32)) C0.1 C0.2.1 dL_law_462 (by decide) ?_
                  refine lv_iadd C0.1 C0.2.1 dL_law_463 ?_
                  obtain ⟨g92, hF⟩ := gdb_some hF
                  refine va_sld C0.1 C0.2.1 hX hbl hbA hM.2.2.2 (inb_in g92) dL_law_464 ?_
                  obtain ⟨r95, M94, h93, hF⟩ := bd2_some hF
                  refine y_vi (rest := []) C0 hM hl.1 ok_md (ent5 ok_md) rfl (k_X5_curse l G M89 (xs (Int32.toNatClampNeg (i4 + (1 : Int32)))) (xs (Int32.toNatClampNeg (i4 + (2 : Int32)))) (xs (Int32.toNatClampNeg (i4 + (3 : Int32)))) h93) cw_RL_104 rfl rfl ⟨Nat.le_of_ble_eq_true rfl, Nat.le_of_ble_eq_true rfl⟩ rfl (Nat.le_of_ble_eq_true rfl) ⟨by omega, by omega⟩ dL_law_465 (fun H locs hM => ?_)
                  refine lv_istore (lv' := [(6, .int r95), (5, .int r88), (0, .ref b), (1, .ref (gad G 216)), (2, .ref (gad G 220)), (3, .ref (gad G 227)), (4, .int i4)]) C0.1 C0.2.1 dL_law_468 hl (by decide) rfl (fun ls hl => ?_)
                  refine lv_aload_n C0.1 C0.2.1 dL_law_470 rfl (lv_at hl 4 rfl) ?_
                  obtain ⟨r97, h96, hF⟩ := bd_some hF
                  refine y_vi (rest := []) C0 hM hl.1 ok_md (ent5 ok_md) rfl (k_X5_thrown l G M94 h96) cw_RL_84 rfl rfl ⟨Nat.le_of_ble_eq_true rfl, Nat.le_of_ble_eq_true rfl⟩ rfl (Nat.le_of_ble_eq_true rfl) ⟨by omega, by omega⟩ dL_law_471 (fun H locs hM => ?_)
                  refine lv_iload C0.1 C0.2.1 dL_law_474 (lv_at hl 1 rfl) ?_
                  refine lv_icmp_eq (tgt := 481) C0.1 C0.2.1 dL_law_476 (by decide) (fun c98 => ?_) (fun c98 => ?_)
                  · have hF := if_t c98 hF
                    refine lv_iload C0.1 C0.2.1 dL_law_481 (lv_at hl 1 rfl) ?_
                    refine lv_if_ne (tgt := 498) C0.1 C0.2.1 dL_law_483 (by decide) (fun c99 => ?_) (fun c99 => ?_)
                    · have hF := if_t c99 hF
                      refine lv_goto (tgt := 1359) C0.1 C0.2.1 dL_law_498 (by decide) ?_
                      obtain ⟨x100, ex100, hF⟩ := nm_some hF
                      refine lv_iinc (v := x100) (lv' := [(4, .int x100), (6, .int r95), (5, .int r88), (0, .ref b), (1, .ref (gad G 216)), (2, .ref (gad G 220)), (3, .ref (gad G 227))]) C0.1 C0.2.1 dL_law_1359 hl (k := 6) rfl (by rw [ex100]; rfl) (by decide) rfl (fun ls hl => ?_)
                      refine lv_goto (tgt := 23) C0.1 C0.2.1 dL_law_1362 (by decide) ?_
                      refine W.widen (k := 228 + 4 * (t + 1)) (n := 3698 + 24 * (t + 1)) (by omega) (by omega) ?_
                      exact ih23 (t + 1) x100 M94 _ _ _ (by omega) hM (lv_sub hl [3, 4, 5, 6, 0] rfl) hF
                    · have hF := if_f (fun q => q c99) hF
                      refine lv_aload_n C0.1 C0.2.1 dL_law_486 rfl (lv_at hl 5 rfl) ?_
                      refine lv_iconst (v := (0 : Int32)) C0.1 C0.2.1 dL_law_487 (by decide) ?_
                      refine y_lald C0 hM dL_law_488 ?_
                      refine lv_iload C0.1 C0.2.1 dL_law_489 (lv_at hl 0 rfl) ?_
                      refine lv_i2l (v := Int32.toInt64 r95) C0.1 C0.2.1 dL_law_491 rfl ?_
                      refine W.lcmp C0.1 C0.2.1 dL_law_492 ?_
                      refine lv_if_eq (tgt := 498) C0.1 C0.2.1 dL_law_493 (by decide) (fun c101 => ?_) (fun c101 => ?_)
                      · have hF := if_t c101 hF
                        refine lv_goto (tgt := 1359) C0.1 C0.2.1 dL_law_498 (by decide) ?_
                        obtain ⟨x102, ex102, hF⟩ := nm_some hF
                        refine lv_iinc (v := x102) (lv' := [(4, .int x102), (6, .int r95), (5, .int r88), (0, .ref b), (1, .ref (gad G 216)), (2, .ref (gad G 220)), (3, .ref (gad G 227))]) C0.1 C0.2.1 dL_law_1359 hl (k := 6) rfl (by rw [ex102]; rfl) (by decide) rfl (fun ls hl => ?_)
                        refine lv_goto (tgt := 23) C0.1 C0.2.1 dL_law_1362 (by decide) ?_
                        refine W.widen (k := 228 + 4 * (t + 1)) (n := 3698 + 24 * (t + 1)) (by omega) (by omega) ?_
                        exact ih23 (t + 1) x102 M94 _ _ _ (by omega) hM (lv_sub hl [3, 4, 5, 6, 0] rfl) hF
                      · have hF := if_f c101 hF
                        refine lv_iconst (v := (0 : Int32)) C0.1 C0.2.1 dL_law_496 (by decide) ?_
                        exact absurd (y_1 hF) (by decide)
                  · have hF := if_f c98 hF
                    refine lv_iconst (v := (0 : Int32)) C0.1 C0.2.1 dL_law_479 (by decide) ?_
                    exact absurd (y_1 hF) (by decide)
                · have hF := if_f c83 hF
                  by_cases c103 : x3 = (6 : Int32)
                  · have hF := if_t c103 hF
                    refine y_tsw (tgt := 501) (off := 462) C0 dL_law_39 (by decide) (by rw [c103]; decide) (by decide) ?_
                    refine lv_aload_n C0.1 C0.2.1 dL_law_501 rfl (lv_at hl 1 rfl) ?_
                    refine lv_aload_n C0.1 C0.2.1 dL_law_502 rfl (lv_at hl 3 rfl) ?_
                    obtain ⟨r105, M106, h104, hF⟩ := bd2_some hF
                    refine l_hi (na := 2) (rest := []) C0 hM hT hl.1 (k_L_delay l hst G B0 sa M1 h104) ⟨tbx [675, 676, 68, 677] (by decide +kernel) (by decide +kernel), by decide +kernel, by decide +kernel, by decide +kernel⟩ rfl rfl rfl ⟨Nat.le_of_ble_eq_true rfl, Nat.le_of_ble_eq_true rfl⟩ rfl (Nat.le_of_ble_eq_true rfl) ⟨by omega, by omega⟩ dL_law_503 (fun H locs hM => ?_)
                    refine lv_istore (lv' := [(5, .int r105), (0, .ref b), (1, .ref (gad G 216)), (2, .ref (gad G 220)), (3, .ref (gad G 227)), (4, .int i4)]) C0.1 C0.2.1 dL_law_506 hl (by decide) rfl (fun ls hl => ?_)
                    refine lv_aload_n C0.1 C0.2.1 dL_law_508 rfl (lv_at hl 3 rfl) ?_
                    obtain ⟨r109, M108, h107, hF⟩ := bd2_some hF
                    refine y_vi (rest := []) C0 hM hl.1 ok_md (ent5 ok_md) rfl (k_X5_delay l G M106 h107) cw_RL_108 rfl rfl ⟨Nat.le_of_ble_eq_true rfl, Nat.le_of_ble_eq_true rfl⟩ rfl (Nat.le_of_ble_eq_true rfl) ⟨by omega, by omega⟩ dL_law_509 (fun H locs hM => ?_)
                    refine lv_istore (lv' := [(6, .int r109), (5, .int r105), (0, .ref b), (1, .ref (gad G 216)), (2, .ref (gad G 220)), (3, .ref (gad G 227)), (4, .int i4)]) C0.1 C0.2.1 dL_law_512 hl (by decide) rfl (fun ls hl => ?_)
                    refine lv_aload_n C0.1 C0.2.1 dL_law_514 rfl (lv_at hl 4 rfl) ?_
                    obtain ⟨r111, h110, hF⟩ := bd_some hF
                    refine y_vi (rest := []) C0 hM hl.1 ok_md (ent5 ok_md) rfl (k_X5_thrown l G M108 h110) cw_RL_84 rfl rfl ⟨Nat.le_of_ble_eq_true rfl, Nat.le_of_ble_eq_true rfl⟩ rfl (Nat.le_of_ble_eq_true rfl) ⟨by omega, by omega⟩ dL_law_515 (fun H locs hM => ?_)
                    refine lv_iload C0.1 C0.2.1 dL_law_518 (lv_at hl 1 rfl) ?_
                    refine lv_icmp_eq (tgt := 525) C0.1 C0.2.1 dL_law_520 (by decide) (fun c112 => ?_) (fun c112 => ?_)
                    · have hF := if_t c112 hF
                      refine lv_iload C0.1 C0.2.1 dL_law_525 (lv_at hl 1 rfl) ?_
                      refine lv_if_ne (tgt := 542) C0.1 C0.2.1 dL_law_527 (by decide) (fun c113 => ?_) (fun c113 => ?_)
                      · have hF := if_t c113 hF
                        refine lv_goto (tgt := 1359) C0.1 C0.2.1 dL_law_542 (by decide) ?_
                        obtain ⟨x114, ex114, hF⟩ := nm_some hF
                        refine lv_iinc (v := x114) (lv' := [(4, .int x114), (6, .int r109), (5, .int r105), (0, .ref b), (1, .ref (gad G 216)), (2, .ref (gad G 220)), (3, .ref (gad G 227))]) C0.1 C0.2.1 dL_law_1359 hl (k := 6) rfl (by rw [ex114]; rfl) (by decide) rfl (fun ls hl => ?_)
                        refine lv_goto (tgt := 23) C0.1 C0.2.1 dL_law_1362 (by decide) ?_
                        refine W.widen (k := 228 + 4 * (t + 1)) (n := 3698 + 24 * (t + 1)) (by omega) (by omega) ?_
                        exact ih23 (t + 1) x114 M108 _ _ _ (by omega) hM (lv_sub hl [3, 4, 5, 6, 0] rfl) hF
                      · have hF := if_f (fun q => q c113) hF
                        refine lv_aload_n C0.1 C0.2.1 dL_law_530 rfl (lv_at hl 5 rfl) ?_
                        refine lv_iconst (v := (0 : Int32)) C0.1 C0.2.1 dL_law_531 (by decide) ?_
                        refine y_lald C0 hM dL_law_532 ?_
                        refine lv_iload C0.1 C0.2.1 dL_law_533 (lv_at hl 0 rfl) ?_
                        refine lv_i2l (v := Int32.toInt64 r109) C0.1 C0.2.1 dL_law_535 rfl ?_
                        refine W.lcmp C0.1 C0.2.1 dL_law_536 ?_
                        refine lv_if_eq (tgt := 542) C0.1 C0.2.1 dL_law_537 (by decide) (fun c115 => ?_) (fun c115 => ?_)
                        · have hF := if_t c115 hF
                          refine lv_goto (tgt := 1359) C0.1 C0.2.1 dL_law_542 (by decide) ?_
                          obtain ⟨x116, ex116, hF⟩ := nm_some hF
                          refine lv_iinc (v := x116) (lv' := [(4, .int x116), (6, .int r109), (5, .int r105), (0, .ref b), (1, .ref (gad G 216)), (2, .ref (gad G 220)), (3, .ref (gad G 227))]) C0.1 C0.2.1 dL_law_1359 hl (k := 6) rfl (by rw [ex116]; rfl) (by decide) rfl (fun ls hl => ?_)
                          refine lv_goto (tgt := 23) C0.1 C0.2.1 dL_law_1362 (by decide) ?_
                          refine W.widen (k := 228 + 4 * (t + 1)) (n := 3698 + 24 * (t + 1)) (by omega) (by omega) ?_
                          exact ih23 (t + 1) x116 M108 _ _ _ (by omega) hM (lv_sub hl [3, 4, 5, 6, 0] rfl) hF
                        · have hF := if_f c115 hF
                          refine lv_iconst (v := (0 : Int32)) C0.1 C0.2.1 dL_law_540 (by decide) ?_
                          exact absurd (y_1 hF) (by decide)
                    · have hF := if_f c112 hF
                      refine lv_iconst (v := (0 : Int32)) C0.1 C0.2.1 dL_law_523 (by decide) ?_
                      exact absurd (y_1 hF) (by decide)
                  · have hF := if_f c103 hF
                    by_cases c117 : x3 = (7 : Int32)
                    · have hF := if_t c117 hF
                      refine y_tsw (tgt := 545) (off := 506) C0 dL_law_39 (by decide) (by rw [c117]; decide) (by decide) ?_
                      refine lv_aload_n C0.1 C0.2.1 dL_law_545 rfl (lv_at hl 1 rfl) ?_
                      refine lv_aload_n C0.1 C0.2.1 dL_law_546 rfl (lv_at hl 0 rfl) ?_
                      refine lv_iload C0.1 C0.2.1 dL_law_547 (lv_at hl 4 rfl) ?_
                      refine lv_iconst (v := (1 : Int32)) C0.1 C0.2.1 dL_law_549 (by decide) ?_
                      refine lv_iadd C0.1 C0.2.1 dL_law_550 ?_
                      obtain ⟨g118, hF⟩ := gdb_some hF
                      refine va_sld C0.1 C0.2.1 hX hbl hbA hM.2.2.2 (inb_in g118) dL_law_551 ?_
                      refine lv_aload_n C0.1 C0.2.1 dL_law_552 rfl (lv_at hl 0 rfl) ?_
                      refine lv_iload C0.1 C0.2.1 dL_law_553 (lv_at hl 4 rfl) ?_
                      refine lv_iconst (v := (2 : Int32)) C0.1 C0.2.1 dL_law_555 (by decide) ?_
                      refine lv_iadd C0.1 C0.2.1 dL_law_556 ?_
                      obtain ⟨g119, hF⟩ := gdb_some hF
                      refine va_sld C0.1 C0.2.1 hX hbl hbA hM.2.2.2 (inb_in g119) dL_law_557 ?_
                      refine lv_aload_n C0.1 C0.2.1 dL_law_558 rfl (lv_at hl 0 rfl) ?_
                      refine lv_iload C0.1 C0.2.1 dL_law_559 (lv_at hl 4 rfl) ?_
                      refine lv_iconst (v := (3 : Int32)) C0.1 C0.2.1 dL_law_561 (by decide) ?_
                      refine lv_iadd C0.1 C0.2.1 dL_law_562 ?_
                      obtain ⟨g120, hF⟩ := gdb_some hF
                      refine va_sld C0.1 C0.2.1 hX hbl hbA hM.2.2.2 (inb_in g120) dL_law_563 ?_
                      refine lv_aload_n C0.1 C0.2.1 dL_law_564 rfl (lv_at hl 0 rfl) ?_
                      refine lv_iload C0.1 C0.2.1 dL_law_565 (lv_at hl 4 rfl) ?_
                      refine lv_iconst (v := (4 : Int32)) C0.1 C0.2.1 dL_law_567 (by decide) ?_
                      refine lv_iadd C0.1 C0.2.1 dL_law_568 ?_
                      obtain ⟨g121, hF⟩ := gdb_some hF
                      refine va_sld C0.1 C0.2.1 hX hbl hbA hM.2.2.2 (inb_in g121) dL_law_569 ?_
                      refine lv_aload_n C0.1 C0.2.1 dL_law_570 rfl (lv_at hl 3 rfl) ?_
                      obtain ⟨r123, M124, h122, hF⟩ := bd2_some hF
                      refine l_hi (na := 6) (rest := []) C0 hM hT hl.1 (k_L_ready l hst G B0 sa M1 (xs (Int32.toNatClampNeg (i4 + (1 : Int32)))) (xs (Int32.toNatClampNeg (i4 + (2 : Int32)))) (xs (Int32.toNatClampNeg (i4 + (3 : Int32)))) (xs (Int32.toNatClampNeg (i4 + (4 : Int32)))) h122) ⟨tbx [686, 687, 68, 688] (by decide +kernel) (by decide +kernel), by decide +kernel, by decide +kernel, by decide +kernel⟩ rfl rfl rfl ⟨Nat.le_of_ble_eq_true rfl, Nat.le_of_ble_eq_true rfl⟩ rfl (Nat.le_of_ble_eq_true rfl) ⟨by omega, by omega⟩ dL_law_571 (fun H locs hM => ?_)
                      refine lv_istore (lv' := [(5, .int r123), (0, .ref b), (1, .ref (gad G 216)), (2, .ref (gad G 220)), (3, .ref (gad G 227)), (4, .int i4)]) C0.1 C0.2.1 dL_law_574 hl (by decide) rfl (fun ls hl => ?_)
                      refine lv_aload_n C0.1 C0.2.1 dL_law_576 rfl (lv_at hl 3 rfl) ?_
                      refine lv_aload_n C0.1 C0.2.1 dL_law_577 rfl (lv_at hl 1 rfl) ?_
                      refine lv_iload C0.1 C0.2.1 dL_law_578 (lv_at hl 5 rfl) ?_
                      refine lv_iconst (v := (1 : Int32)) C0.1 C0.2.1 dL_law_580 (by decide) ?_
                      refine lv_iadd C0.1 C0.2.1 dL_law_581 ?_
                      obtain ⟨g125, hF⟩ := gdb_some hF
                      refine va_sld C0.1 C0.2.1 hX hbl hbA hM.2.2.2 (inb_in g125) dL_law_582 ?_
                      refine lv_aload_n C0.1 C0.2.1 dL_law_583 rfl (lv_at hl 1 rfl) ?_
                      refine lv_iload C0.1 C0.2.1 dL_law_584 (lv_at hl 5 rfl) ?_
                      refine lv_iconst (v := (2 : Int32)) C0.1 C0.2.1 dL_law_586 (by decide) ?_
                      refine lv_iadd C0.1 C0.2.1 dL_law_587 ?_
                      obtain ⟨g126, hF⟩ := gdb_some hF
                      refine va_sld C0.1 C0.2.1 hX hbl hbA hM.2.2.2 (inb_in g126) dL_law_588 ?_
                      refine lv_aload_n C0.1 C0.2.1 dL_law_589 rfl (lv_at hl 1 rfl) ?_
                      refine lv_iload C0.1 C0.2.1 dL_law_590 (lv_at hl 5 rfl) ?_
                      refine lv_iconst (v := (3 : Int32)) C0.1 C0.2.1 dL_law_592 (by decide) ?_
                      refine lv_iadd C0.1 C0.2.1 dL_law_593 ?_
                      obtain ⟨g127, hF⟩ := gdb_some hF
                      refine va_sld C0.1 C0.2.1 hX hbl hbA hM.2.2.2 (inb_in g127) dL_law_594 ?_
                      refine lv_aload_n C0.1 C0.2.1 dL_law_595 rfl (lv_at hl 1 rfl) ?_
                      refine lv_iload C0.1 C0.2.1 dL_law_596 (lv_at hl 5 rfl) ?_
                      refine lv_iconst (v := (4 : Int32)) C0.1 C0.2.1 dL_law_598 (by decide) ?_
                      refine lv_iadd C0.1 C0.2.1 dL_law_599 ?_
                      obtain ⟨g128, hF⟩ := gdb_some hF
                      refine va_sld C0.1 C0.2.1 hX hbl hbA hM.2.2.2 (inb_in g128) dL_law_600 ?_
                      obtain ⟨r131, M130, h129, hF⟩ := bd2_some hF
                      refine y_vi (rest := []) C0 hM hl.1 ok_md (ent5 ok_md) rfl (k_X5_ready l G M124 (xs (Int32.toNatClampNeg (i4 + (1 : Int32)))) (xs (Int32.toNatClampNeg (i4 + (2 : Int32)))) (xs (Int32.toNatClampNeg (i4 + (3 : Int32)))) (xs (Int32.toNatClampNeg (i4 + (4 : Int32)))) h129) cw_RL_111 rfl rfl ⟨Nat.le_of_ble_eq_true rfl, Nat.le_of_ble_eq_true rfl⟩ rfl (Nat.le_of_ble_eq_true rfl) ⟨by omega, by omega⟩ dL_law_601 (fun H locs hM => ?_)
                      refine lv_istore (lv' := [(6, .int r131), (5, .int r123), (0, .ref b), (1, .ref (gad G 216)), (2, .ref (gad G 220)), (3, .ref (gad G 227)), (4, .int i4)]) C0.1 C0.2.1 dL_law_604 hl (by decide) rfl (fun ls hl => ?_)
                      refine lv_aload_n C0.1 C0.2.1 dL_law_606 rfl (lv_at hl 4 rfl) ?_
                      obtain ⟨r133, h132, hF⟩ := bd_some hF
                      refine y_vi (rest := []) C0 hM hl.1 ok_md (ent5 ok_md) rfl (k_X5_thrown l G M130 h132) cw_RL_84 rfl rfl ⟨Nat.le_of_ble_eq_true rfl, Nat.le_of_ble_eq_true rfl⟩ rfl (Nat.le_of_ble_eq_true rfl) ⟨by omega, by omega⟩ dL_law_607 (fun H locs hM => ?_)
                      refine lv_iload C0.1 C0.2.1 dL_law_610 (lv_at hl 1 rfl) ?_
                      refine lv_icmp_eq (tgt := 617) C0.1 C0.2.1 dL_law_612 (by decide) (fun c134 => ?_) (fun c134 => ?_)
                      · have hF := if_t c134 hF
                        refine lv_iload C0.1 C0.2.1 dL_law_617 (lv_at hl 1 rfl) ?_
                        refine lv_if_ne (tgt := 634) C0.1 C0.2.1 dL_law_619 (by decide) (fun c135 => ?_) (fun c135 => ?_)
                        · have hF := if_t c135 hF
                          refine lv_goto (tgt := 1359) C0.1 C0.2.1 dL_law_634 (by decide) ?_
                          obtain ⟨x136, ex136, hF⟩ := nm_some hF
                          refine lv_iinc (v := x136) (lv' := [(4, .int x136), (6, .int r131), (5, .int r123), (0, .ref b), (1, .ref (gad G 216)), (2, .ref (gad G 220)), (3, .ref (gad G 227))]) C0.1 C0.2.1 dL_law_1359 hl (k := 6) rfl (by rw [ex136]; rfl) (by decide) rfl (fun ls hl => ?_)
                          refine lv_goto (tgt := 23) C0.1 C0.2.1 dL_law_1362 (by decide) ?_
                          refine W.widen (k := 228 + 4 * (t + 1)) (n := 3698 + 24 * (t + 1)) (by omega) (by omega) ?_
                          exact ih23 (t + 1) x136 M130 _ _ _ (by omega) hM (lv_sub hl [3, 4, 5, 6, 0] rfl) hF
                        · have hF := if_f (fun q => q c135) hF
                          refine lv_aload_n C0.1 C0.2.1 dL_law_622 rfl (lv_at hl 5 rfl) ?_
                          refine lv_iconst (v := (0 : Int32)) C0.1 C0.2.1 dL_law_623 (by decide) ?_
                          refine y_lald C0 hM dL_law_624 ?_
                          refine lv_iload C0.1 C0.2.1 dL_law_625 (lv_at hl 0 rfl) ?_
                          refine lv_i2l (v := Int32.toInt64 r131) C0.1 C0.2.1 dL_law_627 rfl ?_
                          refine W.lcmp C0.1 C0.2.1 dL_law_628 ?_
                          refine lv_if_eq (tgt := 634) C0.1 C0.2.1 dL_law_629 (by decide) (fun c137 => ?_) (fun c137 => ?_)
                          · have hF := if_t c137 hF
                            refine lv_goto (tgt := 1359) C0.1 C0.2.1 dL_law_634 (by decide) ?_
                            obtain ⟨x138, ex138, hF⟩ := nm_some hF
                            refine lv_iinc (v := x138) (lv' := [(4, .int x138), (6, .int r131), (5, .int r123), (0, .ref b), (1, .ref (gad G 216)), (2, .ref (gad G 220)), (3, .ref (gad G 227))]) C0.1 C0.2.1 dL_law_1359 hl (k := 6) rfl (by rw [ex138]; rfl) (by decide) rfl (fun ls hl => ?_)
                            refine lv_goto (tgt := 23) C0.1 C0.2.1 dL_law_1362 (by decide) ?_
                            refine W.widen (k := 228 + 4 * (t + 1)) (n := 3698 + 24 * (t + 1)) (by omega) (by omega) ?_
                            exact ih23 (t + 1) x138 M130 _ _ _ (by omega) hM (lv_sub hl [3, 4, 5, 6, 0] rfl) hF
                          · have hF := if_f c137 hF
                            refine lv_iconst (v := (0 : Int32)) C0.1 C0.2.1 dL_law_632 (by decide) ?_
                            exact absurd (y_1 hF) (by decide)
                      · have hF := if_f c134 hF
                        refine lv_iconst (v := (0 : Int32)) C0.1 C0.2.1 dL_law_615 (by decide) ?_
                        exact absurd (y_1 hF) (by decide)
                    · have hF := if_f c117 hF
                      by_cases c139 : x3 = (8 : Int32)
                      · have hF := if_t c139 hF
                        refine y_tsw (tgt := 637) (off := 598) C0 dL_law_39 (by decide) (by rw [c139]; decide) (by decide) ?_
                        refine lv_aload_n C0.1 C0.2.1 dL_law_637 rfl (lv_at hl 1 rfl) ?_
                        refine lv_aload_n C0.1 C0.2.1 dL_law_638 rfl (lv_at hl 3 rfl) ?_
                        obtain ⟨r141, M142, h140, hF⟩ := bd2_some hF
                        refine l_hi (na := 2) (rest := []) C0 hM hT hl.1 (k_L_end l hst G B0 sa M1 h140) ⟨tbx [697, 698, 68, 699] (by decide +kernel) (by decide +kernel), by decide +kernel, by decide +kernel, by decide +kernel⟩ rfl rfl rfl ⟨Nat.le_of_ble_eq_true rfl, Nat.le_of_ble_eq_true rfl⟩ rfl (Nat.le_of_ble_eq_true rfl) ⟨by omega, by omega⟩ dL_law_639 (fun H locs hM => ?_)
                        refine lv_istore (lv' := [(5, .int r141), (0, .ref b), (1, .ref (gad G 216)), (2, .ref (gad G 220)), (3, .ref (gad G 227)), (4, .int i4)]) C0.1 C0.2.1 dL_law_642 hl (by decide) rfl (fun ls hl => ?_)
                        refine lv_aload_n C0.1 C0.2.1 dL_law_644 rfl (lv_at hl 3 rfl) ?_
                        obtain ⟨r145, M144, h143, hF⟩ := bd2_some hF
                        refine y_vi (rest := []) C0 hM hl.1 ok_md (ent5 ok_md) rfl (k_X5_end l G M142 h143) cw_RL_114 rfl rfl ⟨Nat.le_of_ble_eq_true rfl, Nat.le_of_ble_eq_true rfl⟩ rfl (Nat.le_of_ble_eq_true rfl) ⟨by omega, by omega⟩ dL_law_645 (fun H locs hM => ?_)
                        refine lv_istore (lv' := [(6, .int r145), (5, .int r141), (0, .ref b), (1, .ref (gad G 216)), (2, .ref (gad G 220)), (3, .ref (gad G 227)), (4, .int i4)]) C0.1 C0.2.1 dL_law_648 hl (by decide) rfl (fun ls hl => ?_)
                        refine lv_aload_n C0.1 C0.2.1 dL_law_650 rfl (lv_at hl 4 rfl) ?_
                        obtain ⟨r147, h146, hF⟩ := bd_some hF
                        refine y_vi (rest := []) C0 hM hl.1 ok_md (ent5 ok_md) rfl (k_X5_thrown l G M144 h146) cw_RL_84 rfl rfl ⟨Nat.le_of_ble_eq_true rfl, Nat.le_of_ble_eq_true rfl⟩ rfl (Nat.le_of_ble_eq_true rfl) ⟨by omega, by omega⟩ dL_law_651 (fun H locs hM => ?_)
                        refine lv_iload C0.1 C0.2.1 dL_law_654 (lv_at hl 1 rfl) ?_
                        refine lv_icmp_eq (tgt := 661) C0.1 C0.2.1 dL_law_656 (by decide) (fun c148 => ?_) (fun c148 => ?_)
                        · have hF := if_t c148 hF
                          refine lv_iload C0.1 C0.2.1 dL_law_661 (lv_at hl 1 rfl) ?_
                          refine lv_if_ne (tgt := 678) C0.1 C0.2.1 dL_law_663 (by decide) (fun c149 => ?_) (fun c149 => ?_)
                          · have hF := if_t c149 hF
                            refine lv_goto (tgt := 1359) C0.1 C0.2.1 dL_law_678 (by decide) ?_
                            obtain ⟨x150, ex150, hF⟩ := nm_some hF
                            refine lv_iinc (v := x150) (lv' := [(4, .int x150), (6, .int r145), (5, .int r141), (0, .ref b), (1, .ref (gad G 216)), (2, .ref (gad G 220)), (3, .ref (gad G 227))]) C0.1 C0.2.1 dL_law_1359 hl (k := 6) rfl (by rw [ex150]; rfl) (by decide) rfl (fun ls hl => ?_)
                            refine lv_goto (tgt := 23) C0.1 C0.2.1 dL_law_1362 (by decide) ?_
                            refine W.widen (k := 228 + 4 * (t + 1)) (n := 3698 + 24 * (t + 1)) (by omega) (by omega) ?_
                            exact ih23 (t + 1) x150 M144 _ _ _ (by omega) hM (lv_sub hl [3, 4, 5, 6, 0] rfl) hF
                          · have hF := if_f (fun q => q c149) hF
                            refine lv_aload_n C0.1 C0.2.1 dL_law_666 rfl (lv_at hl 5 rfl) ?_
                            refine lv_iconst (v := (0 : Int32)) C0.1 C0.2.1 dL_law_667 (by decide) ?_
                            refine y_lald C0 hM dL_law_668 ?_
                            refine lv_iload C0.1 C0.2.1 dL_law_669 (lv_at hl 0 rfl) ?_
                            refine lv_i2l (v := Int32.toInt64 r145) C0.1 C0.2.1 dL_law_671 rfl ?_
                            refine W.lcmp C0.1 C0.2.1 dL_law_672 ?_
                            refine lv_if_eq (tgt := 678) C0.1 C0.2.1 dL_law_673 (by decide) (fun c151 => ?_) (fun c151 => ?_)
                            · have hF := if_t c151 hF
                              refine lv_goto (tgt := 1359) C0.1 C0.2.1 dL_law_678 (by decide) ?_
                              obtain ⟨x152, ex152, hF⟩ := nm_some hF
                              refine lv_iinc (v := x152) (lv' := [(4, .int x152), (6, .int r145), (5, .int r141), (0, .ref b), (1, .ref (gad G 216)), (2, .ref (gad G 220)), (3, .ref (gad G 227))]) C0.1 C0.2.1 dL_law_1359 hl (k := 6) rfl (by rw [ex152]; rfl) (by decide) rfl (fun ls hl => ?_)
                              refine lv_goto (tgt := 23) C0.1 C0.2.1 dL_law_1362 (by decide) ?_
                              refine W.widen (k := 228 + 4 * (t + 1)) (n := 3698 + 24 * (t + 1)) (by omega) (by omega) ?_
                              exact ih23 (t + 1) x152 M144 _ _ _ (by omega) hM (lv_sub hl [3, 4, 5, 6, 0] rfl) hF
                            · have hF := if_f c151 hF
                              refine lv_iconst (v := (0 : Int32)) C0.1 C0.2.1 dL_law_676 (by decide) ?_
                              exact absurd (y_1 hF) (by decide)
                        · have hF := if_f c148 hF
                          refine lv_iconst (v := (0 : Int32)) C0.1 C0.2.1 dL_law_659 (by decide) ?_
                          exact absurd (y_1 hF) (by decide)
                      · have hF := if_f c139 hF
                        by_cases c153 : x3 = (9 : Int32)
                        · have hF := if_t c153 hF
                          refine y_tsw (tgt := 681) (off := 642) C0 dL_law_39 (by decide) (by rw [c153]; decide) (by decide) ?_
                          refine lv_aload_n C0.1 C0.2.1 dL_law_681 rfl (lv_at hl 1 rfl) ?_
                          refine lv_aload_n C0.1 C0.2.1 dL_law_682 rfl (lv_at hl 0 rfl) ?_
                          refine lv_iload C0.1 C0.2.1 dL_law_683 (lv_at hl 4 rfl) ?_
                          refine lv_iconst (v := (1 : Int32)) C0.1 C0.2.1 dL_law_685 (by decide) ?_
                          refine lv_iadd C0.1 C0.2.1 dL_law_686 ?_
                          obtain ⟨g154, hF⟩ := gdb_some hF
                          refine va_sld C0.1 C0.2.1 hX hbl hbA hM.2.2.2 (inb_in g154) dL_law_687 ?_
                          refine lv_aload_n C0.1 C0.2.1 dL_law_688 rfl (lv_at hl 3 rfl) ?_
                          obtain ⟨r156, M157, h155, hF⟩ := bd2_some hF
                          refine l_hi (na := 3) (rest := []) C0 hM hT hl.1 (k_L_comeIn l hst G B0 sa M1 (xs (Int32.toNatClampNeg (i4 + (1 : Int32)))) h155) ⟨tbx [704, 705, 68, 706] (by decide +kernel) (by decide +kernel), by decide +kernel, by decide +kernel, by decide +kernel⟩ rfl rfl rfl ⟨Nat.le_of_ble_eq_true rfl, Nat.le_of_ble_eq_true rfl⟩ rfl (Nat.le_of_ble_eq_true rfl) ⟨by omega, by omega⟩ dL_law_689 (fun H locs hM => ?_)
                          refine lv_istore (lv' := [(5, .int r156), (0, .ref b), (1, .ref (gad G 216)), (2, .ref (gad G 220)), (3, .ref (gad G 227)), (4, .int i4)]) C0.1 C0.2.1 dL_law_692 hl (by decide) rfl (fun ls hl => ?_)
                          refine lv_aload_n C0.1 C0.2.1 dL_law_694 rfl (lv_at hl 3 rfl) ?_
                          refine lv_aload_n C0.1 C0.2.1 dL_law_695 rfl (lv_at hl 1 rfl) ?_
                          refine lv_iload C0.1 C0.2.1 dL_law_696 (lv_at hl 5 rfl) ?_
                          refine lv_iconst (v := (1 : Int32)) C0.1 C0.2.1 dL_law_698 (by decide) ?_
                          refine lv_iadd C0.1 C0.2.1 dL_law_699 ?_
                          obtain ⟨g158, hF⟩ := gdb_some hF
                          refine va_sld C0.1 C0.2.1 hX hbl hbA hM.2.2.2 (inb_in g158) dL_law_700 ?_
                          obtain ⟨r161, M160, h159, hF⟩ := bd2_some hF
                          refine y_vi (rest := []) C0 hM hl.1 ok_md (ent5 ok_md) rfl (k_X5_comeIn l G M157 (xs (Int32.toNatClampNeg (i4 + (1 : Int32)))) h159) cw_RL_117 rfl rfl ⟨Nat.le_of_ble_eq_true rfl, Nat.le_of_ble_eq_true rfl⟩ rfl (Nat.le_of_ble_eq_true rfl) ⟨by omega, by omega⟩ dL_law_701 (fun H locs hM => ?_)
                          refine lv_istore (lv' := [(6, .int r161), (5, .int r156), (0, .ref b), (1, .ref (gad G 216)), (2, .ref (gad G 220)), (3, .ref (gad G 227)), (4, .int i4)]) C0.1 C0.2.1 dL_law_704 hl (by decide) rfl (fun ls hl => ?_)
                          refine lv_aload_n C0.1 C0.2.1 dL_law_706 rfl (lv_at hl 4 rfl) ?_
                          obtain ⟨r163, h162, hF⟩ := bd_some hF
                          refine y_vi (rest := []) C0 hM hl.1 ok_md (ent5 ok_md) rfl (k_X5_thrown l G M160 h162) cw_RL_84 rfl rfl ⟨Nat.le_of_ble_eq_true rfl, Nat.le_of_ble_eq_true rfl⟩ rfl (Nat.le_of_ble_eq_true rfl) ⟨by omega, by omega⟩ dL_law_707 (fun H locs hM => ?_)
                          refine lv_iload C0.1 C0.2.1 dL_law_710 (lv_at hl 1 rfl) ?_
                          refine lv_icmp_eq (tgt := 717) C0.1 C0.2.1 dL_law_712 (by decide) (fun c164 => ?_) (fun c164 => ?_)
                          · have hF := if_t c164 hF
                            refine lv_iload C0.1 C0.2.1 dL_law_717 (lv_at hl 1 rfl) ?_
                            refine lv_if_ne (tgt := 734) C0.1 C0.2.1 dL_law_719 (by decide) (fun c165 => ?_) (fun c165 => ?_)
                            · have hF := if_t c165 hF
                              refine lv_goto (tgt := 1359) C0.1 C0.2.1 dL_law_734 (by decide) ?_
                              obtain ⟨x166, ex166, hF⟩ := nm_some hF
                              refine lv_iinc (v := x166) (lv' := [(4, .int x166), (6, .int r161), (5, .int r156), (0, .ref b), (1, .ref (gad G 216)), (2, .ref (gad G 220)), (3, .ref (gad G 227))]) C0.1 C0.2.1 dL_law_1359 hl (k := 6) rfl (by rw [ex166]; rfl) (by decide) rfl (fun ls hl => ?_)
                              refine lv_goto (tgt := 23) C0.1 C0.2.1 dL_law_1362 (by decide) ?_
                              refine W.widen (k := 228 + 4 * (t + 1)) (n := 3698 + 24 * (t + 1)) (by omega) (by omega) ?_
                              exact ih23 (t + 1) x166 M160 _ _ _ (by omega) hM (lv_sub hl [3, 4, 5, 6, 0] rfl) hF
                            · have hF := if_f (fun q => q c165) hF
                              refine lv_aload_n C0.1 C0.2.1 dL_law_722 rfl (lv_at hl 5 rfl) ?_
                              refine lv_iconst (v := (0 : Int32)) C0.1 C0.2.1 dL_law_723 (by decide) ?_
                              refine y_lald C0 hM dL_law_724 ?_
                              refine lv_iload C0.1 C0.2.1 dL_law_725 (lv_at hl 0 rfl) ?_
                              refine lv_i2l (v := Int32.toInt64 r161) C0.1 C0.2.1 dL_law_727 rfl ?_
                              refine W.lcmp C0.1 C0.2.1 dL_law_728 ?_
                              refine lv_if_eq (tgt := 734) C0.1 C0.2.1 dL_law_729 (by decide) (fun c167 => ?_) (fun c167 => ?_)
                              · have hF := if_t c167 hF
                                refine lv_goto (tgt := 1359) C0.1 C0.2.1 dL_law_734 (by decide) ?_
                                obtain ⟨x168, ex168, hF⟩ := nm_some hF
                                refine lv_iinc (v := x168) (lv' := [(4, .int x168), (6, .int r161), (5, .int r156), (0, .ref b), (1, .ref (gad G 216)), (2, .ref (gad G 220)), (3, .ref (gad G 227))]) C0.1 C0.2.1 dL_law_1359 hl (k := 6) rfl (by rw [ex168]; rfl) (by decide) rfl (fun ls hl => ?_)
                                refine lv_goto (tgt := 23) C0.1 C0.2.1 dL_law_1362 (by decide) ?_
                                refine W.widen (k := 228 + 4 * (t + 1)) (n := 3698 + 24 * (t + 1)) (by omega) (by omega) ?_
                                exact ih23 (t + 1) x168 M160 _ _ _ (by omega) hM (lv_sub hl [3, 4, 5, 6, 0] rfl) hF
                              · have hF := if_f c167 hF
                                refine lv_iconst (v := (0 : Int32)) C0.1 C0.2.1 dL_law_732 (by decide) ?_
                                exact absurd (y_1 hF) (by decide)
                          · have hF := if_f c164 hF
                            refine lv_iconst (v := (0 : Int32)) C0.1 C0.2.1 dL_law_715 (by decide) ?_
                            exact absurd (y_1 hF) (by decide)
                        · have hF := if_f c153 hF
                          by_cases c169 : x3 = (10 : Int32)
                          · have hF := if_t c169 hF
                            refine y_tsw (tgt := 737) (off := 698) C0 dL_law_39 (by decide) (by rw [c169]; decide) (by decide) ?_
                            refine lv_aload_n C0.1 C0.2.1 dL_law_737 rfl (lv_at hl 1 rfl) ?_
                            refine lv_aload_n C0.1 C0.2.1 dL_law_738 rfl (lv_at hl 0 rfl) ?_
                            refine lv_iload C0.1 C0.2.1 dL_law_739 (lv_at hl 4 rfl) ?_
                            refine lv_iconst (v := (1 : Int32)) C0.1 C0.2.1 dL_law_741 (by decide) ?_
                            refine lv_iadd C0.1 C0.2.1 dL_law_742 ?_
                            obtain ⟨g170, hF⟩ := gdb_some hF
                            refine va_sld C0.1 C0.2.1 hX hbl hbA hM.2.2.2 (inb_in g170) dL_law_743 ?_
                            refine lv_aload_n C0.1 C0.2.1 dL_law_744 rfl (lv_at hl 3 rfl) ?_
                            obtain ⟨r172, M173, h171, hF⟩ := bd2_some hF
                            refine l_hi (na := 3) (rest := []) C0 hM hT hl.1 (k_L_append l hst G B0 sa M1 (xs (Int32.toNatClampNeg (i4 + (1 : Int32)))) h171) ⟨tbx [723, 724, 68, 725] (by decide +kernel) (by decide +kernel), by decide +kernel, by decide +kernel, by decide +kernel⟩ rfl rfl rfl ⟨Nat.le_of_ble_eq_true rfl, Nat.le_of_ble_eq_true rfl⟩ rfl (Nat.le_of_ble_eq_true rfl) ⟨by omega, by omega⟩ dL_law_745 (fun H locs hM => ?_)
                            refine lv_istore (lv' := [(5, .int r172), (0, .ref b), (1, .ref (gad G 216)), (2, .ref (gad G 220)), (3, .ref (gad G 227)), (4, .int i4)]) C0.1 C0.2.1 dL_law_748 hl (by decide) rfl (fun ls hl => ?_)
                            refine lv_aload_n C0.1 C0.2.1 dL_law_750 rfl (lv_at hl 3 rfl) ?_
                            refine lv_aload_n C0.1 C0.2.1 dL_law_751 rfl (lv_at hl 1 rfl) ?_
                            refine lv_iload C0.1 C0.2.1 dL_law_752 (lv_at hl 5 rfl) ?_
                            refine lv_iconst (v := (1 : Int32)) C0.1 C0.2.1 dL_law_754 (by decide) ?_
                            refine lv_iadd C0.1 C0.2.1 dL_law_755 ?_
                            obtain ⟨g174, hF⟩ := gdb_some hF
                            refine va_sld C0.1 C0.2.1 hX hbl hbA hM.2.2.2 (inb_in g174) dL_law_756 ?_
                            obtain ⟨r177, M176, h175, hF⟩ := bd2_some hF
                            refine y_vi (rest := []) C0 hM hl.1 ok_md (ent5 ok_md) rfl (k_X5_append l G M173 (xs (Int32.toNatClampNeg (i4 + (1 : Int32)))) h175) cw_RL_120 rfl rfl ⟨Nat.le_of_ble_eq_true rfl, Nat.le_of_ble_eq_true rfl⟩ rfl (Nat.le_of_ble_eq_true rfl) ⟨by omega, by omega⟩ dL_law_757 (fun H locs hM => ?_)
                            refine lv_istore (lv' := [(6, .int r177), (5, .int r172), (0, .ref b), (1, .ref (gad G 216)), (2, .ref (gad G 220)), (3, .ref (gad G 227)), (4, .int i4)]) C0.1 C0.2.1 dL_law_760 hl (by decide) rfl (fun ls hl => ?_)
                            refine lv_aload_n C0.1 C0.2.1 dL_law_762 rfl (lv_at hl 4 rfl) ?_
                            obtain ⟨r179, h178, hF⟩ := bd_some hF
                            refine y_vi (rest := []) C0 hM hl.1 ok_md (ent5 ok_md) rfl (k_X5_thrown l G M176 h178) cw_RL_84 rfl rfl ⟨Nat.le_of_ble_eq_true rfl, Nat.le_of_ble_eq_true rfl⟩ rfl (Nat.le_of_ble_eq_true rfl) ⟨by omega, by omega⟩ dL_law_763 (fun H locs hM => ?_)
                            refine lv_iload C0.1 C0.2.1 dL_law_766 (lv_at hl 1 rfl) ?_
                            refine lv_icmp_eq (tgt := 773) C0.1 C0.2.1 dL_law_768 (by decide) (fun c180 => ?_) (fun c180 => ?_)
                            · have hF := if_t c180 hF
                              refine lv_iload C0.1 C0.2.1 dL_law_773 (lv_at hl 1 rfl) ?_
                              refine lv_if_ne (tgt := 790) C0.1 C0.2.1 dL_law_775 (by decide) (fun c181 => ?_) (fun c181 => ?_)
                              · have hF := if_t c181 hF
                                refine lv_goto (tgt := 1359) C0.1 C0.2.1 dL_law_790 (by decide) ?_
                                obtain ⟨x182, ex182, hF⟩ := nm_some hF
                                refine lv_iinc (v := x182) (lv' := [(4, .int x182), (6, .int r177), (5, .int r172), (0, .ref b), (1, .ref (gad G 216)), (2, .ref (gad G 220)), (3, .ref (gad G 227))]) C0.1 C0.2.1 dL_law_1359 hl (k := 6) rfl (by rw [ex182]; rfl) (by decide) rfl (fun ls hl => ?_)
                                refine lv_goto (tgt := 23) C0.1 C0.2.1 dL_law_1362 (by decide) ?_
                                refine W.widen (k := 228 + 4 * (t + 1)) (n := 3698 + 24 * (t + 1)) (by omega) (by omega) ?_
                                exact ih23 (t + 1) x182 M176 _ _ _ (by omega) hM (lv_sub hl [3, 4, 5, 6, 0] rfl) hF
                              · have hF := if_f (fun q => q c181) hF
                                refine lv_aload_n C0.1 C0.2.1 dL_law_778 rfl (lv_at hl 5 rfl) ?_
                                refine lv_iconst (v := (0 : Int32)) C0.1 C0.2.1 dL_law_779 (by decide) ?_
                                refine y_lald C0 hM dL_law_780 ?_
                                refine lv_iload C0.1 C0.2.1 dL_law_781 (lv_at hl 0 rfl) ?_
                                refine lv_i2l (v := Int32.toInt64 r177) C0.1 C0.2.1 dL_law_783 rfl ?_
                                refine W.lcmp C0.1 C0.2.1 dL_law_784 ?_
                                refine lv_if_eq (tgt := 790) C0.1 C0.2.1 dL_law_785 (by decide) (fun c183 => ?_) (fun c183 => ?_)
                                · have hF := if_t c183 hF
                                  refine lv_goto (tgt := 1359) C0.1 C0.2.1 dL_law_790 (by decide) ?_
                                  obtain ⟨x184, ex184, hF⟩ := nm_some hF
                                  refine lv_iinc (v := x184) (lv' := [(4, .int x184), (6, .int r177), (5, .int r172), (0, .ref b), (1, .ref (gad G 216)), (2, .ref (gad G 220)), (3, .ref (gad G 227))]) C0.1 C0.2.1 dL_law_1359 hl (k := 6) rfl (by rw [ex184]; rfl) (by decide) rfl (fun ls hl => ?_)
                                  refine lv_goto (tgt := 23) C0.1 C0.2.1 dL_law_1362 (by decide) ?_
                                  refine W.widen (k := 228 + 4 * (t + 1)) (n := 3698 + 24 * (t + 1)) (by omega) (by omega) ?_
                                  exact ih23 (t + 1) x184 M176 _ _ _ (by omega) hM (lv_sub hl [3, 4, 5, 6, 0] rfl) hF
                                · have hF := if_f c183 hF
                                  refine lv_iconst (v := (0 : Int32)) C0.1 C0.2.1 dL_law_788 (by decide) ?_
                                  exact absurd (y_1 hF) (by decide)
                            · have hF := if_f c180 hF
                              refine lv_iconst (v := (0 : Int32)) C0.1 C0.2.1 dL_law_771 (by decide) ?_
                              exact absurd (y_1 hF) (by decide)
                          · have hF := if_f c169 hF
                            by_cases c185 : x3 = (11 : Int32)
                            · have hF := if_t c185 hF
                              refine y_tsw (tgt := 793) (off := 754) C0 dL_law_39 (by decide) (by rw [c185]; decide) (by decide) ?_
                              refine lv_aload_n C0.1 C0.2.1 dL_law_793 rfl (lv_at hl 1 rfl) ?_
                              obtain ⟨r188, M187, h186, hF⟩ := bd2_some hF
                              refine y_vi (rest := []) C0 hM hl.1 ok_tt (ent4 ok_tt) rfl (k_X4_clearBuffer l G M1 h186) cw_RL_121 rfl rfl ⟨Nat.le_of_ble_eq_true rfl, Nat.le_of_ble_eq_true rfl⟩ rfl (Nat.le_of_ble_eq_true rfl) ⟨by omega, by omega⟩ dL_law_794 (fun H locs hM => ?_)
                              refine lv_aload_n C0.1 C0.2.1 dL_law_797 rfl (lv_at hl 2 rfl) ?_
                              obtain ⟨r191, M190, h189, hF⟩ := bd2_some hF
                              refine y_vi (rest := [.int r188]) C0 hM hl.1 ok_md (ent5 ok_md) rfl (k_X5_clearBuffer l G M187 h189) cw_RL_124 rfl rfl ⟨Nat.le_of_ble_eq_true rfl, Nat.le_of_ble_eq_true rfl⟩ rfl (Nat.le_of_ble_eq_true rfl) ⟨by omega, by omega⟩ dL_law_798 (fun H locs hM => ?_)
                              refine lv_icmp_eq (tgt := 1359) C0.1 C0.2.1 dL_law_801 (by decide) (fun c192 => ?_) (fun c192 => ?_)
                              · have hF := if_t c192 hF
                                obtain ⟨x193, ex193, hF⟩ := nm_some hF
                                refine lv_iinc (v := x193) (lv' := [(4, .int x193), (0, .ref b), (1, .ref (gad G 216)), (2, .ref (gad G 220)), (3, .ref (gad G 227))]) C0.1 C0.2.1 dL_law_1359 hl (k := 4) rfl (by rw [ex193]; rfl) (by decide) rfl (fun ls hl => ?_)
                                refine lv_goto (tgt := 23) C0.1 C0.2.1 dL_law_1362 (by decide) ?_
                                refine W.widen (k := 228 + 4 * (t + 1)) (n := 3698 + 24 * (t + 1)) (by omega) (by omega) ?_
                                exact ih23 (t + 1) x193 M190 _ _ _ (by omega) hM (lv_sub hl [1, 2, 3, 4, 0] rfl) hF
                              · have hF := if_f c192 hF
                                refine lv_iconst (v := (0 : Int32)) C0.1 C0.2.1 dL_law_804 (by decide) ?_
                                exact absurd (y_1 hF) (by decide)
                            · have hF := if_f c185 hF
                              by_cases c194 : x3 = (12 : Int32)
                              · have hF := if_t c194 hF
                                refine y_tsw (tgt := 806) (off := 767) C0 dL_law_39 (by decide) (by rw [c194]; decide) (by decide) ?_
                                refine lv_aload_n C0.1 C0.2.1 dL_law_806 rfl (lv_at hl 1 rfl) ?_
                                obtain ⟨r196, h195, hF⟩ := bd_some hF
                                refine y_vi (rest := []) C0 hM hl.1 ok_tt (ent4 ok_tt) rfl (k_X4_firstError l G M1 h195) cw_RL_125 rfl rfl ⟨Nat.le_of_ble_eq_true rfl, Nat.le_of_ble_eq_true rfl⟩ rfl (Nat.le_of_ble_eq_true rfl) ⟨by omega, by omega⟩ dL_law_807 (fun H locs hM => ?_)
                                refine lv_aload_n C0.1 C0.2.1 dL_law_810 rfl (lv_at hl 2 rfl) ?_
                                obtain ⟨r199, M198, h197, hF⟩ := bd2_some hF
                                refine y_vi (rest := [.int r196]) C0 hM hl.1 ok_md (ent5 ok_md) rfl (k_X5_firstError l G M1 h197) cw_RL_128 rfl rfl ⟨Nat.le_of_ble_eq_true rfl, Nat.le_of_ble_eq_true rfl⟩ rfl (Nat.le_of_ble_eq_true rfl) ⟨by omega, by omega⟩ dL_law_811 (fun H locs hM => ?_)
                                refine lv_icmp_eq (tgt := 1359) C0.1 C0.2.1 dL_law_814 (by decide) (fun c200 => ?_) (fun c200 => ?_)
                                · have hF := if_t c200 hF
                                  obtain ⟨x201, ex201, hF⟩ := nm_some hF
                                  refine lv_iinc (v := x201) (lv' := [(4, .int x201), (0, .ref b), (1, .ref (gad G 216)), (2, .ref (gad G 220)), (3, .ref (gad G 227))]) C0.1 C0.2.1 dL_law_1359 hl (k := 4) rfl (by rw [ex201]; rfl) (by decide) rfl (fun ls hl => ?_)
                                  refine lv_goto (tgt := 23) C0.1 C0.2.1 dL_law_1362 (by decide) ?_
                                  refine W.widen (k := 228 + 4 * (t + 1)) (n := 3698 + 24 * (t + 1)) (by omega) (by omega) ?_
                                  exact ih23 (t + 1) x201 M198 _ _ _ (by omega) hM (lv_sub hl [1, 2, 3, 4, 0] rfl) hF
                                · have hF := if_f c200 hF
                                  refine lv_iconst (v := (0 : Int32)) C0.1 C0.2.1 dL_law_817 (by decide) ?_
                                  exact absurd (y_1 hF) (by decide)
                              · have hF := if_f c194 hF
                                by_cases c202 : x3 = (13 : Int32)
                                · have hF := if_t c202 hF
                                  refine y_tsw (tgt := 819) (off := 780) C0 dL_law_39 (by decide) (by rw [c202]; decide) (by decide) ?_
                                  refine lv_aload_n C0.1 C0.2.1 dL_law_819 rfl (lv_at hl 1 rfl) ?_
                                  refine lv_aload_n C0.1 C0.2.1 dL_law_820 rfl (lv_at hl 3 rfl) ?_
                                  obtain ⟨r204, M205, h203, hF⟩ := bd2_some hF
                                  refine l_hi (na := 2) (rest := []) C0 hM hT hl.1 (k_L_run l hst G B0 sa M1 h203) ⟨tbx [734, 735, 68, 736] (by decide +kernel) (by decide +kernel), by decide +kernel, by decide +kernel, by decide +kernel⟩ rfl rfl rfl ⟨Nat.le_of_ble_eq_true rfl, Nat.le_of_ble_eq_true rfl⟩ rfl (Nat.le_of_ble_eq_true rfl) ⟨by omega, by omega⟩ dL_law_821 (fun H locs hM => ?_)
                                  refine lv_istore (lv' := [(5, .int r204), (0, .ref b), (1, .ref (gad G 216)), (2, .ref (gad G 220)), (3, .ref (gad G 227)), (4, .int i4)]) C0.1 C0.2.1 dL_law_824 hl (by decide) rfl (fun ls hl => ?_)
                                  refine lv_aload_n C0.1 C0.2.1 dL_law_826 rfl (lv_at hl 3 rfl) ?_
                                  obtain ⟨r208, M207, h206, hF⟩ := bd2_some hF
                                  refine y_vi (rest := []) C0 hM hl.1 ok_md (ent5 ok_md) rfl (k_X5_run l G M205 h206) cw_RL_131 rfl rfl ⟨Nat.le_of_ble_eq_true rfl, Nat.le_of_ble_eq_true rfl⟩ rfl (Nat.le_of_ble_eq_true rfl) ⟨by omega, by omega⟩ dL_law_827 (fun H locs hM => ?_)
                                  refine lv_istore (lv' := [(6, .int r208), (5, .int r204), (0, .ref b), (1, .ref (gad G 216)), (2, .ref (gad G 220)), (3, .ref (gad G 227)), (4, .int i4)]) C0.1 C0.2.1 dL_law_830 hl (by decide) rfl (fun ls hl => ?_)
                                  refine lv_aload_n C0.1 C0.2.1 dL_law_832 rfl (lv_at hl 4 rfl) ?_
                                  obtain ⟨r210, h209, hF⟩ := bd_some hF
                                  refine y_vi (rest := []) C0 hM hl.1 ok_md (ent5 ok_md) rfl (k_X5_thrown l G M207 h209) cw_RL_84 rfl rfl ⟨Nat.le_of_ble_eq_true rfl, Nat.le_of_ble_eq_true rfl⟩ rfl (Nat.le_of_ble_eq_true rfl) ⟨by omega, by omega⟩ dL_law_833 (fun H locs hM => ?_)
                                  refine lv_iload C0.1 C0.2.1 dL_law_836 (lv_at hl 1 rfl) ?_
                                  refine lv_icmp_eq (tgt := 843) C0.1 C0.2.1 dL_law_838 (by decide) (fun c211 => ?_) (fun c211 => ?_)
                                  · have hF := if_t c211 hF
                                    refine lv_iload C0.1 C0.2.1 dL_law_843 (lv_at hl 1 rfl) ?_
                                    refine lv_if_ne (tgt := 860) C0.1 C0.2.1 dL_law_845 (by decide) (fun c212 => ?_) (fun c212 => ?_)
                                    · have hF := if_t c212 hF
                                      refine lv_goto (tgt := 1359) C0.1 C0.2.1 dL_law_860 (by decide) ?_
                                      obtain ⟨x213, ex213, hF⟩ := nm_some hF
                                      refine lv_iinc (v := x213) (lv' := [(4, .int x213), (6, .int r208), (5, .int r204), (0, .ref b), (1, .ref (gad G 216)), (2, .ref (gad G 220)), (3, .ref (gad G 227))]) C0.1 C0.2.1 dL_law_1359 hl (k := 6) rfl (by rw [ex213]; rfl) (by decide) rfl (fun ls hl => ?_)
                                      refine lv_goto (tgt := 23) C0.1 C0.2.1 dL_law_1362 (by decide) ?_
                                      refine W.widen (k := 228 + 4 * (t + 1)) (n := 3698 + 24 * (t + 1)) (by omega) (by omega) ?_
                                      exact ih23 (t + 1) x213 M207 _ _ _ (by omega) hM (lv_sub hl [3, 4, 5, 6, 0] rfl) hF
                                    · have hF := if_f (fun q => q c212) hF
                                      refine lv_aload_n C0.1 C0.2.1 dL_law_848 rfl (lv_at hl 5 rfl) ?_
                                      refine lv_iconst (v := (0 : Int32)) C0.1 C0.2.1 dL_law_849 (by decide) ?_
                                      refine y_lald C0 hM dL_law_850 ?_
                                      refine lv_iload C0.1 C0.2.1 dL_law_851 (lv_at hl 0 rfl) ?_
                                      refine lv_i2l (v := Int32.toInt64 r208) C0.1 C0.2.1 dL_law_853 rfl ?_
                                      refine W.lcmp C0.1 C0.2.1 dL_law_854 ?_
                                      refine lv_if_eq (tgt := 860) C0.1 C0.2.1 dL_law_855 (by decide) (fun c214 => ?_) (fun c214 => ?_)
                                      · have hF := if_t c214 hF
                                        refine lv_goto (tgt := 1359) C0.1 C0.2.1 dL_law_860 (by decide) ?_
                                        obtain ⟨x215, ex215, hF⟩ := nm_some hF
                                        refine lv_iinc (v := x215) (lv' := [(4, .int x215), (6, .int r208), (5, .int r204), (0, .ref b), (1, .ref (gad G 216)), (2, .ref (gad G 220)), (3, .ref (gad G 227))]) C0.1 C0.2.1 dL_law_1359 hl (k := 6) rfl (by rw [ex215]; rfl) (by decide) rfl (fun ls hl => ?_)
                                        refine lv_goto (tgt := 23) C0.1 C0.2.1 dL_law_1362 (by decide) ?_
                                        refine W.widen (k := 228 + 4 * (t + 1)) (n := 3698 + 24 * (t + 1)) (by omega) (by omega) ?_
                                        exact ih23 (t + 1) x215 M207 _ _ _ (by omega) hM (lv_sub hl [3, 4, 5, 6, 0] rfl) hF
                                      · have hF := if_f c214 hF
                                        refine lv_iconst (v := (0 : Int32)) C0.1 C0.2.1 dL_law_858 (by decide) ?_
                                        exact absurd (y_1 hF) (by decide)
                                  · have hF := if_f c211 hF
                                    refine lv_iconst (v := (0 : Int32)) C0.1 C0.2.1 dL_law_841 (by decide) ?_
                                    exact absurd (y_1 hF) (by decide)
                                · have hF := if_f c202 hF
                                  by_cases c216 : x3 = (14 : Int32)
                                  · have hF := if_t c216 hF
                                    refine y_tsw (tgt := 863) (off := 824) C0 dL_law_39 (by decide) (by rw [c216]; decide) (by decide) ?_
                                    refine lv_aload_n C0.1 C0.2.1 dL_law_863 rfl (lv_at hl 1 rfl) ?_
                                    refine lv_aload_n C0.1 C0.2.1 dL_law_864 rfl (lv_at hl 3 rfl) ?_
                                    obtain ⟨r218, M219, h217, hF⟩ := bd2_some hF
                                    refine l_hi (na := 2) (rest := []) C0 hM hT hl.1 (k_L_undo l hst G B0 sa M1 h217) ⟨tbx [764, 765, 68, 766] (by decide +kernel) (by decide +kernel), by decide +kernel, by decide +kernel, by decide +kernel⟩ rfl rfl rfl ⟨Nat.le_of_ble_eq_true rfl, Nat.le_of_ble_eq_true rfl⟩ rfl (Nat.le_of_ble_eq_true rfl) ⟨by omega, by omega⟩ dL_law_865 (fun H locs hM => ?_)
                                    refine lv_istore (lv' := [(5, .int r218), (0, .ref b), (1, .ref (gad G 216)), (2, .ref (gad G 220)), (3, .ref (gad G 227)), (4, .int i4)]) C0.1 C0.2.1 dL_law_868 hl (by decide) rfl (fun ls hl => ?_)
                                    refine lv_aload_n C0.1 C0.2.1 dL_law_870 rfl (lv_at hl 3 rfl) ?_
                                    obtain ⟨r222, M221, h220, hF⟩ := bd2_some hF
                                    refine y_vi (rest := []) C0 hM hl.1 ok_md (ent5 ok_md) rfl (k_X5_undo l G M219 h220) cw_RL_134 rfl rfl ⟨Nat.le_of_ble_eq_true rfl, Nat.le_of_ble_eq_true rfl⟩ rfl (Nat.le_of_ble_eq_true rfl) ⟨by omega, by omega⟩ dL_law_871 (fun H locs hM => ?_)
                                    refine lv_istore (lv' := [(6, .int r222), (5, .int r218), (0, .ref b), (1, .ref (gad G 216)), (2, .ref (gad G 220)), (3, .ref (gad G 227)), (4, .int i4)]) C0.1 C0.2.1 dL_law_874 hl (by decide) rfl (fun ls hl => ?_)
                                    refine lv_aload_n C0.1 C0.2.1 dL_law_876 rfl (lv_at hl 4 rfl) ?_
                                    obtain ⟨r224, h223, hF⟩ := bd_some hF
                                    refine y_vi (rest := []) C0 hM hl.1 ok_md (ent5 ok_md) rfl (k_X5_thrown l G M221 h223) cw_RL_84 rfl rfl ⟨Nat.le_of_ble_eq_true rfl, Nat.le_of_ble_eq_true rfl⟩ rfl (Nat.le_of_ble_eq_true rfl) ⟨by omega, by omega⟩ dL_law_877 (fun H locs hM => ?_)
                                    refine lv_iload C0.1 C0.2.1 dL_law_880 (lv_at hl 1 rfl) ?_
                                    refine lv_icmp_eq (tgt := 887) C0.1 C0.2.1 dL_law_882 (by decide) (fun c225 => ?_) (fun c225 => ?_)
                                    · have hF := if_t c225 hF
                                      refine lv_iload C0.1 C0.2.1 dL_law_887 (lv_at hl 1 rfl) ?_
                                      refine lv_if_ne (tgt := 904) C0.1 C0.2.1 dL_law_889 (by decide) (fun c226 => ?_) (fun c226 => ?_)
                                      · have hF := if_t c226 hF
                                        refine lv_goto (tgt := 1359) C0.1 C0.2.1 dL_law_904 (by decide) ?_
                                        obtain ⟨x227, ex227, hF⟩ := nm_some hF
                                        refine lv_iinc (v := x227) (lv' := [(4, .int x227), (6, .int r222), (5, .int r218), (0, .ref b), (1, .ref (gad G 216)), (2, .ref (gad G 220)), (3, .ref (gad G 227))]) C0.1 C0.2.1 dL_law_1359 hl (k := 6) rfl (by rw [ex227]; rfl) (by decide) rfl (fun ls hl => ?_)
                                        refine lv_goto (tgt := 23) C0.1 C0.2.1 dL_law_1362 (by decide) ?_
                                        refine W.widen (k := 228 + 4 * (t + 1)) (n := 3698 + 24 * (t + 1)) (by omega) (by omega) ?_
                                        exact ih23 (t + 1) x227 M221 _ _ _ (by omega) hM (lv_sub hl [3, 4, 5, 6, 0] rfl) hF
                                      · have hF := if_f (fun q => q c226) hF
                                        refine lv_aload_n C0.1 C0.2.1 dL_law_892 rfl (lv_at hl 5 rfl) ?_
                                        refine lv_iconst (v := (0 : Int32)) C0.1 C0.2.1 dL_law_893 (by decide) ?_
                                        refine y_lald C0 hM dL_law_894 ?_
                                        refine lv_iload C0.1 C0.2.1 dL_law_895 (lv_at hl 0 rfl) ?_
                                        refine lv_i2l (v := Int32.toInt64 r222) C0.1 C0.2.1 dL_law_897 rfl ?_
                                        refine W.lcmp C0.1 C0.2.1 dL_law_898 ?_
                                        refine lv_if_eq (tgt := 904) C0.1 C0.2.1 dL_law_899 (by decide) (fun c228 => ?_) (fun c228 => ?_)
                                        · have hF := if_t c228 hF
                                          refine lv_goto (tgt := 1359) C0.1 C0.2.1 dL_law_904 (by decide) ?_
                                          obtain ⟨x229, ex229, hF⟩ := nm_some hF
                                          refine lv_iinc (v := x229) (lv' := [(4, .int x229), (6, .int r222), (5, .int r218), (0, .ref b), (1, .ref (gad G 216)), (2, .ref (gad G 220)), (3, .ref (gad G 227))]) C0.1 C0.2.1 dL_law_1359 hl (k := 6) rfl (by rw [ex229]; rfl) (by decide) rfl (fun ls hl => ?_)
                                          refine lv_goto (tgt := 23) C0.1 C0.2.1 dL_law_1362 (by decide) ?_
                                          refine W.widen (k := 228 + 4 * (t + 1)) (n := 3698 + 24 * (t + 1)) (by omega) (by omega) ?_
                                          exact ih23 (t + 1) x229 M221 _ _ _ (by omega) hM (lv_sub hl [3, 4, 5, 6, 0] rfl) hF
                                        · have hF := if_f c228 hF
                                          refine lv_iconst (v := (0 : Int32)) C0.1 C0.2.1 dL_law_902 (by decide) ?_
                                          exact absurd (y_1 hF) (by decide)
                                    · have hF := if_f c225 hF
                                      refine lv_iconst (v := (0 : Int32)) C0.1 C0.2.1 dL_law_885 (by decide) ?_
                                      exact absurd (y_1 hF) (by decide)
                                  · have hF := if_f c216 hF
                                    by_cases c230 : x3 = (15 : Int32)
                                    · have hF := if_t c230 hF
                                      refine y_tsw (tgt := 907) (off := 868) C0 dL_law_39 (by decide) (by rw [c230]; decide) (by decide) ?_
                                      refine lv_aload_n C0.1 C0.2.1 dL_law_907 rfl (lv_at hl 1 rfl) ?_
                                      refine lv_aload_n C0.1 C0.2.1 dL_law_908 rfl (lv_at hl 0 rfl) ?_
                                      refine lv_iload C0.1 C0.2.1 dL_law_909 (lv_at hl 4 rfl) ?_
                                      refine lv_iconst (v := (1 : Int32)) C0.1 C0.2.1 dL_law_911 (by decide) ?_
                                      refine lv_iadd C0.1 C0.2.1 dL_law_912 ?_
                                      obtain ⟨g231, hF⟩ := gdb_some hF
                                      refine va_sld C0.1 C0.2.1 hX hbl hbA hM.2.2.2 (inb_in g231) dL_law_913 ?_
                                      refine lv_aload_n C0.1 C0.2.1 dL_law_914 rfl (lv_at hl 0 rfl) ?_
                                      refine lv_iload C0.1 C0.2.1 dL_law_915 (lv_at hl 4 rfl) ?_
                                      refine lv_iconst (v := (2 : Int32)) C0.1 C0.2.1 dL_law_917 (by decide) ?_
                                      refine lv_iadd C0.1 C0.2.1 dL_law_918 ?_
                                      obtain ⟨g232, hF⟩ := gdb_some hF
                                      refine va_sld C0.1 C0.2.1 hX hbl hbA hM.2.2.2 (inb_in g232) dL_law_919 ?_
                                      refine lv_aload_n C0.1 C0.2.1 dL_law_920 rfl (lv_at hl 3 rfl) ?_
                                      obtain ⟨r234, M235, h233, hF⟩ := bd2_some hF
                                      refine l_hi (na := 4) (rest := []) C0 hM hT hl.1 (k_L_fighter l hst G B0 sa M1 (xs (Int32.toNatClampNeg (i4 + (1 : Int32)))) (xs (Int32.toNatClampNeg (i4 + (2 : Int32)))) h233) ⟨tbx [771, 772, 68, 773] (by decide +kernel) (by decide +kernel), by decide +kernel, by decide +kernel, by decide +kernel⟩ rfl rfl rfl ⟨Nat.le_of_ble_eq_true rfl, Nat.le_of_ble_eq_true rfl⟩ rfl (Nat.le_of_ble_eq_true rfl) ⟨by omega, by omega⟩ dL_law_921 (fun H locs hM => ?_)
                                      refine lv_istore (lv' := [(5, .int r234), (0, .ref b), (1, .ref (gad G 216)), (2, .ref (gad G 220)), (3, .ref (gad G 227)), (4, .int i4)]) C0.1 C0.2.1 dL_law_924 hl (by decide) rfl (fun ls hl => ?_)
                                      refine lv_aload_n C0.1 C0.2.1 dL_law_926 rfl (lv_at hl 3 rfl) ?_
                                      refine lv_aload_n C0.1 C0.2.1 dL_law_927 rfl (lv_at hl 1 rfl) ?_
                                      refine lv_iload C0.1 C0.2.1 dL_law_928 (lv_at hl 5 rfl) ?_
                                      refine lv_iconst (v := (1 : Int32)) C0.1 C0.2.1 dL_law_930 (by decide) ?_
                                      refine lv_iadd C0.1 C0.2.1 dL_law_931 ?_
                                      obtain ⟨g236, hF⟩ := gdb_some hF
                                      refine va_sld C0.1 C0.2.1 hX hbl hbA hM.2.2.2 (inb_in g236) dL_law_932 ?_
                                      refine lv_aload_n C0.1 C0.2.1 dL_law_933 rfl (lv_at hl 1 rfl) ?_
                                      refine lv_iload C0.1 C0.2.1 dL_law_934 (lv_at hl 5 rfl) ?_
                                      refine lv_iconst (v := (2 : Int32)) C0.1 C0.2.1 dL_law_936 (by decide) ?_
                                      refine lv_iadd C0.1 C0.2.1 dL_law_937 ?_
                                      obtain ⟨g237, hF⟩ := gdb_some hF
                                      refine va_sld C0.1 C0.2.1 hX hbl hbA hM.2.2.2 (inb_in g237) dL_law_938 ?_
                                      obtain ⟨r240, M239, h238, hF⟩ := bd2_some hF
                                      refine y_vi (rest := []) C0 hM hl.1 ok_md (ent5 ok_md) rfl (k_X5_fighter l G M235 (xs (Int32.toNatClampNeg (i4 + (1 : Int32)))) (xs (Int32.toNatClampNeg (i4 + (2 : Int32)))) h238) cw_RL_138 rfl rfl ⟨Nat.le_of_ble_eq_true rfl, Nat.le_of_ble_eq_true rfl⟩ rfl (Nat.le_of_ble_eq_true rfl) ⟨by omega, by omega⟩ dL_law_939 (fun H locs hM => ?_)
                                      refine lv_istore (lv' := [(6, .int r240), (5, .int r234), (0, .ref b), (1, .ref (gad G 216)), (2, .ref (gad G 220)), (3, .ref (gad G 227)), (4, .int i4)]) C0.1 C0.2.1 dL_law_942 hl (by decide) rfl (fun ls hl => ?_)
                                      refine lv_aload_n C0.1 C0.2.1 dL_law_944 rfl (lv_at hl 4 rfl) ?_
                                      obtain ⟨r242, h241, hF⟩ := bd_some hF
                                      refine y_vi (rest := []) C0 hM hl.1 ok_md (ent5 ok_md) rfl (k_X5_thrown l G M239 h241) cw_RL_84 rfl rfl ⟨Nat.le_of_ble_eq_true rfl, Nat.le_of_ble_eq_true rfl⟩ rfl (Nat.le_of_ble_eq_true rfl) ⟨by omega, by omega⟩ dL_law_945 (fun H locs hM => ?_)
                                      refine lv_iload C0.1 C0.2.1 dL_law_948 (lv_at hl 1 rfl) ?_
                                      refine lv_icmp_eq (tgt := 955) C0.1 C0.2.1 dL_law_950 (by decide) (fun c243 => ?_) (fun c243 => ?_)
                                      · have hF := if_t c243 hF
                                        refine lv_iload C0.1 C0.2.1 dL_law_955 (lv_at hl 1 rfl) ?_
                                        refine lv_if_ne (tgt := 972) C0.1 C0.2.1 dL_law_957 (by decide) (fun c244 => ?_) (fun c244 => ?_)
                                        · have hF := if_t c244 hF
                                          refine lv_goto (tgt := 1359) C0.1 C0.2.1 dL_law_972 (by decide) ?_
                                          obtain ⟨x245, ex245, hF⟩ := nm_some hF
                                          refine lv_iinc (v := x245) (lv' := [(4, .int x245), (6, .int r240), (5, .int r234), (0, .ref b), (1, .ref (gad G 216)), (2, .ref (gad G 220)), (3, .ref (gad G 227))]) C0.1 C0.2.1 dL_law_1359 hl (k := 6) rfl (by rw [ex245]; rfl) (by decide) rfl (fun ls hl => ?_)
                                          refine lv_goto (tgt := 23) C0.1 C0.2.1 dL_law_1362 (by decide) ?_
                                          refine W.widen (k := 228 + 4 * (t + 1)) (n := 3698 + 24 * (t + 1)) (by omega) (by omega) ?_
                                          exact ih23 (t + 1) x245 M239 _ _ _ (by omega) hM (lv_sub hl [3, 4, 5, 6, 0] rfl) hF
                                        · have hF := if_f (fun q => q c244) hF
                                          refine lv_aload_n C0.1 C0.2.1 dL_law_960 rfl (lv_at hl 5 rfl) ?_
                                          refine lv_iconst (v := (0 : Int32)) C0.1 C0.2.1 dL_law_961 (by decide) ?_
                                          refine y_lald C0 hM dL_law_962 ?_
                                          refine lv_iload C0.1 C0.2.1 dL_law_963 (lv_at hl 0 rfl) ?_
                                          refine lv_i2l (v := Int32.toInt64 r240) C0.1 C0.2.1 dL_law_965 rfl ?_
                                          refine W.lcmp C0.1 C0.2.1 dL_law_966 ?_
                                          refine lv_if_eq (tgt := 972) C0.1 C0.2.1 dL_law_967 (by decide) (fun c246 => ?_) (fun c246 => ?_)
                                          · have hF := if_t c246 hF
                                            refine lv_goto (tgt := 1359) C0.1 C0.2.1 dL_law_972 (by decide) ?_
                                            obtain ⟨x247, ex247, hF⟩ := nm_some hF
                                            refine lv_iinc (v := x247) (lv' := [(4, .int x247), (6, .int r240), (5, .int r234), (0, .ref b), (1, .ref (gad G 216)), (2, .ref (gad G 220)), (3, .ref (gad G 227))]) C0.1 C0.2.1 dL_law_1359 hl (k := 6) rfl (by rw [ex247]; rfl) (by decide) rfl (fun ls hl => ?_)
                                            refine lv_goto (tgt := 23) C0.1 C0.2.1 dL_law_1362 (by decide) ?_
                                            refine W.widen (k := 228 + 4 * (t + 1)) (n := 3698 + 24 * (t + 1)) (by omega) (by omega) ?_
                                            exact ih23 (t + 1) x247 M239 _ _ _ (by omega) hM (lv_sub hl [3, 4, 5, 6, 0] rfl) hF
                                          · have hF := if_f c246 hF
                                            refine lv_iconst (v := (0 : Int32)) C0.1 C0.2.1 dL_law_970 (by decide) ?_
                                            exact absurd (y_1 hF) (by decide)
                                      · have hF := if_f c243 hF
                                        refine lv_iconst (v := (0 : Int32)) C0.1 C0.2.1 dL_law_953 (by decide) ?_
                                        exact absurd (y_1 hF) (by decide)
                                    · have hF := if_f c230 hF
                                      by_cases c248 : x3 = (16 : Int32)
                                      · have hF := if_t c248 hF
                                        refine y_tsw (tgt := 975) (off := 936) C0 dL_law_39 (by decide) (by rw [c248]; decide) (by decide) ?_
                                        refine lv_aload_n C0.1 C0.2.1 dL_law_975 rfl (lv_at hl 1 rfl) ?_
                                        refine lv_aload_n C0.1 C0.2.1 dL_law_976 rfl (lv_at hl 0 rfl) ?_
                                        refine lv_iload C0.1 C0.2.1 dL_law_977 (lv_at hl 4 rfl) ?_
                                        refine lv_iconst (v := (1 : Int32)) C0.1 C0.2.1 dL_law_979 (by decide) ?_
                                        refine lv_iadd C0.1 C0.2.1 dL_law_980 ?_
                                        obtain ⟨g249, hF⟩ := gdb_some hF
                                        refine va_sld C0.1 C0.2.1 hX hbl hbA hM.2.2.2 (inb_in g249) dL_law_981 ?_
                                        refine lv_aload_n C0.1 C0.2.1 dL_law_982 rfl (lv_at hl 0 rfl) ?_
                                        refine lv_iload C0.1 C0.2.1 dL_law_983 (lv_at hl 4 rfl) ?_
                                        refine lv_iconst (v := (2 : Int32)) C0.1 C0.2.1 dL_law_985 (by decide) ?_
                                        refine lv_iadd C0.1 C0.2.1 dL_law_986 ?_
                                        obtain ⟨g250, hF⟩ := gdb_some hF
                                        refine va_sld C0.1 C0.2.1 hX hbl hbA hM.2.2.2 (inb_in g250) dL_law_987 ?_
                                        refine lv_aload_n C0.1 C0.2.1 dL_law_988 rfl (lv_at hl 3 rfl) ?_
                                        obtain ⟨r252, M253, h251, hF⟩ := bd2_some hF
                                        refine l_hi (na := 4) (rest := []) C0 hM hT hl.1 (k_L_readied l hst G B0 sa M1 (xs (Int32.toNatClampNeg (i4 + (1 : Int32)))) (xs (Int32.toNatClampNeg (i4 + (2 : Int32)))) h251) ⟨tbx [778, 779, 68, 780] (by decide +kernel) (by decide +kernel), by decide +kernel, by decide +kernel, by decide +kernel⟩ rfl rfl rfl ⟨Nat.le_of_ble_eq_true rfl, Nat.le_of_ble_eq_true rfl⟩ rfl (Nat.le_of_ble_eq_true rfl) ⟨by omega, by omega⟩ dL_law_989 (fun H locs hM => ?_)
                                        refine lv_istore (lv' := [(5, .int r252), (0, .ref b), (1, .ref (gad G 216)), (2, .ref (gad G 220)), (3, .ref (gad G 227)), (4, .int i4)]) C0.1 C0.2.1 dL_law_992 hl (by decide) rfl (fun ls hl => ?_)
                                        refine lv_aload_n C0.1 C0.2.1 dL_law_994 rfl (lv_at hl 3 rfl) ?_
                                        refine lv_aload_n C0.1 C0.2.1 dL_law_995 rfl (lv_at hl 1 rfl) ?_
                                        refine lv_iload C0.1 C0.2.1 dL_law_996 (lv_at hl 5 rfl) ?_
                                        refine lv_iconst (v := (1 : Int32)) C0.1 C0.2.1 dL_law_998 (by decide) ?_
                                        refine lv_iadd C0.1 C0.2.1 dL_law_999 ?_
                                        obtain ⟨g254, hF⟩ := gdb_some hF
                                        refine va_sld C0.1 C0.2.1 hX hbl hbA hM.2.2.2 (inb_in g254) dL_law_1000 ?_
                                        refine lv_aload_n C0.1 C0.2.1 dL_law_1001 rfl (lv_at hl 1 rfl) ?_
                                        refine lv_iload C0.1 C0.2.1 dL_law_1002 (lv_at hl 5 rfl) ?_
                                        refine lv_iconst (v := (2 : Int32)) C0.1 C0.2.1 dL_law_1004 (by decide) ?_
                                        refine lv_iadd C0.1 C0.2.1 dL_law_1005 ?_
                                        obtain ⟨g255, hF⟩ := gdb_some hF
                                        refine va_sld C0.1 C0.2.1 hX hbl hbA hM.2.2.2 (inb_in g255) dL_law_1006 ?_
                                        obtain ⟨r258, M257, h256, hF⟩ := bd2_some hF
                                        refine y_vi (rest := []) C0 hM hl.1 ok_md (ent5 ok_md) rfl (k_X5_readied l G M253 (xs (Int32.toNatClampNeg (i4 + (1 : Int32)))) (xs (Int32.toNatClampNeg (i4 + (2 : Int32)))) h256) cw_RL_141 rfl rfl ⟨Nat.le_of_ble_eq_true rfl, Nat.le_of_ble_eq_true rfl⟩ rfl (Nat.le_of_ble_eq_true rfl) ⟨by omega, by omega⟩ dL_law_1007 (fun H locs hM => ?_)
                                        refine lv_istore (lv' := [(6, .int r258), (5, .int r252), (0, .ref b), (1, .ref (gad G 216)), (2, .ref (gad G 220)), (3, .ref (gad G 227)), (4, .int i4)]) C0.1 C0.2.1 dL_law_1010 hl (by decide) rfl (fun ls hl => ?_)
                                        refine lv_aload_n C0.1 C0.2.1 dL_law_1012 rfl (lv_at hl 4 rfl) ?_
                                        obtain ⟨r260, h259, hF⟩ := bd_some hF
                                        refine y_vi (rest := []) C0 hM hl.1 ok_md (ent5 ok_md) rfl (k_X5_thrown l G M257 h259) cw_RL_84 rfl rfl ⟨Nat.le_of_ble_eq_true rfl, Nat.le_of_ble_eq_true rfl⟩ rfl (Nat.le_of_ble_eq_true rfl) ⟨by omega, by omega⟩ dL_law_1013 (fun H locs hM => ?_)
                                        refine lv_iload C0.1 C0.2.1 dL_law_1016 (lv_at hl 1 rfl) ?_
                                        refine lv_icmp_eq (tgt := 1023) C0.1 C0.2.1 dL_law_1018 (by decide) (fun c261 => ?_) (fun c261 => ?_)
                                        · have hF := if_t c261 hF
                                          refine lv_iload C0.1 C0.2.1 dL_law_1023 (lv_at hl 1 rfl) ?_
                                          refine lv_if_ne (tgt := 1040) C0.1 C0.2.1 dL_law_1025 (by decide) (fun c262 => ?_) (fun c262 => ?_)
                                          · have hF := if_t c262 hF
                                            refine lv_goto (tgt := 1359) C0.1 C0.2.1 dL_law_1040 (by decide) ?_
                                            obtain ⟨x263, ex263, hF⟩ := nm_some hF
                                            refine lv_iinc (v := x263) (lv' := [(4, .int x263), (6, .int r258), (5, .int r252), (0, .ref b), (1, .ref (gad G 216)), (2, .ref (gad G 220)), (3, .ref (gad G 227))]) C0.1 C0.2.1 dL_law_1359 hl (k := 6) rfl (by rw [ex263]; rfl) (by decide) rfl (fun ls hl => ?_)
                                            refine lv_goto (tgt := 23) C0.1 C0.2.1 dL_law_1362 (by decide) ?_
                                            refine W.widen (k := 228 + 4 * (t + 1)) (n := 3698 + 24 * (t + 1)) (by omega) (by omega) ?_
                                            exact ih23 (t + 1) x263 M257 _ _ _ (by omega) hM (lv_sub hl [3, 4, 5, 6, 0] rfl) hF
                                          · have hF := if_f (fun q => q c262) hF
                                            refine lv_aload_n C0.1 C0.2.1 dL_law_1028 rfl (lv_at hl 5 rfl) ?_
                                            refine lv_iconst (v := (0 : Int32)) C0.1 C0.2.1 dL_law_1029 (by decide) ?_
                                            refine y_lald C0 hM dL_law_1030 ?_
                                            refine lv_iload C0.1 C0.2.1 dL_law_1031 (lv_at hl 0 rfl) ?_
                                            refine lv_i2l (v := Int32.toInt64 r258) C0.1 C0.2.1 dL_law_1033 rfl ?_
                                            refine W.lcmp C0.1 C0.2.1 dL_law_1034 ?_
                                            refine lv_if_eq (tgt := 1040) C0.1 C0.2.1 dL_law_1035 (by decide) (fun c264 => ?_) (fun c264 => ?_)
                                            · have hF := if_t c264 hF
                                              refine lv_goto (tgt := 1359) C0.1 C0.2.1 dL_law_1040 (by decide) ?_
                                              obtain ⟨x265, ex265, hF⟩ := nm_some hF
                                              refine lv_iinc (v := x265) (lv' := [(4, .int x265), (6, .int r258), (5, .int r252), (0, .ref b), (1, .ref (gad G 216)), (2, .ref (gad G 220)), (3, .ref (gad G 227))]) C0.1 C0.2.1 dL_law_1359 hl (k := 6) rfl (by rw [ex265]; rfl) (by decide) rfl (fun ls hl => ?_)
                                              refine lv_goto (tgt := 23) C0.1 C0.2.1 dL_law_1362 (by decide) ?_
                                              refine W.widen (k := 228 + 4 * (t + 1)) (n := 3698 + 24 * (t + 1)) (by omega) (by omega) ?_
                                              exact ih23 (t + 1) x265 M257 _ _ _ (by omega) hM (lv_sub hl [3, 4, 5, 6, 0] rfl) hF
                                            · have hF := if_f c264 hF
                                              refine lv_iconst (v := (0 : Int32)) C0.1 C0.2.1 dL_law_1038 (by decide) ?_
                                              exact absurd (y_1 hF) (by decide)
                                        · have hF := if_f c261 hF
                                          refine lv_iconst (v := (0 : Int32)) C0.1 C0.2.1 dL_law_1021 (by decide) ?_
                                          exact absurd (y_1 hF) (by decide)
                                      · have hF := if_f c248 hF
                                        by_cases c266 : x3 = (17 : Int32)
                                        · have hF := if_t c266 hF
                                          refine y_tsw (tgt := 1043) (off := 1004) C0 dL_law_39 (by decide) (by rw [c266]; decide) (by decide) ?_
                                          refine lv_aload_n C0.1 C0.2.1 dL_law_1043 rfl (lv_at hl 1 rfl) ?_
                                          refine lv_aload_n C0.1 C0.2.1 dL_law_1044 rfl (lv_at hl 0 rfl) ?_
                                          refine lv_iload C0.1 C0.2.1 dL_law_1045 (lv_at hl 4 rfl) ?_
                                          refine lv_iconst (v := (1 : Int32)) C0.1 C0.2.1 dL_law_1047 (by decide) ?_
                                          refine lv_iadd C0.1 C0.2.1 dL_law_1048 ?_
                                          obtain ⟨g267, hF⟩ := gdb_some hF
                                          refine va_sld C0.1 C0.2.1 hX hbl hbA hM.2.2.2 (inb_in g267) dL_law_1049 ?_
                                          refine lv_aload_n C0.1 C0.2.1 dL_law_1050 rfl (lv_at hl 3 rfl) ?_
                                          obtain ⟨r269, M270, h268, hF⟩ := bd2_some hF
                                          refine l_hi (na := 3) (rest := []) C0 hM hT hl.1 (k_L_inRow l hst G B0 sa M1 (xs (Int32.toNatClampNeg (i4 + (1 : Int32)))) h268) ⟨tbx [785, 786, 68, 787] (by decide +kernel) (by decide +kernel), by decide +kernel, by decide +kernel, by decide +kernel⟩ rfl rfl rfl ⟨Nat.le_of_ble_eq_true rfl, Nat.le_of_ble_eq_true rfl⟩ rfl (Nat.le_of_ble_eq_true rfl) ⟨by omega, by omega⟩ dL_law_1051 (fun H locs hM => ?_)
                                          refine lv_istore (lv' := [(5, .int r269), (0, .ref b), (1, .ref (gad G 216)), (2, .ref (gad G 220)), (3, .ref (gad G 227)), (4, .int i4)]) C0.1 C0.2.1 dL_law_1054 hl (by decide) rfl (fun ls hl => ?_)
                                          refine lv_aload_n C0.1 C0.2.1 dL_law_1056 rfl (lv_at hl 3 rfl) ?_
                                          refine lv_aload_n C0.1 C0.2.1 dL_law_1057 rfl (lv_at hl 1 rfl) ?_
                                          refine lv_iload C0.1 C0.2.1 dL_law_1058 (lv_at hl 5 rfl) ?_
                                          refine lv_iconst (v := (1 : Int32)) C0.1 C0.2.1 dL_law_1060 (by decide) ?_
                                          refine lv_iadd C0.1 C0.2.1 dL_law_1061 ?_
                                          obtain ⟨g271, hF⟩ := gdb_some hF
                                          refine va_sld C0.1 C0.2.1 hX hbl hbA hM.2.2.2 (inb_in g271) dL_law_1062 ?_
                                          obtain ⟨r274, M273, h272, hF⟩ := bd2_some hF
                                          refine y_vi (rest := []) C0 hM hl.1 ok_md (ent5 ok_md) rfl (k_X5_inRow l G M270 (xs (Int32.toNatClampNeg (i4 + (1 : Int32)))) h272) cw_RL_144 rfl rfl ⟨Nat.le_of_ble_eq_true rfl, Nat.le_of_ble_eq_true rfl⟩ rfl (Nat.le_of_ble_eq_true rfl) ⟨by omega, by omega⟩ dL_law_1063 (fun H locs hM => ?_)
                                          refine lv_istore (lv' := [(6, .int r274), (5, .int r269), (0, .ref b), (1, .ref (gad G 216)), (2, .ref (gad G 220)), (3, .ref (gad G 227)), (4, .int i4)]) C0.1 C0.2.1 dL_law_1066 hl (by decide) rfl (fun ls hl => ?_)
                                          refine lv_aload_n C0.1 C0.2.1 dL_law_1068 rfl (lv_at hl 4 rfl) ?_
                                          obtain ⟨r276, h275, hF⟩ := bd_some hF
                                          refine y_vi (rest := []) C0 hM hl.1 ok_md (ent5 ok_md) rfl (k_X5_thrown l G M273 h275) cw_RL_84 rfl rfl ⟨Nat.le_of_ble_eq_true rfl, Nat.le_of_ble_eq_true rfl⟩ rfl (Nat.le_of_ble_eq_true rfl) ⟨by omega, by omega⟩ dL_law_1069 (fun H locs hM => ?_)
                                          refine lv_iload C0.1 C0.2.1 dL_law_1072 (lv_at hl 1 rfl) ?_
                                          refine lv_icmp_eq (tgt := 1079) C0.1 C0.2.1 dL_law_1074 (by decide) (fun c277 => ?_) (fun c277 => ?_)
                                          · have hF := if_t c277 hF
                                            refine lv_iload C0.1 C0.2.1 dL_law_1079 (lv_at hl 1 rfl) ?_
                                            refine lv_if_ne (tgt := 1096) C0.1 C0.2.1 dL_law_1081 (by decide) (fun c278 => ?_) (fun c278 => ?_)
                                            · have hF := if_t c278 hF
                                              refine lv_goto (tgt := 1359) C0.1 C0.2.1 dL_law_1096 (by decide) ?_
                                              obtain ⟨x279, ex279, hF⟩ := nm_some hF
                                              refine lv_iinc (v := x279) (lv' := [(4, .int x279), (6, .int r274), (5, .int r269), (0, .ref b), (1, .ref (gad G 216)), (2, .ref (gad G 220)), (3, .ref (gad G 227))]) C0.1 C0.2.1 dL_law_1359 hl (k := 6) rfl (by rw [ex279]; rfl) (by decide) rfl (fun ls hl => ?_)
                                              refine lv_goto (tgt := 23) C0.1 C0.2.1 dL_law_1362 (by decide) ?_
                                              refine W.widen (k := 228 + 4 * (t + 1)) (n := 3698 + 24 * (t + 1)) (by omega) (by omega) ?_
                                              exact ih23 (t + 1) x279 M273 _ _ _ (by omega) hM (lv_sub hl [3, 4, 5, 6, 0] rfl) hF
                                            · have hF := if_f (fun q => q c278) hF
                                              refine lv_aload_n C0.1 C0.2.1 dL_law_1084 rfl (lv_at hl 5 rfl) ?_
                                              refine lv_iconst (v := (0 : Int32)) C0.1 C0.2.1 dL_law_1085 (by decide) ?_
                                              refine y_lald C0 hM dL_law_1086 ?_
                                              refine lv_iload C0.1 C0.2.1 dL_law_1087 (lv_at hl 0 rfl) ?_
                                              refine lv_i2l (v := Int32.toInt64 r274) C0.1 C0.2.1 dL_law_1089 rfl ?_
                                              refine W.lcmp C0.1 C0.2.1 dL_law_1090 ?_
                                              refine lv_if_eq (tgt := 1096) C0.1 C0.2.1 dL_law_1091 (by decide) (fun c280 => ?_) (fun c280 => ?_)
                                              · have hF := if_t c280 hF
                                                refine lv_goto (tgt := 1359) C0.1 C0.2.1 dL_law_1096 (by decide) ?_
                                                obtain ⟨x281, ex281, hF⟩ := nm_some hF
                                                refine lv_iinc (v := x281) (lv' := [(4, .int x281), (6, .int r274), (5, .int r269), (0, .ref b), (1, .ref (gad G 216)), (2, .ref (gad G 220)), (3, .ref (gad G 227))]) C0.1 C0.2.1 dL_law_1359 hl (k := 6) rfl (by rw [ex281]; rfl) (by decide) rfl (fun ls hl => ?_)
                                                refine lv_goto (tgt := 23) C0.1 C0.2.1 dL_law_1362 (by decide) ?_
                                                refine W.widen (k := 228 + 4 * (t + 1)) (n := 3698 + 24 * (t + 1)) (by omega) (by omega) ?_
                                                exact ih23 (t + 1) x281 M273 _ _ _ (by omega) hM (lv_sub hl [3, 4, 5, 6, 0] rfl) hF
                                              · have hF := if_f c280 hF
                                                refine lv_iconst (v := (0 : Int32)) C0.1 C0.2.1 dL_law_1094 (by decide) ?_
                                                exact absurd (y_1 hF) (by decide)
                                          · have hF := if_f c277 hF
                                            refine lv_iconst (v := (0 : Int32)) C0.1 C0.2.1 dL_law_1077 (by decide) ?_
                                            exact absurd (y_1 hF) (by decide)
                                        · have hF := if_f c266 hF
                                          by_cases c282 : x3 = (18 : Int32)
                                          · have hF := if_t c282 hF
                                            refine y_tsw (tgt := 1099) (off := 1060) C0 dL_law_39 (by decide) (by rw [c282]; decide) (by decide) ?_
                                            refine lv_aload_n C0.1 C0.2.1 dL_law_1099 rfl (lv_at hl 1 rfl) ?_
                                            refine lv_aload_n C0.1 C0.2.1 dL_law_1100 rfl (lv_at hl 0 rfl) ?_
                                            refine lv_iload C0.1 C0.2.1 dL_law_1101 (lv_at hl 4 rfl) ?_
                                            refine lv_iconst (v := (1 : Int32)) C0.1 C0.2.1 dL_law_1103 (by decide) ?_
                                            refine lv_iadd C0.1 C0.2.1 dL_law_1104 ?_
                                            obtain ⟨g283, hF⟩ := gdb_some hF
                                            refine va_sld C0.1 C0.2.1 hX hbl hbA hM.2.2.2 (inb_in g283) dL_law_1105 ?_
                                            refine lv_aload_n C0.1 C0.2.1 dL_law_1106 rfl (lv_at hl 3 rfl) ?_
                                            obtain ⟨r285, M286, h284, hF⟩ := bd2_some hF
                                            refine l_hi (na := 3) (rest := []) C0 hM hT hl.1 (k_L_count l hst G B0 sa M1 (xs (Int32.toNatClampNeg (i4 + (1 : Int32)))) h284) ⟨tbx [792, 793, 68, 794] (by decide +kernel) (by decide +kernel), by decide +kernel, by decide +kernel, by decide +kernel⟩ rfl rfl rfl ⟨Nat.le_of_ble_eq_true rfl, Nat.le_of_ble_eq_true rfl⟩ rfl (Nat.le_of_ble_eq_true rfl) ⟨by omega, by omega⟩ dL_law_1107 (fun H locs hM => ?_)
                                            refine lv_istore (lv' := [(5, .int r285), (0, .ref b), (1, .ref (gad G 216)), (2, .ref (gad G 220)), (3, .ref (gad G 227)), (4, .int i4)]) C0.1 C0.2.1 dL_law_1110 hl (by decide) rfl (fun ls hl => ?_)
                                            refine lv_aload_n C0.1 C0.2.1 dL_law_1112 rfl (lv_at hl 3 rfl) ?_
                                            refine lv_aload_n C0.1 C0.2.1 dL_law_1113 rfl (lv_at hl 1 rfl) ?_
                                            refine lv_iload C0.1 C0.2.1 dL_law_1114 (lv_at hl 5 rfl) ?_
                                            refine lv_iconst (v := (1 : Int32)) C0.1 C0.2.1 dL_law_1116 (by decide) ?_
                                            refine lv_iadd C0.1 C0.2.1 dL_law_1117 ?_
                                            obtain ⟨g287, hF⟩ := gdb_some hF
                                            refine va_sld C0.1 C0.2.1 hX hbl hbA hM.2.2.2 (inb_in g287) dL_law_1118 ?_
                                            obtain ⟨r290, M289, h288, hF⟩ := bd2_some hF
                                            refine y_vi (rest := []) C0 hM hl.1 ok_md (ent5 ok_md) rfl (k_X5_count l G M286 (xs (Int32.toNatClampNeg (i4 + (1 : Int32)))) h288) cw_RL_147 rfl rfl ⟨Nat.le_of_ble_eq_true rfl, Nat.le_of_ble_eq_true rfl⟩ rfl (Nat.le_of_ble_eq_true rfl) ⟨by omega, by omega⟩ dL_law_1119 (fun H locs hM => ?_)
                                            refine lv_istore (lv' := [(6, .int r290), (5, .int r285), (0, .ref b), (1, .ref (gad G 216)), (2, .ref (gad G 220)), (3, .ref (gad G 227)), (4, .int i4)]) C0.1 C0.2.1 dL_law_1122 hl (by decide) rfl (fun ls hl => ?_)
                                            refine lv_aload_n C0.1 C0.2.1 dL_law_1124 rfl (lv_at hl 4 rfl) ?_
                                            obtain ⟨r292, h291, hF⟩ := bd_some hF
                                            refine y_vi (rest := []) C0 hM hl.1 ok_md (ent5 ok_md) rfl (k_X5_thrown l G M289 h291) cw_RL_84 rfl rfl ⟨Nat.le_of_ble_eq_true rfl, Nat.le_of_ble_eq_true rfl⟩ rfl (Nat.le_of_ble_eq_true rfl) ⟨by omega, by omega⟩ dL_law_1125 (fun H locs hM => ?_)
                                            refine lv_iload C0.1 C0.2.1 dL_law_1128 (lv_at hl 1 rfl) ?_
                                            refine lv_icmp_eq (tgt := 1135) C0.1 C0.2.1 dL_law_1130 (by decide) (fun c293 => ?_) (fun c293 => ?_)
                                            · have hF := if_t c293 hF
                                              refine lv_iload C0.1 C0.2.1 dL_law_1135 (lv_at hl 1 rfl) ?_
                                              refine lv_if_ne (tgt := 1152) C0.1 C0.2.1 dL_law_1137 (by decide) (fun c294 => ?_) (fun c294 => ?_)
                                              · have hF := if_t c294 hF
                                                refine lv_goto (tgt := 1359) C0.1 C0.2.1 dL_law_1152 (by decide) ?_
                                                obtain ⟨x295, ex295, hF⟩ := nm_some hF
                                                refine lv_iinc (v := x295) (lv' := [(4, .int x295), (6, .int r290), (5, .int r285), (0, .ref b), (1, .ref (gad G 216)), (2, .ref (gad G 220)), (3, .ref (gad G 227))]) C0.1 C0.2.1 dL_law_1359 hl (k := 6) rfl (by rw [ex295]; rfl) (by decide) rfl (fun ls hl => ?_)
                                                refine lv_goto (tgt := 23) C0.1 C0.2.1 dL_law_1362 (by decide) ?_
                                                refine W.widen (k := 228 + 4 * (t + 1)) (n := 3698 + 24 * (t + 1)) (by omega) (by omega) ?_
                                                exact ih23 (t + 1) x295 M289 _ _ _ (by omega) hM (lv_sub hl [3, 4, 5, 6, 0] rfl) hF
                                              · have hF := if_f (fun q => q c294) hF
                                                refine lv_aload_n C0.1 C0.2.1 dL_law_1140 rfl (lv_at hl 5 rfl) ?_
                                                refine lv_iconst (v := (0 : Int32)) C0.1 C0.2.1 dL_law_1141 (by decide) ?_
                                                refine y_lald C0 hM dL_law_1142 ?_
                                                refine lv_iload C0.1 C0.2.1 dL_law_1143 (lv_at hl 0 rfl) ?_
                                                refine lv_i2l (v := Int32.toInt64 r290) C0.1 C0.2.1 dL_law_1145 rfl ?_
                                                refine W.lcmp C0.1 C0.2.1 dL_law_1146 ?_
                                                refine lv_if_eq (tgt := 1152) C0.1 C0.2.1 dL_law_1147 (by decide) (fun c296 => ?_) (fun c296 => ?_)
                                                · have hF := if_t c296 hF
                                                  refine lv_goto (tgt := 1359) C0.1 C0.2.1 dL_law_1152 (by decide) ?_
                                                  obtain ⟨x297, ex297, hF⟩ := nm_some hF
                                                  refine lv_iinc (v := x297) (lv' := [(4, .int x297), (6, .int r290), (5, .int r285), (0, .ref b), (1, .ref (gad G 216)), (2, .ref (gad G 220)), (3, .ref (gad G 227))]) C0.1 C0.2.1 dL_law_1359 hl (k := 6) rfl (by rw [ex297]; rfl) (by decide) rfl (fun ls hl => ?_)
                                                  refine lv_goto (tgt := 23) C0.1 C0.2.1 dL_law_1362 (by decide) ?_
                                                  refine W.widen (k := 228 + 4 * (t + 1)) (n := 3698 + 24 * (t + 1)) (by omega) (by omega) ?_
                                                  exact ih23 (t + 1) x297 M289 _ _ _ (by omega) hM (lv_sub hl [3, 4, 5, 6, 0] rfl) hF
                                                · have hF := if_f c296 hF
                                                  refine lv_iconst (v := (0 : Int32)) C0.1 C0.2.1 dL_law_1150 (by decide) ?_
                                                  exact absurd (y_1 hF) (by decide)
                                            · have hF := if_f c293 hF
                                              refine lv_iconst (v := (0 : Int32)) C0.1 C0.2.1 dL_law_1133 (by decide) ?_
                                              exact absurd (y_1 hF) (by decide)
                                          · have hF := if_f c282 hF
                                            by_cases c298 : x3 = (19 : Int32)
                                            · have hF := if_t c298 hF
                                              refine y_tsw (tgt := 1155) (off := 1116) C0 dL_law_39 (by decide) (by rw [c298]; decide) (by decide) ?_
                                              refine lv_aload_n C0.1 C0.2.1 dL_law_1155 rfl (lv_at hl 1 rfl) ?_
                                              refine lv_aload_n C0.1 C0.2.1 dL_law_1156 rfl (lv_at hl 0 rfl) ?_
                                              refine lv_iload C0.1 C0.2.1 dL_law_1157 (lv_at hl 4 rfl) ?_
                                              refine lv_iconst (v := (1 : Int32)) C0.1 C0.2.1 dL_law_1159 (by decide) ?_
                                              refine lv_iadd C0.1 C0.2.1 dL_law_1160 ?_
                                              obtain ⟨g299, hF⟩ := gdb_some hF
                                              refine va_sld C0.1 C0.2.1 hX hbl hbA hM.2.2.2 (inb_in g299) dL_law_1161 ?_
                                              refine lv_aload_n C0.1 C0.2.1 dL_law_1162 rfl (lv_at hl 0 rfl) ?_
                                              refine lv_iload C0.1 C0.2.1 dL_law_1163 (lv_at hl 4 rfl) ?_
                                              refine lv_iconst (v := (2 : Int32)) C0.1 C0.2.1 dL_law_1165 (by decide) ?_
                                              refine lv_iadd C0.1 C0.2.1 dL_law_1166 ?_
                                              obtain ⟨g300, hF⟩ := gdb_some hF
                                              refine va_sld C0.1 C0.2.1 hX hbl hbA hM.2.2.2 (inb_in g300) dL_law_1167 ?_
                                              refine lv_aload_n C0.1 C0.2.1 dL_law_1168 rfl (lv_at hl 0 rfl) ?_
                                              refine lv_iload C0.1 C0.2.1 dL_law_1169 (lv_at hl 4 rfl) ?_
                                              refine lv_iconst (v := (3 : Int32)) C0.1 C0.2.1 dL_law_1171 (by decide) ?_
                                              refine lv_iadd C0.1 C0.2.1 dL_law_1172 ?_
                                              obtain ⟨g301, hF⟩ := gdb_some hF
                                              refine va_sld C0.1 C0.2.1 hX hbl hbA hM.2.2.2 (inb_in g301) dL_law_1173 ?_
                                              refine lv_aload_n C0.1 C0.2.1 dL_law_1174 rfl (lv_at hl 3 rfl) ?_
                                              obtain ⟨r303, M304, h302, hF⟩ := bd2_some hF
                                              refine l_hi (na := 5) (rest := []) C0 hM hT hl.1 (k_L_ifDone l hst G B0 sa M1 (xs (Int32.toNatClampNeg (i4 + (1 : Int32)))) (xs (Int32.toNatClampNeg (i4 + (2 : Int32)))) (xs (Int32.toNatClampNeg (i4 + (3 : Int32)))) h302) ⟨tbx [799, 800, 68, 801] (by decide +kernel) (by decide +kernel), by decide +kernel, by decide +kernel, by decide +kernel⟩ rfl rfl rfl ⟨Nat.le_of_ble_eq_true rfl, Nat.le_of_ble_eq_true rfl⟩ rfl (Nat.le_of_ble_eq_true rfl) ⟨by omega, by omega⟩ dL_law_1175 (fun H locs hM => ?_)
                                              refine lv_istore (lv' := [(5, .int r303), (0, .ref b), (1, .ref (gad G 216)), (2, .ref (gad G 220)), (3, .ref (gad G 227)), (4, .int i4)]) C0.1 C0.2.1 dL_law_1178 hl (by decide) rfl (fun ls hl => ?_)
                                              refine lv_aload_n C0.1 C0.2.1 dL_law_1180 rfl (lv_at hl 3 rfl) ?_
                                              refine lv_aload_n C0.1 C0.2.1 dL_law_1181 rfl (lv_at hl 1 rfl) ?_
                                              refine lv_iload C0.1 C0.2.1 dL_law_1182 (lv_at hl 5 rfl) ?_
                                              refine lv_iconst (v := (1 : Int32)) C0.1 C0.2.1 dL_law_1184 (by decide) ?_
                                              refine lv_iadd C0.1 C0.2.1 dL_law_1185 ?_
                                              obtain ⟨g305, hF⟩ := gdb_some hF
                                              refine va_sld C0.1 C0.2.1 hX hbl hbA hM.2.2.2 (inb_in g305) dL_law_1186 ?_
                                              refine lv_aload_n C0.1 C0.2.1 dL_law_1187 rfl (lv_at hl 1 rfl) ?_
                                              refine lv_iload C0.1 C0.2.1 dL_law_1188 (lv_at hl 5 rfl) ?_
                                              refine lv_iconst (v := (2 : Int32)) C0.1 C0.2.1 dL_law_1190 (by decide) ?_
                                              refine lv_iadd C0.1 C0.2.1 dL_law_1191 ?_
                                              obtain ⟨g306, hF⟩ := gdb_some hF
                                              refine va_sld C0.1 C0.2.1 hX hbl hbA hM.2.2.2 (inb_in g306) dL_law_1192 ?_
                                              refine lv_aload_n C0.1 C0.2.1 dL_law_1193 rfl (lv_at hl 1 rfl) ?_
                                              refine lv_iload C0.1 C0.2.1 dL_law_1194 (lv_at hl 5 rfl) ?_
                                              refine lv_iconst (v := (3 : Int32)) C0.1 C0.2.1 dL_law_1196 (by decide) ?_
                                              refine lv_iadd C0.1 C0.2.1 dL_law_1197 ?_
                                              obtain ⟨g307, hF⟩ := gdb_some hF
                                              refine va_sld C0.1 C0.2.1 hX hbl hbA hM.2.2.2 (inb_in g307) dL_law_1198 ?_
                                              obtain ⟨r310, M309, h308, hF⟩ := bd2_some hF
                                              refine y_vi (rest := []) C0 hM hl.1 ok_md (ent5 ok_md) rfl (k_X5_ifDone l G M304 (xs (Int32.toNatClampNeg (i4 + (1 : Int32)))) (xs (Int32.toNatClampNeg (i4 + (2 : Int32)))) (xs (Int32.toNatClampNeg (i4 + (3 : Int32)))) h308) cw_RL_150 rfl rfl ⟨Nat.le_of_ble_eq_true rfl, Nat.le_of_ble_eq_true rfl⟩ rfl (Nat.le_of_ble_eq_true rfl) ⟨by omega, by omega⟩ dL_law_1199 (fun H locs hM => ?_)
                                              refine lv_istore (lv' := [(6, .int r310), (5, .int r303), (0, .ref b), (1, .ref (gad G 216)), (2, .ref (gad G 220)), (3, .ref (gad G 227)), (4, .int i4)]) C0.1 C0.2.1 dL_law_1202 hl (by decide) rfl (fun ls hl => ?_)
                                              refine lv_aload_n C0.1 C0.2.1 dL_law_1204 rfl (lv_at hl 4 rfl) ?_
                                              obtain ⟨r312, h311, hF⟩ := bd_some hF
                                              refine y_vi (rest := []) C0 hM hl.1 ok_md (ent5 ok_md) rfl (k_X5_thrown l G M309 h311) cw_RL_84 rfl rfl ⟨Nat.le_of_ble_eq_true rfl, Nat.le_of_ble_eq_true rfl⟩ rfl (Nat.le_of_ble_eq_true rfl) ⟨by omega, by omega⟩ dL_law_1205 (fun H locs hM => ?_)
                                              refine lv_iload C0.1 C0.2.1 dL_law_1208 (lv_at hl 1 rfl) ?_
                                              refine lv_icmp_eq (tgt := 1215) C0.1 C0.2.1 dL_law_1210 (by decide) (fun c313 => ?_) (fun c313 => ?_)
                                              · have hF := if_t c313 hF
                                                refine lv_iload C0.1 C0.2.1 dL_law_1215 (lv_at hl 1 rfl) ?_
                                                refine lv_if_ne (tgt := 1232) C0.1 C0.2.1 dL_law_1217 (by decide) (fun c314 => ?_) (fun c314 => ?_)
                                                · have hF := if_t c314 hF
                                                  refine lv_goto (tgt := 1359) C0.1 C0.2.1 dL_law_1232 (by decide) ?_
                                                  obtain ⟨x315, ex315, hF⟩ := nm_some hF
                                                  refine lv_iinc (v := x315) (lv' := [(4, .int x315), (6, .int r310), (5, .int r303), (0, .ref b), (1, .ref (gad G 216)), (2, .ref (gad G 220)), (3, .ref (gad G 227))]) C0.1 C0.2.1 dL_law_1359 hl (k := 6) rfl (by rw [ex315]; rfl) (by decide) rfl (fun ls hl => ?_)
                                                  refine lv_goto (tgt := 23) C0.1 C0.2.1 dL_law_1362 (by decide) ?_
                                                  refine W.widen (k := 228 + 4 * (t + 1)) (n := 3698 + 24 * (t + 1)) (by omega) (by omega) ?_
                                                  exact ih23 (t + 1) x315 M309 _ _ _ (by omega) hM (lv_sub hl [3, 4, 5, 6, 0] rfl) hF
                                                · have hF := if_f (fun q => q c314) hF
                                                  refine lv_aload_n C0.1 C0.2.1 dL_law_1220 rfl (lv_at hl 5 rfl) ?_
                                                  refine lv_iconst (v := (0 : Int32)) C0.1 C0.2.1 dL_law_1221 (by decide) ?_
                                                  refine y_lald C0 hM dL_law_1222 ?_
                                                  refine lv_iload C0.1 C0.2.1 dL_law_1223 (lv_at hl 0 rfl) ?_
                                                  refine lv_i2l (v := Int32.toInt64 r310) C0.1 C0.2.1 dL_law_1225 rfl ?_
                                                  refine W.lcmp C0.1 C0.2.1 dL_law_1226 ?_
                                                  refine lv_if_eq (tgt := 1232) C0.1 C0.2.1 dL_law_1227 (by decide) (fun c316 => ?_) (fun c316 => ?_)
                                                  · have hF := if_t c316 hF
                                                    refine lv_goto (tgt := 1359) C0.1 C0.2.1 dL_law_1232 (by decide) ?_
                                                    obtain ⟨x317, ex317, hF⟩ := nm_some hF
                                                    refine lv_iinc (v := x317) (lv' := [(4, .int x317), (6, .int r310), (5, .int r303), (0, .ref b), (1, .ref (gad G 216)), (2, .ref (gad G 220)), (3, .ref (gad G 227))]) C0.1 C0.2.1 dL_law_1359 hl (k := 6) rfl (by rw [ex317]; rfl) (by decide) rfl (fun ls hl => ?_)
                                                    refine lv_goto (tgt := 23) C0.1 C0.2.1 dL_law_1362 (by decide) ?_
                                                    refine W.widen (k := 228 + 4 * (t + 1)) (n := 3698 + 24 * (t + 1)) (by omega) (by omega) ?_
                                                    exact ih23 (t + 1) x317 M309 _ _ _ (by omega) hM (lv_sub hl [3, 4, 5, 6, 0] rfl) hF
                                                  · have hF := if_f c316 hF
                                                    refine lv_iconst (v := (0 : Int32)) C0.1 C0.2.1 dL_law_1230 (by decide) ?_
                                                    exact absurd (y_1 hF) (by decide)
                                              · have hF := if_f c313 hF
                                                refine lv_iconst (v := (0 : Int32)) C0.1 C0.2.1 dL_law_1213 (by decide) ?_
                                                exact absurd (y_1 hF) (by decide)
                                            · have hF := if_f c298 hF
                                              by_cases c318 : x3 = (20 : Int32)
                                              · have hF := if_t c318 hF
                                                refine y_tsw (tgt := 1235) (off := 1196) C0 dL_law_39 (by decide) (by rw [c318]; decide) (by decide) ?_
                                                refine lv_aload_n C0.1 C0.2.1 dL_law_1235 rfl (lv_at hl 1 rfl) ?_
                                                refine lv_aload_n C0.1 C0.2.1 dL_law_1236 rfl (lv_at hl 0 rfl) ?_
                                                refine lv_iload C0.1 C0.2.1 dL_law_1237 (lv_at hl 4 rfl) ?_
                                                refine lv_iconst (v := (1 : Int32)) C0.1 C0.2.1 dL_law_1239 (by decide) ?_
                                                refine lv_iadd C0.1 C0.2.1 dL_law_1240 ?_
                                                obtain ⟨g319, hF⟩ := gdb_some hF
                                                refine va_sld C0.1 C0.2.1 hX hbl hbA hM.2.2.2 (inb_in g319) dL_law_1241 ?_
                                                refine lv_aload_n C0.1 C0.2.1 dL_law_1242 rfl (lv_at hl 3 rfl) ?_
                                                obtain ⟨r321, M322, h320, hF⟩ := bd2_some hF
                                                refine l_hi (na := 3) (rest := []) C0 hM hT hl.1 (k_L_ifEnded l hst G B0 sa M1 (xs (Int32.toNatClampNeg (i4 + (1 : Int32)))) h320) ⟨tbx [806, 807, 68, 808] (by decide +kernel) (by decide +kernel), by decide +kernel, by decide +kernel, by decide +kernel⟩ rfl rfl rfl ⟨Nat.le_of_ble_eq_true rfl, Nat.le_of_ble_eq_true rfl⟩ rfl (Nat.le_of_ble_eq_true rfl) ⟨by omega, by omega⟩ dL_law_1243 (fun H locs hM => ?_)
                                                refine lv_istore (lv' := [(5, .int r321), (0, .ref b), (1, .ref (gad G 216)), (2, .ref (gad G 220)), (3, .ref (gad G 227)), (4, .int i4)]) C0.1 C0.2.1 dL_law_1246 hl (by decide) rfl (fun ls hl => ?_)
                                                refine lv_aload_n C0.1 C0.2.1 dL_law_1248 rfl (lv_at hl 3 rfl) ?_
                                                refine lv_aload_n C0.1 C0.2.1 dL_law_1249 rfl (lv_at hl 1 rfl) ?_
                                                refine lv_iload C0.1 C0.2.1 dL_law_1250 (lv_at hl 5 rfl) ?_
                                                refine lv_iconst (v := (1 : Int32)) C0.1 C0.2.1 dL_law_1252 (by decide) ?_
                                                refine lv_iadd C0.1 C0.2.1 dL_law_1253 ?_
                                                obtain ⟨g323, hF⟩ := gdb_some hF
                                                refine va_sld C0.1 C0.2.1 hX hbl hbA hM.2.2.2 (inb_in g323) dL_law_1254 ?_
                                                obtain ⟨r326, M325, h324, hF⟩ := bd2_some hF
                                                refine y_vi (rest := []) C0 hM hl.1 ok_md (ent5 ok_md) rfl (k_X5_ifEnded l G M322 (xs (Int32.toNatClampNeg (i4 + (1 : Int32)))) h324) cw_RL_153 rfl rfl ⟨Nat.le_of_ble_eq_true rfl, Nat.le_of_ble_eq_true rfl⟩ rfl (Nat.le_of_ble_eq_true rfl) ⟨by omega, by omega⟩ dL_law_1255 (fun H locs hM => ?_)
                                                refine lv_istore (lv' := [(6, .int r326), (5, .int r321), (0, .ref b), (1, .ref (gad G 216)), (2, .ref (gad G 220)), (3, .ref (gad G 227)), (4, .int i4)]) C0.1 C0.2.1 dL_law_1258 hl (by decide) rfl (fun ls hl => ?_)
                                                refine lv_aload_n C0.1 C0.2.1 dL_law_1260 rfl (lv_at hl 4 rfl) ?_
                                                obtain ⟨r328, h327, hF⟩ := bd_some hF
                                                refine y_vi (rest := []) C0 hM hl.1 ok_md (ent5 ok_md) rfl (k_X5_thrown l G M325 h327) cw_RL_84 rfl rfl ⟨Nat.le_of_ble_eq_true rfl, Nat.le_of_ble_eq_true rfl⟩ rfl (Nat.le_of_ble_eq_true rfl) ⟨by omega, by omega⟩ dL_law_1261 (fun H locs hM => ?_)
                                                refine lv_iload C0.1 C0.2.1 dL_law_1264 (lv_at hl 1 rfl) ?_
                                                refine lv_icmp_eq (tgt := 1271) C0.1 C0.2.1 dL_law_1266 (by decide) (fun c329 => ?_) (fun c329 => ?_)
                                                · have hF := if_t c329 hF
                                                  refine lv_iload C0.1 C0.2.1 dL_law_1271 (lv_at hl 1 rfl) ?_
                                                  refine lv_if_ne (tgt := 1288) C0.1 C0.2.1 dL_law_1273 (by decide) (fun c330 => ?_) (fun c330 => ?_)
                                                  · have hF := if_t c330 hF
                                                    refine lv_goto (tgt := 1359) C0.1 C0.2.1 dL_law_1288 (by decide) ?_
                                                    obtain ⟨x331, ex331, hF⟩ := nm_some hF
                                                    refine lv_iinc (v := x331) (lv' := [(4, .int x331), (6, .int r326), (5, .int r321), (0, .ref b), (1, .ref (gad G 216)), (2, .ref (gad G 220)), (3, .ref (gad G 227))]) C0.1 C0.2.1 dL_law_1359 hl (k := 6) rfl (by rw [ex331]; rfl) (by decide) rfl (fun ls hl => ?_)
                                                    refine lv_goto (tgt := 23) C0.1 C0.2.1 dL_law_1362 (by decide) ?_
                                                    refine W.widen (k := 228 + 4 * (t + 1)) (n := 3698 + 24 * (t + 1)) (by omega) (by omega) ?_
                                                    exact ih23 (t + 1) x331 M325 _ _ _ (by omega) hM (lv_sub hl [3, 4, 5, 6, 0] rfl) hF
                                                  · have hF := if_f (fun q => q c330) hF
                                                    refine lv_aload_n C0.1 C0.2.1 dL_law_1276 rfl (lv_at hl 5 rfl) ?_
                                                    refine lv_iconst (v := (0 : Int32)) C0.1 C0.2.1 dL_law_1277 (by decide) ?_
                                                    refine y_lald C0 hM dL_law_1278 ?_
                                                    refine lv_iload C0.1 C0.2.1 dL_law_1279 (lv_at hl 0 rfl) ?_
                                                    refine lv_i2l (v := Int32.toInt64 r326) C0.1 C0.2.1 dL_law_1281 rfl ?_
                                                    refine W.lcmp C0.1 C0.2.1 dL_law_1282 ?_
                                                    refine lv_if_eq (tgt := 1288) C0.1 C0.2.1 dL_law_1283 (by decide) (fun c332 => ?_) (fun c332 => ?_)
                                                    · have hF := if_t c332 hF
                                                      refine lv_goto (tgt := 1359) C0.1 C0.2.1 dL_law_1288 (by decide) ?_
                                                      obtain ⟨x333, ex333, hF⟩ := nm_some hF
                                                      refine lv_iinc (v := x333) (lv' := [(4, .int x333), (6, .int r326), (5, .int r321), (0, .ref b), (1, .ref (gad G 216)), (2, .ref (gad G 220)), (3, .ref (gad G 227))]) C0.1 C0.2.1 dL_law_1359 hl (k := 6) rfl (by rw [ex333]; rfl) (by decide) rfl (fun ls hl => ?_)
                                                      refine lv_goto (tgt := 23) C0.1 C0.2.1 dL_law_1362 (by decide) ?_
                                                      refine W.widen (k := 228 + 4 * (t + 1)) (n := 3698 + 24 * (t + 1)) (by omega) (by omega) ?_
                                                      exact ih23 (t + 1) x333 M325 _ _ _ (by omega) hM (lv_sub hl [3, 4, 5, 6, 0] rfl) hF
                                                    · have hF := if_f c332 hF
                                                      refine lv_iconst (v := (0 : Int32)) C0.1 C0.2.1 dL_law_1286 (by decide) ?_
                                                      exact absurd (y_1 hF) (by decide)
                                                · have hF := if_f c329 hF
                                                  refine lv_iconst (v := (0 : Int32)) C0.1 C0.2.1 dL_law_1269 (by decide) ?_
                                                  exact absurd (y_1 hF) (by decide)
                                              · have hF := if_f c318 hF
                                                by_cases c334 : x3 = (21 : Int32)
                                                · have hF := if_t c334 hF
                                                  refine y_tsw (tgt := 1291) (off := 1252) C0 dL_law_39 (by decide) (by rw [c334]; decide) (by decide) ?_
                                                  refine lv_aload_n C0.1 C0.2.1 dL_law_1291 rfl (lv_at hl 1 rfl) ?_
                                                  obtain ⟨r337, M336, h335, hF⟩ := bd2_some hF
                                                  refine y_vi (rest := []) C0 hM hl.1 ok_tt (ent4 ok_tt) rfl (k_X4_bestStrike l G M1 h335) cw_RL_154 rfl rfl ⟨Nat.le_of_ble_eq_true rfl, Nat.le_of_ble_eq_true rfl⟩ rfl (Nat.le_of_ble_eq_true rfl) ⟨by omega, by omega⟩ dL_law_1292 (fun H locs hM => ?_)
                                                  refine lv_aload_n C0.1 C0.2.1 dL_law_1295 rfl (lv_at hl 2 rfl) ?_
                                                  obtain ⟨r340, M339, h338, hF⟩ := bd2_some hF
                                                  refine y_vi (rest := [.int r337]) C0 hM hl.1 ok_md (ent5 ok_md) rfl (k_X5_bestStrike l G M336 h338) cw_RL_157 rfl rfl ⟨Nat.le_of_ble_eq_true rfl, Nat.le_of_ble_eq_true rfl⟩ rfl (Nat.le_of_ble_eq_true rfl) ⟨by omega, by omega⟩ dL_law_1296 (fun H locs hM => ?_)
                                                  refine lv_icmp_eq (tgt := 1359) C0.1 C0.2.1 dL_law_1299 (by decide) (fun c341 => ?_) (fun c341 => ?_)
                                                  · have hF := if_t c341 hF
                                                    obtain ⟨x342, ex342, hF⟩ := nm_some hF
                                                    refine lv_iinc (v := x342) (lv' := [(4, .int x342), (0, .ref b), (1, .ref (gad G 216)), (2, .ref (gad G 220)), (3, .ref (gad G 227))]) C0.1 C0.2.1 dL_law_1359 hl (k := 4) rfl (by rw [ex342]; rfl) (by decide) rfl (fun ls hl => ?_)
                                                    refine lv_goto (tgt := 23) C0.1 C0.2.1 dL_law_1362 (by decide) ?_
                                                    refine W.widen (k := 228 + 4 * (t + 1)) (n := 3698 + 24 * (t + 1)) (by omega) (by omega) ?_
                                                    exact ih23 (t + 1) x342 M339 _ _ _ (by omega) hM (lv_sub hl [1, 2, 3, 4, 0] rfl) hF
                                                  · have hF := if_f c341 hF
                                                    refine lv_iconst (v := (0 : Int32)) C0.1 C0.2.1 dL_law_1302 (by decide) ?_
                                                    exact absurd (y_1 hF) (by decide)
                                                · have hF := if_f c334 hF
                                                  by_cases c343 : x3 = (22 : Int32)
                                                  · have hF := if_t c343 hF
                                                    refine y_tsw (tgt := 1304) (off := 1265) C0 dL_law_39 (by decide) (by rw [c343]; decide) (by decide) ?_
                                                    refine lv_aload_n C0.1 C0.2.1 dL_law_1304 rfl (lv_at hl 1 rfl) ?_
                                                    obtain ⟨r345, h344, hF⟩ := bd_some hF
                                                    refine y_vd (rest := []) C0 hM hl.1 ok_tt (ent4 ok_tt) rfl (k_X4_standing l G M1 h344) cw_RL_158 rfl rfl ⟨Nat.le_of_ble_eq_true rfl, Nat.le_of_ble_eq_true rfl⟩ rfl (Nat.le_of_ble_eq_true rfl) ⟨by omega, by omega⟩ dL_law_1305 (fun H locs hM => ?_)
                                                    refine lv_dstore (lv' := [(5, .double r345), (0, .ref b), (1, .ref (gad G 216)), (2, .ref (gad G 220)), (3, .ref (gad G 227)), (4, .int i4)]) C0.1 C0.2.1 dL_law_1308 hl (by decide) rfl (fun ls hl => ?_)
                                                    refine lv_aload_n C0.1 C0.2.1 dL_law_1310 rfl (lv_at hl 3 rfl) ?_
                                                    obtain ⟨r348, M347, h346, hF⟩ := bd2_some hF
                                                    refine y_vd (rest := []) C0 hM hl.1 ok_md (ent5 ok_md) rfl (k_X5_standing l G M1 h346) cw_RL_162 rfl rfl ⟨Nat.le_of_ble_eq_true rfl, Nat.le_of_ble_eq_true rfl⟩ rfl (Nat.le_of_ble_eq_true rfl) ⟨by omega, by omega⟩ dL_law_1311 (fun H locs hM => ?_)
                                                    refine lv_dstore (lv' := [(7, .double r348), (5, .double r345), (0, .ref b), (1, .ref (gad G 216)), (2, .ref (gad G 220)), (3, .ref (gad G 227)), (4, .int i4)]) C0.1 C0.2.1 dL_law_1314 hl (by decide) rfl (fun ls hl => ?_)
                                                    refine lv_dload C0.1 C0.2.1 dL_law_1316 (lv_at hl 1 rfl) ?_
                                                    refine lv_dload C0.1 C0.2.1 dL_law_1318 (lv_at hl 0 rfl) ?_
                                                    refine lv_dcmp C0.1 C0.2.1 dL_law_1320 ?_
                                                    refine lv_if_eq (tgt := 1342) C0.1 C0.2.1 dL_law_1321 (by decide) (fun c349 => ?_) (fun c349 => ?_)
                                                    · have hF := if_t c349 hF
                                                      refine lv_goto (tgt := 1359) C0.1 C0.2.1 dL_law_1342 (by decide) ?_
                                                      obtain ⟨x350, ex350, hF⟩ := nm_some hF
                                                      refine lv_iinc (v := x350) (lv' := [(4, .int x350), (7, .double r348), (5, .double r345), (0, .ref b), (1, .ref (gad G 216)), (2, .ref (gad G 220)), (3, .ref (gad G 227))]) C0.1 C0.2.1 dL_law_1359 hl (k := 6) rfl (by rw [ex350]; rfl) (by decide) rfl (fun ls hl => ?_)
                                                      refine lv_goto (tgt := 23) C0.1 C0.2.1 dL_law_1362 (by decide) ?_
                                                      refine W.widen (k := 228 + 4 * (t + 1)) (n := 3698 + 24 * (t + 1)) (by omega) (by omega) ?_
                                                      exact ih23 (t + 1) x350 M347 _ _ _ (by omega) hM (lv_sub hl [3, 4, 5, 6, 0] rfl) hF
                                                    · have hF := if_f c349 hF
                                                      refine lv_dload C0.1 C0.2.1 dL_law_1324 (lv_at hl 1 rfl) ?_
                                                      refine lv_dload C0.1 C0.2.1 dL_law_1326 (lv_at hl 1 rfl) ?_
                                                      refine lv_dcmp C0.1 C0.2.1 dL_law_1328 ?_
                                                      refine lv_if_eq (tgt := 1340) C0.1 C0.2.1 dL_law_1329 (by decide) (fun c351 => ?_) (fun c351 => ?_)
                                                      · have hF := if_t c351 hF
                                                        refine lv_iconst (v := (0 : Int32)) C0.1 C0.2.1 dL_law_1340 (by decide) ?_
                                                        exact absurd (y_1 hF) (by decide)
                                                      · have hF := if_f c351 hF
                                                        refine lv_dload C0.1 C0.2.1 dL_law_1332 (lv_at hl 0 rfl) ?_
                                                        refine lv_dload C0.1 C0.2.1 dL_law_1334 (lv_at hl 0 rfl) ?_
                                                        refine lv_dcmp C0.1 C0.2.1 dL_law_1336 ?_
                                                        refine lv_if_ne (tgt := 1342) C0.1 C0.2.1 dL_law_1337 (by decide) (fun c352 => ?_) (fun c352 => ?_)
                                                        · have hF := if_t c352 hF
                                                          refine lv_goto (tgt := 1359) C0.1 C0.2.1 dL_law_1342 (by decide) ?_
                                                          obtain ⟨x353, ex353, hF⟩ := nm_some hF
                                                          refine lv_iinc (v := x353) (lv' := [(4, .int x353), (7, .double r348), (5, .double r345), (0, .ref b), (1, .ref (gad G 216)), (2, .ref (gad G 220)), (3, .ref (gad G 227))]) C0.1 C0.2.1 dL_law_1359 hl (k := 6) rfl (by rw [ex353]; rfl) (by decide) rfl (fun ls hl => ?_)
                                                          refine lv_goto (tgt := 23) C0.1 C0.2.1 dL_law_1362 (by decide) ?_
                                                          refine W.widen (k := 228 + 4 * (t + 1)) (n := 3698 + 24 * (t + 1)) (by omega) (by omega) ?_
                                                          exact ih23 (t + 1) x353 M347 _ _ _ (by omega) hM (lv_sub hl [3, 4, 5, 6, 0] rfl) hF
                                                        · have hF := if_f (fun q => q c352) hF
                                                          refine lv_iconst (v := (0 : Int32)) C0.1 C0.2.1 dL_law_1340 (by decide) ?_
                                                          exact absurd (y_1 hF) (by decide)
                                                  · have hF := if_f c343 hF
                                                    by_cases c354 : x3 = (23 : Int32)
                                                    · have hF := if_t c354 hF
                                                      refine y_tsw (tgt := 1345) (off := 1306) C0 dL_law_39 (by decide) (by rw [c354]; decide) (by decide) ?_
                                                      refine lv_aload_n C0.1 C0.2.1 dL_law_1345 rfl (lv_at hl 1 rfl) ?_
                                                      obtain ⟨r357, M356, h355, hF⟩ := bd2_some hF
                                                      refine y_vl (rest := []) C0 hM hl.1 ok_tt (ent4 ok_tt) rfl (k_X4_digest l G M1 h355) cw_RL_163 rfl rfl ⟨Nat.le_of_ble_eq_true rfl, Nat.le_of_ble_eq_true rfl⟩ rfl (Nat.le_of_ble_eq_true rfl) ⟨by omega, by omega⟩ dL_law_1346 (fun H locs hM => ?_)
                                                      refine lv_aload_n C0.1 C0.2.1 dL_law_1349 rfl (lv_at hl 2 rfl) ?_
                                                      obtain ⟨r360, M359, h358, hF⟩ := bd2_some hF
                                                      refine y_vl (rest := [.long r357]) C0 hM hl.1 ok_md (ent5 ok_md) rfl (k_X5_digest l G M356 h358) cw_RL_167 rfl rfl ⟨Nat.le_of_ble_eq_true rfl, Nat.le_of_ble_eq_true rfl⟩ rfl (Nat.le_of_ble_eq_true rfl) ⟨by omega, by omega⟩ dL_law_1350 (fun H locs hM => ?_)
                                                      refine W.lcmp C0.1 C0.2.1 dL_law_1353 ?_
                                                      refine lv_if_eq (tgt := 1359) C0.1 C0.2.1 dL_law_1354 (by decide) (fun c361 => ?_) (fun c361 => ?_)
                                                      · have hF := if_t c361 hF
                                                        obtain ⟨x362, ex362, hF⟩ := nm_some hF
                                                        refine lv_iinc (v := x362) (lv' := [(4, .int x362), (0, .ref b), (1, .ref (gad G 216)), (2, .ref (gad G 220)), (3, .ref (gad G 227))]) C0.1 C0.2.1 dL_law_1359 hl (k := 4) rfl (by rw [ex362]; rfl) (by decide) rfl (fun ls hl => ?_)
                                                        refine lv_goto (tgt := 23) C0.1 C0.2.1 dL_law_1362 (by decide) ?_
                                                        refine W.widen (k := 228 + 4 * (t + 1)) (n := 3698 + 24 * (t + 1)) (by omega) (by omega) ?_
                                                        exact ih23 (t + 1) x362 M359 _ _ _ (by omega) hM (lv_sub hl [1, 2, 3, 4, 0] rfl) hF
                                                      · have hF := if_f c361 hF
                                                        refine lv_iconst (v := (0 : Int32)) C0.1 C0.2.1 dL_law_1357 (by decide) ?_
                                                        exact absurd (y_1 hF) (by decide)
                                                    · have hF := if_f c354 hF
                                                      refine y_tsw (tgt := 1359) (off := 1320) C0 dL_law_39 (by decide) (ts_d (fun k9 h7 h8 h9 => by
                                                          have h6 : k9 = 0 ∨ k9 = 1 ∨ k9 = 2 ∨ k9 = 3 ∨ k9 = 4 ∨ k9 = 5 ∨ k9 = 6 ∨ k9 = 7 ∨ k9 = 8 ∨ k9 = 9 ∨ k9 = 10 ∨ k9 = 11 ∨ k9 = 12 ∨ k9 = 13 ∨ k9 = 14 ∨ k9 = 15 ∨ k9 = 16 ∨ k9 = 17 ∨ k9 = 18 ∨ k9 = 19 ∨ k9 = 20 ∨ k9 = 21 ∨ k9 = 22 ∨ k9 = 23 := by omega
                                                          rcases h6 with rfl | rfl | rfl | rfl | rfl | rfl | rfl | rfl | rfl | rfl | rfl | rfl | rfl | rfl | rfl | rfl | rfl | rfl | rfl | rfl | rfl | rfl | rfl | rfl
                                                          · exact absurd (Int32.toInt_inj.mp (h9.trans (by decide : (0 : Int) = Int32.toInt 0))) c4
                                                          · exact absurd (Int32.toInt_inj.mp (h9.trans (by decide : (1 : Int) = Int32.toInt 1))) c26
                                                          · exact absurd (Int32.toInt_inj.mp (h9.trans (by decide : (2 : Int) = Int32.toInt 2))) c35
                                                          · exact absurd (Int32.toInt_inj.mp (h9.trans (by decide : (3 : Int) = Int32.toInt 3))) c51
                                                          · exact absurd (Int32.toInt_inj.mp (h9.trans (by decide : (4 : Int) = Int32.toInt 4))) c67
                                                          · exact absurd (Int32.toInt_inj.mp (h9.trans (by decide : (5 : Int) = Int32.toInt 5))) c83
                                                          · exact absurd (Int32.toInt_inj.mp (h9.trans (by decide : (6 : Int) = Int32.toInt 6))) c103
                                                          · exact absurd (Int32.toInt_inj.mp (h9.trans (by decide : (7 : Int) = Int32.toInt 7))) c117
                                                          · exact absurd (Int32.toInt_inj.mp (h9.trans (by decide : (8 : Int) = Int32.toInt 8))) c139
                                                          · exact absurd (Int32.toInt_inj.mp (h9.trans (by decide : (9 : Int) = Int32.toInt 9))) c153
                                                          · exact absurd (Int32.toInt_inj.mp (h9.trans (by decide : (10 : Int) = Int32.toInt 10))) c169
                                                          · exact absurd (Int32.toInt_inj.mp (h9.trans (by decide : (11 : Int) = Int32.toInt 11))) c185
                                                          · exact absurd (Int32.toInt_inj.mp (h9.trans (by decide : (12 : Int) = Int32.toInt 12))) c194
                                                          · exact absurd (Int32.toInt_inj.mp (h9.trans (by decide : (13 : Int) = Int32.toInt 13))) c202
                                                          · exact absurd (Int32.toInt_inj.mp (h9.trans (by decide : (14 : Int) = Int32.toInt 14))) c216
                                                          · exact absurd (Int32.toInt_inj.mp (h9.trans (by decide : (15 : Int) = Int32.toInt 15))) c230
                                                          · exact absurd (Int32.toInt_inj.mp (h9.trans (by decide : (16 : Int) = Int32.toInt 16))) c248
                                                          · exact absurd (Int32.toInt_inj.mp (h9.trans (by decide : (17 : Int) = Int32.toInt 17))) c266
                                                          · exact absurd (Int32.toInt_inj.mp (h9.trans (by decide : (18 : Int) = Int32.toInt 18))) c282
                                                          · exact absurd (Int32.toInt_inj.mp (h9.trans (by decide : (19 : Int) = Int32.toInt 19))) c298
                                                          · exact absurd (Int32.toInt_inj.mp (h9.trans (by decide : (20 : Int) = Int32.toInt 20))) c318
                                                          · exact absurd (Int32.toInt_inj.mp (h9.trans (by decide : (21 : Int) = Int32.toInt 21))) c334
                                                          · exact absurd (Int32.toInt_inj.mp (h9.trans (by decide : (22 : Int) = Int32.toInt 22))) c343
                                                          · exact absurd (Int32.toInt_inj.mp (h9.trans (by decide : (23 : Int) = Int32.toInt 23))) c354)) (by decide) ?_
                                                      obtain ⟨x363, ex363, hF⟩ := nm_some hF
                                                      refine lv_iinc (v := x363) (lv' := [(4, .int x363), (0, .ref b), (1, .ref (gad G 216)), (2, .ref (gad G 220)), (3, .ref (gad G 227))]) C0.1 C0.2.1 dL_law_1359 hl (k := 4) rfl (by rw [ex363]; rfl) (by decide) rfl (fun ls hl => ?_)
                                                      refine lv_goto (tgt := 23) C0.1 C0.2.1 dL_law_1362 (by decide) ?_
                                                      refine W.widen (k := 228 + 4 * (t + 1)) (n := 3698 + 24 * (t + 1)) (by omega) (by omega) ?_
                                                      exact ih23 (t + 1) x363 M1 _ _ _ (by omega) hM (lv_sub hl [1, 2, 3, 4, 0] rfl) hF
