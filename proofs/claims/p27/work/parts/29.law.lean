def R_law : String := "TurnTrackerLaw"
def lw_P (b : Addr) (xs : List Int32) (args : Array Value) (s : State) : Prop := args = #[.ref b] ∧ s.IntsAt b xs ∧ xs.length ≤ 260 ∧ (Jvm.Cond.and given_1 narrow_1).before args s = true
/-- what a walk over the start with the record d0 says of its end, said of the start itself -/
theorem lw_closed {s t : State} {o : Outcome} {d0 : Drawn} {L : List Loc} {k n : Nat} (hd0 : s.drawn.sameBut d0 lw_cs) (hv : ∃ v, o = .returned v) (hW : (s.setDrawn d0).WarmedH t.vm) (hs : (s.setDrawn d0).sameButNew ({ t with vm := s.vm } : State) L k n) : State.butDraws s t lw_cs (fun t1 => Framed s o t1 L k n) := by
  have h2 : t.drawn = d0 := congrArg State.drawn hs.1
  refine ⟨⟨hv, hW, State.sameButNew.setDrawn hs s.drawn⟩, ?_, by decide⟩
  rw [h2]
  exact hd0
def lw_Q (_ : Array Value) (s : State) (o : Outcome) (t : State) : Prop := o = .returned (some (.int 1)) ∧ State.butDraws s t lw_cs (fun t1 => Framed s o t1 [] 664594 7107842)
def lw_Z (below : List Frame) (a : Array Value) (s : State) : State → Prop := fun t => ∃ o, t.status = .running ∧ Ended t below o ∧ lw_Q a s o t
/-- the law's own end, with 1 on the stack, nothing written that was there before, its room as the claim has it; d0: the record of draws at this point (at the entry s.drawn: begin with 'refine W.base ?_' and 'have hd0 := Drawn.sameBut.refl s.drawn lw_cs') -/
theorem lw_ret {p : Program} {l : Launch} {e : Env} {s : State} {m : MethodId} {below : List Frame} {meth : Method} {c : Code} {b : Nat} {d0 : Drawn} (hd0 : s.drawn.sameBut d0 lw_cs) (hx : p.tables.exec = Jvm.exec) (hb : c.code = code) (hr : meth.sig.returnType = ret) (hlocks : meth.locks = false) {pc : Nat} {H : Heap} {ls : Array Slot} (hdg : decode code pc = .ok (.ireturn, 1)) : W p l e room_1 (s.setDrawn d0) m #[Value.ref b] below meth c H [] 664594 7107842 (lw_Z below #[Value.ref b] s) (F0 m pc ls [.int 1]) := by
  intro T hT X
  obtain ⟨fs, hret, hrun, hended, hW, hframe⟩ := X.leave (v := some (.int 1)) (hlocks := hlocks) (fun h => by rw [hr] at h; cases h)
  have hmeth' : T.vm.method? m = some meth := X.method'
  refine ⟨T.setFrames fs, ?_, .returned (some (.int 1)), hrun, hended, rfl, lw_closed hd0 ⟨_, rfl⟩ hW hframe⟩
  jvm_step X.here [X.here.top, hx, hb, hdg, hmeth', hr, ret, narrow_b1]
  (try refine ⟨rfl, ?_⟩); (try refine ⟨rfl, ?_⟩)
  first | (intro acts; rw [hret _ acts rfl rfl rfl]) | rw [hret _ _ rfl rfl rfl]
  exact Steps.refl _
/-- what holds at the law's entry: the machine, the code, the tables' words (any of lw_tbl by 'hts w (by decide +kernel)'), the script of L ints xs at the cell b, what the Statement gives of the start (any of its parts by flat_of_before) -/
def lw_At (p : Program) (s : State) (m : MethodId) (meth : Method) (c : Code) (b L : Nat) (xs : Nat → Int32) : Prop :=
  p.tables.exec = Jvm.exec ∧ c.code = code ∧ meth.sig.returnType = ret ∧ c.maxLocals = 19 ∧ s.vm.findClass R_law = some m.cls ∧ (∀ w ∈ lw_tbl, w.before #[Value.ref b] s = true) ∧ va_X b L xs s s.heap ∧ b < s.heap.size ∧ meth.locks = false ∧ (Jvm.Cond.and given_1 narrow_1).before #[Value.ref b] s = true
/-- the law's end over its own start -/
theorem l_end {p : Program} {l : Launch} {e : Env} {s : State} {m : MethodId} {below : List Frame} {meth : Method} {c : Code} {b : Nat} {G : GG} {M : MS} {H : Heap} {locs : List Loc} {pc : Nat} {ls : Array Slot} (C0 : CX p s m meth c #[.ref b] cL_law RL 19 ret) (hM : MX G M s H locs) (hA : ∀ q, Af G s.heap.size q → s.heap.size ≤ q) (hdg : decode cL_law pc = .ok (.ireturn, 1)) :
    W p l e room_1 s m #[Value.ref b] below meth c H locs 664594 7107842 (lw_Z below #[Value.ref b] s) (F0 m pc ls [.int 1]) := by
  obtain ⟨hx, hb, hml, hown, hts, hr, hlk⟩ := C0
  refine va_forget (fun q hq => hA _ (hM.2.2.2.2.2 q hq)) ?_
  exact lw_ret (d0 := s.drawn) (Drawn.sameBut.refl s.drawn lw_cs) hx hb hr hlk hdg
theorem cw_RL_80 : CWV RL 80 RX4 yX4_begin cX4_begin 1 (some .int) 0 := ⟨tbx [175, 176, 177, 6, 178] (by decide +kernel) (by decide +kernel), rfl, by decide +kernel, by decide +kernel, by decide +kernel⟩
theorem cw_RL_84 : CWV RL 84 RX4 yX4_undo cX4_undo 1 (some .int) 0 := ⟨tbx [503, 504, 505, 6, 506] (by decide +kernel) (by decide +kernel), rfl, by decide +kernel, by decide +kernel, by decide +kernel⟩
theorem cw_RL_87 : CWS RL 87 yL_come cL_come 11 (some .boolean) 4 := ⟨tbx [562, 563, 5, 564] (by decide +kernel) (by decide +kernel), by decide +kernel, by decide +kernel, by decide +kernel⟩
theorem cw_RL_90 : CWS RL 90 yL_tells cL_tells 13 (some .boolean) 5 := ⟨tbx [617, 618, 5, 619] (by decide +kernel) (by decide +kernel), by decide +kernel, by decide +kernel, by decide +kernel⟩
theorem cw_RL_94 : CWV RL 94 RX4 yX4_ifDone cX4_ifDone 6 (some .int) 3 := ⟨tbx [545, 546, 547, 6, 548] (by decide +kernel) (by decide +kernel), rfl, by decide +kernel, by decide +kernel, by decide +kernel⟩
theorem cw_RL_98 : CWS RL 98 yL_act cL_act 16 (some .int) 9 := ⟨tbx [611, 612, 5, 613] (by decide +kernel) (by decide +kernel), by decide +kernel, by decide +kernel, by decide +kernel⟩
theorem cw_RL_102 : CWV RL 102 RX4 yX4_strike cX4_strike 2 (some .int) 1 := ⟨tbx [276, 277, 278, 6, 279] (by decide +kernel) (by decide +kernel), rfl, by decide +kernel, by decide +kernel, by decide +kernel⟩
theorem cw_RL_105 : CWV RL 105 RX4 yX4_step cX4_step 2 (some .int) 1 := ⟨tbx [432, 433, 434, 6, 435] (by decide +kernel) (by decide +kernel), rfl, by decide +kernel, by decide +kernel, by decide +kernel⟩
theorem cw_RL_108 : CWV RL 108 RX4 yX4_help cX4_help 2 (some .int) 1 := ⟨tbx [458, 459, 460, 6, 461] (by decide +kernel) (by decide +kernel), rfl, by decide +kernel, by decide +kernel, by decide +kernel⟩
theorem cw_RL_111 : CWV RL 111 RX4 yX4_curse cX4_curse 4 (some .int) 3 := ⟨tbx [462, 463, 464, 6, 465] (by decide +kernel) (by decide +kernel), rfl, by decide +kernel, by decide +kernel, by decide +kernel⟩
theorem cw_RL_114 : CWV RL 114 RX4 yX4_delay cX4_delay 1 (some .int) 0 := ⟨tbx [466, 467, 468, 6, 469] (by decide +kernel) (by decide +kernel), rfl, by decide +kernel, by decide +kernel, by decide +kernel⟩
theorem cw_RL_117 : CWV RL 117 RX4 yX4_ready cX4_ready 5 (some .int) 4 := ⟨tbx [474, 475, 476, 6, 477] (by decide +kernel) (by decide +kernel), rfl, by decide +kernel, by decide +kernel, by decide +kernel⟩
theorem cw_RL_120 : CWV RL 120 RX4 yX4_comeIn cX4_comeIn 2 (some .int) 1 := ⟨tbx [487, 488, 489, 6, 490] (by decide +kernel) (by decide +kernel), rfl, by decide +kernel, by decide +kernel, by decide +kernel⟩
theorem cw_RL_123 : CWV RL 123 RX4 yX4_end cX4_end 1 (some .int) 0 := ⟨tbx [482, 483, 484, 6, 485] (by decide +kernel) (by decide +kernel), rfl, by decide +kernel, by decide +kernel, by decide +kernel⟩
def F_L_law_l286 (xs : Nat → Int32) (L : Nat) (x5 : Int32) : Nat → Int32 → MS → Option Int32
  | 0, _, _ => none
  | n286 + 1, l7_42, M43 => (if (45 : Int32) ≤ l7_42 then (some (1 : Int32)) else (bd (F_L_cell xs L ((8 : Int32) + l7_42)) fun r46 => (bd (F_L_low M43 r46 (9 : Int32)) fun r48 => (bd (F_L_low M43 (r46 >>> ((4 : Int32) &&& 31)) x5) fun r50 => (gdb (inb (0 : Int32) 7) (nm (rA M43 223 (Int32.toNatClampNeg (0 : Int32))) fun x52 => (nm (fun (l12_53 : Int32) (M54 : MS) => (if l12_53 = 0 then (some (0 : Int32)) else (bd2 (F_L_tells M54) fun r59 M58 => (if ¬ r59 = 0 then (nm (l7_42 + (1 : Int32)) fun x61 => (F_L_law_l286 xs L x5 n286 x61 M58)) else (some (0 : Int32)))))) fun j865_54 => (if 0 ≤ x52 then (if (4 : Int32) ≤ r48 then (if ¬ r48 = (4 : Int32) then (nm (if ¬ r48 = (7 : Int32) then (bd (F_L_endTurn M43) fun M68 => (bd0 (F_X4_end M68) fun r71 M70 => (gdb (inb (0 : Int32) 7) (if ¬ r71 = (rA M70 223 (Int32.toNatClampNeg (0 : Int32))) then (j865_54 (0 : Int32) M70) else (j865_54 (1 : Int32) M70))))) else (bd (F_L_lives M43 r50) fun r75 => (if r75 = 0 then (j865_54 (1 : Int32) M43) else (gdb (inb (((8 : Int32) * r50) + (3 : Int32)) 48) (if ¬ (rA M43 220 (Int32.toNatClampNeg (((8 : Int32) * r50) + (3 : Int32)))) = (1 : Int32) then (j865_54 (1 : Int32) M43) else (bd (F_L_stand M43 x5 r50 x52 (1 : Int32)) fun M80 => (gdb (inb (((8 : Int32) * r50) + (3 : Int32)) 48) (nm (wA M80 220 (Int32.toNatClampNeg (((8 : Int32) * r50) + (3 : Int32))) (0 : Int32)) fun M82 => (bd0 (F_X4_comeIn M82 r50) fun r85 M84 => (gdb (inb (((8 : Int32) * r50) + (2 : Int32)) 48) (if ¬ r85 = (rA M84 220 (Int32.toNatClampNeg (((8 : Int32) * r50) + (2 : Int32)))) then (j865_54 (0 : Int32) M84) else (j865_54 (1 : Int32) M84)))))))))))) fun j758_64 => (if (7 : Int32) ≤ r48 then j758_64 else (if r50 = x52 then j758_64 else (bd (F_L_low M43 (r46 >>> ((9 : Int32) &&& 31)) (x5 + (1 : Int32))) fun r91 => (nm (r91 - (1 : Int32)) fun x92 => (nm (fun (s93 : Int32) => (bd (F_L_low M43 (r46 >>> ((13 : Int32) &&& 31)) (2 : Int32)) fun r96 => (gdb (inb (((8 : Int32) * x52) + (4 : Int32)) 48) (nm (wA M43 220 (Int32.toNatClampNeg (((8 : Int32) * x52) + (4 : Int32))) ((2 : Int32) * r96)) fun M98 => (gdb (inb (((8 : Int32) * x52) + (5 : Int32)) 48) (nm (wA M98 220 (Int32.toNatClampNeg (((8 : Int32) * x52) + (5 : Int32))) r50) fun M100 => (gdb (inb (((8 : Int32) * x52) + (6 : Int32)) 48) (nm (wA M100 220 (Int32.toNatClampNeg (((8 : Int32) * x52) + (6 : Int32))) s93) fun M102 => (bd (F_L_low M102 (r46 >>> ((14 : Int32) &&& 31)) (4 : Int32)) fun r104 => (gdb (inb (((8 : Int32) * x52) + (7 : Int32)) 48) (nm (wA M102 220 (Int32.toNatClampNeg (((8 : Int32) * x52) + (7 : Int32))) r104) fun M106 => (bd (F_L_endTurn M106) fun M108 => (bd (F_L_low M108 (r46 >>> ((13 : Int32) &&& 31)) (2 : Int32)) fun r110 => (bd (F_L_low M108 (r46 >>> ((14 : Int32) &&& 31)) (4 : Int32)) fun r112 => (bd0 (F_X4_ready M108 ((2 : Int32) * r110) r50 s93 r112) fun r115 M114 => (gdb (inb (0 : Int32) 7) (if ¬ r115 = (rA M114 223 (Int32.toNatClampNeg (0 : Int32))) then (j865_54 (0 : Int32) M114) else (j865_54 (1 : Int32) M114)))))))))))))))))) fun j640_93 => (if ¬ x92 = x52 then (j640_93 x92) else (j640_93 (-1 : Int32))))))))) else (gdb (inb (((8 : Int32) * x52) + (3 : Int32)) 48) (nm (wA M43 220 (Int32.toNatClampNeg (((8 : Int32) * x52) + (3 : Int32))) (1 : Int32)) fun M120 => (bd (F_L_endTurn M120) fun M122 => (bd0 (F_X4_delay M122) fun r125 M124 => (gdb (inb (0 : Int32) 7) (if ¬ r125 = (rA M124 223 (Int32.toNatClampNeg (0 : Int32))) then (j865_54 (0 : Int32) M124) else (j865_54 (1 : Int32) M124)))))))) else (nm (fun (s128 : Int32) => (bd (F_L_low M43 (r46 >>> ((12 : Int32) &&& 31)) (4 : Int32)) fun r131 => (bd (F_L_low M43 (r46 >>> ((14 : Int32) &&& 31)) (5 : Int32)) fun r133 => (nm ((1 : Int32) + r133) fun x134 => (bd2 (F_L_can M43 x52 r48 s128) fun r137 M136 => (bd0 (F_X4_ifDone M136 r48 s128 (0 : Int32)) fun r140 M139 => (nm (fun (s141 : Int32) => (if r140 = s141 then (if r137 = 0 then (j865_54 (1 : Int32) M139) else (bd2 (F_L_act M139 r48 s128 r131 x134) fun r147 M146 => (nm (fun (s148 : Int32) (M149 : MS) => (if ¬ s148 = r147 then (j865_54 (0 : Int32) M149) else (j865_54 (1 : Int32) M149))) fun j532_149 => (if ¬ r48 = 0 then (if ¬ r48 = (1 : Int32) then (if ¬ r48 = (2 : Int32) then (bd0 (F_X4_curse M146 s128 r131 x134) fun r157 M156 => (j532_149 r157 M156)) else (bd0 (F_X4_help M146 s128) fun r160 M159 => (j532_149 r160 M159))) else (bd0 (F_X4_step M146 s128) fun r163 M162 => (j532_149 r163 M162))) else (bd0 (F_X4_strike M146 s128) fun r166 M165 => (j532_149 r166 M165)))))) else (some (0 : Int32)))) fun j448_141 => (if r137 = 0 then (j448_141 (0 : Int32)) else (j448_141 (1 : Int32)))))))))) fun j389_128 => (if ¬ r48 = (1 : Int32) then (j389_128 r50) else (bd (F_L_low M43 (r46 >>> ((8 : Int32) &&& 31)) (10 : Int32)) fun r170 => (j389_128 r170))))) else (bd0 (F_X4_count M43 (3 : Int32)) fun r173 M172 => (bd0 (F_X4_count M172 (4 : Int32)) fun r176 M175 => (if ¬ (r173 + r176) = 0 then (j865_54 (0 : Int32) M175) else (j865_54 (1 : Int32) M175))))))))))))

def F_L_law_l150 (x5 : Int32) (l7_22 : Int32) (k85 : Int32 → MS → Option Int32) : Nat → Int32 → Int32 → MS → Option Int32
  | 0, _, _, _ => none
  | n150 + 1, l8_195, l9_196, M197 => (if x5 ≤ l9_196 then (gdb (inb l8_195 6) (nm (wA M197 222 (Int32.toNatClampNeg l8_195) l7_22) fun M200 => (nm (l7_22 + (1 : Int32)) fun x201 => (k85 x201 M200)))) else (bd0 (F_X4_fighter M197 l9_196 (1 : Int32)) fun r204 M203 => (bd0 (F_X4_fighter M203 l7_22 (1 : Int32)) fun r207 M206 => (if r207 < r204 then (nm (l8_195 + (1 : Int32)) fun x209 => (nm (l9_196 + (1 : Int32)) fun x210 => (F_L_law_l150 x5 l7_22 k85 n150 x209 x210 M206))) else (if l7_22 ≤ l9_196 then (nm (l8_195 + (0 : Int32)) fun x212 => (nm (l9_196 + (1 : Int32)) fun x213 => (F_L_law_l150 x5 l7_22 k85 n150 x212 x213 M206))) else (bd0 (F_X4_fighter M206 l9_196 (1 : Int32)) fun r216 M215 => (bd0 (F_X4_fighter M215 l7_22 (1 : Int32)) fun r219 M218 => (if ¬ r216 = r219 then (nm (l8_195 + (0 : Int32)) fun x221 => (nm (l9_196 + (1 : Int32)) fun x222 => (F_L_law_l150 x5 l7_22 k85 n150 x221 x222 M218))) else (nm (l8_195 + (1 : Int32)) fun x223 => (nm (l9_196 + (1 : Int32)) fun x224 => (F_L_law_l150 x5 l7_22 k85 n150 x223 x224 M218)))))))))))

def F_L_law_l85 (xs : Nat → Int32) (L : Nat) (x5 : Int32) : Nat → Int32 → MS → Option Int32
  | 0, _, _ => none
  | n85 + 1, l7_22, M23 => (if x5 ≤ l7_22 then (bd2 (F_L_tells M23) fun r27 M26 => (if ¬ r27 = 0 then (gdb (inb (1 : Int32) 7) (nm (wA M26 223 (Int32.toNatClampNeg (1 : Int32)) (1 : Int32)) fun M30 => (bd (F_L_goOn M30 (-1 : Int32)) fun M32 => (bd2 (F_X4_begin M32) fun r34 M35 => (gdb (inb (0 : Int32) 7) (if ¬ r34 = (rA M35 223 (Int32.toNatClampNeg (0 : Int32))) then (some (0 : Int32)) else (bd2 (F_L_tells M35) fun r40 M39 => (if ¬ r40 = 0 then (F_L_law_l286 xs L x5 46 (0 : Int32) M39) else (some (0 : Int32)))))))))) else (some (0 : Int32)))) else (bd0 (F_X4_fighter M23 l7_22 (2 : Int32)) fun r180 M179 => (gdb (inb ((8 : Int32) * l7_22) 48) (nm (wA M179 220 (Int32.toNatClampNeg ((8 : Int32) * l7_22)) r180) fun M182 => (bd0 (F_X4_fighter M182 l7_22 (5 : Int32)) fun r185 M184 => (gdb (inb (((8 : Int32) * l7_22) + (1 : Int32)) 48) (nm (wA M184 220 (Int32.toNatClampNeg (((8 : Int32) * l7_22) + (1 : Int32))) r185) fun M187 => (bd0 (F_X4_fighter M187 l7_22 (1 : Int32)) fun r190 M189 => (gdb (inb (((8 : Int32) * l7_22) + (2 : Int32)) 48) (nm (wA M189 220 (Int32.toNatClampNeg (((8 : Int32) * l7_22) + (2 : Int32))) r190) fun M192 => (bd (F_L_forget M192 l7_22) fun M194 => (F_L_law_l150 x5 l7_22 (fun zz0 zz1 => F_L_law_l85 xs L x5 n85 zz0 zz1) 8 (0 : Int32) (0 : Int32) M194))))))))))))

def F_L_main (xs : Nat → Int32) (L : Nat) (M : MS) : Option Int32 := (bd (F_L_cell xs L (0 : Int32)) fun r2 => (bd (F_L_low M r2 (5 : Int32)) fun r4 => (nm ((2 : Int32) + r4) fun x5 => (gdb (inb (0 : Int32) 7) (nm (wA M 223 (Int32.toNatClampNeg (0 : Int32)) (-1 : Int32)) fun M7 => (bd2 (F_X4_begin M7) fun r9 M10 => (if ¬ r9 = (-1 : Int32) then (some (0 : Int32)) else (bd0 (F_X4_undo M10) fun r14 M13 => (if ¬ r14 = 0 then (some (0 : Int32)) else (bd2 (F_L_come xs L M13 (1 : Int32) x5) fun r18 M17 => (if ¬ r18 = 0 then (gdb (inb (5 : Int32) 7) (nm (wA M17 223 (Int32.toNatClampNeg (5 : Int32)) x5) fun M21 => (F_L_law_l85 xs L x5 8 (0 : Int32) M21))) else (some (0 : Int32)))))))))))))

set_option maxHeartbeats 16000000 in
set_option maxRecDepth 100000 in
theorem law_main {p : Program} {l : Launch} {e : Env} {s : State} {m : MethodId} {below : List Frame} {meth : Method} {c : Code} {G : GG} {B0 : Nat} {sa : Nat × Nat × Nat} {b L : Nat} {xs : Nat → Int32} (hst : l.stackTraces = false) (C0 : CX p s m meth c #[.ref b] cL_law RL 19 ret) (hX : va_X b L xs s s.heap) (hbl : b < s.heap.size) (hbA : ¬ Af G s.heap.size b) (hT : TX G B0 sa s s.heap) (hA : ∀ q, Af G s.heap.size q → s.heap.size ≤ q) (hfr224 : fr G 224) (hfr225 : fr G 225) (hfr226 : fr G 226) {M : MS} {H : Heap} {locs : List Loc} {ls : Array Slot} (hM : MX G M s H locs) (hl : lv_has ls 19 [(5, .ref (gad G 223)), (4, .ref (gad G 222)), (3, .ref (gad G 221)), (2, .ref (gad G 220)), (1, .ref (gad G 216)), (0, .ref b)]) (hF : F_L_main xs L M = some 1) : W p l e room_1 s m #[.ref b] below meth c H locs (400 + 0) (6 * (400 + 0)) (lw_Z below #[.ref b] s) (F0 m 30 ls []) := by
  rw [F_L_main] at hF
  refine lv_iconst (v := (2 : Int32)) C0.1 C0.2.1 dL_law_30 (by decide) ?_
  refine lv_aload_n C0.1 C0.2.1 dL_law_31 rfl (lv_at hl 5 rfl) ?_
  refine lv_iconst (v := (0 : Int32)) C0.1 C0.2.1 dL_law_32 (by decide) ?_
  obtain ⟨r2, h1, hF⟩ := bd_some hF
  refine z_cell (rest := [.int (2 : Int32)]) C0 hM hT hX hbl hbA hl.1 (k_L_cell l G B0 sa b L xs M (0 : Int32) h1) cw_RL_10 rfl rfl ⟨Nat.le_of_ble_eq_true rfl, Nat.le_of_ble_eq_true rfl⟩ rfl (Nat.le_of_ble_eq_true rfl) ⟨by show _ ≤ 664594; omega, by show _ ≤ 7107842; omega⟩ (400 + 0) (6 * (400 + 0)) (by omega) (by omega) dL_law_33 (fun H locs hM => ?_)
  refine lv_iconst (v := (5 : Int32)) C0.1 C0.2.1 dL_law_36 (by decide) ?_
  obtain ⟨r4, h3, hF⟩ := bd_some hF
  refine y_si (rest := [.int (2 : Int32)]) C0 hM hl.1 (k_L_low l G M r2 (5 : Int32) h3) cw_RL_16 rfl rfl ⟨Nat.le_of_ble_eq_true rfl, Nat.le_of_ble_eq_true rfl⟩ rfl (Nat.le_of_ble_eq_true rfl) ⟨by show _ ≤ 664594; omega, by show _ ≤ 7107842; omega⟩ dL_law_37 (fun H locs hM => ?_)
  refine lv_iadd C0.1 C0.2.1 dL_law_40 ?_
  obtain ⟨x5, ex5, hF⟩ := nm_some hF
  refine y_topi ex5 ?_
  refine lv_istore (lv' := [(6, .int x5), (5, .ref (gad G 223)), (4, .ref (gad G 222)), (3, .ref (gad G 221)), (2, .ref (gad G 220)), (1, .ref (gad G 216)), (0, .ref b)]) C0.1 C0.2.1 dL_law_41 hl (by decide) rfl (fun ls hl => ?_)
  refine lv_aload C0.1 C0.2.1 dL_law_43 (lv_at hl 1 rfl) ?_
  refine lv_iconst (v := (0 : Int32)) C0.1 C0.2.1 dL_law_45 (by decide) ?_
  refine lv_iconst (v := (-1 : Int32)) C0.1 C0.2.1 dL_law_46 (by decide) ?_
  obtain ⟨g6, hF⟩ := gdb_some hF
  refine y_iast C0 hM oka_t g6 dL_law_47 (fun H locs hM => ?_)
  obtain ⟨M7, eM7, hF⟩ := nm_some hF
  have hM := y_mn eM7 hM
  refine lv_aload_n C0.1 C0.2.1 dL_law_48 rfl (lv_at hl 5 rfl) ?_
  obtain ⟨r9, M10, h8, hF⟩ := bd2_some hF
  refine y_vi (rest := []) C0 hM hl.1 ok_tt (ent4 ok_tt) rfl (k_X4_begin l G M7 h8) cw_RL_80 rfl rfl ⟨Nat.le_of_ble_eq_true rfl, Nat.le_of_ble_eq_true rfl⟩ rfl (Nat.le_of_ble_eq_true rfl) ⟨by show _ ≤ 664594; omega, by show _ ≤ 7107842; omega⟩ dL_law_49 (fun H locs hM => ?_)
  refine lv_iconst (v := (-1 : Int32)) C0.1 C0.2.1 dL_law_52 (by decide) ?_
  refine lv_icmp_ne (tgt := 74) C0.1 C0.2.1 dL_law_53 (by decide) (fun c11 => ?_) (fun c11 => ?_)
  · have hF := if_t c11 hF
    refine lv_iconst (v := (0 : Int32)) C0.1 C0.2.1 dL_law_74 (by decide) ?_
    exact absurd (y_1 hF) (by decide)
  · have hF := if_f (fun q => q c11) hF
    refine lv_aload_n C0.1 C0.2.1 dL_law_56 rfl (lv_at hl 5 rfl) ?_
    obtain ⟨r14, M13, h12, hF⟩ := bd0_some hF
    refine z_vi (rest := []) (400 + 4) (6 * (400 + 4)) C0 hM hT hl.1 (k_X4_undo l hst G B0 sa M10 h12) cw_RL_84 rfl rfl ⟨Nat.le_of_ble_eq_true rfl, Nat.le_of_ble_eq_true rfl⟩ rfl (Nat.le_of_ble_eq_true rfl) ⟨by show _ ≤ 664594; omega, by show _ ≤ 7107842; omega⟩ (by omega) (by omega) dL_law_57 (fun H locs hM => ?_)
    refine lv_if_ne (tgt := 74) C0.1 C0.2.1 dL_law_60 (by decide) (fun c15 => ?_) (fun c15 => ?_)
    · have hF := if_t c15 hF
      refine lv_iconst (v := (0 : Int32)) C0.1 C0.2.1 dL_law_74 (by decide) ?_
      exact absurd (y_1 hF) (by decide)
    · have hF := if_f (fun q => q c15) hF
      refine lv_aload_n C0.1 C0.2.1 dL_law_63 rfl (lv_at hl 5 rfl) ?_
      refine lv_aload_n C0.1 C0.2.1 dL_law_64 rfl (lv_at hl 6 rfl) ?_
      refine lv_iconst (v := (1 : Int32)) C0.1 C0.2.1 dL_law_65 (by decide) ?_
      refine lv_iload C0.1 C0.2.1 dL_law_66 (lv_at hl 0 rfl) ?_
      obtain ⟨r18, M17, h16, hF⟩ := bd2_some hF
      refine z_cell (rest := []) C0 hM hT hX hbl hbA hl.1 (k_L_come l hst G B0 sa b L xs M13 (1 : Int32) x5 h16) cw_RL_87 rfl rfl ⟨Nat.le_of_ble_eq_true rfl, Nat.le_of_ble_eq_true rfl⟩ rfl (Nat.le_of_ble_eq_true rfl) ⟨by show _ ≤ 664594; omega, by show _ ≤ 7107842; omega⟩ (400 + 324) (6 * (400 + 324)) (by omega) (by omega) dL_law_68 (fun H locs hM => ?_)
      refine lv_if_ne (tgt := 76) C0.1 C0.2.1 dL_law_71 (by decide) (fun c19 => ?_) (fun c19 => ?_)
      · have hF := if_t c19 hF
        refine lv_aload C0.1 C0.2.1 dL_law_76 (lv_at hl 1 rfl) ?_
        refine lv_iconst (v := (5 : Int32)) C0.1 C0.2.1 dL_law_78 (by decide) ?_
        refine lv_iload C0.1 C0.2.1 dL_law_79 (lv_at hl 0 rfl) ?_
        obtain ⟨g20, hF⟩ := gdb_some hF
        refine y_iast C0 hM oka_t g20 dL_law_81 (fun H locs hM => ?_)
        obtain ⟨M21, eM21, hF⟩ := nm_some hF
        have hM := y_mn eM21 hM
        refine lv_iconst (v := (0 : Int32)) C0.1 C0.2.1 dL_law_82 (by decide) ?_
        refine lv_istore (lv' := [(7, .int (0 : Int32)), (6, .int x5), (5, .ref (gad G 223)), (4, .ref (gad G 222)), (3, .ref (gad G 221)), (2, .ref (gad G 220)), (1, .ref (gad G 216)), (0, .ref b)]) C0.1 C0.2.1 dL_law_83 hl (by decide) rfl (fun ls hl => ?_)
        have L85 : ∀ (n : Nat) (l7_22 : Int32) (M23 : MS) (H : Heap) (locs : List Loc) (ls : Array Slot), n ≤ 8 → MX G M23 s H locs → lv_has ls 19 [(0, .ref b), (1, .ref (gad G 216)), (2, .ref (gad G 220)), (3, .ref (gad G 221)), (4, .ref (gad G 222)), (5, .ref (gad G 223)), (6, .int x5), (7, .int l7_22)] → F_L_law_l85 xs L x5 n l7_22 M23 = some 1 → W p l e room_1 s m #[.ref b] below meth c H locs (400 + 324 + 140 * (8 - n) + 0) (6 * (400 + 324 + 140 * (8 - n) + 0)) (lw_Z below #[.ref b] s) (F0 m 85 ls []) := by
          intro n
          induction n with
          | zero => intro l7_22 M23 H locs ls hn85 hM hl hF; rw [F_L_law_l85] at hF; cases hF
          | succ n85 ih85 =>
            intro l7_22 M23 H locs ls hn85 hM hl hF
            rw [F_L_law_l85] at hF
            refine lv_iload C0.1 C0.2.1 dL_law_85 (lv_at hl 7 rfl) ?_
            refine lv_iload C0.1 C0.2.1 dL_law_87 (lv_at hl 6 rfl) ?_
            refine lv_icmp_ge (tgt := 227) C0.1 C0.2.1 dL_law_89 (by decide) (fun c24 => ?_) (fun c24 => ?_)
            · have hF := if_t c24 hF
              refine lv_aload_n C0.1 C0.2.1 dL_law_227 rfl (lv_at hl 1 rfl) ?_
              refine lv_aload_n C0.1 C0.2.1 dL_law_228 rfl (lv_at hl 2 rfl) ?_
              refine lv_aload_n C0.1 C0.2.1 dL_law_229 rfl (lv_at hl 3 rfl) ?_
              refine lv_aload C0.1 C0.2.1 dL_law_230 (lv_at hl 4 rfl) ?_
              refine lv_aload C0.1 C0.2.1 dL_law_232 (lv_at hl 5 rfl) ?_
              obtain ⟨r27, M26, h25, hF⟩ := bd2_some hF
              refine z_si (rest := []) (400 + 324 + 140 * (8 - (n85 + 1)) + 817) (6 * (400 + 324 + 140 * (8 - (n85 + 1)) + 817)) C0 hM hT hl.1 (k_L_tells l hst G B0 sa M23 h25 hfr226) cw_RL_90 rfl rfl ⟨Nat.le_of_ble_eq_true rfl, Nat.le_of_ble_eq_true rfl⟩ rfl (Nat.le_of_ble_eq_true rfl) ⟨by show _ ≤ 664594; omega, by show _ ≤ 7107842; omega⟩ (by omega) (by omega) dL_law_234 (fun H locs hM => ?_)
              refine lv_if_ne (tgt := 242) C0.1 C0.2.1 dL_law_237 (by decide) (fun c28 => ?_) (fun c28 => ?_)
              · have hF := if_t c28 hF
                refine lv_aload C0.1 C0.2.1 dL_law_242 (lv_at hl 5 rfl) ?_
                refine lv_iconst (v := (1 : Int32)) C0.1 C0.2.1 dL_law_244 (by decide) ?_
                refine lv_iconst (v := (1 : Int32)) C0.1 C0.2.1 dL_law_245 (by decide) ?_
                obtain ⟨g29, hF⟩ := gdb_some hF
                refine y_iast C0 hM oka_t g29 dL_law_246 (fun H locs hM => ?_)
                obtain ⟨M30, eM30, hF⟩ := nm_some hF
                have hM := y_mn eM30 hM
                refine lv_aload_n C0.1 C0.2.1 dL_law_247 rfl (lv_at hl 2 rfl) ?_
                refine lv_aload_n C0.1 C0.2.1 dL_law_248 rfl (lv_at hl 3 rfl) ?_
                refine lv_aload C0.1 C0.2.1 dL_law_249 (lv_at hl 4 rfl) ?_
                refine lv_aload C0.1 C0.2.1 dL_law_251 (lv_at hl 5 rfl) ?_
                refine lv_iconst (v := (-1 : Int32)) C0.1 C0.2.1 dL_law_253 (by decide) ?_
                obtain ⟨M32, h31, hF⟩ := bd_some hF
                refine y_sv (rest := []) C0 hM hl.1 (k_L_goOn l G M30 (-1 : Int32) h31) cw_RL_50 rfl rfl ⟨Nat.le_of_ble_eq_true rfl, Nat.le_of_ble_eq_true rfl⟩ rfl (Nat.le_of_ble_eq_true rfl) ⟨by show _ ≤ 664594; omega, by show _ ≤ 7107842; omega⟩ dL_law_254 (fun H locs hM => ?_)
                refine lv_aload_n C0.1 C0.2.1 dL_law_257 rfl (lv_at hl 1 rfl) ?_
                obtain ⟨r34, M35, h33, hF⟩ := bd2_some hF
                refine y_vi (rest := []) C0 hM hl.1 ok_tt (ent4 ok_tt) rfl (k_X4_begin l G M32 h33) cw_RL_80 rfl rfl ⟨Nat.le_of_ble_eq_true rfl, Nat.le_of_ble_eq_true rfl⟩ rfl (Nat.le_of_ble_eq_true rfl) ⟨by show _ ≤ 664594; omega, by show _ ≤ 7107842; omega⟩ dL_law_258 (fun H locs hM => ?_)
                refine lv_aload C0.1 C0.2.1 dL_law_261 (lv_at hl 5 rfl) ?_
                refine lv_iconst (v := (0 : Int32)) C0.1 C0.2.1 dL_law_263 (by decide) ?_
                obtain ⟨g36, hF⟩ := gdb_some hF
                refine y_iald C0 hM oka_t g36 dL_law_264 ?_
                refine lv_icmp_ne (tgt := 281) C0.1 C0.2.1 dL_law_265 (by decide) (fun c37 => ?_) (fun c37 => ?_)
                · have hF := if_t c37 hF
                  refine lv_iconst (v := (0 : Int32)) C0.1 C0.2.1 dL_law_281 (by decide) ?_
                  exact absurd (y_1 hF) (by decide)
                · have hF := if_f (fun q => q c37) hF
                  refine lv_aload_n C0.1 C0.2.1 dL_law_268 rfl (lv_at hl 1 rfl) ?_
                  refine lv_aload_n C0.1 C0.2.1 dL_law_269 rfl (lv_at hl 2 rfl) ?_
                  refine lv_aload_n C0.1 C0.2.1 dL_law_270 rfl (lv_at hl 3 rfl) ?_
                  refine lv_aload C0.1 C0.2.1 dL_law_271 (lv_at hl 4 rfl) ?_
                  refine lv_aload C0.1 C0.2.1 dL_law_273 (lv_at hl 5 rfl) ?_
                  obtain ⟨r40, M39, h38, hF⟩ := bd2_some hF
                  refine z_si (rest := []) (400 + 324 + 140 * (8 - (n85 + 1)) + 1634) (6 * (400 + 324 + 140 * (8 - (n85 + 1)) + 1634)) C0 hM hT hl.1 (k_L_tells l hst G B0 sa M35 h38 hfr226) cw_RL_90 rfl rfl ⟨Nat.le_of_ble_eq_true rfl, Nat.le_of_ble_eq_true rfl⟩ rfl (Nat.le_of_ble_eq_true rfl) ⟨by show _ ≤ 664594; omega, by show _ ≤ 7107842; omega⟩ (by omega) (by omega) dL_law_275 (fun H locs hM => ?_)
                  refine lv_if_ne (tgt := 283) C0.1 C0.2.1 dL_law_278 (by decide) (fun c41 => ?_) (fun c41 => ?_)
                  · have hF := if_t c41 hF
                    refine lv_iconst (v := (0 : Int32)) C0.1 C0.2.1 dL_law_283 (by decide) ?_
                    refine lv_istore (lv' := [(7, .int (0 : Int32)), (0, .ref b), (1, .ref (gad G 216)), (2, .ref (gad G 220)), (3, .ref (gad G 221)), (4, .ref (gad G 222)), (5, .ref (gad G 223)), (6, .int x5)]) C0.1 C0.2.1 dL_law_284 hl (by decide) rfl (fun ls hl => ?_)
                    have L286 : ∀ (n : Nat) (l7_42 : Int32) (M43 : MS) (H : Heap) (locs : List Loc) (ls : Array Slot), n ≤ 46 → MX G M43 s H locs → lv_has ls 19 [(0, .ref b), (1, .ref (gad G 216)), (2, .ref (gad G 220)), (3, .ref (gad G 221)), (4, .ref (gad G 222)), (5, .ref (gad G 223)), (6, .int x5), (7, .int l7_42)] → F_L_law_l286 xs L x5 n l7_42 M43 = some 1 → W p l e room_1 s m #[.ref b] below meth c H locs (400 + 324 + 140 * (8 - (n85 + 1)) + 1634 + 1087 * (46 - n) + 0) (6 * (400 + 324 + 140 * (8 - (n85 + 1)) + 1634 + 1087 * (46 - n) + 0)) (lw_Z below #[.ref b] s) (F0 m 286 ls []) := by
                      intro n
                      induction n with
                      | zero => intro l7_42 M43 H locs ls hn286 hM hl hF; rw [F_L_law_l286] at hF; cases hF
                      | succ n286 ih286 =>
                        intro l7_42 M43 H locs ls hn286 hM hl hF
                        rw [F_L_law_l286] at hF
                        refine lv_iload C0.1 C0.2.1 dL_law_286 (lv_at hl 7 rfl) ?_
                        refine lv_bipush (v := (45 : Int32)) C0.1 C0.2.1 dL_law_288 (by decide) ?_
                        refine lv_icmp_ge (tgt := 891) C0.1 C0.2.1 dL_law_290 (by decide) (fun c44 => ?_) (fun c44 => ?_)
                        · have hF := if_t c44 hF
                          refine lv_iconst (v := (1 : Int32)) C0.1 C0.2.1 dL_law_891 (by decide) ?_
                          refine W.widen (k := 664594) (n := 7107842) (by omega) (by omega) ?_
                          exact l_end C0 hM hA dL_law_892
                        · have hF := if_f c44 hF
                          refine lv_aload_n C0.1 C0.2.1 dL_law_293 rfl (lv_at hl 0 rfl) ?_
                          refine lv_bipush (v := (8 : Int32)) C0.1 C0.2.1 dL_law_294 (by decide) ?_
                          refine lv_iload C0.1 C0.2.1 dL_law_296 (lv_at hl 7 rfl) ?_
                          refine lv_iadd C0.1 C0.2.1 dL_law_298 ?_
                          obtain ⟨r46, h45, hF⟩ := bd_some hF
                          refine z_cell (rest := []) C0 hM hT hX hbl hbA hl.1 (k_L_cell l G B0 sa b L xs M43 ((8 : Int32) + l7_42) h45) cw_RL_10 rfl rfl ⟨Nat.le_of_ble_eq_true rfl, Nat.le_of_ble_eq_true rfl⟩ rfl (Nat.le_of_ble_eq_true rfl) ⟨by show _ ≤ 664594; omega, by show _ ≤ 7107842; omega⟩ (400 + 324 + 140 * (8 - (n85 + 1)) + 1634 + 1087 * (46 - (n286 + 1)) + 0) (6 * (400 + 324 + 140 * (8 - (n85 + 1)) + 1634 + 1087 * (46 - (n286 + 1)) + 0)) (by omega) (by omega) dL_law_299 (fun H locs hM => ?_)
                          refine lv_istore (lv' := [(8, .int r46), (0, .ref b), (1, .ref (gad G 216)), (2, .ref (gad G 220)), (3, .ref (gad G 221)), (4, .ref (gad G 222)), (5, .ref (gad G 223)), (6, .int x5), (7, .int l7_42)]) C0.1 C0.2.1 dL_law_302 hl (by decide) rfl (fun ls hl => ?_)
                          refine lv_iload C0.1 C0.2.1 dL_law_304 (lv_at hl 0 rfl) ?_
                          refine lv_bipush (v := (9 : Int32)) C0.1 C0.2.1 dL_law_306 (by decide) ?_
                          obtain ⟨r48, h47, hF⟩ := bd_some hF
                          refine y_si (rest := []) C0 hM hl.1 (k_L_low l G M43 r46 (9 : Int32) h47) cw_RL_16 rfl rfl ⟨Nat.le_of_ble_eq_true rfl, Nat.le_of_ble_eq_true rfl⟩ rfl (Nat.le_of_ble_eq_true rfl) ⟨by show _ ≤ 664594; omega, by show _ ≤ 7107842; omega⟩ dL_law_308 (fun H locs hM => ?_)
                          refine lv_istore (lv' := [(9, .int r48), (8, .int r46), (0, .ref b), (1, .ref (gad G 216)), (2, .ref (gad G 220)), (3, .ref (gad G 221)), (4, .ref (gad G 222)), (5, .ref (gad G 223)), (6, .int x5), (7, .int l7_42)]) C0.1 C0.2.1 dL_law_311 hl (by decide) rfl (fun ls hl => ?_)
                          refine lv_iload C0.1 C0.2.1 dL_law_313 (lv_at hl 1 rfl) ?_
                          refine lv_iconst (v := (4 : Int32)) C0.1 C0.2.1 dL_law_315 (by decide) ?_
                          refine lv_ishr C0.1 C0.2.1 dL_law_316 ?_
                          refine lv_iload C0.1 C0.2.1 dL_law_317 (lv_at hl 8 rfl) ?_
                          obtain ⟨r50, h49, hF⟩ := bd_some hF
                          refine y_si (rest := []) C0 hM hl.1 (k_L_low l G M43 (r46 >>> ((4 : Int32) &&& 31)) x5 h49) cw_RL_16 rfl rfl ⟨Nat.le_of_ble_eq_true rfl, Nat.le_of_ble_eq_true rfl⟩ rfl (Nat.le_of_ble_eq_true rfl) ⟨by show _ ≤ 664594; omega, by show _ ≤ 7107842; omega⟩ dL_law_319 (fun H locs hM => ?_)
                          refine lv_istore (lv' := [(10, .int r50), (9, .int r48), (8, .int r46), (0, .ref b), (1, .ref (gad G 216)), (2, .ref (gad G 220)), (3, .ref (gad G 221)), (4, .ref (gad G 222)), (5, .ref (gad G 223)), (6, .int x5), (7, .int l7_42)]) C0.1 C0.2.1 dL_law_322 hl (by decide) rfl (fun ls hl => ?_)
                          refine lv_aload C0.1 C0.2.1 dL_law_324 (lv_at hl 8 rfl) ?_
                          refine lv_iconst (v := (0 : Int32)) C0.1 C0.2.1 dL_law_326 (by decide) ?_
                          obtain ⟨g51, hF⟩ := gdb_some hF
                          refine y_iald C0 hM oka_t g51 dL_law_327 ?_
                          obtain ⟨x52, ex52, hF⟩ := nm_some hF
                          refine y_topi ex52 ?_
                          refine lv_istore (lv' := [(11, .int x52), (10, .int r50), (9, .int r48), (8, .int r46), (0, .ref b), (1, .ref (gad G 216)), (2, .ref (gad G 220)), (3, .ref (gad G 221)), (4, .ref (gad G 222)), (5, .ref (gad G 223)), (6, .int x5), (7, .int l7_42)]) C0.1 C0.2.1 dL_law_328 hl (by decide) rfl (fun ls hl => ?_)
                          refine lv_iconst (v := (1 : Int32)) C0.1 C0.2.1 dL_law_330 (by decide) ?_
                          refine lv_istore (lv' := [(12, .int (1 : Int32)), (11, .int x52), (10, .int r50), (9, .int r48), (8, .int r46), (0, .ref b), (1, .ref (gad G 216)), (2, .ref (gad G 220)), (3, .ref (gad G 221)), (4, .ref (gad G 222)), (5, .ref (gad G 223)), (6, .int x5), (7, .int l7_42)]) C0.1 C0.2.1 dL_law_331 hl (by decide) rfl (fun ls hl => ?_)
                          refine lv_iload C0.1 C0.2.1 dL_law_333 (lv_at hl 1 rfl) ?_
                          obtain ⟨j865_54, ej865_54, hF⟩ := nm_some hF
                          have J865 : ∀ (l12_53 : Int32) (M54 : MS) (H : Heap) (locs : List Loc) (ls : Array Slot), MX G M54 s H locs → lv_has ls 19 [(0, .ref b), (1, .ref (gad G 216)), (2, .ref (gad G 220)), (3, .ref (gad G 221)), (4, .ref (gad G 222)), (5, .ref (gad G 223)), (6, .int x5), (7, .int l7_42), (8, .int r46), (9, .int r48), (10, .int r50), (11, .int x52), (12, .int l12_53)] → j865_54 l12_53 M54 = some 1 → W p l e room_1 s m #[.ref b] below meth c H locs (400 + 324 + 140 * (8 - (n85 + 1)) + 1634 + 1087 * (46 - (n286 + 1)) + 270) (6 * (400 + 324 + 140 * (8 - (n85 + 1)) + 1634 + 1087 * (46 - (n286 + 1)) + 270)) (lw_Z below #[.ref b] s) (F0 m 865 ls []) := by
                            intro l12_53 M54 H locs ls hM hl hF
                            rw [ej865_54] at hF
                            refine lv_iload C0.1 C0.2.1 dL_law_865 (lv_at hl 12 rfl) ?_
                            refine lv_if_eq (tgt := 883) C0.1 C0.2.1 dL_law_867 (by decide) (fun c56 => ?_) (fun c56 => ?_)
                            · have hF := if_t c56 hF
                              refine lv_iconst (v := (0 : Int32)) C0.1 C0.2.1 dL_law_883 (by decide) ?_
                              exact absurd (y_1 hF) (by decide)
                            · have hF := if_f c56 hF
                              refine lv_aload_n C0.1 C0.2.1 dL_law_870 rfl (lv_at hl 1 rfl) ?_
                              refine lv_aload_n C0.1 C0.2.1 dL_law_871 rfl (lv_at hl 2 rfl) ?_
                              refine lv_aload_n C0.1 C0.2.1 dL_law_872 rfl (lv_at hl 3 rfl) ?_
                              refine lv_aload C0.1 C0.2.1 dL_law_873 (lv_at hl 4 rfl) ?_
                              refine lv_aload C0.1 C0.2.1 dL_law_875 (lv_at hl 5 rfl) ?_
                              obtain ⟨r59, M58, h57, hF⟩ := bd2_some hF
                              refine z_si (rest := []) (400 + 324 + 140 * (8 - (n85 + 1)) + 1634 + 1087 * (46 - (n286 + 1)) + 1087) (6 * (400 + 324 + 140 * (8 - (n85 + 1)) + 1634 + 1087 * (46 - (n286 + 1)) + 1087)) C0 hM hT hl.1 (k_L_tells l hst G B0 sa M54 h57 hfr226) cw_RL_90 rfl rfl ⟨Nat.le_of_ble_eq_true rfl, Nat.le_of_ble_eq_true rfl⟩ rfl (Nat.le_of_ble_eq_true rfl) ⟨by show _ ≤ 664594; omega, by show _ ≤ 7107842; omega⟩ (by omega) (by omega) dL_law_877 (fun H locs hM => ?_)
                              refine lv_if_ne (tgt := 885) C0.1 C0.2.1 dL_law_880 (by decide) (fun c60 => ?_) (fun c60 => ?_)
                              · have hF := if_t c60 hF
                                obtain ⟨x61, ex61, hF⟩ := nm_some hF
                                refine lv_iinc (v := x61) (lv' := [(7, .int x61), (0, .ref b), (1, .ref (gad G 216)), (2, .ref (gad G 220)), (3, .ref (gad G 221)), (4, .ref (gad G 222)), (5, .ref (gad G 223)), (6, .int x5), (8, .int r46), (9, .int r48), (10, .int r50), (11, .int x52), (12, .int l12_53)]) C0.1 C0.2.1 dL_law_885 hl (k := 7) rfl (by rw [ex61]; rfl) (by decide) rfl (fun ls hl => ?_)
                                refine lv_goto (tgt := 286) C0.1 C0.2.1 dL_law_888 (by decide) ?_
                                refine W.widen (k := 400 + 324 + 140 * (8 - (n85 + 1)) + 1634 + 1087 * (46 - n286) + 0) (n := 6 * (400 + 324 + 140 * (8 - (n85 + 1)) + 1634 + 1087 * (46 - n286) + 0)) (by omega) (by omega) ?_
                                exact ih286 x61 M58 _ _ _ (by omega) hM (lv_sub hl [1, 2, 3, 4, 5, 6, 7, 0] rfl) hF
                              · have hF := if_f (fun q => q c60) hF
                                refine lv_iconst (v := (0 : Int32)) C0.1 C0.2.1 dL_law_883 (by decide) ?_
                                exact absurd (y_1 hF) (by decide)
                          refine lv_if_ge (tgt := 362) C0.1 C0.2.1 dL_law_335 (by decide) (fun c62 => ?_) (fun c62 => ?_)
                          · have hF := if_t c62 hF
                            refine lv_iload C0.1 C0.2.1 dL_law_362 (lv_at hl 3 rfl) ?_
                            refine lv_iconst (v := (4 : Int32)) C0.1 C0.2.1 dL_law_364 (by decide) ?_
                            refine lv_icmp_ge (tgt := 551) C0.1 C0.2.1 dL_law_365 (by decide) (fun c63 => ?_) (fun c63 => ?_)
                            · have hF := if_t c63 hF
                              refine lv_iload C0.1 C0.2.1 dL_law_551 (lv_at hl 3 rfl) ?_
                              refine lv_iconst (v := (4 : Int32)) C0.1 C0.2.1 dL_law_553 (by decide) ?_
                              refine lv_icmp_ne (tgt := 597) C0.1 C0.2.1 dL_law_554 (by decide) (fun c64 => ?_) (fun c64 => ?_)
                              · have hF := if_t c64 hF
                                refine lv_iload C0.1 C0.2.1 dL_law_597 (lv_at hl 3 rfl) ?_
                                refine lv_bipush (v := (7 : Int32)) C0.1 C0.2.1 dL_law_599 (by decide) ?_
                                obtain ⟨j758_64, ej758_64, hF⟩ := nm_some hF
                                have J758 : ∀ (H : Heap) (locs : List Loc) (ls : Array Slot), MX G M43 s H locs → lv_has ls 19 [(0, .ref b), (1, .ref (gad G 216)), (2, .ref (gad G 220)), (3, .ref (gad G 221)), (4, .ref (gad G 222)), (5, .ref (gad G 223)), (6, .int x5), (7, .int l7_42), (8, .int r46), (9, .int r48), (10, .int r50), (11, .int x52), (12, .int (1 : Int32))] → j758_64 = some 1 → W p l e room_1 s m #[.ref b] below meth c H locs (400 + 324 + 140 * (8 - (n85 + 1)) + 1634 + 1087 * (46 - (n286 + 1)) + 0) (6 * (400 + 324 + 140 * (8 - (n85 + 1)) + 1634 + 1087 * (46 - (n286 + 1)) + 0)) (lw_Z below #[.ref b] s) (F0 m 758 ls []) := by
                                  intro H locs ls hM hl hF
                                  rw [ej758_64] at hF
                                  refine lv_iload C0.1 C0.2.1 dL_law_758 (lv_at hl 9 rfl) ?_
                                  refine lv_bipush (v := (7 : Int32)) C0.1 C0.2.1 dL_law_760 (by decide) ?_
                                  refine lv_icmp_ne (tgt := 838) C0.1 C0.2.1 dL_law_762 (by decide) (fun c66 => ?_) (fun c66 => ?_)
                                  · have hF := if_t c66 hF
                                    refine lv_aload_n C0.1 C0.2.1 dL_law_838 rfl (lv_at hl 2 rfl) ?_
                                    refine lv_aload_n C0.1 C0.2.1 dL_law_839 rfl (lv_at hl 3 rfl) ?_
                                    refine lv_aload C0.1 C0.2.1 dL_law_840 (lv_at hl 4 rfl) ?_
                                    refine lv_aload C0.1 C0.2.1 dL_law_842 (lv_at hl 5 rfl) ?_
                                    obtain ⟨M68, h67, hF⟩ := bd_some hF
                                    refine y_sv (rest := []) C0 hM hl.1 (k_L_endTurn l G M43 h67) cw_RL_66 rfl rfl ⟨Nat.le_of_ble_eq_true rfl, Nat.le_of_ble_eq_true rfl⟩ rfl (Nat.le_of_ble_eq_true rfl) ⟨by show _ ≤ 664594; omega, by show _ ≤ 7107842; omega⟩ dL_law_844 (fun H locs hM => ?_)
                                    refine lv_aload_n C0.1 C0.2.1 dL_law_847 rfl (lv_at hl 1 rfl) ?_
                                    obtain ⟨r71, M70, h69, hF⟩ := bd0_some hF
                                    refine z_vi (rest := []) (400 + 324 + 140 * (8 - (n85 + 1)) + 1634 + 1087 * (46 - (n286 + 1)) + 4) (6 * (400 + 324 + 140 * (8 - (n85 + 1)) + 1634 + 1087 * (46 - (n286 + 1)) + 4)) C0 hM hT hl.1 (k_X4_end l hst G B0 sa M68 h69) cw_RL_123 rfl rfl ⟨Nat.le_of_ble_eq_true rfl, Nat.le_of_ble_eq_true rfl⟩ rfl (Nat.le_of_ble_eq_true rfl) ⟨by show _ ≤ 664594; omega, by show _ ≤ 7107842; omega⟩ (by omega) (by omega) dL_law_848 (fun H locs hM => ?_)
                                    refine lv_aload C0.1 C0.2.1 dL_law_851 (lv_at hl 5 rfl) ?_
                                    refine lv_iconst (v := (0 : Int32)) C0.1 C0.2.1 dL_law_853 (by decide) ?_
                                    obtain ⟨g72, hF⟩ := gdb_some hF
                                    refine y_iald C0 hM oka_t g72 dL_law_854 ?_
                                    refine lv_icmp_ne (tgt := 862) C0.1 C0.2.1 dL_law_855 (by decide) (fun c73 => ?_) (fun c73 => ?_)
                                    · have hF := if_t c73 hF
                                      refine lv_iconst (v := (0 : Int32)) C0.1 C0.2.1 dL_law_862 (by decide) ?_
                                      refine lv_istore (lv' := [(12, .int (0 : Int32)), (0, .ref b), (1, .ref (gad G 216)), (2, .ref (gad G 220)), (3, .ref (gad G 221)), (4, .ref (gad G 222)), (5, .ref (gad G 223)), (6, .int x5), (7, .int l7_42), (8, .int r46), (9, .int r48), (10, .int r50), (11, .int x52)]) C0.1 C0.2.1 dL_law_863 hl (by decide) rfl (fun ls hl => ?_)
                                      refine W.widen (k := 400 + 324 + 140 * (8 - (n85 + 1)) + 1634 + 1087 * (46 - (n286 + 1)) + 270) (n := 6 * (400 + 324 + 140 * (8 - (n85 + 1)) + 1634 + 1087 * (46 - (n286 + 1)) + 270)) (by omega) (by omega) ?_
                                      exact J865 (0 : Int32) M70 _ _ _ hM (lv_sub hl [1, 2, 3, 4, 5, 6, 7, 8, 9, 10, 11, 12, 0] rfl) hF
                                    · have hF := if_f (fun q => q c73) hF
                                      refine lv_iconst (v := (1 : Int32)) C0.1 C0.2.1 dL_law_858 (by decide) ?_
                                      refine lv_goto (tgt := 863) C0.1 C0.2.1 dL_law_859 (by decide) ?_
                                      refine lv_istore (lv' := [(12, .int (1 : Int32)), (0, .ref b), (1, .ref (gad G 216)), (2, .ref (gad G 220)), (3, .ref (gad G 221)), (4, .ref (gad G 222)), (5, .ref (gad G 223)), (6, .int x5), (7, .int l7_42), (8, .int r46), (9, .int r48), (10, .int r50), (11, .int x52)]) C0.1 C0.2.1 dL_law_863 hl (by decide) rfl (fun ls hl => ?_)
                                      refine W.widen (k := 400 + 324 + 140 * (8 - (n85 + 1)) + 1634 + 1087 * (46 - (n286 + 1)) + 270) (n := 6 * (400 + 324 + 140 * (8 - (n85 + 1)) + 1634 + 1087 * (46 - (n286 + 1)) + 270)) (by omega) (by omega) ?_
                                      exact J865 (1 : Int32) M70 _ _ _ hM (lv_sub hl [1, 2, 3, 4, 5, 6, 7, 8, 9, 10, 11, 12, 0] rfl) hF
                                  · have hF := if_f (fun q => q c66) hF
                                    refine lv_aload_n C0.1 C0.2.1 dL_law_765 rfl (lv_at hl 2 rfl) ?_
                                    refine lv_iload C0.1 C0.2.1 dL_law_766 (lv_at hl 10 rfl) ?_
                                    obtain ⟨r75, h74, hF⟩ := bd_some hF
                                    refine y_si (rest := []) C0 hM hl.1 (k_L_lives l G M43 r50 h74) cw_RL_36 rfl rfl ⟨Nat.le_of_ble_eq_true rfl, Nat.le_of_ble_eq_true rfl⟩ rfl (Nat.le_of_ble_eq_true rfl) ⟨by show _ ≤ 664594; omega, by show _ ≤ 7107842; omega⟩ dL_law_768 (fun H locs hM => ?_)
                                    refine lv_if_eq (tgt := 865) C0.1 C0.2.1 dL_law_771 (by decide) (fun c76 => ?_) (fun c76 => ?_)
                                    · have hF := if_t c76 hF
                                      refine W.widen (k := 400 + 324 + 140 * (8 - (n85 + 1)) + 1634 + 1087 * (46 - (n286 + 1)) + 270) (n := 6 * (400 + 324 + 140 * (8 - (n85 + 1)) + 1634 + 1087 * (46 - (n286 + 1)) + 270)) (by omega) (by omega) ?_
                                      exact J865 (1 : Int32) M43 _ _ _ hM (lv_sub hl [0, 1, 2, 3, 4, 5, 6, 7, 8, 9, 10, 11, 12] rfl) hF
                                    · have hF := if_f c76 hF
                                      refine lv_aload_n C0.1 C0.2.1 dL_law_774 rfl (lv_at hl 2 rfl) ?_
                                      refine lv_bipush (v := (8 : Int32)) C0.1 C0.2.1 dL_law_775 (by decide) ?_
                                      refine lv_iload C0.1 C0.2.1 dL_law_777 (lv_at hl 10 rfl) ?_
                                      refine lv_imul C0.1 C0.2.1 dL_law_779 ?_
                                      refine lv_iconst (v := (3 : Int32)) C0.1 C0.2.1 dL_law_780 (by decide) ?_
                                      refine lv_iadd C0.1 C0.2.1 dL_law_781 ?_
                                      obtain ⟨g77, hF⟩ := gdb_some hF
                                      refine y_iald C0 hM oka_a g77 dL_law_782 ?_
                                      refine lv_iconst (v := (1 : Int32)) C0.1 C0.2.1 dL_law_783 (by decide) ?_
                                      refine lv_icmp_ne (tgt := 865) C0.1 C0.2.1 dL_law_784 (by decide) (fun c78 => ?_) (fun c78 => ?_)
                                      · have hF := if_t c78 hF
                                        refine W.widen (k := 400 + 324 + 140 * (8 - (n85 + 1)) + 1634 + 1087 * (46 - (n286 + 1)) + 270) (n := 6 * (400 + 324 + 140 * (8 - (n85 + 1)) + 1634 + 1087 * (46 - (n286 + 1)) + 270)) (by omega) (by omega) ?_
                                        exact J865 (1 : Int32) M43 _ _ _ hM (lv_sub hl [0, 1, 2, 3, 4, 5, 6, 7, 8, 9, 10, 11, 12] rfl) hF
                                      · have hF := if_f (fun q => q c78) hF
                                        refine lv_aload_n C0.1 C0.2.1 dL_law_787 rfl (lv_at hl 2 rfl) ?_
                                        refine lv_aload C0.1 C0.2.1 dL_law_788 (lv_at hl 4 rfl) ?_
                                        refine lv_iload C0.1 C0.2.1 dL_law_790 (lv_at hl 6 rfl) ?_
                                        refine lv_iload C0.1 C0.2.1 dL_law_792 (lv_at hl 10 rfl) ?_
                                        refine lv_iload C0.1 C0.2.1 dL_law_794 (lv_at hl 11 rfl) ?_
                                        refine lv_iconst (v := (1 : Int32)) C0.1 C0.2.1 dL_law_796 (by decide) ?_
                                        obtain ⟨M80, h79, hF⟩ := bd_some hF
                                        refine z_sv (rest := []) (400 + 324 + 140 * (8 - (n85 + 1)) + 1634 + 1087 * (46 - (n286 + 1)) + 1) (6 * (400 + 324 + 140 * (8 - (n85 + 1)) + 1634 + 1087 * (46 - (n286 + 1)) + 1)) C0 hM hT hl.1 (k_L_stand l hst G B0 sa M43 x5 r50 x52 (1 : Int32) h79 hfr225) cw_RL_62 rfl rfl ⟨Nat.le_of_ble_eq_true rfl, Nat.le_of_ble_eq_true rfl⟩ rfl (Nat.le_of_ble_eq_true rfl) ⟨by show _ ≤ 664594; omega, by show _ ≤ 7107842; omega⟩ (by omega) (by omega) dL_law_797 (fun H locs hM => ?_)
                                        refine lv_aload_n C0.1 C0.2.1 dL_law_800 rfl (lv_at hl 2 rfl) ?_
                                        refine lv_bipush (v := (8 : Int32)) C0.1 C0.2.1 dL_law_801 (by decide) ?_
                                        refine lv_iload C0.1 C0.2.1 dL_law_803 (lv_at hl 10 rfl) ?_
                                        refine lv_imul C0.1 C0.2.1 dL_law_805 ?_
                                        refine lv_iconst (v := (3 : Int32)) C0.1 C0.2.1 dL_law_806 (by decide) ?_
                                        refine lv_iadd C0.1 C0.2.1 dL_law_807 ?_
                                        refine lv_iconst (v := (0 : Int32)) C0.1 C0.2.1 dL_law_808 (by decide) ?_
                                        obtain ⟨g81, hF⟩ := gdb_some hF
                                        refine y_iast C0 hM oka_a g81 dL_law_809 (fun H locs hM => ?_)
                                        obtain ⟨M82, eM82, hF⟩ := nm_some hF
                                        have hM := y_mn eM82 hM
                                        refine lv_aload_n C0.1 C0.2.1 dL_law_810 rfl (lv_at hl 1 rfl) ?_
                                        refine lv_iload C0.1 C0.2.1 dL_law_811 (lv_at hl 10 rfl) ?_
                                        obtain ⟨r85, M84, h83, hF⟩ := bd0_some hF
                                        refine z_vi (rest := []) (400 + 324 + 140 * (8 - (n85 + 1)) + 1634 + 1087 * (46 - (n286 + 1)) + 5) (6 * (400 + 324 + 140 * (8 - (n85 + 1)) + 1634 + 1087 * (46 - (n286 + 1)) + 5)) C0 hM hT hl.1 (k_X4_comeIn l hst G B0 sa M82 r50 h83) cw_RL_120 rfl rfl ⟨Nat.le_of_ble_eq_true rfl, Nat.le_of_ble_eq_true rfl⟩ rfl (Nat.le_of_ble_eq_true rfl) ⟨by show _ ≤ 664594; omega, by show _ ≤ 7107842; omega⟩ (by omega) (by omega) dL_law_813 (fun H locs hM => ?_)
                                        refine lv_aload_n C0.1 C0.2.1 dL_law_816 rfl (lv_at hl 2 rfl) ?_
                                        refine lv_bipush (v := (8 : Int32)) C0.1 C0.2.1 dL_law_817 (by decide) ?_
                                        refine lv_iload C0.1 C0.2.1 dL_law_819 (lv_at hl 10 rfl) ?_
                                        refine lv_imul C0.1 C0.2.1 dL_law_821 ?_
                                        refine lv_iconst (v := (2 : Int32)) C0.1 C0.2.1 dL_law_822 (by decide) ?_
                                        refine lv_iadd C0.1 C0.2.1 dL_law_823 ?_
                                        obtain ⟨g86, hF⟩ := gdb_some hF
                                        refine y_iald C0 hM oka_a g86 dL_law_824 ?_
                                        refine lv_icmp_ne (tgt := 832) C0.1 C0.2.1 dL_law_825 (by decide) (fun c87 => ?_) (fun c87 => ?_)
                                        · have hF := if_t c87 hF
                                          refine lv_iconst (v := (0 : Int32)) C0.1 C0.2.1 dL_law_832 (by decide) ?_
                                          refine lv_istore (lv' := [(12, .int (0 : Int32)), (0, .ref b), (1, .ref (gad G 216)), (2, .ref (gad G 220)), (3, .ref (gad G 221)), (4, .ref (gad G 222)), (5, .ref (gad G 223)), (6, .int x5), (7, .int l7_42), (8, .int r46), (9, .int r48), (10, .int r50), (11, .int x52)]) C0.1 C0.2.1 dL_law_833 hl (by decide) rfl (fun ls hl => ?_)
                                          refine lv_goto (tgt := 865) C0.1 C0.2.1 dL_law_835 (by decide) ?_
                                          refine W.widen (k := 400 + 324 + 140 * (8 - (n85 + 1)) + 1634 + 1087 * (46 - (n286 + 1)) + 270) (n := 6 * (400 + 324 + 140 * (8 - (n85 + 1)) + 1634 + 1087 * (46 - (n286 + 1)) + 270)) (by omega) (by omega) ?_
                                          exact J865 (0 : Int32) M84 _ _ _ hM (lv_sub hl [1, 2, 3, 4, 5, 6, 7, 8, 9, 10, 11, 12, 0] rfl) hF
                                        · have hF := if_f (fun q => q c87) hF
                                          refine lv_iconst (v := (1 : Int32)) C0.1 C0.2.1 dL_law_828 (by decide) ?_
                                          refine lv_goto (tgt := 833) C0.1 C0.2.1 dL_law_829 (by decide) ?_
                                          refine lv_istore (lv' := [(12, .int (1 : Int32)), (0, .ref b), (1, .ref (gad G 216)), (2, .ref (gad G 220)), (3, .ref (gad G 221)), (4, .ref (gad G 222)), (5, .ref (gad G 223)), (6, .int x5), (7, .int l7_42), (8, .int r46), (9, .int r48), (10, .int r50), (11, .int x52)]) C0.1 C0.2.1 dL_law_833 hl (by decide) rfl (fun ls hl => ?_)
                                          refine lv_goto (tgt := 865) C0.1 C0.2.1 dL_law_835 (by decide) ?_
                                          refine W.widen (k := 400 + 324 + 140 * (8 - (n85 + 1)) + 1634 + 1087 * (46 - (n286 + 1)) + 270) (n := 6 * (400 + 324 + 140 * (8 - (n85 + 1)) + 1634 + 1087 * (46 - (n286 + 1)) + 270)) (by omega) (by omega) ?_
                                          exact J865 (1 : Int32) M84 _ _ _ hM (lv_sub hl [1, 2, 3, 4, 5, 6, 7, 8, 9, 10, 11, 12, 0] rfl) hF
                                refine lv_icmp_ge (tgt := 758) C0.1 C0.2.1 dL_law_601 (by decide) (fun c88 => ?_) (fun c88 => ?_)
                                · have hF := if_t c88 hF
                                  refine W.widen (k := 400 + 324 + 140 * (8 - (n85 + 1)) + 1634 + 1087 * (46 - (n286 + 1)) + 0) (n := 6 * (400 + 324 + 140 * (8 - (n85 + 1)) + 1634 + 1087 * (46 - (n286 + 1)) + 0)) (by omega) (by omega) ?_
                                  exact J758  _ _ _ hM (lv_sub hl [5, 6, 7, 8, 9, 10, 11, 12, 4, 3, 2, 1, 0] rfl) hF
                                · have hF := if_f c88 hF
                                  refine lv_iload C0.1 C0.2.1 dL_law_604 (lv_at hl 2 rfl) ?_
                                  refine lv_iload C0.1 C0.2.1 dL_law_606 (lv_at hl 1 rfl) ?_
                                  refine lv_icmp_eq (tgt := 758) C0.1 C0.2.1 dL_law_608 (by decide) (fun c89 => ?_) (fun c89 => ?_)
                                  · have hF := if_t c89 hF
                                    refine W.widen (k := 400 + 324 + 140 * (8 - (n85 + 1)) + 1634 + 1087 * (46 - (n286 + 1)) + 0) (n := 6 * (400 + 324 + 140 * (8 - (n85 + 1)) + 1634 + 1087 * (46 - (n286 + 1)) + 0)) (by omega) (by omega) ?_
                                    exact J758  _ _ _ hM (lv_sub hl [5, 6, 7, 8, 9, 10, 11, 12, 4, 3, 2, 1, 0] rfl) hF
                                  · have hF := if_f c89 hF
                                    refine lv_iload C0.1 C0.2.1 dL_law_611 (lv_at hl 4 rfl) ?_
                                    refine lv_bipush (v := (9 : Int32)) C0.1 C0.2.1 dL_law_613 (by decide) ?_
                                    refine lv_ishr C0.1 C0.2.1 dL_law_615 ?_
                                    refine lv_iload C0.1 C0.2.1 dL_law_616 (lv_at hl 11 rfl) ?_
                                    refine lv_iconst (v := (1 : Int32)) C0.1 C0.2.1 dL_law_618 (by decide) ?_
                                    refine lv_iadd C0.1 C0.2.1 dL_law_619 ?_
                                    obtain ⟨r91, h90, hF⟩ := bd_some hF
                                    refine y_si (rest := []) C0 hM hl.1 (k_L_low l G M43 (r46 >>> ((9 : Int32) &&& 31)) (x5 + (1 : Int32)) h90) cw_RL_16 rfl rfl ⟨Nat.le_of_ble_eq_true rfl, Nat.le_of_ble_eq_true rfl⟩ rfl (Nat.le_of_ble_eq_true rfl) ⟨by show _ ≤ 664594; omega, by show _ ≤ 7107842; omega⟩ dL_law_620 (fun H locs hM => ?_)
                                    refine lv_iconst (v := (1 : Int32)) C0.1 C0.2.1 dL_law_623 (by decide) ?_
                                    refine lv_isub C0.1 C0.2.1 dL_law_624 ?_
                                    obtain ⟨x92, ex92, hF⟩ := nm_some hF
                                    refine y_topi ex92 ?_
                                    refine lv_istore (lv' := [(13, .int x92), (12, .int (1 : Int32)), (11, .int x52), (10, .int r50), (9, .int r48), (8, .int r46), (0, .ref b), (1, .ref (gad G 216)), (2, .ref (gad G 220)), (3, .ref (gad G 221)), (4, .ref (gad G 222)), (5, .ref (gad G 223)), (6, .int x5), (7, .int l7_42)]) C0.1 C0.2.1 dL_law_625 hl (by decide) rfl (fun ls hl => ?_)
                                    refine lv_iload C0.1 C0.2.1 dL_law_627 (lv_at hl 0 rfl) ?_
                                    refine lv_iload C0.1 C0.2.1 dL_law_629 (lv_at hl 2 rfl) ?_
                                    obtain ⟨j640_93, ej640_93, hF⟩ := nm_some hF
                                    have J640 : ∀ (s93 : Int32) (H : Heap) (locs : List Loc) (ls : Array Slot), MX G M43 s H locs → lv_has ls 19 [(0, .ref b), (1, .ref (gad G 216)), (2, .ref (gad G 220)), (3, .ref (gad G 221)), (4, .ref (gad G 222)), (5, .ref (gad G 223)), (6, .int x5), (7, .int l7_42), (8, .int r46), (9, .int r48), (10, .int r50), (11, .int x52), (12, .int (1 : Int32)), (13, .int x92)] → j640_93 s93 = some 1 → W p l e room_1 s m #[.ref b] below meth c H locs (400 + 324 + 140 * (8 - (n85 + 1)) + 1634 + 1087 * (46 - (n286 + 1)) + 0) (6 * (400 + 324 + 140 * (8 - (n85 + 1)) + 1634 + 1087 * (46 - (n286 + 1)) + 0)) (lw_Z below #[.ref b] s) (F0 m 640 ls [.int s93]) := by
                                      intro s93 H locs ls hM hl hF
                                      rw [ej640_93] at hF
                                      refine lv_istore (lv' := [(13, .int s93), (0, .ref b), (1, .ref (gad G 216)), (2, .ref (gad G 220)), (3, .ref (gad G 221)), (4, .ref (gad G 222)), (5, .ref (gad G 223)), (6, .int x5), (7, .int l7_42), (8, .int r46), (9, .int r48), (10, .int r50), (11, .int x52), (12, .int (1 : Int32))]) C0.1 C0.2.1 dL_law_640 hl (by decide) rfl (fun ls hl => ?_)
                                      refine lv_aload_n C0.1 C0.2.1 dL_law_642 rfl (lv_at hl 3 rfl) ?_
                                      refine lv_bipush (v := (8 : Int32)) C0.1 C0.2.1 dL_law_643 (by decide) ?_
                                      refine lv_iload C0.1 C0.2.1 dL_law_645 (lv_at hl 12 rfl) ?_
                                      refine lv_imul C0.1 C0.2.1 dL_law_647 ?_
                                      refine lv_iconst (v := (4 : Int32)) C0.1 C0.2.1 dL_law_648 (by decide) ?_
                                      refine lv_iadd C0.1 C0.2.1 dL_law_649 ?_
                                      refine lv_iconst (v := (2 : Int32)) C0.1 C0.2.1 dL_law_650 (by decide) ?_
                                      refine lv_iload C0.1 C0.2.1 dL_law_651 (lv_at hl 9 rfl) ?_
                                      refine lv_bipush (v := (13 : Int32)) C0.1 C0.2.1 dL_law_653 (by decide) ?_
                                      refine lv_ishr C0.1 C0.2.1 dL_law_655 ?_
                                      refine lv_iconst (v := (2 : Int32)) C0.1 C0.2.1 dL_law_656 (by decide) ?_
                                      obtain ⟨r96, h95, hF⟩ := bd_some hF
                                      refine y_si (rest := [.int (2 : Int32), .int (((8 : Int32) * x52) + (4 : Int32)), .ref (gad G 220)]) C0 hM hl.1 (k_L_low l G M43 (r46 >>> ((13 : Int32) &&& 31)) (2 : Int32) h95) cw_RL_16 rfl rfl ⟨Nat.le_of_ble_eq_true rfl, Nat.le_of_ble_eq_true rfl⟩ rfl (Nat.le_of_ble_eq_true rfl) ⟨by show _ ≤ 664594; omega, by show _ ≤ 7107842; omega⟩ dL_law_657 (fun H locs hM => ?_)
                                      refine lv_imul C0.1 C0.2.1 dL_law_660 ?_
                                      obtain ⟨g97, hF⟩ := gdb_some hF
                                      refine y_iast C0 hM oka_a g97 dL_law_661 (fun H locs hM => ?_)
                                      obtain ⟨M98, eM98, hF⟩ := nm_some hF
                                      have hM := y_mn eM98 hM
                                      refine lv_aload_n C0.1 C0.2.1 dL_law_662 rfl (lv_at hl 3 rfl) ?_
                                      refine lv_bipush (v := (8 : Int32)) C0.1 C0.2.1 dL_law_663 (by decide) ?_
                                      refine lv_iload C0.1 C0.2.1 dL_law_665 (lv_at hl 12 rfl) ?_
                                      refine lv_imul C0.1 C0.2.1 dL_law_667 ?_
                                      refine lv_iconst (v := (5 : Int32)) C0.1 C0.2.1 dL_law_668 (by decide) ?_
                                      refine lv_iadd C0.1 C0.2.1 dL_law_669 ?_
                                      refine lv_iload C0.1 C0.2.1 dL_law_670 (lv_at hl 11 rfl) ?_
                                      obtain ⟨g99, hF⟩ := gdb_some hF
                                      refine y_iast C0 hM oka_a g99 dL_law_672 (fun H locs hM => ?_)
                                      obtain ⟨M100, eM100, hF⟩ := nm_some hF
                                      have hM := y_mn eM100 hM
                                      refine lv_aload_n C0.1 C0.2.1 dL_law_673 rfl (lv_at hl 3 rfl) ?_
                                      refine lv_bipush (v := (8 : Int32)) C0.1 C0.2.1 dL_law_674 (by decide) ?_
                                      refine lv_iload C0.1 C0.2.1 dL_law_676 (lv_at hl 12 rfl) ?_
                                      refine lv_imul C0.1 C0.2.1 dL_law_678 ?_
                                      refine lv_bipush (v := (6 : Int32)) C0.1 C0.2.1 dL_law_679 (by decide) ?_
                                      refine lv_iadd C0.1 C0.2.1 dL_law_681 ?_
                                      refine lv_iload C0.1 C0.2.1 dL_law_682 (lv_at hl 0 rfl) ?_
                                      obtain ⟨g101, hF⟩ := gdb_some hF
                                      refine y_iast C0 hM oka_a g101 dL_law_684 (fun H locs hM => ?_)
                                      obtain ⟨M102, eM102, hF⟩ := nm_some hF
                                      have hM := y_mn eM102 hM
                                      refine lv_aload_n C0.1 C0.2.1 dL_law_685 rfl (lv_at hl 3 rfl) ?_
                                      refine lv_bipush (v := (8 : Int32)) C0.1 C0.2.1 dL_law_686 (by decide) ?_
                                      refine lv_iload C0.1 C0.2.1 dL_law_688 (lv_at hl 12 rfl) ?_
                                      refine lv_imul C0.1 C0.2.1 dL_law_690 ?_
                                      refine lv_bipush (v := (7 : Int32)) C0.1 C0.2.1 dL_law_691 (by decide) ?_
                                      refine lv_iadd C0.1 C0.2.1 dL_law_693 ?_
                                      refine lv_iload C0.1 C0.2.1 dL_law_694 (lv_at hl 9 rfl) ?_
                                      refine lv_bipush (v := (14 : Int32)) C0.1 C0.2.1 dL_law_696 (by decide) ?_
                                      refine lv_ishr C0.1 C0.2.1 dL_law_698 ?_
                                      refine lv_iconst (v := (4 : Int32)) C0.1 C0.2.1 dL_law_699 (by decide) ?_
                                      obtain ⟨r104, h103, hF⟩ := bd_some hF
                                      refine y_si (rest := [.int (((8 : Int32) * x52) + (7 : Int32)), .ref (gad G 220)]) C0 hM hl.1 (k_L_low l G M102 (r46 >>> ((14 : Int32) &&& 31)) (4 : Int32) h103) cw_RL_16 rfl rfl ⟨Nat.le_of_ble_eq_true rfl, Nat.le_of_ble_eq_true rfl⟩ rfl (Nat.le_of_ble_eq_true rfl) ⟨by show _ ≤ 664594; omega, by show _ ≤ 7107842; omega⟩ dL_law_700 (fun H locs hM => ?_)
                                      obtain ⟨g105, hF⟩ := gdb_some hF
                                      refine y_iast C0 hM oka_a g105 dL_law_703 (fun H locs hM => ?_)
                                      obtain ⟨M106, eM106, hF⟩ := nm_some hF
                                      have hM := y_mn eM106 hM
                                      refine lv_aload_n C0.1 C0.2.1 dL_law_704 rfl (lv_at hl 3 rfl) ?_
                                      refine lv_aload_n C0.1 C0.2.1 dL_law_705 rfl (lv_at hl 4 rfl) ?_
                                      refine lv_aload C0.1 C0.2.1 dL_law_706 (lv_at hl 5 rfl) ?_
                                      refine lv_aload C0.1 C0.2.1 dL_law_708 (lv_at hl 6 rfl) ?_
                                      obtain ⟨M108, h107, hF⟩ := bd_some hF
                                      refine y_sv (rest := []) C0 hM hl.1 (k_L_endTurn l G M106 h107) cw_RL_66 rfl rfl ⟨Nat.le_of_ble_eq_true rfl, Nat.le_of_ble_eq_true rfl⟩ rfl (Nat.le_of_ble_eq_true rfl) ⟨by show _ ≤ 664594; omega, by show _ ≤ 7107842; omega⟩ dL_law_710 (fun H locs hM => ?_)
                                      refine lv_aload_n C0.1 C0.2.1 dL_law_713 rfl (lv_at hl 2 rfl) ?_
                                      refine lv_iconst (v := (2 : Int32)) C0.1 C0.2.1 dL_law_714 (by decide) ?_
                                      refine lv_iload C0.1 C0.2.1 dL_law_715 (lv_at hl 9 rfl) ?_
                                      refine lv_bipush (v := (13 : Int32)) C0.1 C0.2.1 dL_law_717 (by decide) ?_
                                      refine lv_ishr C0.1 C0.2.1 dL_law_719 ?_
                                      refine lv_iconst (v := (2 : Int32)) C0.1 C0.2.1 dL_law_720 (by decide) ?_
                                      obtain ⟨r110, h109, hF⟩ := bd_some hF
                                      refine y_si (rest := [.int (2 : Int32), .ref (gad G 216)]) C0 hM hl.1 (k_L_low l G M108 (r46 >>> ((13 : Int32) &&& 31)) (2 : Int32) h109) cw_RL_16 rfl rfl ⟨Nat.le_of_ble_eq_true rfl, Nat.le_of_ble_eq_true rfl⟩ rfl (Nat.le_of_ble_eq_true rfl) ⟨by show _ ≤ 664594; omega, by show _ ≤ 7107842; omega⟩ dL_law_721 (fun H locs hM => ?_)
                                      refine lv_imul C0.1 C0.2.1 dL_law_724 ?_
                                      refine lv_iload C0.1 C0.2.1 dL_law_725 (lv_at hl 11 rfl) ?_
                                      refine lv_iload C0.1 C0.2.1 dL_law_727 (lv_at hl 0 rfl) ?_
                                      refine lv_iload C0.1 C0.2.1 dL_law_729 (lv_at hl 9 rfl) ?_
                                      refine lv_bipush (v := (14 : Int32)) C0.1 C0.2.1 dL_law_731 (by decide) ?_
                                      refine lv_ishr C0.1 C0.2.1 dL_law_733 ?_
                                      refine lv_iconst (v := (4 : Int32)) C0.1 C0.2.1 dL_law_734 (by decide) ?_
                                      obtain ⟨r112, h111, hF⟩ := bd_some hF
                                      refine y_si (rest := [.int s93, .int r50, .int ((2 : Int32) * r110), .ref (gad G 216)]) C0 hM hl.1 (k_L_low l G M108 (r46 >>> ((14 : Int32) &&& 31)) (4 : Int32) h111) cw_RL_16 rfl rfl ⟨Nat.le_of_ble_eq_true rfl, Nat.le_of_ble_eq_true rfl⟩ rfl (Nat.le_of_ble_eq_true rfl) ⟨by show _ ≤ 664594; omega, by show _ ≤ 7107842; omega⟩ dL_law_735 (fun H locs hM => ?_)
                                      obtain ⟨r115, M114, h113, hF⟩ := bd0_some hF
                                      refine z_vi (rest := []) (400 + 324 + 140 * (8 - (n85 + 1)) + 1634 + 1087 * (46 - (n286 + 1)) + 4) (6 * (400 + 324 + 140 * (8 - (n85 + 1)) + 1634 + 1087 * (46 - (n286 + 1)) + 4)) C0 hM hT hl.1 (k_X4_ready l hst G B0 sa M108 ((2 : Int32) * r110) r50 s93 r112 h113) cw_RL_117 rfl rfl ⟨Nat.le_of_ble_eq_true rfl, Nat.le_of_ble_eq_true rfl⟩ rfl (Nat.le_of_ble_eq_true rfl) ⟨by show _ ≤ 664594; omega, by show _ ≤ 7107842; omega⟩ (by omega) (by omega) dL_law_738 (fun H locs hM => ?_)
                                      refine lv_aload C0.1 C0.2.1 dL_law_741 (lv_at hl 6 rfl) ?_
                                      refine lv_iconst (v := (0 : Int32)) C0.1 C0.2.1 dL_law_743 (by decide) ?_
                                      obtain ⟨g116, hF⟩ := gdb_some hF
                                      refine y_iald C0 hM oka_t g116 dL_law_744 ?_
                                      refine lv_icmp_ne (tgt := 752) C0.1 C0.2.1 dL_law_745 (by decide) (fun c117 => ?_) (fun c117 => ?_)
                                      · have hF := if_t c117 hF
                                        refine lv_iconst (v := (0 : Int32)) C0.1 C0.2.1 dL_law_752 (by decide) ?_
                                        refine lv_istore (lv' := [(12, .int (0 : Int32)), (13, .int s93), (0, .ref b), (1, .ref (gad G 216)), (2, .ref (gad G 220)), (3, .ref (gad G 221)), (4, .ref (gad G 222)), (5, .ref (gad G 223)), (6, .int x5), (7, .int l7_42), (8, .int r46), (9, .int r48), (10, .int r50), (11, .int x52)]) C0.1 C0.2.1 dL_law_753 hl (by decide) rfl (fun ls hl => ?_)
                                        refine lv_goto (tgt := 865) C0.1 C0.2.1 dL_law_755 (by decide) ?_
                                        refine W.widen (k := 400 + 324 + 140 * (8 - (n85 + 1)) + 1634 + 1087 * (46 - (n286 + 1)) + 270) (n := 6 * (400 + 324 + 140 * (8 - (n85 + 1)) + 1634 + 1087 * (46 - (n286 + 1)) + 270)) (by omega) (by omega) ?_
                                        exact J865 (0 : Int32) M114 _ _ _ hM (lv_sub hl [2, 3, 4, 5, 6, 7, 8, 9, 10, 11, 12, 13, 0] rfl) hF
                                      · have hF := if_f (fun q => q c117) hF
                                        refine lv_iconst (v := (1 : Int32)) C0.1 C0.2.1 dL_law_748 (by decide) ?_
                                        refine lv_goto (tgt := 753) C0.1 C0.2.1 dL_law_749 (by decide) ?_
                                        refine lv_istore (lv' := [(12, .int (1 : Int32)), (13, .int s93), (0, .ref b), (1, .ref (gad G 216)), (2, .ref (gad G 220)), (3, .ref (gad G 221)), (4, .ref (gad G 222)), (5, .ref (gad G 223)), (6, .int x5), (7, .int l7_42), (8, .int r46), (9, .int r48), (10, .int r50), (11, .int x52)]) C0.1 C0.2.1 dL_law_753 hl (by decide) rfl (fun ls hl => ?_)
                                        refine lv_goto (tgt := 865) C0.1 C0.2.1 dL_law_755 (by decide) ?_
                                        refine W.widen (k := 400 + 324 + 140 * (8 - (n85 + 1)) + 1634 + 1087 * (46 - (n286 + 1)) + 270) (n := 6 * (400 + 324 + 140 * (8 - (n85 + 1)) + 1634 + 1087 * (46 - (n286 + 1)) + 270)) (by omega) (by omega) ?_
                                        exact J865 (1 : Int32) M114 _ _ _ hM (lv_sub hl [2, 3, 4, 5, 6, 7, 8, 9, 10, 11, 12, 13, 0] rfl) hF
                                    refine lv_icmp_ne (tgt := 638) C0.1 C0.2.1 dL_law_631 (by decide) (fun c118 => ?_) (fun c118 => ?_)
                                    · have hF := if_t c118 hF
                                      refine lv_iload C0.1 C0.2.1 dL_law_638 (lv_at hl 0 rfl) ?_
                                      refine W.widen (k := 400 + 324 + 140 * (8 - (n85 + 1)) + 1634 + 1087 * (46 - (n286 + 1)) + 0) (n := 6 * (400 + 324 + 140 * (8 - (n85 + 1)) + 1634 + 1087 * (46 - (n286 + 1)) + 0)) (by omega) (by omega) ?_
                                      exact J640 x92 _ _ _ hM (lv_sub hl [6, 7, 8, 9, 10, 11, 12, 13, 5, 4, 3, 2, 1, 0] rfl) hF
                                    · have hF := if_f (fun q => q c118) hF
                                      refine lv_iconst (v := (-1 : Int32)) C0.1 C0.2.1 dL_law_634 (by decide) ?_
                                      refine lv_goto (tgt := 640) C0.1 C0.2.1 dL_law_635 (by decide) ?_
                                      refine W.widen (k := 400 + 324 + 140 * (8 - (n85 + 1)) + 1634 + 1087 * (46 - (n286 + 1)) + 0) (n := 6 * (400 + 324 + 140 * (8 - (n85 + 1)) + 1634 + 1087 * (46 - (n286 + 1)) + 0)) (by omega) (by omega) ?_
                                      exact J640 (-1 : Int32) _ _ _ hM (lv_sub hl [6, 7, 8, 9, 10, 11, 12, 13, 5, 4, 3, 2, 1, 0] rfl) hF
                              · have hF := if_f (fun q => q c64) hF
                                refine lv_aload_n C0.1 C0.2.1 dL_law_557 rfl (lv_at hl 7 rfl) ?_
                                refine lv_bipush (v := (8 : Int32)) C0.1 C0.2.1 dL_law_558 (by decide) ?_
                                refine lv_iload C0.1 C0.2.1 dL_law_560 (lv_at hl 1 rfl) ?_
                                refine lv_imul C0.1 C0.2.1 dL_law_562 ?_
                                refine lv_iconst (v := (3 : Int32)) C0.1 C0.2.1 dL_law_563 (by decide) ?_
                                refine lv_iadd C0.1 C0.2.1 dL_law_564 ?_
                                refine lv_iconst (v := (1 : Int32)) C0.1 C0.2.1 dL_law_565 (by decide) ?_
                                obtain ⟨g119, hF⟩ := gdb_some hF
                                refine y_iast C0 hM oka_a g119 dL_law_566 (fun H locs hM => ?_)
                                obtain ⟨M120, eM120, hF⟩ := nm_some hF
                                have hM := y_mn eM120 hM
                                refine lv_aload_n C0.1 C0.2.1 dL_law_567 rfl (lv_at hl 7 rfl) ?_
                                refine lv_aload_n C0.1 C0.2.1 dL_law_568 rfl (lv_at hl 8 rfl) ?_
                                refine lv_aload C0.1 C0.2.1 dL_law_569 (lv_at hl 9 rfl) ?_
                                refine lv_aload C0.1 C0.2.1 dL_law_571 (lv_at hl 10 rfl) ?_
                                obtain ⟨M122, h121, hF⟩ := bd_some hF
                                refine y_sv (rest := []) C0 hM hl.1 (k_L_endTurn l G M120 h121) cw_RL_66 rfl rfl ⟨Nat.le_of_ble_eq_true rfl, Nat.le_of_ble_eq_true rfl⟩ rfl (Nat.le_of_ble_eq_true rfl) ⟨by show _ ≤ 664594; omega, by show _ ≤ 7107842; omega⟩ dL_law_573 (fun H locs hM => ?_)
                                refine lv_aload_n C0.1 C0.2.1 dL_law_576 rfl (lv_at hl 6 rfl) ?_
                                obtain ⟨r125, M124, h123, hF⟩ := bd0_some hF
                                refine z_vi (rest := []) (400 + 324 + 140 * (8 - (n85 + 1)) + 1634 + 1087 * (46 - (n286 + 1)) + 4) (6 * (400 + 324 + 140 * (8 - (n85 + 1)) + 1634 + 1087 * (46 - (n286 + 1)) + 4)) C0 hM hT hl.1 (k_X4_delay l hst G B0 sa M122 h123) cw_RL_114 rfl rfl ⟨Nat.le_of_ble_eq_true rfl, Nat.le_of_ble_eq_true rfl⟩ rfl (Nat.le_of_ble_eq_true rfl) ⟨by show _ ≤ 664594; omega, by show _ ≤ 7107842; omega⟩ (by omega) (by omega) dL_law_577 (fun H locs hM => ?_)
                                refine lv_aload C0.1 C0.2.1 dL_law_580 (lv_at hl 10 rfl) ?_
                                refine lv_iconst (v := (0 : Int32)) C0.1 C0.2.1 dL_law_582 (by decide) ?_
                                obtain ⟨g126, hF⟩ := gdb_some hF
                                refine y_iald C0 hM oka_t g126 dL_law_583 ?_
                                refine lv_icmp_ne (tgt := 591) C0.1 C0.2.1 dL_law_584 (by decide) (fun c127 => ?_) (fun c127 => ?_)
                                · have hF := if_t c127 hF
                                  refine lv_iconst (v := (0 : Int32)) C0.1 C0.2.1 dL_law_591 (by decide) ?_
                                  refine lv_istore (lv' := [(12, .int (0 : Int32)), (11, .int x52), (10, .int r50), (9, .int r48), (8, .int r46), (0, .ref b), (1, .ref (gad G 216)), (2, .ref (gad G 220)), (3, .ref (gad G 221)), (4, .ref (gad G 222)), (5, .ref (gad G 223)), (6, .int x5), (7, .int l7_42)]) C0.1 C0.2.1 dL_law_592 hl (by decide) rfl (fun ls hl => ?_)
                                  refine lv_goto (tgt := 865) C0.1 C0.2.1 dL_law_594 (by decide) ?_
                                  refine W.widen (k := 400 + 324 + 140 * (8 - (n85 + 1)) + 1634 + 1087 * (46 - (n286 + 1)) + 270) (n := 6 * (400 + 324 + 140 * (8 - (n85 + 1)) + 1634 + 1087 * (46 - (n286 + 1)) + 270)) (by omega) (by omega) ?_
                                  exact J865 (0 : Int32) M124 _ _ _ hM (lv_sub hl [5, 6, 7, 8, 9, 10, 11, 12, 4, 3, 2, 1, 0] rfl) hF
                                · have hF := if_f (fun q => q c127) hF
                                  refine lv_iconst (v := (1 : Int32)) C0.1 C0.2.1 dL_law_587 (by decide) ?_
                                  refine lv_goto (tgt := 592) C0.1 C0.2.1 dL_law_588 (by decide) ?_
                                  refine lv_istore (lv' := [(12, .int (1 : Int32)), (11, .int x52), (10, .int r50), (9, .int r48), (8, .int r46), (0, .ref b), (1, .ref (gad G 216)), (2, .ref (gad G 220)), (3, .ref (gad G 221)), (4, .ref (gad G 222)), (5, .ref (gad G 223)), (6, .int x5), (7, .int l7_42)]) C0.1 C0.2.1 dL_law_592 hl (by decide) rfl (fun ls hl => ?_)
                                  refine lv_goto (tgt := 865) C0.1 C0.2.1 dL_law_594 (by decide) ?_
                                  refine W.widen (k := 400 + 324 + 140 * (8 - (n85 + 1)) + 1634 + 1087 * (46 - (n286 + 1)) + 270) (n := 6 * (400 + 324 + 140 * (8 - (n85 + 1)) + 1634 + 1087 * (46 - (n286 + 1)) + 270)) (by omega) (by omega) ?_
                                  exact J865 (1 : Int32) M124 _ _ _ hM (lv_sub hl [5, 6, 7, 8, 9, 10, 11, 12, 4, 3, 2, 1, 0] rfl) hF
                            · have hF := if_f c63 hF
                              refine lv_iload C0.1 C0.2.1 dL_law_368 (lv_at hl 3 rfl) ?_
                              refine lv_iconst (v := (1 : Int32)) C0.1 C0.2.1 dL_law_370 (by decide) ?_
                              obtain ⟨j389_128, ej389_128, hF⟩ := nm_some hF
                              have J389 : ∀ (s128 : Int32) (H : Heap) (locs : List Loc) (ls : Array Slot), MX G M43 s H locs → lv_has ls 19 [(0, .ref b), (1, .ref (gad G 216)), (2, .ref (gad G 220)), (3, .ref (gad G 221)), (4, .ref (gad G 222)), (5, .ref (gad G 223)), (6, .int x5), (7, .int l7_42), (8, .int r46), (9, .int r48), (10, .int r50), (11, .int x52), (12, .int (1 : Int32))] → j389_128 s128 = some 1 → W p l e room_1 s m #[.ref b] below meth c H locs (400 + 324 + 140 * (8 - (n85 + 1)) + 1634 + 1087 * (46 - (n286 + 1)) + 0) (6 * (400 + 324 + 140 * (8 - (n85 + 1)) + 1634 + 1087 * (46 - (n286 + 1)) + 0)) (lw_Z below #[.ref b] s) (F0 m 389 ls [.int s128]) := by
                                intro s128 H locs ls hM hl hF
                                rw [ej389_128] at hF
                                refine lv_istore (lv' := [(13, .int s128), (0, .ref b), (1, .ref (gad G 216)), (2, .ref (gad G 220)), (3, .ref (gad G 221)), (4, .ref (gad G 222)), (5, .ref (gad G 223)), (6, .int x5), (7, .int l7_42), (8, .int r46), (9, .int r48), (10, .int r50), (11, .int x52), (12, .int (1 : Int32))]) C0.1 C0.2.1 dL_law_389 hl (by decide) rfl (fun ls hl => ?_)
                                refine lv_iload C0.1 C0.2.1 dL_law_391 (lv_at hl 9 rfl) ?_
                                refine lv_bipush (v := (12 : Int32)) C0.1 C0.2.1 dL_law_393 (by decide) ?_
                                refine lv_ishr C0.1 C0.2.1 dL_law_395 ?_
                                refine lv_iconst (v := (4 : Int32)) C0.1 C0.2.1 dL_law_396 (by decide) ?_
                                obtain ⟨r131, h130, hF⟩ := bd_some hF
                                refine y_si (rest := []) C0 hM hl.1 (k_L_low l G M43 (r46 >>> ((12 : Int32) &&& 31)) (4 : Int32) h130) cw_RL_16 rfl rfl ⟨Nat.le_of_ble_eq_true rfl, Nat.le_of_ble_eq_true rfl⟩ rfl (Nat.le_of_ble_eq_true rfl) ⟨by show _ ≤ 664594; omega, by show _ ≤ 7107842; omega⟩ dL_law_397 (fun H locs hM => ?_)
                                refine lv_istore (lv' := [(14, .int r131), (13, .int s128), (0, .ref b), (1, .ref (gad G 216)), (2, .ref (gad G 220)), (3, .ref (gad G 221)), (4, .ref (gad G 222)), (5, .ref (gad G 223)), (6, .int x5), (7, .int l7_42), (8, .int r46), (9, .int r48), (10, .int r50), (11, .int x52), (12, .int (1 : Int32))]) C0.1 C0.2.1 dL_law_400 hl (by decide) rfl (fun ls hl => ?_)
                                refine lv_iconst (v := (1 : Int32)) C0.1 C0.2.1 dL_law_402 (by decide) ?_
                                refine lv_iload C0.1 C0.2.1 dL_law_403 (lv_at hl 10 rfl) ?_
                                refine lv_bipush (v := (14 : Int32)) C0.1 C0.2.1 dL_law_405 (by decide) ?_
                                refine lv_ishr C0.1 C0.2.1 dL_law_407 ?_
                                refine lv_iconst (v := (5 : Int32)) C0.1 C0.2.1 dL_law_408 (by decide) ?_
                                obtain ⟨r133, h132, hF⟩ := bd_some hF
                                refine y_si (rest := [.int (1 : Int32)]) C0 hM hl.1 (k_L_low l G M43 (r46 >>> ((14 : Int32) &&& 31)) (5 : Int32) h132) cw_RL_16 rfl rfl ⟨Nat.le_of_ble_eq_true rfl, Nat.le_of_ble_eq_true rfl⟩ rfl (Nat.le_of_ble_eq_true rfl) ⟨by show _ ≤ 664594; omega, by show _ ≤ 7107842; omega⟩ dL_law_409 (fun H locs hM => ?_)
                                refine lv_iadd C0.1 C0.2.1 dL_law_412 ?_
                                obtain ⟨x134, ex134, hF⟩ := nm_some hF
                                refine y_topi ex134 ?_
                                refine lv_istore (lv' := [(15, .int x134), (14, .int r131), (13, .int s128), (0, .ref b), (1, .ref (gad G 216)), (2, .ref (gad G 220)), (3, .ref (gad G 221)), (4, .ref (gad G 222)), (5, .ref (gad G 223)), (6, .int x5), (7, .int l7_42), (8, .int r46), (9, .int r48), (10, .int r50), (11, .int x52), (12, .int (1 : Int32))]) C0.1 C0.2.1 dL_law_413 hl (by decide) rfl (fun ls hl => ?_)
                                refine lv_aload_n C0.1 C0.2.1 dL_law_415 rfl (lv_at hl 4 rfl) ?_
                                refine lv_aload_n C0.1 C0.2.1 dL_law_416 rfl (lv_at hl 5 rfl) ?_
                                refine lv_aload_n C0.1 C0.2.1 dL_law_417 rfl (lv_at hl 6 rfl) ?_
                                refine lv_iload C0.1 C0.2.1 dL_law_418 (lv_at hl 14 rfl) ?_
                                refine lv_iload C0.1 C0.2.1 dL_law_420 (lv_at hl 12 rfl) ?_
                                refine lv_iload C0.1 C0.2.1 dL_law_422 (lv_at hl 2 rfl) ?_
                                obtain ⟨r137, M136, h135, hF⟩ := bd2_some hF
                                refine z_si (rest := []) (400 + 324 + 140 * (8 - (n85 + 1)) + 1634 + 1087 * (46 - (n286 + 1)) + 8) (6 * (400 + 324 + 140 * (8 - (n85 + 1)) + 1634 + 1087 * (46 - (n286 + 1)) + 8)) C0 hM hT hl.1 (k_L_can l hst G B0 sa M43 x52 r48 s128 h135) cw_RL_54 rfl rfl ⟨Nat.le_of_ble_eq_true rfl, Nat.le_of_ble_eq_true rfl⟩ rfl (Nat.le_of_ble_eq_true rfl) ⟨by show _ ≤ 664594; omega, by show _ ≤ 7107842; omega⟩ (by omega) (by omega) dL_law_424 (fun H locs hM => ?_)
                                refine lv_istore (lv' := [(16, .int r137), (15, .int x134), (14, .int r131), (13, .int s128), (0, .ref b), (1, .ref (gad G 216)), (2, .ref (gad G 220)), (3, .ref (gad G 221)), (4, .ref (gad G 222)), (5, .ref (gad G 223)), (6, .int x5), (7, .int l7_42), (8, .int r46), (9, .int r48), (10, .int r50), (11, .int x52), (12, .int (1 : Int32))]) C0.1 C0.2.1 dL_law_427 hl (by decide) rfl (fun ls hl => ?_)
                                refine lv_aload_n C0.1 C0.2.1 dL_law_429 rfl (lv_at hl 5 rfl) ?_
                                refine lv_iload C0.1 C0.2.1 dL_law_430 (lv_at hl 13 rfl) ?_
                                refine lv_iload C0.1 C0.2.1 dL_law_432 (lv_at hl 3 rfl) ?_
                                refine lv_iconst (v := (0 : Int32)) C0.1 C0.2.1 dL_law_434 (by decide) ?_
                                obtain ⟨r140, M139, h138, hF⟩ := bd0_some hF
                                refine z_vi (rest := []) (400 + 324 + 140 * (8 - (n85 + 1)) + 1634 + 1087 * (46 - (n286 + 1)) + 12) (6 * (400 + 324 + 140 * (8 - (n85 + 1)) + 1634 + 1087 * (46 - (n286 + 1)) + 12)) C0 hM hT hl.1 (k_X4_ifDone l hst G B0 sa M136 r48 s128 (0 : Int32) h138) cw_RL_94 rfl rfl ⟨Nat.le_of_ble_eq_true rfl, Nat.le_of_ble_eq_true rfl⟩ rfl (Nat.le_of_ble_eq_true rfl) ⟨by show _ ≤ 664594; omega, by show _ ≤ 7107842; omega⟩ (by omega) (by omega) dL_law_435 (fun H locs hM => ?_)
                                refine lv_iload C0.1 C0.2.1 dL_law_438 (lv_at hl 0 rfl) ?_
                                obtain ⟨j448_141, ej448_141, hF⟩ := nm_some hF
                                have J448 : ∀ (s141 : Int32) (H : Heap) (locs : List Loc) (ls : Array Slot), MX G M139 s H locs → lv_has ls 19 [(0, .ref b), (1, .ref (gad G 216)), (2, .ref (gad G 220)), (3, .ref (gad G 221)), (4, .ref (gad G 222)), (5, .ref (gad G 223)), (6, .int x5), (7, .int l7_42), (8, .int r46), (9, .int r48), (10, .int r50), (11, .int x52), (12, .int (1 : Int32)), (13, .int s128), (14, .int r131), (15, .int x134), (16, .int r137)] → j448_141 s141 = some 1 → W p l e room_1 s m #[.ref b] below meth c H locs (400 + 324 + 140 * (8 - (n85 + 1)) + 1634 + 1087 * (46 - (n286 + 1)) + 12) (6 * (400 + 324 + 140 * (8 - (n85 + 1)) + 1634 + 1087 * (46 - (n286 + 1)) + 12)) (lw_Z below #[.ref b] s) (F0 m 448 ls [.int s141, .int r140]) := by
                                  intro s141 H locs ls hM hl hF
                                  rw [ej448_141] at hF
                                  refine lv_icmp_eq (tgt := 453) C0.1 C0.2.1 dL_law_448 (by decide) (fun c143 => ?_) (fun c143 => ?_)
                                  · have hF := if_t c143 hF
                                    refine lv_iload C0.1 C0.2.1 dL_law_453 (lv_at hl 16 rfl) ?_
                                    refine lv_if_eq (tgt := 548) C0.1 C0.2.1 dL_law_455 (by decide) (fun c144 => ?_) (fun c144 => ?_)
                                    · have hF := if_t c144 hF
                                      refine lv_goto (tgt := 865) C0.1 C0.2.1 dL_law_548 (by decide) ?_
                                      refine W.widen (k := 400 + 324 + 140 * (8 - (n85 + 1)) + 1634 + 1087 * (46 - (n286 + 1)) + 270) (n := 6 * (400 + 324 + 140 * (8 - (n85 + 1)) + 1634 + 1087 * (46 - (n286 + 1)) + 270)) (by omega) (by omega) ?_
                                      exact J865 (1 : Int32) M139 _ _ _ hM (lv_sub hl [0, 1, 2, 3, 4, 5, 6, 7, 8, 9, 10, 11, 12] rfl) hF
                                    · have hF := if_f c144 hF
                                      refine lv_aload_n C0.1 C0.2.1 dL_law_458 rfl (lv_at hl 1 rfl) ?_
                                      refine lv_aload_n C0.1 C0.2.1 dL_law_459 rfl (lv_at hl 2 rfl) ?_
                                      refine lv_aload_n C0.1 C0.2.1 dL_law_460 rfl (lv_at hl 3 rfl) ?_
                                      refine lv_aload C0.1 C0.2.1 dL_law_461 (lv_at hl 4 rfl) ?_
                                      refine lv_aload C0.1 C0.2.1 dL_law_463 (lv_at hl 5 rfl) ?_
                                      refine lv_iload C0.1 C0.2.1 dL_law_465 (lv_at hl 9 rfl) ?_
                                      refine lv_iload C0.1 C0.2.1 dL_law_467 (lv_at hl 13 rfl) ?_
                                      refine lv_iload C0.1 C0.2.1 dL_law_469 (lv_at hl 14 rfl) ?_
                                      refine lv_iload C0.1 C0.2.1 dL_law_471 (lv_at hl 15 rfl) ?_
                                      obtain ⟨r147, M146, h145, hF⟩ := bd2_some hF
                                      refine z_si (rest := []) (400 + 324 + 140 * (8 - (n85 + 1)) + 1634 + 1087 * (46 - (n286 + 1)) + 229) (6 * (400 + 324 + 140 * (8 - (n85 + 1)) + 1634 + 1087 * (46 - (n286 + 1)) + 229)) C0 hM hT hl.1 (k_L_act l hst G B0 sa M139 r48 s128 r131 x134 h145 hfr224 hfr225) cw_RL_98 rfl rfl ⟨Nat.le_of_ble_eq_true rfl, Nat.le_of_ble_eq_true rfl⟩ rfl (Nat.le_of_ble_eq_true rfl) ⟨by show _ ≤ 664594; omega, by show _ ≤ 7107842; omega⟩ (by omega) (by omega) dL_law_473 (fun H locs hM => ?_)
                                      refine lv_istore (lv' := [(17, .int r147), (0, .ref b), (1, .ref (gad G 216)), (2, .ref (gad G 220)), (3, .ref (gad G 221)), (4, .ref (gad G 222)), (5, .ref (gad G 223)), (6, .int x5), (7, .int l7_42), (8, .int r46), (9, .int r48), (10, .int r50), (11, .int x52), (12, .int (1 : Int32)), (13, .int s128), (14, .int r131), (15, .int x134), (16, .int r137)]) C0.1 C0.2.1 dL_law_476 hl (by decide) rfl (fun ls hl => ?_)
                                      refine lv_iload C0.1 C0.2.1 dL_law_478 (lv_at hl 10 rfl) ?_
                                      obtain ⟨j532_149, ej532_149, hF⟩ := nm_some hF
                                      have J532 : ∀ (s148 : Int32) (M149 : MS) (H : Heap) (locs : List Loc) (ls : Array Slot), MX G M149 s H locs → lv_has ls 19 [(0, .ref b), (1, .ref (gad G 216)), (2, .ref (gad G 220)), (3, .ref (gad G 221)), (4, .ref (gad G 222)), (5, .ref (gad G 223)), (6, .int x5), (7, .int l7_42), (8, .int r46), (9, .int r48), (10, .int r50), (11, .int x52), (12, .int (1 : Int32)), (13, .int s128), (14, .int r131), (15, .int x134), (16, .int r137), (17, .int r147)] → j532_149 s148 M149 = some 1 → W p l e room_1 s m #[.ref b] below meth c H locs (400 + 324 + 140 * (8 - (n85 + 1)) + 1634 + 1087 * (46 - (n286 + 1)) + 245) (6 * (400 + 324 + 140 * (8 - (n85 + 1)) + 1634 + 1087 * (46 - (n286 + 1)) + 245)) (lw_Z below #[.ref b] s) (F0 m 532 ls [.int s148]) := by
                                        intro s148 M149 H locs ls hM hl hF
                                        rw [ej532_149] at hF
                                        refine lv_istore (lv' := [(18, .int s148), (0, .ref b), (1, .ref (gad G 216)), (2, .ref (gad G 220)), (3, .ref (gad G 221)), (4, .ref (gad G 222)), (5, .ref (gad G 223)), (6, .int x5), (7, .int l7_42), (8, .int r46), (9, .int r48), (10, .int r50), (11, .int x52), (12, .int (1 : Int32)), (13, .int s128), (14, .int r131), (15, .int x134), (16, .int r137), (17, .int r147)]) C0.1 C0.2.1 dL_law_532 hl (by decide) rfl (fun ls hl => ?_)
                                        refine lv_iload C0.1 C0.2.1 dL_law_534 (lv_at hl 0 rfl) ?_
                                        refine lv_iload C0.1 C0.2.1 dL_law_536 (lv_at hl 18 rfl) ?_
                                        refine lv_icmp_ne (tgt := 545) C0.1 C0.2.1 dL_law_538 (by decide) (fun c151 => ?_) (fun c151 => ?_)
                                        · have hF := if_t c151 hF
                                          refine lv_iconst (v := (0 : Int32)) C0.1 C0.2.1 dL_law_545 (by decide) ?_
                                          refine lv_istore (lv' := [(12, .int (0 : Int32)), (18, .int s148), (0, .ref b), (1, .ref (gad G 216)), (2, .ref (gad G 220)), (3, .ref (gad G 221)), (4, .ref (gad G 222)), (5, .ref (gad G 223)), (6, .int x5), (7, .int l7_42), (8, .int r46), (9, .int r48), (10, .int r50), (11, .int x52), (13, .int s128), (14, .int r131), (15, .int x134), (16, .int r137), (17, .int r147)]) C0.1 C0.2.1 dL_law_546 hl (by decide) rfl (fun ls hl => ?_)
                                          refine lv_goto (tgt := 865) C0.1 C0.2.1 dL_law_548 (by decide) ?_
                                          refine W.widen (k := 400 + 324 + 140 * (8 - (n85 + 1)) + 1634 + 1087 * (46 - (n286 + 1)) + 270) (n := 6 * (400 + 324 + 140 * (8 - (n85 + 1)) + 1634 + 1087 * (46 - (n286 + 1)) + 270)) (by omega) (by omega) ?_
                                          exact J865 (0 : Int32) M149 _ _ _ hM (lv_sub hl [2, 3, 4, 5, 6, 7, 8, 9, 10, 11, 12, 13, 0] rfl) hF
                                        · have hF := if_f (fun q => q c151) hF
                                          refine lv_iconst (v := (1 : Int32)) C0.1 C0.2.1 dL_law_541 (by decide) ?_
                                          refine lv_goto (tgt := 546) C0.1 C0.2.1 dL_law_542 (by decide) ?_
                                          refine lv_istore (lv' := [(12, .int (1 : Int32)), (18, .int s148), (0, .ref b), (1, .ref (gad G 216)), (2, .ref (gad G 220)), (3, .ref (gad G 221)), (4, .ref (gad G 222)), (5, .ref (gad G 223)), (6, .int x5), (7, .int l7_42), (8, .int r46), (9, .int r48), (10, .int r50), (11, .int x52), (13, .int s128), (14, .int r131), (15, .int x134), (16, .int r137), (17, .int r147)]) C0.1 C0.2.1 dL_law_546 hl (by decide) rfl (fun ls hl => ?_)
                                          refine lv_goto (tgt := 865) C0.1 C0.2.1 dL_law_548 (by decide) ?_
                                          refine W.widen (k := 400 + 324 + 140 * (8 - (n85 + 1)) + 1634 + 1087 * (46 - (n286 + 1)) + 270) (n := 6 * (400 + 324 + 140 * (8 - (n85 + 1)) + 1634 + 1087 * (46 - (n286 + 1)) + 270)) (by omega) (by omega) ?_
                                          exact J865 (1 : Int32) M149 _ _ _ hM (lv_sub hl [2, 3, 4, 5, 6, 7, 8, 9, 10, 11, 12, 13, 0] rfl) hF
                                      refine lv_if_ne (tgt := 492) C0.1 C0.2.1 dL_law_480 (by decide) (fun c152 => ?_) (fun c152 => ?_)
                                      · have hF := if_t c152 hF
                                        refine lv_iload C0.1 C0.2.1 dL_law_492 (lv_at hl 10 rfl) ?_
                                        refine lv_iconst (v := (1 : Int32)) C0.1 C0.2.1 dL_law_494 (by decide) ?_
                                        refine lv_icmp_ne (tgt := 507) C0.1 C0.2.1 dL_law_495 (by decide) (fun c153 => ?_) (fun c153 => ?_)
                                        · have hF := if_t c153 hF
                                          refine lv_iload C0.1 C0.2.1 dL_law_507 (lv_at hl 10 rfl) ?_
                                          refine lv_iconst (v := (2 : Int32)) C0.1 C0.2.1 dL_law_509 (by decide) ?_
                                          refine lv_icmp_ne (tgt := 522) C0.1 C0.2.1 dL_law_510 (by decide) (fun c154 => ?_) (fun c154 => ?_)
                                          · have hF := if_t c154 hF
                                            refine lv_aload_n C0.1 C0.2.1 dL_law_522 rfl (lv_at hl 2 rfl) ?_
                                            refine lv_iload C0.1 C0.2.1 dL_law_523 (lv_at hl 14 rfl) ?_
                                            refine lv_iload C0.1 C0.2.1 dL_law_525 (lv_at hl 15 rfl) ?_
                                            refine lv_iload C0.1 C0.2.1 dL_law_527 (lv_at hl 16 rfl) ?_
                                            obtain ⟨r157, M156, h155, hF⟩ := bd0_some hF
                                            refine z_vi (rest := []) (400 + 324 + 140 * (8 - (n85 + 1)) + 1634 + 1087 * (46 - (n286 + 1)) + 233) (6 * (400 + 324 + 140 * (8 - (n85 + 1)) + 1634 + 1087 * (46 - (n286 + 1)) + 233)) C0 hM hT hl.1 (k_X4_curse l hst G B0 sa M146 s128 r131 x134 h155) cw_RL_111 rfl rfl ⟨Nat.le_of_ble_eq_true rfl, Nat.le_of_ble_eq_true rfl⟩ rfl (Nat.le_of_ble_eq_true rfl) ⟨by show _ ≤ 664594; omega, by show _ ≤ 7107842; omega⟩ (by omega) (by omega) dL_law_529 (fun H locs hM => ?_)
                                            refine W.widen (k := 400 + 324 + 140 * (8 - (n85 + 1)) + 1634 + 1087 * (46 - (n286 + 1)) + 245) (n := 6 * (400 + 324 + 140 * (8 - (n85 + 1)) + 1634 + 1087 * (46 - (n286 + 1)) + 245)) (by omega) (by omega) ?_
                                            exact J532 r157 M156 _ _ _ hM (lv_sub hl [1, 2, 3, 4, 5, 6, 7, 8, 9, 10, 11, 12, 13, 14, 15, 16, 17, 0] rfl) hF
                                          · have hF := if_f (fun q => q c154) hF
                                            refine lv_aload_n C0.1 C0.2.1 dL_law_513 rfl (lv_at hl 2 rfl) ?_
                                            refine lv_iload C0.1 C0.2.1 dL_law_514 (lv_at hl 14 rfl) ?_
                                            obtain ⟨r160, M159, h158, hF⟩ := bd0_some hF
                                            refine z_vi (rest := []) (400 + 324 + 140 * (8 - (n85 + 1)) + 1634 + 1087 * (46 - (n286 + 1)) + 233) (6 * (400 + 324 + 140 * (8 - (n85 + 1)) + 1634 + 1087 * (46 - (n286 + 1)) + 233)) C0 hM hT hl.1 (k_X4_help l hst G B0 sa M146 s128 h158) cw_RL_108 rfl rfl ⟨Nat.le_of_ble_eq_true rfl, Nat.le_of_ble_eq_true rfl⟩ rfl (Nat.le_of_ble_eq_true rfl) ⟨by show _ ≤ 664594; omega, by show _ ≤ 7107842; omega⟩ (by omega) (by omega) dL_law_516 (fun H locs hM => ?_)
                                            refine lv_goto (tgt := 532) C0.1 C0.2.1 dL_law_519 (by decide) ?_
                                            refine W.widen (k := 400 + 324 + 140 * (8 - (n85 + 1)) + 1634 + 1087 * (46 - (n286 + 1)) + 245) (n := 6 * (400 + 324 + 140 * (8 - (n85 + 1)) + 1634 + 1087 * (46 - (n286 + 1)) + 245)) (by omega) (by omega) ?_
                                            exact J532 r160 M159 _ _ _ hM (lv_sub hl [1, 2, 3, 4, 5, 6, 7, 8, 9, 10, 11, 12, 13, 14, 15, 16, 17, 0] rfl) hF
                                        · have hF := if_f (fun q => q c153) hF
                                          refine lv_aload_n C0.1 C0.2.1 dL_law_498 rfl (lv_at hl 2 rfl) ?_
                                          refine lv_iload C0.1 C0.2.1 dL_law_499 (lv_at hl 14 rfl) ?_
                                          obtain ⟨r163, M162, h161, hF⟩ := bd0_some hF
                                          refine z_vi (rest := []) (400 + 324 + 140 * (8 - (n85 + 1)) + 1634 + 1087 * (46 - (n286 + 1)) + 233) (6 * (400 + 324 + 140 * (8 - (n85 + 1)) + 1634 + 1087 * (46 - (n286 + 1)) + 233)) C0 hM hT hl.1 (k_X4_step l hst G B0 sa M146 s128 h161) cw_RL_105 rfl rfl ⟨Nat.le_of_ble_eq_true rfl, Nat.le_of_ble_eq_true rfl⟩ rfl (Nat.le_of_ble_eq_true rfl) ⟨by show _ ≤ 664594; omega, by show _ ≤ 7107842; omega⟩ (by omega) (by omega) dL_law_501 (fun H locs hM => ?_)
                                          refine lv_goto (tgt := 532) C0.1 C0.2.1 dL_law_504 (by decide) ?_
                                          refine W.widen (k := 400 + 324 + 140 * (8 - (n85 + 1)) + 1634 + 1087 * (46 - (n286 + 1)) + 245) (n := 6 * (400 + 324 + 140 * (8 - (n85 + 1)) + 1634 + 1087 * (46 - (n286 + 1)) + 245)) (by omega) (by omega) ?_
                                          exact J532 r163 M162 _ _ _ hM (lv_sub hl [1, 2, 3, 4, 5, 6, 7, 8, 9, 10, 11, 12, 13, 14, 15, 16, 17, 0] rfl) hF
                                      · have hF := if_f (fun q => q c152) hF
                                        refine lv_aload_n C0.1 C0.2.1 dL_law_483 rfl (lv_at hl 2 rfl) ?_
                                        refine lv_iload C0.1 C0.2.1 dL_law_484 (lv_at hl 14 rfl) ?_
                                        obtain ⟨r166, M165, h164, hF⟩ := bd0_some hF
                                        refine z_vi (rest := []) (400 + 324 + 140 * (8 - (n85 + 1)) + 1634 + 1087 * (46 - (n286 + 1)) + 233) (6 * (400 + 324 + 140 * (8 - (n85 + 1)) + 1634 + 1087 * (46 - (n286 + 1)) + 233)) C0 hM hT hl.1 (k_X4_strike l hst G B0 sa M146 s128 h164) cw_RL_102 rfl rfl ⟨Nat.le_of_ble_eq_true rfl, Nat.le_of_ble_eq_true rfl⟩ rfl (Nat.le_of_ble_eq_true rfl) ⟨by show _ ≤ 664594; omega, by show _ ≤ 7107842; omega⟩ (by omega) (by omega) dL_law_486 (fun H locs hM => ?_)
                                        refine lv_goto (tgt := 532) C0.1 C0.2.1 dL_law_489 (by decide) ?_
                                        refine W.widen (k := 400 + 324 + 140 * (8 - (n85 + 1)) + 1634 + 1087 * (46 - (n286 + 1)) + 245) (n := 6 * (400 + 324 + 140 * (8 - (n85 + 1)) + 1634 + 1087 * (46 - (n286 + 1)) + 245)) (by omega) (by omega) ?_
                                        exact J532 r166 M165 _ _ _ hM (lv_sub hl [1, 2, 3, 4, 5, 6, 7, 8, 9, 10, 11, 12, 13, 14, 15, 16, 17, 0] rfl) hF
                                  · have hF := if_f c143 hF
                                    refine lv_iconst (v := (0 : Int32)) C0.1 C0.2.1 dL_law_451 (by decide) ?_
                                    exact absurd (y_1 hF) (by decide)
                                refine lv_if_eq (tgt := 447) C0.1 C0.2.1 dL_law_440 (by decide) (fun c167 => ?_) (fun c167 => ?_)
                                · have hF := if_t c167 hF
                                  refine lv_iconst (v := (0 : Int32)) C0.1 C0.2.1 dL_law_447 (by decide) ?_
                                  refine W.widen (k := 400 + 324 + 140 * (8 - (n85 + 1)) + 1634 + 1087 * (46 - (n286 + 1)) + 12) (n := 6 * (400 + 324 + 140 * (8 - (n85 + 1)) + 1634 + 1087 * (46 - (n286 + 1)) + 12)) (by omega) (by omega) ?_
                                  exact J448 (0 : Int32) _ _ _ hM (lv_sub hl [4, 5, 6, 7, 8, 9, 10, 11, 12, 13, 14, 15, 16, 3, 2, 1, 0] rfl) hF
                                · have hF := if_f c167 hF
                                  refine lv_iconst (v := (1 : Int32)) C0.1 C0.2.1 dL_law_443 (by decide) ?_
                                  refine lv_goto (tgt := 448) C0.1 C0.2.1 dL_law_444 (by decide) ?_
                                  refine W.widen (k := 400 + 324 + 140 * (8 - (n85 + 1)) + 1634 + 1087 * (46 - (n286 + 1)) + 12) (n := 6 * (400 + 324 + 140 * (8 - (n85 + 1)) + 1634 + 1087 * (46 - (n286 + 1)) + 12)) (by omega) (by omega) ?_
                                  exact J448 (1 : Int32) _ _ _ hM (lv_sub hl [4, 5, 6, 7, 8, 9, 10, 11, 12, 13, 14, 15, 16, 3, 2, 1, 0] rfl) hF
                              refine lv_icmp_ne (tgt := 387) C0.1 C0.2.1 dL_law_371 (by decide) (fun c168 => ?_) (fun c168 => ?_)
                              · have hF := if_t c168 hF
                                refine lv_iload C0.1 C0.2.1 dL_law_387 (lv_at hl 2 rfl) ?_
                                refine W.widen (k := 400 + 324 + 140 * (8 - (n85 + 1)) + 1634 + 1087 * (46 - (n286 + 1)) + 0) (n := 6 * (400 + 324 + 140 * (8 - (n85 + 1)) + 1634 + 1087 * (46 - (n286 + 1)) + 0)) (by omega) (by omega) ?_
                                exact J389 r50 _ _ _ hM (lv_sub hl [5, 6, 7, 8, 9, 10, 11, 12, 4, 3, 2, 1, 0] rfl) hF
                              · have hF := if_f (fun q => q c168) hF
                                refine lv_iload C0.1 C0.2.1 dL_law_374 (lv_at hl 4 rfl) ?_
                                refine lv_bipush (v := (8 : Int32)) C0.1 C0.2.1 dL_law_376 (by decide) ?_
                                refine lv_ishr C0.1 C0.2.1 dL_law_378 ?_
                                refine lv_bipush (v := (10 : Int32)) C0.1 C0.2.1 dL_law_379 (by decide) ?_
                                obtain ⟨r170, h169, hF⟩ := bd_some hF
                                refine y_si (rest := []) C0 hM hl.1 (k_L_low l G M43 (r46 >>> ((8 : Int32) &&& 31)) (10 : Int32) h169) cw_RL_16 rfl rfl ⟨Nat.le_of_ble_eq_true rfl, Nat.le_of_ble_eq_true rfl⟩ rfl (Nat.le_of_ble_eq_true rfl) ⟨by show _ ≤ 664594; omega, by show _ ≤ 7107842; omega⟩ dL_law_381 (fun H locs hM => ?_)
                                refine lv_goto (tgt := 389) C0.1 C0.2.1 dL_law_384 (by decide) ?_
                                refine W.widen (k := 400 + 324 + 140 * (8 - (n85 + 1)) + 1634 + 1087 * (46 - (n286 + 1)) + 0) (n := 6 * (400 + 324 + 140 * (8 - (n85 + 1)) + 1634 + 1087 * (46 - (n286 + 1)) + 0)) (by omega) (by omega) ?_
                                exact J389 r170 _ _ _ hM (lv_sub hl [5, 6, 7, 8, 9, 10, 11, 12, 4, 3, 2, 1, 0] rfl) hF
                          · have hF := if_f c62 hF
                            refine lv_aload_n C0.1 C0.2.1 dL_law_338 rfl (lv_at hl 6 rfl) ?_
                            refine lv_iconst (v := (3 : Int32)) C0.1 C0.2.1 dL_law_339 (by decide) ?_
                            obtain ⟨r173, M172, h171, hF⟩ := bd0_some hF
                            refine z_vi (rest := []) (400 + 324 + 140 * (8 - (n85 + 1)) + 1634 + 1087 * (46 - (n286 + 1)) + 4) (6 * (400 + 324 + 140 * (8 - (n85 + 1)) + 1634 + 1087 * (46 - (n286 + 1)) + 4)) C0 hM hT hl.1 (k_X4_count l hst G B0 sa M43 (3 : Int32) h171) cw_RL_32 rfl rfl ⟨Nat.le_of_ble_eq_true rfl, Nat.le_of_ble_eq_true rfl⟩ rfl (Nat.le_of_ble_eq_true rfl) ⟨by show _ ≤ 664594; omega, by show _ ≤ 7107842; omega⟩ (by omega) (by omega) dL_law_340 (fun H locs hM => ?_)
                            refine lv_aload_n C0.1 C0.2.1 dL_law_343 rfl (lv_at hl 6 rfl) ?_
                            refine lv_iconst (v := (4 : Int32)) C0.1 C0.2.1 dL_law_344 (by decide) ?_
                            obtain ⟨r176, M175, h174, hF⟩ := bd0_some hF
                            refine z_vi (rest := [.int r173]) (400 + 324 + 140 * (8 - (n85 + 1)) + 1634 + 1087 * (46 - (n286 + 1)) + 8) (6 * (400 + 324 + 140 * (8 - (n85 + 1)) + 1634 + 1087 * (46 - (n286 + 1)) + 8)) C0 hM hT hl.1 (k_X4_count l hst G B0 sa M172 (4 : Int32) h174) cw_RL_32 rfl rfl ⟨Nat.le_of_ble_eq_true rfl, Nat.le_of_ble_eq_true rfl⟩ rfl (Nat.le_of_ble_eq_true rfl) ⟨by show _ ≤ 664594; omega, by show _ ≤ 7107842; omega⟩ (by omega) (by omega) dL_law_345 (fun H locs hM => ?_)
                            refine lv_iadd C0.1 C0.2.1 dL_law_348 ?_
                            refine lv_if_ne (tgt := 356) C0.1 C0.2.1 dL_law_349 (by decide) (fun c177 => ?_) (fun c177 => ?_)
                            · have hF := if_t c177 hF
                              refine lv_iconst (v := (0 : Int32)) C0.1 C0.2.1 dL_law_356 (by decide) ?_
                              refine lv_istore (lv' := [(12, .int (0 : Int32)), (11, .int x52), (10, .int r50), (9, .int r48), (8, .int r46), (0, .ref b), (1, .ref (gad G 216)), (2, .ref (gad G 220)), (3, .ref (gad G 221)), (4, .ref (gad G 222)), (5, .ref (gad G 223)), (6, .int x5), (7, .int l7_42)]) C0.1 C0.2.1 dL_law_357 hl (by decide) rfl (fun ls hl => ?_)
                              refine lv_goto (tgt := 865) C0.1 C0.2.1 dL_law_359 (by decide) ?_
                              refine W.widen (k := 400 + 324 + 140 * (8 - (n85 + 1)) + 1634 + 1087 * (46 - (n286 + 1)) + 270) (n := 6 * (400 + 324 + 140 * (8 - (n85 + 1)) + 1634 + 1087 * (46 - (n286 + 1)) + 270)) (by omega) (by omega) ?_
                              exact J865 (0 : Int32) M175 _ _ _ hM (lv_sub hl [5, 6, 7, 8, 9, 10, 11, 12, 4, 3, 2, 1, 0] rfl) hF
                            · have hF := if_f (fun q => q c177) hF
                              refine lv_iconst (v := (1 : Int32)) C0.1 C0.2.1 dL_law_352 (by decide) ?_
                              refine lv_goto (tgt := 357) C0.1 C0.2.1 dL_law_353 (by decide) ?_
                              refine lv_istore (lv' := [(12, .int (1 : Int32)), (11, .int x52), (10, .int r50), (9, .int r48), (8, .int r46), (0, .ref b), (1, .ref (gad G 216)), (2, .ref (gad G 220)), (3, .ref (gad G 221)), (4, .ref (gad G 222)), (5, .ref (gad G 223)), (6, .int x5), (7, .int l7_42)]) C0.1 C0.2.1 dL_law_357 hl (by decide) rfl (fun ls hl => ?_)
                              refine lv_goto (tgt := 865) C0.1 C0.2.1 dL_law_359 (by decide) ?_
                              refine W.widen (k := 400 + 324 + 140 * (8 - (n85 + 1)) + 1634 + 1087 * (46 - (n286 + 1)) + 270) (n := 6 * (400 + 324 + 140 * (8 - (n85 + 1)) + 1634 + 1087 * (46 - (n286 + 1)) + 270)) (by omega) (by omega) ?_
                              exact J865 (1 : Int32) M175 _ _ _ hM (lv_sub hl [5, 6, 7, 8, 9, 10, 11, 12, 4, 3, 2, 1, 0] rfl) hF
                    refine W.widen (k := 400 + 324 + 140 * (8 - (n85 + 1)) + 1634 + 1087 * (46 - 46) + 0) (n := 6 * (400 + 324 + 140 * (8 - (n85 + 1)) + 1634 + 1087 * (46 - 46) + 0)) (by omega) (by omega) ?_
                    exact L286 46 (0 : Int32) M39 _ _ _ (by omega) hM (lv_sub hl [1, 2, 3, 4, 5, 6, 7, 0] rfl) hF
                  · have hF := if_f (fun q => q c41) hF
                    refine lv_iconst (v := (0 : Int32)) C0.1 C0.2.1 dL_law_281 (by decide) ?_
                    exact absurd (y_1 hF) (by decide)
              · have hF := if_f (fun q => q c28) hF
                refine lv_iconst (v := (0 : Int32)) C0.1 C0.2.1 dL_law_240 (by decide) ?_
                exact absurd (y_1 hF) (by decide)
            · have hF := if_f c24 hF
              refine lv_aload_n C0.1 C0.2.1 dL_law_92 rfl (lv_at hl 2 rfl) ?_
              refine lv_bipush (v := (8 : Int32)) C0.1 C0.2.1 dL_law_93 (by decide) ?_
              refine lv_iload C0.1 C0.2.1 dL_law_95 (lv_at hl 7 rfl) ?_
              refine lv_imul C0.1 C0.2.1 dL_law_97 ?_
              refine lv_aload_n C0.1 C0.2.1 dL_law_98 rfl (lv_at hl 1 rfl) ?_
              refine lv_iload C0.1 C0.2.1 dL_law_99 (lv_at hl 7 rfl) ?_
              refine lv_iconst (v := (2 : Int32)) C0.1 C0.2.1 dL_law_101 (by decide) ?_
              obtain ⟨r180, M179, h178, hF⟩ := bd0_some hF
              refine z_vi (rest := [.int ((8 : Int32) * l7_22), .ref (gad G 220)]) (400 + 324 + 140 * (8 - (n85 + 1)) + 4) (6 * (400 + 324 + 140 * (8 - (n85 + 1)) + 4)) C0 hM hT hl.1 (k_X4_fighter l hst G B0 sa M23 l7_22 (2 : Int32) h178) cw_RL_26 rfl rfl ⟨Nat.le_of_ble_eq_true rfl, Nat.le_of_ble_eq_true rfl⟩ rfl (Nat.le_of_ble_eq_true rfl) ⟨by show _ ≤ 664594; omega, by show _ ≤ 7107842; omega⟩ (by omega) (by omega) dL_law_102 (fun H locs hM => ?_)
              obtain ⟨g181, hF⟩ := gdb_some hF
              refine y_iast C0 hM oka_a g181 dL_law_105 (fun H locs hM => ?_)
              obtain ⟨M182, eM182, hF⟩ := nm_some hF
              have hM := y_mn eM182 hM
              refine lv_aload_n C0.1 C0.2.1 dL_law_106 rfl (lv_at hl 2 rfl) ?_
              refine lv_bipush (v := (8 : Int32)) C0.1 C0.2.1 dL_law_107 (by decide) ?_
              refine lv_iload C0.1 C0.2.1 dL_law_109 (lv_at hl 7 rfl) ?_
              refine lv_imul C0.1 C0.2.1 dL_law_111 ?_
              refine lv_iconst (v := (1 : Int32)) C0.1 C0.2.1 dL_law_112 (by decide) ?_
              refine lv_iadd C0.1 C0.2.1 dL_law_113 ?_
              refine lv_aload_n C0.1 C0.2.1 dL_law_114 rfl (lv_at hl 1 rfl) ?_
              refine lv_iload C0.1 C0.2.1 dL_law_115 (lv_at hl 7 rfl) ?_
              refine lv_iconst (v := (5 : Int32)) C0.1 C0.2.1 dL_law_117 (by decide) ?_
              obtain ⟨r185, M184, h183, hF⟩ := bd0_some hF
              refine z_vi (rest := [.int (((8 : Int32) * l7_22) + (1 : Int32)), .ref (gad G 220)]) (400 + 324 + 140 * (8 - (n85 + 1)) + 8) (6 * (400 + 324 + 140 * (8 - (n85 + 1)) + 8)) C0 hM hT hl.1 (k_X4_fighter l hst G B0 sa M182 l7_22 (5 : Int32) h183) cw_RL_26 rfl rfl ⟨Nat.le_of_ble_eq_true rfl, Nat.le_of_ble_eq_true rfl⟩ rfl (Nat.le_of_ble_eq_true rfl) ⟨by show _ ≤ 664594; omega, by show _ ≤ 7107842; omega⟩ (by omega) (by omega) dL_law_118 (fun H locs hM => ?_)
              obtain ⟨g186, hF⟩ := gdb_some hF
              refine y_iast C0 hM oka_a g186 dL_law_121 (fun H locs hM => ?_)
              obtain ⟨M187, eM187, hF⟩ := nm_some hF
              have hM := y_mn eM187 hM
              refine lv_aload_n C0.1 C0.2.1 dL_law_122 rfl (lv_at hl 2 rfl) ?_
              refine lv_bipush (v := (8 : Int32)) C0.1 C0.2.1 dL_law_123 (by decide) ?_
              refine lv_iload C0.1 C0.2.1 dL_law_125 (lv_at hl 7 rfl) ?_
              refine lv_imul C0.1 C0.2.1 dL_law_127 ?_
              refine lv_iconst (v := (2 : Int32)) C0.1 C0.2.1 dL_law_128 (by decide) ?_
              refine lv_iadd C0.1 C0.2.1 dL_law_129 ?_
              refine lv_aload_n C0.1 C0.2.1 dL_law_130 rfl (lv_at hl 1 rfl) ?_
              refine lv_iload C0.1 C0.2.1 dL_law_131 (lv_at hl 7 rfl) ?_
              refine lv_iconst (v := (1 : Int32)) C0.1 C0.2.1 dL_law_133 (by decide) ?_
              obtain ⟨r190, M189, h188, hF⟩ := bd0_some hF
              refine z_vi (rest := [.int (((8 : Int32) * l7_22) + (2 : Int32)), .ref (gad G 220)]) (400 + 324 + 140 * (8 - (n85 + 1)) + 12) (6 * (400 + 324 + 140 * (8 - (n85 + 1)) + 12)) C0 hM hT hl.1 (k_X4_fighter l hst G B0 sa M187 l7_22 (1 : Int32) h188) cw_RL_26 rfl rfl ⟨Nat.le_of_ble_eq_true rfl, Nat.le_of_ble_eq_true rfl⟩ rfl (Nat.le_of_ble_eq_true rfl) ⟨by show _ ≤ 664594; omega, by show _ ≤ 7107842; omega⟩ (by omega) (by omega) dL_law_134 (fun H locs hM => ?_)
              obtain ⟨g191, hF⟩ := gdb_some hF
              refine y_iast C0 hM oka_a g191 dL_law_137 (fun H locs hM => ?_)
              obtain ⟨M192, eM192, hF⟩ := nm_some hF
              have hM := y_mn eM192 hM
              refine lv_aload_n C0.1 C0.2.1 dL_law_138 rfl (lv_at hl 2 rfl) ?_
              refine lv_iload C0.1 C0.2.1 dL_law_139 (lv_at hl 7 rfl) ?_
              obtain ⟨M194, h193, hF⟩ := bd_some hF
              refine y_sv (rest := []) C0 hM hl.1 (k_L_forget l G M192 l7_22 h193) cw_RL_40 rfl rfl ⟨Nat.le_of_ble_eq_true rfl, Nat.le_of_ble_eq_true rfl⟩ rfl (Nat.le_of_ble_eq_true rfl) ⟨by show _ ≤ 664594; omega, by show _ ≤ 7107842; omega⟩ dL_law_141 (fun H locs hM => ?_)
              refine lv_iconst (v := (0 : Int32)) C0.1 C0.2.1 dL_law_144 (by decide) ?_
              refine lv_istore (lv' := [(8, .int (0 : Int32)), (0, .ref b), (1, .ref (gad G 216)), (2, .ref (gad G 220)), (3, .ref (gad G 221)), (4, .ref (gad G 222)), (5, .ref (gad G 223)), (6, .int x5), (7, .int l7_22)]) C0.1 C0.2.1 dL_law_145 hl (by decide) rfl (fun ls hl => ?_)
              refine lv_iconst (v := (0 : Int32)) C0.1 C0.2.1 dL_law_147 (by decide) ?_
              refine lv_istore (lv' := [(9, .int (0 : Int32)), (8, .int (0 : Int32)), (0, .ref b), (1, .ref (gad G 216)), (2, .ref (gad G 220)), (3, .ref (gad G 221)), (4, .ref (gad G 222)), (5, .ref (gad G 223)), (6, .int x5), (7, .int l7_22)]) C0.1 C0.2.1 dL_law_148 hl (by decide) rfl (fun ls hl => ?_)
              have L150 : ∀ (n : Nat) (l8_195 : Int32) (l9_196 : Int32) (M197 : MS) (H : Heap) (locs : List Loc) (ls : Array Slot), n ≤ 8 → MX G M197 s H locs → lv_has ls 19 [(0, .ref b), (1, .ref (gad G 216)), (2, .ref (gad G 220)), (3, .ref (gad G 221)), (4, .ref (gad G 222)), (5, .ref (gad G 223)), (6, .int x5), (7, .int l7_22), (8, .int l8_195), (9, .int l9_196)] → F_L_law_l150 x5 l7_22 (fun zz0 zz1 => F_L_law_l85 xs L x5 n85 zz0 zz1) n l8_195 l9_196 M197 = some 1 → W p l e room_1 s m #[.ref b] below meth c H locs (400 + 324 + 140 * (8 - (n85 + 1)) + 12 + 16 * (8 - n) + 0) (6 * (400 + 324 + 140 * (8 - (n85 + 1)) + 12 + 16 * (8 - n) + 0)) (lw_Z below #[.ref b] s) (F0 m 150 ls []) := by
                intro n
                induction n with
                | zero => intro l8_195 l9_196 M197 H locs ls hn150 hM hl hF; rw [F_L_law_l150] at hF; cases hF
                | succ n150 ih150 =>
                  intro l8_195 l9_196 M197 H locs ls hn150 hM hl hF
                  rw [F_L_law_l150] at hF
                  refine lv_iload C0.1 C0.2.1 dL_law_150 (lv_at hl 9 rfl) ?_
                  refine lv_iload C0.1 C0.2.1 dL_law_152 (lv_at hl 6 rfl) ?_
                  refine lv_icmp_ge (tgt := 214) C0.1 C0.2.1 dL_law_154 (by decide) (fun c198 => ?_) (fun c198 => ?_)
                  · have hF := if_t c198 hF
                    refine lv_aload C0.1 C0.2.1 dL_law_214 (lv_at hl 4 rfl) ?_
                    refine lv_iload C0.1 C0.2.1 dL_law_216 (lv_at hl 8 rfl) ?_
                    refine lv_iload C0.1 C0.2.1 dL_law_218 (lv_at hl 7 rfl) ?_
                    obtain ⟨g199, hF⟩ := gdb_some hF
                    refine y_iast C0 hM oka_r g199 dL_law_220 (fun H locs hM => ?_)
                    obtain ⟨M200, eM200, hF⟩ := nm_some hF
                    have hM := y_mn eM200 hM
                    obtain ⟨x201, ex201, hF⟩ := nm_some hF
                    refine lv_iinc (v := x201) (lv' := [(7, .int x201), (0, .ref b), (1, .ref (gad G 216)), (2, .ref (gad G 220)), (3, .ref (gad G 221)), (4, .ref (gad G 222)), (5, .ref (gad G 223)), (6, .int x5), (8, .int l8_195), (9, .int l9_196)]) C0.1 C0.2.1 dL_law_221 hl (k := 7) rfl (by rw [ex201]; rfl) (by decide) rfl (fun ls hl => ?_)
                    refine lv_goto (tgt := 85) C0.1 C0.2.1 dL_law_224 (by decide) ?_
                    refine W.widen (k := 400 + 324 + 140 * (8 - n85) + 0) (n := 6 * (400 + 324 + 140 * (8 - n85) + 0)) (by omega) (by omega) ?_
                    exact ih85 x201 M200 _ _ _ (by omega) hM (lv_sub hl [1, 2, 3, 4, 5, 6, 7, 0] rfl) hF
                  · have hF := if_f c198 hF
                    refine lv_iload C0.1 C0.2.1 dL_law_157 (lv_at hl 8 rfl) ?_
                    refine lv_aload_n C0.1 C0.2.1 dL_law_159 rfl (lv_at hl 1 rfl) ?_
                    refine lv_iload C0.1 C0.2.1 dL_law_160 (lv_at hl 9 rfl) ?_
                    refine lv_iconst (v := (1 : Int32)) C0.1 C0.2.1 dL_law_162 (by decide) ?_
                    obtain ⟨r204, M203, h202, hF⟩ := bd0_some hF
                    refine z_vi (rest := [.int l8_195]) (400 + 324 + 140 * (8 - (n85 + 1)) + 12 + 16 * (8 - (n150 + 1)) + 4) (6 * (400 + 324 + 140 * (8 - (n85 + 1)) + 12 + 16 * (8 - (n150 + 1)) + 4)) C0 hM hT hl.1 (k_X4_fighter l hst G B0 sa M197 l9_196 (1 : Int32) h202) cw_RL_26 rfl rfl ⟨Nat.le_of_ble_eq_true rfl, Nat.le_of_ble_eq_true rfl⟩ rfl (Nat.le_of_ble_eq_true rfl) ⟨by show _ ≤ 664594; omega, by show _ ≤ 7107842; omega⟩ (by omega) (by omega) dL_law_163 (fun H locs hM => ?_)
                    refine lv_aload_n C0.1 C0.2.1 dL_law_166 rfl (lv_at hl 1 rfl) ?_
                    refine lv_iload C0.1 C0.2.1 dL_law_167 (lv_at hl 7 rfl) ?_
                    refine lv_iconst (v := (1 : Int32)) C0.1 C0.2.1 dL_law_169 (by decide) ?_
                    obtain ⟨r207, M206, h205, hF⟩ := bd0_some hF
                    refine z_vi (rest := [.int r204, .int l8_195]) (400 + 324 + 140 * (8 - (n85 + 1)) + 12 + 16 * (8 - (n150 + 1)) + 8) (6 * (400 + 324 + 140 * (8 - (n85 + 1)) + 12 + 16 * (8 - (n150 + 1)) + 8)) C0 hM hT hl.1 (k_X4_fighter l hst G B0 sa M203 l7_22 (1 : Int32) h205) cw_RL_26 rfl rfl ⟨Nat.le_of_ble_eq_true rfl, Nat.le_of_ble_eq_true rfl⟩ rfl (Nat.le_of_ble_eq_true rfl) ⟨by show _ ≤ 664594; omega, by show _ ≤ 7107842; omega⟩ (by omega) (by omega) dL_law_170 (fun H locs hM => ?_)
                    refine lv_icmp_gt (tgt := 200) C0.1 C0.2.1 dL_law_173 (by decide) (fun c208 => ?_) (fun c208 => ?_)
                    · have hF := if_t c208 hF
                      refine lv_iconst (v := (1 : Int32)) C0.1 C0.2.1 dL_law_200 (by decide) ?_
                      refine lv_goto (tgt := 205) C0.1 C0.2.1 dL_law_201 (by decide) ?_
                      refine lv_iadd C0.1 C0.2.1 dL_law_205 ?_
                      obtain ⟨x209, ex209, hF⟩ := nm_some hF
                      refine y_topi ex209 ?_
                      refine lv_istore (lv' := [(8, .int x209), (0, .ref b), (1, .ref (gad G 216)), (2, .ref (gad G 220)), (3, .ref (gad G 221)), (4, .ref (gad G 222)), (5, .ref (gad G 223)), (6, .int x5), (7, .int l7_22), (9, .int l9_196)]) C0.1 C0.2.1 dL_law_206 hl (by decide) rfl (fun ls hl => ?_)
                      obtain ⟨x210, ex210, hF⟩ := nm_some hF
                      refine lv_iinc (v := x210) (lv' := [(9, .int x210), (8, .int x209), (0, .ref b), (1, .ref (gad G 216)), (2, .ref (gad G 220)), (3, .ref (gad G 221)), (4, .ref (gad G 222)), (5, .ref (gad G 223)), (6, .int x5), (7, .int l7_22)]) C0.1 C0.2.1 dL_law_208 hl (k := 9) rfl (by rw [ex210]; rfl) (by decide) rfl (fun ls hl => ?_)
                      refine lv_goto (tgt := 150) C0.1 C0.2.1 dL_law_211 (by decide) ?_
                      refine W.widen (k := 400 + 324 + 140 * (8 - (n85 + 1)) + 12 + 16 * (8 - n150) + 0) (n := 6 * (400 + 324 + 140 * (8 - (n85 + 1)) + 12 + 16 * (8 - n150) + 0)) (by omega) (by omega) ?_
                      exact ih150 x209 x210 M206 _ _ _ (by omega) hM (lv_sub hl [2, 3, 4, 5, 6, 7, 8, 9, 1, 0] rfl) hF
                    · have hF := if_f c208 hF
                      refine lv_iload C0.1 C0.2.1 dL_law_176 (lv_at hl 9 rfl) ?_
                      refine lv_iload C0.1 C0.2.1 dL_law_178 (lv_at hl 7 rfl) ?_
                      refine lv_icmp_ge (tgt := 204) C0.1 C0.2.1 dL_law_180 (by decide) (fun c211 => ?_) (fun c211 => ?_)
                      · have hF := if_t c211 hF
                        refine lv_iconst (v := (0 : Int32)) C0.1 C0.2.1 dL_law_204 (by decide) ?_
                        refine lv_iadd C0.1 C0.2.1 dL_law_205 ?_
                        obtain ⟨x212, ex212, hF⟩ := nm_some hF
                        refine y_topi ex212 ?_
                        refine lv_istore (lv' := [(8, .int x212), (0, .ref b), (1, .ref (gad G 216)), (2, .ref (gad G 220)), (3, .ref (gad G 221)), (4, .ref (gad G 222)), (5, .ref (gad G 223)), (6, .int x5), (7, .int l7_22), (9, .int l9_196)]) C0.1 C0.2.1 dL_law_206 hl (by decide) rfl (fun ls hl => ?_)
                        obtain ⟨x213, ex213, hF⟩ := nm_some hF
                        refine lv_iinc (v := x213) (lv' := [(9, .int x213), (8, .int x212), (0, .ref b), (1, .ref (gad G 216)), (2, .ref (gad G 220)), (3, .ref (gad G 221)), (4, .ref (gad G 222)), (5, .ref (gad G 223)), (6, .int x5), (7, .int l7_22)]) C0.1 C0.2.1 dL_law_208 hl (k := 9) rfl (by rw [ex213]; rfl) (by decide) rfl (fun ls hl => ?_)
                        refine lv_goto (tgt := 150) C0.1 C0.2.1 dL_law_211 (by decide) ?_
                        refine W.widen (k := 400 + 324 + 140 * (8 - (n85 + 1)) + 12 + 16 * (8 - n150) + 0) (n := 6 * (400 + 324 + 140 * (8 - (n85 + 1)) + 12 + 16 * (8 - n150) + 0)) (by omega) (by omega) ?_
                        exact ih150 x212 x213 M206 _ _ _ (by omega) hM (lv_sub hl [2, 3, 4, 5, 6, 7, 8, 9, 1, 0] rfl) hF
                      · have hF := if_f c211 hF
                        refine lv_aload_n C0.1 C0.2.1 dL_law_183 rfl (lv_at hl 1 rfl) ?_
                        refine lv_iload C0.1 C0.2.1 dL_law_184 (lv_at hl 9 rfl) ?_
                        refine lv_iconst (v := (1 : Int32)) C0.1 C0.2.1 dL_law_186 (by decide) ?_
                        obtain ⟨r216, M215, h214, hF⟩ := bd0_some hF
                        refine z_vi (rest := [.int l8_195]) (400 + 324 + 140 * (8 - (n85 + 1)) + 12 + 16 * (8 - (n150 + 1)) + 12) (6 * (400 + 324 + 140 * (8 - (n85 + 1)) + 12 + 16 * (8 - (n150 + 1)) + 12)) C0 hM hT hl.1 (k_X4_fighter l hst G B0 sa M206 l9_196 (1 : Int32) h214) cw_RL_26 rfl rfl ⟨Nat.le_of_ble_eq_true rfl, Nat.le_of_ble_eq_true rfl⟩ rfl (Nat.le_of_ble_eq_true rfl) ⟨by show _ ≤ 664594; omega, by show _ ≤ 7107842; omega⟩ (by omega) (by omega) dL_law_187 (fun H locs hM => ?_)
                        refine lv_aload_n C0.1 C0.2.1 dL_law_190 rfl (lv_at hl 1 rfl) ?_
                        refine lv_iload C0.1 C0.2.1 dL_law_191 (lv_at hl 7 rfl) ?_
                        refine lv_iconst (v := (1 : Int32)) C0.1 C0.2.1 dL_law_193 (by decide) ?_
                        obtain ⟨r219, M218, h217, hF⟩ := bd0_some hF
                        refine z_vi (rest := [.int r216, .int l8_195]) (400 + 324 + 140 * (8 - (n85 + 1)) + 12 + 16 * (8 - (n150 + 1)) + 16) (6 * (400 + 324 + 140 * (8 - (n85 + 1)) + 12 + 16 * (8 - (n150 + 1)) + 16)) C0 hM hT hl.1 (k_X4_fighter l hst G B0 sa M215 l7_22 (1 : Int32) h217) cw_RL_26 rfl rfl ⟨Nat.le_of_ble_eq_true rfl, Nat.le_of_ble_eq_true rfl⟩ rfl (Nat.le_of_ble_eq_true rfl) ⟨by show _ ≤ 664594; omega, by show _ ≤ 7107842; omega⟩ (by omega) (by omega) dL_law_194 (fun H locs hM => ?_)
                        refine lv_icmp_ne (tgt := 204) C0.1 C0.2.1 dL_law_197 (by decide) (fun c220 => ?_) (fun c220 => ?_)
                        · have hF := if_t c220 hF
                          refine lv_iconst (v := (0 : Int32)) C0.1 C0.2.1 dL_law_204 (by decide) ?_
                          refine lv_iadd C0.1 C0.2.1 dL_law_205 ?_
                          obtain ⟨x221, ex221, hF⟩ := nm_some hF
                          refine y_topi ex221 ?_
                          refine lv_istore (lv' := [(8, .int x221), (0, .ref b), (1, .ref (gad G 216)), (2, .ref (gad G 220)), (3, .ref (gad G 221)), (4, .ref (gad G 222)), (5, .ref (gad G 223)), (6, .int x5), (7, .int l7_22), (9, .int l9_196)]) C0.1 C0.2.1 dL_law_206 hl (by decide) rfl (fun ls hl => ?_)
                          obtain ⟨x222, ex222, hF⟩ := nm_some hF
                          refine lv_iinc (v := x222) (lv' := [(9, .int x222), (8, .int x221), (0, .ref b), (1, .ref (gad G 216)), (2, .ref (gad G 220)), (3, .ref (gad G 221)), (4, .ref (gad G 222)), (5, .ref (gad G 223)), (6, .int x5), (7, .int l7_22)]) C0.1 C0.2.1 dL_law_208 hl (k := 9) rfl (by rw [ex222]; rfl) (by decide) rfl (fun ls hl => ?_)
                          refine lv_goto (tgt := 150) C0.1 C0.2.1 dL_law_211 (by decide) ?_
                          refine W.widen (k := 400 + 324 + 140 * (8 - (n85 + 1)) + 12 + 16 * (8 - n150) + 0) (n := 6 * (400 + 324 + 140 * (8 - (n85 + 1)) + 12 + 16 * (8 - n150) + 0)) (by omega) (by omega) ?_
                          exact ih150 x221 x222 M218 _ _ _ (by omega) hM (lv_sub hl [2, 3, 4, 5, 6, 7, 8, 9, 1, 0] rfl) hF
                        · have hF := if_f (fun q => q c220) hF
                          refine lv_iconst (v := (1 : Int32)) C0.1 C0.2.1 dL_law_200 (by decide) ?_
                          refine lv_goto (tgt := 205) C0.1 C0.2.1 dL_law_201 (by decide) ?_
                          refine lv_iadd C0.1 C0.2.1 dL_law_205 ?_
                          obtain ⟨x223, ex223, hF⟩ := nm_some hF
                          refine y_topi ex223 ?_
                          refine lv_istore (lv' := [(8, .int x223), (0, .ref b), (1, .ref (gad G 216)), (2, .ref (gad G 220)), (3, .ref (gad G 221)), (4, .ref (gad G 222)), (5, .ref (gad G 223)), (6, .int x5), (7, .int l7_22), (9, .int l9_196)]) C0.1 C0.2.1 dL_law_206 hl (by decide) rfl (fun ls hl => ?_)
                          obtain ⟨x224, ex224, hF⟩ := nm_some hF
                          refine lv_iinc (v := x224) (lv' := [(9, .int x224), (8, .int x223), (0, .ref b), (1, .ref (gad G 216)), (2, .ref (gad G 220)), (3, .ref (gad G 221)), (4, .ref (gad G 222)), (5, .ref (gad G 223)), (6, .int x5), (7, .int l7_22)]) C0.1 C0.2.1 dL_law_208 hl (k := 9) rfl (by rw [ex224]; rfl) (by decide) rfl (fun ls hl => ?_)
                          refine lv_goto (tgt := 150) C0.1 C0.2.1 dL_law_211 (by decide) ?_
                          refine W.widen (k := 400 + 324 + 140 * (8 - (n85 + 1)) + 12 + 16 * (8 - n150) + 0) (n := 6 * (400 + 324 + 140 * (8 - (n85 + 1)) + 12 + 16 * (8 - n150) + 0)) (by omega) (by omega) ?_
                          exact ih150 x223 x224 M218 _ _ _ (by omega) hM (lv_sub hl [2, 3, 4, 5, 6, 7, 8, 9, 1, 0] rfl) hF
              refine W.widen (k := 400 + 324 + 140 * (8 - (n85 + 1)) + 12 + 16 * (8 - 8) + 0) (n := 6 * (400 + 324 + 140 * (8 - (n85 + 1)) + 12 + 16 * (8 - 8) + 0)) (by omega) (by omega) ?_
              exact L150 8 (0 : Int32) (0 : Int32) M194 _ _ _ (by omega) hM (lv_sub hl [2, 3, 4, 5, 6, 7, 8, 9, 1, 0] rfl) hF
        refine W.widen (k := 400 + 324 + 140 * (8 - 8) + 0) (n := 6 * (400 + 324 + 140 * (8 - 8) + 0)) (by omega) (by omega) ?_
        exact L85 8 (0 : Int32) M21 _ _ _ (by omega) hM (lv_sub hl [7, 6, 5, 4, 3, 2, 1, 0] rfl) hF
      · have hF := if_f (fun q => q c19) hF
        refine lv_iconst (v := (0 : Int32)) C0.1 C0.2.1 dL_law_74 (by decide) ?_
        exact absurd (y_1 hF) (by decide)
