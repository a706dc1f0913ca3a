def WH (y : MethodName) (cc : ByteArray) (n : Nat) (r : Option FieldType) (hh : List (Nat × Nat × Nat × Nat)) : List Cond := .codeWith y cc n r hh :: TBg
def HI (l : Launch) (y : MethodName) (ws : List Cond) (rm : Room) (G : GG) (B0 : Nat) (sa : Nat × Nat × Nat) (av : List Value) (M : MS) (r : Int32) (Mf : MS) : Prop := ∀ sz, vx_Met l y ws rm (va_Pc av (WX G B0 sa M sz)) (va_Qi (fun (r' : Int32) (_ : Unit) => r' = r) (fun _ t => Wd G Mf t) (Af G sz)) (vx_X (fun _ : Unit => False) (fun _ _ _ => False) (Af G sz)) 4 24 (Af G sz)
abbrev QHI (below : List Frame) (args : Array Value) (s : State) (G : GG) (sz : Nat) (r : Int32) (Mf : MS) : State → Prop := vx_MQ below (va_Qi (fun (r' : Int32) (_ : Unit) => r' = r) (fun _ t => Wd G Mf t) (Af G sz)) (vx_X (fun _ : Unit => False) (fun _ _ _ => False) (Af G sz)) args s 4 24 (Af G sz)
def hsel : List (Nat × Int32) → Nat → Option Int32
  | [], _ => none
  | (c, j) :: t, k => if k = c then some j else hsel t k
theorem hsel_cons {c k : Nat} {j i : Int32} {t : List (Nat × Int32)} (h : hsel ((c, j) :: t) k = some i) : (k = c ∧ i = j) ∨ hsel t k = some i := by
  unfold hsel at h
  split at h
  · cases h; exact Or.inl ⟨by assumption, rfl⟩
  · exact Or.inr h
theorem hsel_nil {k : Nat} {i : Int32} (h : hsel [] k = some i) : False := by cases h
/-- what a call that may throw leaves: its answer in the law's row, or which of the handlers took it -/
def bh (o : Option (Nat × Int32 × MS)) (hs : List (Nat × Int32)) : Option (Int32 × MS) := match o with
  | none => none
  | some (k, r, M1) => if k = 0 then some (0, wO M1 (Int32.toInt64 r)) else match hsel hs k with
    | none => none
    | some j => some (j, M1)
theorem bh_some {o : Option (Nat × Int32 × MS)} {hs : List (Nat × Int32)} {r : Int32} {Mf : MS} (h : bh o hs = some (r, Mf)) : ∃ k1 r1 M1, o = some (k1, r1, M1) ∧ (k1 = 0 → some ((0 : Int32), wO M1 (Int32.toInt64 r1)) = some (r, Mf)) ∧ (k1 ≠ 0 → hsel hs k1 = some r ∧ M1 = Mf) := by
  cases o with
  | none => cases h
  | some a =>
    obtain ⟨k1, r1, M1⟩ := a
    refine ⟨k1, r1, M1, rfl, fun hk => ?_, fun hk => ?_⟩
    · simpa [bh, hk] using h
    · have h2 : (match hsel hs k1 with | none => none | some j => some (j, M1)) = some (r, Mf) := by simpa [bh, hk] using h
      cases hq : hsel hs k1 with
      | none => rw [hq] at h2; cases h2
      | some j => rw [hq] at h2; cases h2; exact ⟨rfl, rfl⟩
section XH
variable {p : Program} {l : Launch} {e : Env} {R : Room} {s : State} {m : MethodId} {args : Array Value} {below : List Frame} {meth : Method} {c : Code} {H : Heap} {locs : List Loc} {cells slots : Nat} {Q : State → Prop}
variable {cc : ByteArray} {own : String} {nL : Nat} {ret : Option FieldType} {pc : Nat} {ls : Array Slot} {rest : List Value} {G : GG} {M : MS} {B0 : Nat} {sa : Nat × Nat × Nat}
theorem x_metH {y : MethodName} {av : List Value} {Qc : Array Value → State → Outcome → State → Prop} {XC : String → State → State → Prop} {rm : Room} {sz mc ms : Nat} {cc : ByteArray} {nL : Nat} {ret : Option FieldType} {hh : List (Nat × Nat × Nat × Nat)} (hy : plainName y.cls = true) (hn : (lg_sl av).length ≤ nL)
    (body : ∀ (p : Program) (e : Env) (s : State) (m : MethodId) (below : List Frame) (meth : Method) (c : Code) (ls : Array Slot), s.heap.size = sz → CX p s m meth c av.toArray cc y.cls nL ret → c.exceptionTable.toList = tableOf hh → MX G M s s.heap [] → TX G B0 sa s s.heap → lv_has ls nL (lv_args 0 av) →
      W p l e rm s m av.toArray below meth c s.heap [] 0 0 (vx_MQ below Qc XC av.toArray s mc ms (Af G sz)) (F0 m 0 ls [])) :
    vx_Met l y (WH y cc nL ret hh) rm (va_Pc av (WX G B0 sa M sz)) Qc XC mc ms (Af G sz) := by
  refine vx_ofWH (cc := cc) (maxL := nL) (ret := ret) (hh := hh) hy rfl ?_
  intro p e s m args below meth c s₁ B hml hv
  obtain ⟨rfl, hsz, ⟨hK, hP, hG⟩, hT⟩ := hv
  have hts := atoms_spec (ws := WH y cc nL ret hh) B.pre
  rw [lg_entry_eq]
  exact body p e s m below meth c _ hsz ⟨B.exec, B.bytes, hml, findClass_of_methodNamed B.named, fun w hw => hts w (List.mem_cons_of_mem _ hw), B.returns, B.notSynchronized⟩ (vx_table (x := y) B (hts _ List.mem_cons_self)) ⟨hK, hP, hG, va_S.rf⟩ hT (lv_entry av hn)
theorem x_hret {Mf : MS} {r : Int32} {sz : Nat} (C0 : CX p s m meth c args cc own nL (some .int)) (hM : MX G Mf s H locs) (hsz : s.heap.size = sz) (h1 : cells ≤ 4) (h2 : slots ≤ 24) (hdg : decode cc pc = .ok (.ireturn, 1)) :
    W p l e R s m args below meth c H locs cells slots (QHI below args s G sz r Mf) (F0 m pc ls [.int r]) := by
  obtain ⟨hx, hb, -, hown, hts, hr, hlk⟩ := C0
  subst hsz
  obtain ⟨hK, hP, hG, hS⟩ := hM
  refine W.widen (k := 4) (n := 24) h1 h2 (vx_ret ?_)
  exact W.iret hx hb hr (fun t ht hW => ⟨⟨r, (), rfl, rfl, va_K.moved hW.alike hK, by rw [ht]; exact hP, hG⟩, hS.F ht⟩) hS.2.2 hdg hlk
theorem vp_cell1 {cA : ClassId} {f g : Nat → Int64} (h : f 0 = g 0) : vp_cell cA (1, .inr (.inl f)) = vp_cell cA (1, .inr (.inl g)) := by
  show arrV cA 1 (fun j => Value.long (f j)) = arrV cA 1 (fun j => Value.long (g j))
  simp [arrV, h]
theorem y_last (C0 : CX p s m meth c args cc own nL ret) (hM : MX G M s H locs) {x : Int64} (hdg : decode cc pc = .ok (.lastore, 1))
    (kk : ∀ (H1 : Heap) (locs1 : List Loc), MX G (wO M x) s H1 locs1 → W p l e R s m args below meth c H1 locs1 cells slots Q (F0 m (pc + 1) ls rest)) : W p l e R s m args below meth c H locs cells slots Q (F0 m pc ls (.long x :: .int 0 :: .ref (gad G 227) :: rest)) := by
  have hv : ok 9 227 := ok_c (by decide +kernel)
  obtain ⟨hx, hb, -, hown, hts, -, -⟩ := C0
  have hD := hM.D
  obtain ⟨hK, hP, hG, hS⟩ := hM
  refine va_last (f := fun _ => rO M) hx hb hK hP hD hS 227 3 ((wsM_at hv.1).trans (by rw [ent9 hv])) rfl (inb_in (by decide +kernel)) hdg (fun H1 locs1 hP1 _ hS1 => kk H1 locs1 ⟨hK, ?_, hG, hS1⟩)
  intro k q hk
  have hl : k < 228 := by have := (List.getElem?_eq_some_iff.mp hk).1; simpa [wsM] using this
  by_cases hk7 : k = 227
  · subst hk7
    have h1 := hP1 227 _ (List.getElem?_set_self (by simp [wsM]))
    rw [wsM_at hl, ent9 hv] at hk
    cases hk
    have h2 : H1[gad G 227]? = some (vp_cell G.2.1.2.2.2 (1, .inr (.inl (vp_updL (fun _ => rO M) (Int32.toNatClampNeg 0) x)))) := h1
    show H1[gad G 227]? = some (vp_cell G.2.1.2.2.2 (1, .inr (.inl (fun _ => rO (wO M x)))))
    rw [h2, vp_cell1 (g := fun _ => rO (wO M x)) (by rfl)]
  · refine hP1 k q ?_
    rw [List.getElem?_set_ne (Ne.symm hk7), wsM_at hl]
    rw [wsM_at hl, ent_wO_ne hl hk7] at hk
    exact hk
theorem h_vi {y : MethodName} {cc' : ByteArray} {nL' index k : Nat} {ret' : Option FieldType} {rm : Room} {As st0 : List Value} {r : Int32} {M' : MS} (C0 : CX p s m meth c args cc own nL ret) (hM : MX G M s H locs) (hT : TX G B0 sa s s.heap) (hls : ls.size = nL)
    (hK : XI l y (WS y cc' nL' ret') rm G B0 sa (.ref (gad G 216) :: As) M k r M') (cw : CWV own index RX4 y cc' nL' ret' As.length) (hm : rm.cells = 4) (hs : rm.slots = 24) (hR : rm.frames + 1 ≤ R.frames ∧ 8 + (nL' + 11) + rm.locals ≤ R.locals) (hst : st0 = As.reverse ++ .ref (gad G 216) :: rest) (hW : (rest.map fun v => v.category).sum ≤ 8) (hf : cells + 4 ≤ R.cells ∧ slots + 24 ≤ R.slots) (hdg : decode cc pc = .ok (.invokevirtual index, 3))
    (kx : k ≠ 0 → ∀ (ce : Cell) (q9 : Addr) (H1 : Heap) (locs1 : List Loc), MX G M' s H1 locs1 → H1[q9]? = some ce → ce.vm = .none → s.vm.findClass (EC k) = some ce.cls → vx_W p l e R s m args below meth c H1 locs1 (cells + 4) (slots + 24) Q (F0 m pc ls rest) q9)
    (kk : k = 0 → ∀ (H1 : Heap) (locs1 : List Loc), MX G M' s H1 locs1 → W p l e R s m args below meth c H1 locs1 (cells + 4) (slots + 24) Q (F0 m (pc + 3) ls (.int r :: rest))) : W p l e R s m args below meth c H locs cells slots Q (F0 m pc ls st0) := by
  have hcw : CallW R s args own RX4 index y cc' nL' ret' (WS y cc' nL' ret') rm 4 24 As.length := by
    obtain ⟨hx, hb, -, hown, hts, -, -⟩ := C0
    obtain ⟨h1, h2, h3, h4, h5⟩ := cw
    have hi : ∀ w ∈ wsV own index RX4 y (WS y cc' nL' ret'), w ∈ TBg := by
      intro w hw
      rcases List.mem_append.mp hw with h | h
      · exact h1 w (List.mem_append_left [Cond.code y cc' nL' ret'] h)
      · exact WS_in (h1 _ (by simp)) w h
    exact cwV As.length hts (good_TBg hi) rfl hm hs ⟨h2, h3, h4, h5⟩ hR
  obtain ⟨hx, hb, hml, hown, hts, -, -⟩ := C0
  have hp := x_pre (av := .ref (gad G 216) :: As) hM hT
  refine vx_calli (vx_runV (As := As) (rest := rest) ⟨hx, hb, hml, hown, hts⟩ (hK H.size) hcw ⟨hp.1, va_recv hM.1 hM.2.1 (ci := 4) (q0 := 216) (q := (RX4, TX4, 5)) rfl ((wsM_at ok_tt.1).trans (by rw [ent4 ok_tt])), hp.2⟩ rfl rfl hls hst (lv_room hW) hdg hf) hM.2.2.2 (fun q _ h => MX_free hM q h) (MX_free hM) (fun q _ h => MX_free hM q h)
    (fun E ce q9 u t H1 locs1 ht hvm hw hB _ _ hS hce hcv hcl => ?_) (fun r' u t H1 locs1 ht hvm hw hB _ _ hS => ?_)
  · obtain ⟨hE, hB⟩ := hB
    subst hE
    exact kx hw ce q9 H1 locs1 (y_back ht hvm hB hS) hce hcv hcl
  · obtain ⟨hk, hr⟩ := hw
    subst hr
    exact kk hk H1 locs1 (y_back ht hvm hB hS)
/-- a handler takes it: the rows ahead name other classes -/
theorem h_catch {k : Nat} {q9 : Addr} {ce : Cell} {hh : List (Nat × Nat × Nat × Nat)} (C0 : CX p s m meth c args cc RL nL ret) (hT : TX G B0 sa s s.heap) (hex : c.exceptionTable.toList = tableOf hh) (pre : List ExceptionTableEntry) (x : ExceptionTableEntry) (suf : List ExceptionTableEntry) (hsp : tableOf hh = pre ++ x :: suf)
    (hk : 1 ≤ k ∧ k ≤ 3) (ps : List (Nat × Nat)) (hps : ∀ z ∈ pre, ∃ q ∈ ps, z.catchType = q.1) (hps2 : ∀ q ∈ ps, q.1 ≠ 0 ∧ 1 ≤ q.2 ∧ q.2 ≤ 3 ∧ k ≠ q.2) (hps3 : ∀ q ∈ ps, Cond.classLink RL q.1 (EC q.2) ∈ TBg) (hx : covers x pc = true) (h0 : x.catchType ≠ 0)
    (hlink : Cond.classLink RL x.catchType (EC k) ∈ TBg) (hcast : Cond.castable (EC k) (EC k) ∈ NGW) (hcell : H[q9]? = some ce) (hv : ce.vm = .none) (hcl : s.vm.findClass (EC k) = some ce.cls)
    (kk : W p l e R s m args below meth c H locs cells slots Q (F0 m x.handlerPc ls [.ref q9])) : vx_W p l e R s m args below meth c H locs cells slots Q (F0 m pc ls rest) q9 := by
  obtain ⟨_, hb, hml, hown, hts, -, -⟩ := C0
  refine vx_catch hown pre x suf (hex.trans hsp) (fun z hz => Or.inr ?_) hx h0 (hts _ hlink) (va_Nw.use ((by decide +kernel : ∀ w ∈ NGW, w.onTables = true) _ hcast) (hT.2.2.2.2 _ hcast)) hcell hv hcl kk
  obtain ⟨q, hq, hzq⟩ := hps z hz
  obtain ⟨g1, g2, g3, g4⟩ := hps2 q hq
  rw [hzq]
  exact ⟨g1, EC q.2, hts _ (hps3 q hq), hT.2.2.2.1 k q.2 hk.1 hk.2 g2 g3 g4⟩
end XH

theorem clk_13 : Cond.classLink RL 13 (EC 1) ∈ TBg := tb1 514 (by decide +kernel) (by decide +kernel)
theorem clk_15 : Cond.classLink RL 15 (EC 2) ∈ TBg := tb1 515 (by decide +kernel) (by decide +kernel)
theorem clk_21 : Cond.classLink RL 21 (EC 3) ∈ TBg := tb1 625 (by decide +kernel) (by decide +kernel)
def F_L_append (M : MS) (a0 : Int32) : Option (Int32 × MS) := bh (F_X4_append M a0) [(1, (1 : Int32)), (2, (2 : Int32))]
set_option maxHeartbeats 4000000 in
set_option maxRecDepth 100000 in
theorem k_L_append (l : Launch) (hst : l.stackTraces = false) (G : GG) (B0 : Nat) (sa : Nat × Nat × Nat) (M : MS) (a0 : Int32) {r : Int32} {Mf : MS} (hF : F_L_append M a0 = some (r, Mf)) : HI l yL_append (WH yL_append cL_append 4 (some .int) [(0, 9, 12, 13), (0, 9, 15, 15)]) (RmX 8) G B0 sa [.ref (gad G 216), .int a0, .ref (gad G 227)] M r Mf := by
  intro sz
  refine x_metH (by decide +kernel) (Nat.le_of_ble_eq_true rfl) (fun p e s m below meth c ls hsz C0 hex hM hT hl => ?_)
  have hl : lv_has ls 4 [(0, .ref (gad G 216)), (1, .int a0), (2, .ref (gad G 227))] := hl
  have C0 : CX p s m meth c ([.ref (gad G 216), .int a0, .ref (gad G 227)] : List Value).toArray cL_append RL 4 (some .int) := C0
  rw [F_L_append] at hF
  refine lv_aload_n C0.1 C0.2.1 dL_append_0 rfl (lv_at hl 2 rfl) ?_
  refine lv_iconst (v := (0 : Int32)) C0.1 C0.2.1 dL_append_1 (by decide) ?_
  refine lv_aload_n C0.1 C0.2.1 dL_append_2 rfl (lv_at hl 0 rfl) ?_
  refine lv_iload_n C0.1 C0.2.1 dL_append_3 rfl (lv_at hl 1 rfl) ?_
  obtain ⟨k1, r1, M1, h1, hN, hE⟩ := bh_some hF
  refine h_vi (rest := [.int 0, .ref (gad G 227)]) C0 hM hT hl.1 (k_X4_append l hst G B0 sa M a0 h1) (⟨tbx [726, 727, 728, 69, 729] (by decide +kernel) (by decide +kernel), rfl, by decide +kernel, by decide +kernel, by decide +kernel⟩ : CWV RL 46 RX4 yX4_append cX4_append 2 (some .int) 1) rfl rfl ⟨Nat.le_of_ble_eq_true rfl, Nat.le_of_ble_eq_true rfl⟩ rfl (Nat.le_of_ble_eq_true rfl) ⟨Nat.le_of_ble_eq_true rfl, Nat.le_of_ble_eq_true rfl⟩ dL_append_4 (fun hk ce q9 H locs hM hce hcv hcl => ?_) (fun hk H locs hM => ?_)
  · obtain ⟨hs, he⟩ := hE hk
    subst he
    rcases hsel_cons hs with ⟨e1, e2⟩ | hs
    · subst e1
      subst e2
      refine h_catch C0 hT hex [] { startPc := 0, endPc := 9, handlerPc := 12, catchType := 13 } [{ startPc := 0, endPc := 9, handlerPc := 15, catchType := 15 }] rfl (by decide) [] (by decide) (by decide) (by intro q hq; cases hq) rfl (by decide) clk_13 (by decide +kernel) hce hcv hcl ?_
      refine lv_astore_n (lv' := [(3, .ref q9), (0, .ref (gad G 216)), (1, .int a0), (2, .ref (gad G 227))]) C0.1 C0.2.1 dL_append_12 rfl hl (by decide) rfl (fun ls hl => ?_)
      refine lv_iconst (v := (1 : Int32)) C0.1 C0.2.1 dL_append_13 (by decide) ?_
      exact x_hret C0 hM hsz (Nat.le_of_ble_eq_true rfl) (Nat.le_of_ble_eq_true rfl) dL_append_14
    rcases hsel_cons hs with ⟨e1, e2⟩ | hs
    · subst e1
      subst e2
      refine h_catch C0 hT hex [{ startPc := 0, endPc := 9, handlerPc := 12, catchType := 13 }] { startPc := 0, endPc := 9, handlerPc := 15, catchType := 15 } [] rfl (by decide) [(13, 1)] (by decide) (by decide) (by intro q hq; simp only [List.mem_cons, List.not_mem_nil, or_false] at hq; rcases hq with rfl <;> first | exact clk_13) rfl (by decide) clk_15 (by decide +kernel) hce hcv hcl ?_
      refine lv_astore_n (lv' := [(3, .ref q9), (0, .ref (gad G 216)), (1, .int a0), (2, .ref (gad G 227))]) C0.1 C0.2.1 dL_append_15 rfl hl (by decide) rfl (fun ls hl => ?_)
      refine lv_iconst (v := (2 : Int32)) C0.1 C0.2.1 dL_append_16 (by decide) ?_
      exact x_hret C0 hM hsz (Nat.le_of_ble_eq_true rfl) (Nat.le_of_ble_eq_true rfl) dL_append_17
    exact (hsel_nil hs).elim
  · obtain ⟨e8, e9⟩ := y_2 (hN hk)
    subst e8
    subst e9
    refine lv_i2l (v := Int32.toInt64 r1) C0.1 C0.2.1 dL_append_7 rfl ?_
    refine y_last C0 hM dL_append_8 (fun H locs hM => ?_)
    refine lv_goto (tgt := 18) C0.1 C0.2.1 dL_append_9 (by decide) ?_
    refine lv_iconst (v := (0 : Int32)) C0.1 C0.2.1 dL_append_18 (by decide) ?_
    exact x_hret C0 hM hsz (Nat.le_of_ble_eq_true rfl) (Nat.le_of_ble_eq_true rfl) dL_append_19
def F_L_come (M : MS) (a0 : Int32) (a1 : Int32) (a2 : Int32) (a3 : Int32) : Option (Int32 × MS) := bh (F_X4_come M a0 a1 a2 a3) [(1, (1 : Int32)), (2, (2 : Int32))]
set_option maxHeartbeats 4000000 in
set_option maxRecDepth 100000 in
theorem k_L_come (l : Launch) (hst : l.stackTraces = false) (G : GG) (B0 : Nat) (sa : Nat × Nat × Nat) (M : MS) (a0 : Int32) (a1 : Int32) (a2 : Int32) (a3 : Int32) {r : Int32} {Mf : MS} (hF : F_L_come M a0 a1 a2 a3 = some (r, Mf)) : HI l yL_come (WH yL_come cL_come 7 (some .int) [(0, 14, 17, 13), (0, 14, 21, 15)]) (RmX 8) G B0 sa [.ref (gad G 216), .int a0, .int a1, .int a2, .int a3, .ref (gad G 227)] M r Mf := by
  intro sz
  refine x_metH (by decide +kernel) (Nat.le_of_ble_eq_true rfl) (fun p e s m below meth c ls hsz C0 hex hM hT hl => ?_)
  have hl : lv_has ls 7 [(0, .ref (gad G 216)), (1, .int a0), (2, .int a1), (3, .int a2), (4, .int a3), (5, .ref (gad G 227))] := hl
  have C0 : CX p s m meth c ([.ref (gad G 216), .int a0, .int a1, .int a2, .int a3, .ref (gad G 227)] : List Value).toArray cL_come RL 7 (some .int) := C0
  rw [F_L_come] at hF
  refine lv_aload C0.1 C0.2.1 dL_come_0 (lv_at hl 5 rfl) ?_
  refine lv_iconst (v := (0 : Int32)) C0.1 C0.2.1 dL_come_2 (by decide) ?_
  refine lv_aload_n C0.1 C0.2.1 dL_come_3 rfl (lv_at hl 0 rfl) ?_
  refine lv_iload_n C0.1 C0.2.1 dL_come_4 rfl (lv_at hl 1 rfl) ?_
  refine lv_iload_n C0.1 C0.2.1 dL_come_5 rfl (lv_at hl 2 rfl) ?_
  refine lv_iload_n C0.1 C0.2.1 dL_come_6 rfl (lv_at hl 3 rfl) ?_
  refine lv_iload C0.1 C0.2.1 dL_come_7 (lv_at hl 4 rfl) ?_
  obtain ⟨k1, r1, M1, h1, hN, hE⟩ := bh_some hF
  refine h_vi (rest := [.int 0, .ref (gad G 227)]) C0 hM hT hl.1 (k_X4_come l hst G B0 sa M a0 a1 a2 a3 h1) (⟨tbx [516, 517, 518, 69, 519] (by decide +kernel) (by decide +kernel), rfl, by decide +kernel, by decide +kernel, by decide +kernel⟩ : CWV RL 7 RX4 yX4_come cX4_come 5 (some .int) 4) rfl rfl ⟨Nat.le_of_ble_eq_true rfl, Nat.le_of_ble_eq_true rfl⟩ rfl (Nat.le_of_ble_eq_true rfl) ⟨Nat.le_of_ble_eq_true rfl, Nat.le_of_ble_eq_true rfl⟩ dL_come_9 (fun hk ce q9 H locs hM hce hcv hcl => ?_) (fun hk H locs hM => ?_)
  · obtain ⟨hs, he⟩ := hE hk
    subst he
    rcases hsel_cons hs with ⟨e1, e2⟩ | hs
    · subst e1
      subst e2
      refine h_catch C0 hT hex [] { startPc := 0, endPc := 14, handlerPc := 17, catchType := 13 } [{ startPc := 0, endPc := 14, handlerPc := 21, catchType := 15 }] rfl (by decide) [] (by decide) (by decide) (by intro q hq; cases hq) rfl (by decide) clk_13 (by decide +kernel) hce hcv hcl ?_
      refine lv_astore (lv' := [(6, .ref q9), (0, .ref (gad G 216)), (1, .int a0), (2, .int a1), (3, .int a2), (4, .int a3), (5, .ref (gad G 227))]) C0.1 C0.2.1 dL_come_17 hl (by decide) rfl (fun ls hl => ?_)
      refine lv_iconst (v := (1 : Int32)) C0.1 C0.2.1 dL_come_19 (by decide) ?_
      exact x_hret C0 hM hsz (Nat.le_of_ble_eq_true rfl) (Nat.le_of_ble_eq_true rfl) dL_come_20
    rcases hsel_cons hs with ⟨e1, e2⟩ | hs
    · subst e1
      subst e2
      refine h_catch C0 hT hex [{ startPc := 0, endPc := 14, handlerPc := 17, catchType := 13 }] { startPc := 0, endPc := 14, handlerPc := 21, catchType := 15 } [] rfl (by decide) [(13, 1)] (by decide) (by decide) (by intro q hq; simp only [List.mem_cons, List.not_mem_nil, or_false] at hq; rcases hq with rfl <;> first | exact clk_13) rfl (by decide) clk_15 (by decide +kernel) hce hcv hcl ?_
      refine lv_astore (lv' := [(6, .ref q9), (0, .ref (gad G 216)), (1, .int a0), (2, .int a1), (3, .int a2), (4, .int a3), (5, .ref (gad G 227))]) C0.1 C0.2.1 dL_come_21 hl (by decide) rfl (fun ls hl => ?_)
      refine lv_iconst (v := (2 : Int32)) C0.1 C0.2.1 dL_come_23 (by decide) ?_
      exact x_hret C0 hM hsz (Nat.le_of_ble_eq_true rfl) (Nat.le_of_ble_eq_true rfl) dL_come_24
    exact (hsel_nil hs).elim
  · obtain ⟨e8, e9⟩ := y_2 (hN hk)
    subst e8
    subst e9
    refine lv_i2l (v := Int32.toInt64 r1) C0.1 C0.2.1 dL_come_12 rfl ?_
    refine y_last C0 hM dL_come_13 (fun H locs hM => ?_)
    refine lv_goto (tgt := 25) C0.1 C0.2.1 dL_come_14 (by decide) ?_
    refine lv_iconst (v := (0 : Int32)) C0.1 C0.2.1 dL_come_25 (by decide) ?_
    exact x_hret C0 hM hsz (Nat.le_of_ble_eq_true rfl) (Nat.le_of_ble_eq_true rfl) dL_come_26
def F_L_comeIn (M : MS) (a0 : Int32) : Option (Int32 × MS) := bh (F_X4_comeIn M a0) [(3, (1 : Int32)), (2, (2 : Int32))]
set_option maxHeartbeats 4000000 in
set_option maxRecDepth 100000 in
theorem k_L_comeIn (l : Launch) (hst : l.stackTraces = false) (G : GG) (B0 : Nat) (sa : Nat × Nat × Nat) (M : MS) (a0 : Int32) {r : Int32} {Mf : MS} (hF : F_L_comeIn M a0 = some (r, Mf)) : HI l yL_comeIn (WH yL_comeIn cL_comeIn 4 (some .int) [(0, 9, 12, 21), (0, 9, 15, 15)]) (RmX 8) G B0 sa [.ref (gad G 216), .int a0, .ref (gad G 227)] M r Mf := by
  intro sz
  refine x_metH (by decide +kernel) (Nat.le_of_ble_eq_true rfl) (fun p e s m below meth c ls hsz C0 hex hM hT hl => ?_)
  have hl : lv_has ls 4 [(0, .ref (gad G 216)), (1, .int a0), (2, .ref (gad G 227))] := hl
  have C0 : CX p s m meth c ([.ref (gad G 216), .int a0, .ref (gad G 227)] : List Value).toArray cL_comeIn RL 4 (some .int) := C0
  rw [F_L_comeIn] at hF
  refine lv_aload_n C0.1 C0.2.1 dL_comeIn_0 rfl (lv_at hl 2 rfl) ?_
  refine lv_iconst (v := (0 : Int32)) C0.1 C0.2.1 dL_comeIn_1 (by decide) ?_
  refine lv_aload_n C0.1 C0.2.1 dL_comeIn_2 rfl (lv_at hl 0 rfl) ?_
  refine lv_iload_n C0.1 C0.2.1 dL_comeIn_3 rfl (lv_at hl 1 rfl) ?_
  obtain ⟨k1, r1, M1, h1, hN, hE⟩ := bh_some hF
  refine h_vi (rest := [.int 0, .ref (gad G 227)]) C0 hM hT hl.1 (k_X4_comeIn l hst G B0 sa M a0 h1) (⟨tbx [707, 708, 709, 69, 710] (by decide +kernel) (by decide +kernel), rfl, by decide +kernel, by decide +kernel, by decide +kernel⟩ : CWV RL 43 RX4 yX4_comeIn cX4_comeIn 2 (some .int) 1) rfl rfl ⟨Nat.le_of_ble_eq_true rfl, Nat.le_of_ble_eq_true rfl⟩ rfl (Nat.le_of_ble_eq_true rfl) ⟨Nat.le_of_ble_eq_true rfl, Nat.le_of_ble_eq_true rfl⟩ dL_comeIn_4 (fun hk ce q9 H locs hM hce hcv hcl => ?_) (fun hk H locs hM => ?_)
  · obtain ⟨hs, he⟩ := hE hk
    subst he
    rcases hsel_cons hs with ⟨e1, e2⟩ | hs
    · subst e1
      subst e2
      refine h_catch C0 hT hex [] { startPc := 0, endPc := 9, handlerPc := 12, catchType := 21 } [{ startPc := 0, endPc := 9, handlerPc := 15, catchType := 15 }] rfl (by decide) [] (by decide) (by decide) (by intro q hq; cases hq) rfl (by decide) clk_21 (by decide +kernel) hce hcv hcl ?_
      refine lv_astore_n (lv' := [(3, .ref q9), (0, .ref (gad G 216)), (1, .int a0), (2, .ref (gad G 227))]) C0.1 C0.2.1 dL_comeIn_12 rfl hl (by decide) rfl (fun ls hl => ?_)
      refine lv_iconst (v := (1 : Int32)) C0.1 C0.2.1 dL_comeIn_13 (by decide) ?_
      exact x_hret C0 hM hsz (Nat.le_of_ble_eq_true rfl) (Nat.le_of_ble_eq_true rfl) dL_comeIn_14
    rcases hsel_cons hs with ⟨e1, e2⟩ | hs
    · subst e1
      subst e2
      refine h_catch C0 hT hex [{ startPc := 0, endPc := 9, handlerPc := 12, catchType := 21 }] { startPc := 0, endPc := 9, handlerPc := 15, catchType := 15 } [] rfl (by decide) [(21, 3)] (by decide) (by decide) (by intro q hq; simp only [List.mem_cons, List.not_mem_nil, or_false] at hq; rcases hq with rfl <;> first | exact clk_21) rfl (by decide) clk_15 (by decide +kernel) hce hcv hcl ?_
      refine lv_astore_n (lv' := [(3, .ref q9), (0, .ref (gad G 216)), (1, .int a0), (2, .ref (gad G 227))]) C0.1 C0.2.1 dL_comeIn_15 rfl hl (by decide) rfl (fun ls hl => ?_)
      refine lv_iconst (v := (2 : Int32)) C0.1 C0.2.1 dL_comeIn_16 (by decide) ?_
      exact x_hret C0 hM hsz (Nat.le_of_ble_eq_true rfl) (Nat.le_of_ble_eq_true rfl) dL_comeIn_17
    exact (hsel_nil hs).elim
  · obtain ⟨e8, e9⟩ := y_2 (hN hk)
    subst e8
    subst e9
    refine lv_i2l (v := Int32.toInt64 r1) C0.1 C0.2.1 dL_comeIn_7 rfl ?_
    refine y_last C0 hM dL_comeIn_8 (fun H locs hM => ?_)
    refine lv_goto (tgt := 18) C0.1 C0.2.1 dL_comeIn_9 (by decide) ?_
    refine lv_iconst (v := (0 : Int32)) C0.1 C0.2.1 dL_comeIn_18 (by decide) ?_
    exact x_hret C0 hM hsz (Nat.le_of_ble_eq_true rfl) (Nat.le_of_ble_eq_true rfl) dL_comeIn_19
def F_L_count (M : MS) (a0 : Int32) : Option (Int32 × MS) := bh (F_X4_count M a0) [(1, (1 : Int32))]
set_option maxHeartbeats 4000000 in
set_option maxRecDepth 100000 in
theorem k_L_count (l : Launch) (hst : l.stackTraces = false) (G : GG) (B0 : Nat) (sa : Nat × Nat × Nat) (M : MS) (a0 : Int32) {r : Int32} {Mf : MS} (hF : F_L_count M a0 = some (r, Mf)) : HI l yL_count (WH yL_count cL_count 4 (some .int) [(0, 9, 12, 13)]) (RmX 8) G B0 sa [.ref (gad G 216), .int a0, .ref (gad G 227)] M r Mf := by
  intro sz
  refine x_metH (by decide +kernel) (Nat.le_of_ble_eq_true rfl) (fun p e s m below meth c ls hsz C0 hex hM hT hl => ?_)
  have hl : lv_has ls 4 [(0, .ref (gad G 216)), (1, .int a0), (2, .ref (gad G 227))] := hl
  have C0 : CX p s m meth c ([.ref (gad G 216), .int a0, .ref (gad G 227)] : List Value).toArray cL_count RL 4 (some .int) := C0
  rw [F_L_count] at hF
  refine lv_aload_n C0.1 C0.2.1 dL_count_0 rfl (lv_at hl 2 rfl) ?_
  refine lv_iconst (v := (0 : Int32)) C0.1 C0.2.1 dL_count_1 (by decide) ?_
  refine lv_aload_n C0.1 C0.2.1 dL_count_2 rfl (lv_at hl 0 rfl) ?_
  refine lv_iload_n C0.1 C0.2.1 dL_count_3 rfl (lv_at hl 1 rfl) ?_
  obtain ⟨k1, r1, M1, h1, hN, hE⟩ := bh_some hF
  refine h_vi (rest := [.int 0, .ref (gad G 227)]) C0 hM hT hl.1 (k_X4_count l hst G B0 sa M a0 h1) (⟨tbx [795, 796, 797, 69, 798] (by decide +kernel) (by decide +kernel), rfl, by decide +kernel, by decide +kernel, by decide +kernel⟩ : CWV RL 65 RX4 yX4_count cX4_count 2 (some .int) 1) rfl rfl ⟨Nat.le_of_ble_eq_true rfl, Nat.le_of_ble_eq_true rfl⟩ rfl (Nat.le_of_ble_eq_true rfl) ⟨Nat.le_of_ble_eq_true rfl, Nat.le_of_ble_eq_true rfl⟩ dL_count_4 (fun hk ce q9 H locs hM hce hcv hcl => ?_) (fun hk H locs hM => ?_)
  · obtain ⟨hs, he⟩ := hE hk
    subst he
    rcases hsel_cons hs with ⟨e1, e2⟩ | hs
    · subst e1
      subst e2
      refine h_catch C0 hT hex [] { startPc := 0, endPc := 9, handlerPc := 12, catchType := 13 } [] rfl (by decide) [] (by decide) (by decide) (by intro q hq; cases hq) rfl (by decide) clk_13 (by decide +kernel) hce hcv hcl ?_
      refine lv_astore_n (lv' := [(3, .ref q9), (0, .ref (gad G 216)), (1, .int a0), (2, .ref (gad G 227))]) C0.1 C0.2.1 dL_count_12 rfl hl (by decide) rfl (fun ls hl => ?_)
      refine lv_iconst (v := (1 : Int32)) C0.1 C0.2.1 dL_count_13 (by decide) ?_
      exact x_hret C0 hM hsz (Nat.le_of_ble_eq_true rfl) (Nat.le_of_ble_eq_true rfl) dL_count_14
    exact (hsel_nil hs).elim
  · obtain ⟨e8, e9⟩ := y_2 (hN hk)
    subst e8
    subst e9
    refine lv_i2l (v := Int32.toInt64 r1) C0.1 C0.2.1 dL_count_7 rfl ?_
    refine y_last C0 hM dL_count_8 (fun H locs hM => ?_)
    refine lv_goto (tgt := 15) C0.1 C0.2.1 dL_count_9 (by decide) ?_
    refine lv_iconst (v := (0 : Int32)) C0.1 C0.2.1 dL_count_15 (by decide) ?_
    exact x_hret C0 hM hsz (Nat.le_of_ble_eq_true rfl) (Nat.le_of_ble_eq_true rfl) dL_count_16
def F_L_curse (M : MS) (a0 : Int32) (a1 : Int32) (a2 : Int32) : Option (Int32 × MS) := bh (F_X4_curse M a0 a1 a2) [(3, (1 : Int32)), (1, (2 : Int32)), (2, (3 : Int32))]
set_option maxHeartbeats 4000000 in
set_option maxRecDepth 100000 in
theorem k_L_curse (l : Launch) (hst : l.stackTraces = false) (G : GG) (B0 : Nat) (sa : Nat × Nat × Nat) (M : MS) (a0 : Int32) (a1 : Int32) (a2 : Int32) {r : Int32} {Mf : MS} (hF : F_L_curse M a0 a1 a2 = some (r, Mf)) : HI l yL_curse (WH yL_curse cL_curse 6 (some .int) [(0, 12, 15, 21), (0, 12, 19, 13), (0, 12, 23, 15)]) (RmX 8) G B0 sa [.ref (gad G 216), .int a0, .int a1, .int a2, .ref (gad G 227)] M r Mf := by
  intro sz
  refine x_metH (by decide +kernel) (Nat.le_of_ble_eq_true rfl) (fun p e s m below meth c ls hsz C0 hex hM hT hl => ?_)
  have hl : lv_has ls 6 [(0, .ref (gad G 216)), (1, .int a0), (2, .int a1), (3, .int a2), (4, .ref (gad G 227))] := hl
  have C0 : CX p s m meth c ([.ref (gad G 216), .int a0, .int a1, .int a2, .ref (gad G 227)] : List Value).toArray cL_curse RL 6 (some .int) := C0
  rw [F_L_curse] at hF
  refine lv_aload C0.1 C0.2.1 dL_curse_0 (lv_at hl 4 rfl) ?_
  refine lv_iconst (v := (0 : Int32)) C0.1 C0.2.1 dL_curse_2 (by decide) ?_
  refine lv_aload_n C0.1 C0.2.1 dL_curse_3 rfl (lv_at hl 0 rfl) ?_
  refine lv_iload_n C0.1 C0.2.1 dL_curse_4 rfl (lv_at hl 1 rfl) ?_
  refine lv_iload_n C0.1 C0.2.1 dL_curse_5 rfl (lv_at hl 2 rfl) ?_
  refine lv_iload_n C0.1 C0.2.1 dL_curse_6 rfl (lv_at hl 3 rfl) ?_
  obtain ⟨k1, r1, M1, h1, hN, hE⟩ := bh_some hF
  refine h_vi (rest := [.int 0, .ref (gad G 227)]) C0 hM hT hl.1 (k_X4_curse l hst G B0 sa M a0 a1 a2 h1) (⟨tbx [671, 672, 673, 69, 674] (by decide +kernel) (by decide +kernel), rfl, by decide +kernel, by decide +kernel, by decide +kernel⟩ : CWV RL 29 RX4 yX4_curse cX4_curse 4 (some .int) 3) rfl rfl ⟨Nat.le_of_ble_eq_true rfl, Nat.le_of_ble_eq_true rfl⟩ rfl (Nat.le_of_ble_eq_true rfl) ⟨Nat.le_of_ble_eq_true rfl, Nat.le_of_ble_eq_true rfl⟩ dL_curse_7 (fun hk ce q9 H locs hM hce hcv hcl => ?_) (fun hk H locs hM => ?_)
  · obtain ⟨hs, he⟩ := hE hk
    subst he
    rcases hsel_cons hs with ⟨e1, e2⟩ | hs
    · subst e1
      subst e2
      refine h_catch C0 hT hex [] { startPc := 0, endPc := 12, handlerPc := 15, catchType := 21 } [{ startPc := 0, endPc := 12, handlerPc := 19, catchType := 13 }, { startPc := 0, endPc := 12, handlerPc := 23, catchType := 15 }] rfl (by decide) [] (by decide) (by decide) (by intro q hq; cases hq) rfl (by decide) clk_21 (by decide +kernel) hce hcv hcl ?_
      refine lv_astore (lv' := [(5, .ref q9), (0, .ref (gad G 216)), (1, .int a0), (2, .int a1), (3, .int a2), (4, .ref (gad G 227))]) C0.1 C0.2.1 dL_curse_15 hl (by decide) rfl (fun ls hl => ?_)
      refine lv_iconst (v := (1 : Int32)) C0.1 C0.2.1 dL_curse_17 (by decide) ?_
      exact x_hret C0 hM hsz (Nat.le_of_ble_eq_true rfl) (Nat.le_of_ble_eq_true rfl) dL_curse_18
    rcases hsel_cons hs with ⟨e1, e2⟩ | hs
    · subst e1
      subst e2
      refine h_catch C0 hT hex [{ startPc := 0, endPc := 12, handlerPc := 15, catchType := 21 }] { startPc := 0, endPc := 12, handlerPc := 19, catchType := 13 } [{ startPc := 0, endPc := 12, handlerPc := 23, catchType := 15 }] rfl (by decide) [(21, 3)] (by decide) (by decide) (by intro q hq; simp only [List.mem_cons, List.not_mem_nil, or_false] at hq; rcases hq with rfl <;> first | exact clk_21) rfl (by decide) clk_13 (by decide +kernel) hce hcv hcl ?_
      refine lv_astore (lv' := [(5, .ref q9), (0, .ref (gad G 216)), (1, .int a0), (2, .int a1), (3, .int a2), (4, .ref (gad G 227))]) C0.1 C0.2.1 dL_curse_19 hl (by decide) rfl (fun ls hl => ?_)
      refine lv_iconst (v := (2 : Int32)) C0.1 C0.2.1 dL_curse_21 (by decide) ?_
      exact x_hret C0 hM hsz (Nat.le_of_ble_eq_true rfl) (Nat.le_of_ble_eq_true rfl) dL_curse_22
    rcases hsel_cons hs with ⟨e1, e2⟩ | hs
    · subst e1
      subst e2
      refine h_catch C0 hT hex [{ startPc := 0, endPc := 12, handlerPc := 15, catchType := 21 }, { startPc := 0, endPc := 12, handlerPc := 19, catchType := 13 }] { startPc := 0, endPc := 12, handlerPc := 23, catchType := 15 } [] rfl (by decide) [(21, 3), (13, 1)] (by decide) (by decide) (by intro q hq; simp only [List.mem_cons, List.not_mem_nil, or_false] at hq; rcases hq with rfl | rfl <;> first | exact clk_21 | exact clk_13) rfl (by decide) clk_15 (by decide +kernel) hce hcv hcl ?_
      refine lv_astore (lv' := [(5, .ref q9), (0, .ref (gad G 216)), (1, .int a0), (2, .int a1), (3, .int a2), (4, .ref (gad G 227))]) C0.1 C0.2.1 dL_curse_23 hl (by decide) rfl (fun ls hl => ?_)
      refine lv_iconst (v := (3 : Int32)) C0.1 C0.2.1 dL_curse_25 (by decide) ?_
      exact x_hret C0 hM hsz (Nat.le_of_ble_eq_true rfl) (Nat.le_of_ble_eq_true rfl) dL_curse_26
    exact (hsel_nil hs).elim
  · obtain ⟨e8, e9⟩ := y_2 (hN hk)
    subst e8
    subst e9
    refine lv_i2l (v := Int32.toInt64 r1) C0.1 C0.2.1 dL_curse_10 rfl ?_
    refine y_last C0 hM dL_curse_11 (fun H locs hM => ?_)
    refine lv_goto (tgt := 27) C0.1 C0.2.1 dL_curse_12 (by decide) ?_
    refine lv_iconst (v := (0 : Int32)) C0.1 C0.2.1 dL_curse_27 (by decide) ?_
    exact x_hret C0 hM hsz (Nat.le_of_ble_eq_true rfl) (Nat.le_of_ble_eq_true rfl) dL_curse_28
def F_L_delay (M : MS) : Option (Int32 × MS) := bh (F_X4_delay M) [(2, (1 : Int32))]
set_option maxHeartbeats 4000000 in
set_option maxRecDepth 100000 in
theorem k_L_delay (l : Launch) (hst : l.stackTraces = false) (G : GG) (B0 : Nat) (sa : Nat × Nat × Nat) (M : MS) {r : Int32} {Mf : MS} (hF : F_L_delay M = some (r, Mf)) : HI l yL_delay (WH yL_delay cL_delay 3 (some .int) [(0, 8, 11, 15)]) (RmX 8) G B0 sa [.ref (gad G 216), .ref (gad G 227)] M r Mf := by
  intro sz
  refine x_metH (by decide +kernel) (Nat.le_of_ble_eq_true rfl) (fun p e s m below meth c ls hsz C0 hex hM hT hl => ?_)
  have hl : lv_has ls 3 [(0, .ref (gad G 216)), (1, .ref (gad G 227))] := hl
  have C0 : CX p s m meth c ([.ref (gad G 216), .ref (gad G 227)] : List Value).toArray cL_delay RL 3 (some .int) := C0
  rw [F_L_delay] at hF
  refine lv_aload_n C0.1 C0.2.1 dL_delay_0 rfl (lv_at hl 1 rfl) ?_
  refine lv_iconst (v := (0 : Int32)) C0.1 C0.2.1 dL_delay_1 (by decide) ?_
  refine lv_aload_n C0.1 C0.2.1 dL_delay_2 rfl (lv_at hl 0 rfl) ?_
  obtain ⟨k1, r1, M1, h1, hN, hE⟩ := bh_some hF
  refine h_vi (rest := [.int 0, .ref (gad G 227)]) C0 hM hT hl.1 (k_X4_delay l hst G B0 sa M h1) (⟨tbx [678, 679, 680, 69, 681] (by decide +kernel) (by decide +kernel), rfl, by decide +kernel, by decide +kernel, by decide +kernel⟩ : CWV RL 33 RX4 yX4_delay cX4_delay 1 (some .int) 0) rfl rfl ⟨Nat.le_of_ble_eq_true rfl, Nat.le_of_ble_eq_true rfl⟩ rfl (Nat.le_of_ble_eq_true rfl) ⟨Nat.le_of_ble_eq_true rfl, Nat.le_of_ble_eq_true rfl⟩ dL_delay_3 (fun hk ce q9 H locs hM hce hcv hcl => ?_) (fun hk H locs hM => ?_)
  · obtain ⟨hs, he⟩ := hE hk
    subst he
    rcases hsel_cons hs with ⟨e1, e2⟩ | hs
    · subst e1
      subst e2
      refine h_catch C0 hT hex [] { startPc := 0, endPc := 8, handlerPc := 11, catchType := 15 } [] rfl (by decide) [] (by decide) (by decide) (by intro q hq; cases hq) rfl (by decide) clk_15 (by decide +kernel) hce hcv hcl ?_
      refine lv_astore_n (lv' := [(2, .ref q9), (0, .ref (gad G 216)), (1, .ref (gad G 227))]) C0.1 C0.2.1 dL_delay_11 rfl hl (by decide) rfl (fun ls hl => ?_)
      refine lv_iconst (v := (1 : Int32)) C0.1 C0.2.1 dL_delay_12 (by decide) ?_
      exact x_hret C0 hM hsz (Nat.le_of_ble_eq_true rfl) (Nat.le_of_ble_eq_true rfl) dL_delay_13
    exact (hsel_nil hs).elim
  · obtain ⟨e8, e9⟩ := y_2 (hN hk)
    subst e8
    subst e9
    refine lv_i2l (v := Int32.toInt64 r1) C0.1 C0.2.1 dL_delay_6 rfl ?_
    refine y_last C0 hM dL_delay_7 (fun H locs hM => ?_)
    refine lv_goto (tgt := 14) C0.1 C0.2.1 dL_delay_8 (by decide) ?_
    refine lv_iconst (v := (0 : Int32)) C0.1 C0.2.1 dL_delay_14 (by decide) ?_
    exact x_hret C0 hM hsz (Nat.le_of_ble_eq_true rfl) (Nat.le_of_ble_eq_true rfl) dL_delay_15
def F_L_end (M : MS) : Option (Int32 × MS) := bh (F_X4_end M) [(2, (1 : Int32))]
set_option maxHeartbeats 4000000 in
set_option maxRecDepth 100000 in
theorem k_L_end (l : Launch) (hst : l.stackTraces = false) (G : GG) (B0 : Nat) (sa : Nat × Nat × Nat) (M : MS) {r : Int32} {Mf : MS} (hF : F_L_end M = some (r, Mf)) : HI l yL_end (WH yL_end cL_end 3 (some .int) [(0, 8, 11, 15)]) (RmX 8) G B0 sa [.ref (gad G 216), .ref (gad G 227)] M r Mf := by
  intro sz
  refine x_metH (by decide +kernel) (Nat.le_of_ble_eq_true rfl) (fun p e s m below meth c ls hsz C0 hex hM hT hl => ?_)
  have hl : lv_has ls 3 [(0, .ref (gad G 216)), (1, .ref (gad G 227))] := hl
  have C0 : CX p s m meth c ([.ref (gad G 216), .ref (gad G 227)] : List Value).toArray cL_end RL 3 (some .int) := C0
  rw [F_L_end] at hF
  refine lv_aload_n C0.1 C0.2.1 dL_end_0 rfl (lv_at hl 1 rfl) ?_
  refine lv_iconst (v := (0 : Int32)) C0.1 C0.2.1 dL_end_1 (by decide) ?_
  refine lv_aload_n C0.1 C0.2.1 dL_end_2 rfl (lv_at hl 0 rfl) ?_
  obtain ⟨k1, r1, M1, h1, hN, hE⟩ := bh_some hF
  refine h_vi (rest := [.int 0, .ref (gad G 227)]) C0 hM hT hl.1 (k_X4_end l hst G B0 sa M h1) (⟨tbx [700, 701, 702, 69, 703] (by decide +kernel) (by decide +kernel), rfl, by decide +kernel, by decide +kernel, by decide +kernel⟩ : CWV RL 40 RX4 yX4_end cX4_end 1 (some .int) 0) rfl rfl ⟨Nat.le_of_ble_eq_true rfl, Nat.le_of_ble_eq_true rfl⟩ rfl (Nat.le_of_ble_eq_true rfl) ⟨Nat.le_of_ble_eq_true rfl, Nat.le_of_ble_eq_true rfl⟩ dL_end_3 (fun hk ce q9 H locs hM hce hcv hcl => ?_) (fun hk H locs hM => ?_)
  · obtain ⟨hs, he⟩ := hE hk
    subst he
    rcases hsel_cons hs with ⟨e1, e2⟩ | hs
    · subst e1
      subst e2
      refine h_catch C0 hT hex [] { startPc := 0, endPc := 8, handlerPc := 11, catchType := 15 } [] rfl (by decide) [] (by decide) (by decide) (by intro q hq; cases hq) rfl (by decide) clk_15 (by decide +kernel) hce hcv hcl ?_
      refine lv_astore_n (lv' := [(2, .ref q9), (0, .ref (gad G 216)), (1, .ref (gad G 227))]) C0.1 C0.2.1 dL_end_11 rfl hl (by decide) rfl (fun ls hl => ?_)
      refine lv_iconst (v := (1 : Int32)) C0.1 C0.2.1 dL_end_12 (by decide) ?_
      exact x_hret C0 hM hsz (Nat.le_of_ble_eq_true rfl) (Nat.le_of_ble_eq_true rfl) dL_end_13
    exact (hsel_nil hs).elim
  · obtain ⟨e8, e9⟩ := y_2 (hN hk)
    subst e8
    subst e9
    refine lv_i2l (v := Int32.toInt64 r1) C0.1 C0.2.1 dL_end_6 rfl ?_
    refine y_last C0 hM dL_end_7 (fun H locs hM => ?_)
    refine lv_goto (tgt := 14) C0.1 C0.2.1 dL_end_8 (by decide) ?_
    refine lv_iconst (v := (0 : Int32)) C0.1 C0.2.1 dL_end_14 (by decide) ?_
    exact x_hret C0 hM hsz (Nat.le_of_ble_eq_true rfl) (Nat.le_of_ble_eq_true rfl) dL_end_15
def F_L_fighter (M : MS) (a0 : Int32) (a1 : Int32) : Option (Int32 × MS) := bh (F_X4_fighter M a0 a1) [(3, (1 : Int32)), (1, (2 : Int32))]
set_option maxHeartbeats 4000000 in
set_option maxRecDepth 100000 in
theorem k_L_fighter (l : Launch) (hst : l.stackTraces = false) (G : GG) (B0 : Nat) (sa : Nat × Nat × Nat) (M : MS) (a0 : Int32) (a1 : Int32) {r : Int32} {Mf : MS} (hF : F_L_fighter M a0 a1 = some (r, Mf)) : HI l yL_fighter (WH yL_fighter cL_fighter 5 (some .int) [(0, 10, 13, 21), (0, 10, 17, 13)]) (RmX 8) G B0 sa [.ref (gad G 216), .int a0, .int a1, .ref (gad G 227)] M r Mf := by
  intro sz
  refine x_metH (by decide +kernel) (Nat.le_of_ble_eq_true rfl) (fun p e s m below meth c ls hsz C0 hex hM hT hl => ?_)
  have hl : lv_has ls 5 [(0, .ref (gad G 216)), (1, .int a0), (2, .int a1), (3, .ref (gad G 227))] := hl
  have C0 : CX p s m meth c ([.ref (gad G 216), .int a0, .int a1, .ref (gad G 227)] : List Value).toArray cL_fighter RL 5 (some .int) := C0
  rw [F_L_fighter] at hF
  refine lv_aload_n C0.1 C0.2.1 dL_fighter_0 rfl (lv_at hl 3 rfl) ?_
  refine lv_iconst (v := (0 : Int32)) C0.1 C0.2.1 dL_fighter_1 (by decide) ?_
  refine lv_aload_n C0.1 C0.2.1 dL_fighter_2 rfl (lv_at hl 0 rfl) ?_
  refine lv_iload_n C0.1 C0.2.1 dL_fighter_3 rfl (lv_at hl 1 rfl) ?_
  refine lv_iload_n C0.1 C0.2.1 dL_fighter_4 rfl (lv_at hl 2 rfl) ?_
  obtain ⟨k1, r1, M1, h1, hN, hE⟩ := bh_some hF
  refine h_vi (rest := [.int 0, .ref (gad G 227)]) C0 hM hT hl.1 (k_X4_fighter l hst G B0 sa M a0 a1 h1) (⟨tbx [774, 775, 776, 69, 777] (by decide +kernel) (by decide +kernel), rfl, by decide +kernel, by decide +kernel, by decide +kernel⟩ : CWV RL 55 RX4 yX4_fighter cX4_fighter 3 (some .int) 2) rfl rfl ⟨Nat.le_of_ble_eq_true rfl, Nat.le_of_ble_eq_true rfl⟩ rfl (Nat.le_of_ble_eq_true rfl) ⟨Nat.le_of_ble_eq_true rfl, Nat.le_of_ble_eq_true rfl⟩ dL_fighter_5 (fun hk ce q9 H locs hM hce hcv hcl => ?_) (fun hk H locs hM => ?_)
  · obtain ⟨hs, he⟩ := hE hk
    subst he
    rcases hsel_cons hs with ⟨e1, e2⟩ | hs
    · subst e1
      subst e2
      refine h_catch C0 hT hex [] { startPc := 0, endPc := 10, handlerPc := 13, catchType := 21 } [{ startPc := 0, endPc := 10, handlerPc := 17, catchType := 13 }] rfl (by decide) [] (by decide) (by decide) (by intro q hq; cases hq) rfl (by decide) clk_21 (by decide +kernel) hce hcv hcl ?_
      refine lv_astore (lv' := [(4, .ref q9), (0, .ref (gad G 216)), (1, .int a0), (2, .int a1), (3, .ref (gad G 227))]) C0.1 C0.2.1 dL_fighter_13 hl (by decide) rfl (fun ls hl => ?_)
      refine lv_iconst (v := (1 : Int32)) C0.1 C0.2.1 dL_fighter_15 (by decide) ?_
      exact x_hret C0 hM hsz (Nat.le_of_ble_eq_true rfl) (Nat.le_of_ble_eq_true rfl) dL_fighter_16
    rcases hsel_cons hs with ⟨e1, e2⟩ | hs
    · subst e1
      subst e2
      refine h_catch C0 hT hex [{ startPc := 0, endPc := 10, handlerPc := 13, catchType := 21 }] { startPc := 0, endPc := 10, handlerPc := 17, catchType := 13 } [] rfl (by decide) [(21, 3)] (by decide) (by decide) (by intro q hq; simp only [List.mem_cons, List.not_mem_nil, or_false] at hq; rcases hq with rfl <;> first | exact clk_21) rfl (by decide) clk_13 (by decide +kernel) hce hcv hcl ?_
      refine lv_astore (lv' := [(4, .ref q9), (0, .ref (gad G 216)), (1, .int a0), (2, .int a1), (3, .ref (gad G 227))]) C0.1 C0.2.1 dL_fighter_17 hl (by decide) rfl (fun ls hl => ?_)
      refine lv_iconst (v := (2 : Int32)) C0.1 C0.2.1 dL_fighter_19 (by decide) ?_
      exact x_hret C0 hM hsz (Nat.le_of_ble_eq_true rfl) (Nat.le_of_ble_eq_true rfl) dL_fighter_20
    exact (hsel_nil hs).elim
  · obtain ⟨e8, e9⟩ := y_2 (hN hk)
    subst e8
    subst e9
    refine lv_i2l (v := Int32.toInt64 r1) C0.1 C0.2.1 dL_fighter_8 rfl ?_
    refine y_last C0 hM dL_fighter_9 (fun H locs hM => ?_)
    refine lv_goto (tgt := 21) C0.1 C0.2.1 dL_fighter_10 (by decide) ?_
    refine lv_iconst (v := (0 : Int32)) C0.1 C0.2.1 dL_fighter_21 (by decide) ?_
    exact x_hret C0 hM hsz (Nat.le_of_ble_eq_true rfl) (Nat.le_of_ble_eq_true rfl) dL_fighter_22
def F_L_help (M : MS) (a0 : Int32) : Option (Int32 × MS) := bh (F_X4_help M a0) [(3, (1 : Int32)), (2, (2 : Int32))]
set_option maxHeartbeats 4000000 in
set_option maxRecDepth 100000 in
theorem k_L_help (l : Launch) (hst : l.stackTraces = false) (G : GG) (B0 : Nat) (sa : Nat × Nat × Nat) (M : MS) (a0 : Int32) {r : Int32} {Mf : MS} (hF : F_L_help M a0 = some (r, Mf)) : HI l yL_help (WH yL_help cL_help 4 (some .int) [(0, 9, 12, 21), (0, 9, 15, 15)]) (RmX 8) G B0 sa [.ref (gad G 216), .int a0, .ref (gad G 227)] M r Mf := by
  intro sz
  refine x_metH (by decide +kernel) (Nat.le_of_ble_eq_true rfl) (fun p e s m below meth c ls hsz C0 hex hM hT hl => ?_)
  have hl : lv_has ls 4 [(0, .ref (gad G 216)), (1, .int a0), (2, .ref (gad G 227))] := hl
  have C0 : CX p s m meth c ([.ref (gad G 216), .int a0, .ref (gad G 227)] : List Value).toArray cL_help RL 4 (some .int) := C0
  rw [F_L_help] at hF
  refine lv_aload_n C0.1 C0.2.1 dL_help_0 rfl (lv_at hl 2 rfl) ?_
  refine lv_iconst (v := (0 : Int32)) C0.1 C0.2.1 dL_help_1 (by decide) ?_
  refine lv_aload_n C0.1 C0.2.1 dL_help_2 rfl (lv_at hl 0 rfl) ?_
  refine lv_iload_n C0.1 C0.2.1 dL_help_3 rfl (lv_at hl 1 rfl) ?_
  obtain ⟨k1, r1, M1, h1, hN, hE⟩ := bh_some hF
  refine h_vi (rest := [.int 0, .ref (gad G 227)]) C0 hM hT hl.1 (k_X4_help l hst G B0 sa M a0 h1) (⟨tbx [664, 665, 666, 69, 667] (by decide +kernel) (by decide +kernel), rfl, by decide +kernel, by decide +kernel, by decide +kernel⟩ : CWV RL 26 RX4 yX4_help cX4_help 2 (some .int) 1) rfl rfl ⟨Nat.le_of_ble_eq_true rfl, Nat.le_of_ble_eq_true rfl⟩ rfl (Nat.le_of_ble_eq_true rfl) ⟨Nat.le_of_ble_eq_true rfl, Nat.le_of_ble_eq_true rfl⟩ dL_help_4 (fun hk ce q9 H locs hM hce hcv hcl => ?_) (fun hk H locs hM => ?_)
  · obtain ⟨hs, he⟩ := hE hk
    subst he
    rcases hsel_cons hs with ⟨e1, e2⟩ | hs
    · subst e1
      subst e2
      refine h_catch C0 hT hex [] { startPc := 0, endPc := 9, handlerPc := 12, catchType := 21 } [{ startPc := 0, endPc := 9, handlerPc := 15, catchType := 15 }] rfl (by decide) [] (by decide) (by decide) (by intro q hq; cases hq) rfl (by decide) clk_21 (by decide +kernel) hce hcv hcl ?_
      refine lv_astore_n (lv' := [(3, .ref q9), (0, .ref (gad G 216)), (1, .int a0), (2, .ref (gad G 227))]) C0.1 C0.2.1 dL_help_12 rfl hl (by decide) rfl (fun ls hl => ?_)
      refine lv_iconst (v := (1 : Int32)) C0.1 C0.2.1 dL_help_13 (by decide) ?_
      exact x_hret C0 hM hsz (Nat.le_of_ble_eq_true rfl) (Nat.le_of_ble_eq_true rfl) dL_help_14
    rcases hsel_cons hs with ⟨e1, e2⟩ | hs
    · subst e1
      subst e2
      refine h_catch C0 hT hex [{ startPc := 0, endPc := 9, handlerPc := 12, catchType := 21 }] { startPc := 0, endPc := 9, handlerPc := 15, catchType := 15 } [] rfl (by decide) [(21, 3)] (by decide) (by decide) (by intro q hq; simp only [List.mem_cons, List.not_mem_nil, or_false] at hq; rcases hq with rfl <;> first | exact clk_21) rfl (by decide) clk_15 (by decide +kernel) hce hcv hcl ?_
      refine lv_astore_n (lv' := [(3, .ref q9), (0, .ref (gad G 216)), (1, .int a0), (2, .ref (gad G 227))]) C0.1 C0.2.1 dL_help_15 rfl hl (by decide) rfl (fun ls hl => ?_)
      refine lv_iconst (v := (2 : Int32)) C0.1 C0.2.1 dL_help_16 (by decide) ?_
      exact x_hret C0 hM hsz (Nat.le_of_ble_eq_true rfl) (Nat.le_of_ble_eq_true rfl) dL_help_17
    exact (hsel_nil hs).elim
  · obtain ⟨e8, e9⟩ := y_2 (hN hk)
    subst e8
    subst e9
    refine lv_i2l (v := Int32.toInt64 r1) C0.1 C0.2.1 dL_help_7 rfl ?_
    refine y_last C0 hM dL_help_8 (fun H locs hM => ?_)
    refine lv_goto (tgt := 18) C0.1 C0.2.1 dL_help_9 (by decide) ?_
    refine lv_iconst (v := (0 : Int32)) C0.1 C0.2.1 dL_help_18 (by decide) ?_
    exact x_hret C0 hM hsz (Nat.le_of_ble_eq_true rfl) (Nat.le_of_ble_eq_true rfl) dL_help_19
def F_L_ifDone (M : MS) (a0 : Int32) (a1 : Int32) (a2 : Int32) : Option (Int32 × MS) := bh (F_X4_ifDone M a0 a1 a2) [(1, (1 : Int32))]
set_option maxHeartbeats 4000000 in
set_option maxRecDepth 100000 in
theorem k_L_ifDone (l : Launch) (hst : l.stackTraces = false) (G : GG) (B0 : Nat) (sa : Nat × Nat × Nat) (M : MS) (a0 : Int32) (a1 : Int32) (a2 : Int32) {r : Int32} {Mf : MS} (hF : F_L_ifDone M a0 a1 a2 = some (r, Mf)) : HI l yL_ifDone (WH yL_ifDone cL_ifDone 6 (some .int) [(0, 12, 15, 13)]) (RmX 8) G B0 sa [.ref (gad G 216), .int a0, .int a1, .int a2, .ref (gad G 227)] M r Mf := by
  intro sz
  refine x_metH (by decide +kernel) (Nat.le_of_ble_eq_true rfl) (fun p e s m below meth c ls hsz C0 hex hM hT hl => ?_)
  have hl : lv_has ls 6 [(0, .ref (gad G 216)), (1, .int a0), (2, .int a1), (3, .int a2), (4, .ref (gad G 227))] := hl
  have C0 : CX p s m meth c ([.ref (gad G 216), .int a0, .int a1, .int a2, .ref (gad G 227)] : List Value).toArray cL_ifDone RL 6 (some .int) := C0
  rw [F_L_ifDone] at hF
  refine lv_aload C0.1 C0.2.1 dL_ifDone_0 (lv_at hl 4 rfl) ?_
  refine lv_iconst (v := (0 : Int32)) C0.1 C0.2.1 dL_ifDone_2 (by decide) ?_
  refine lv_aload_n C0.1 C0.2.1 dL_ifDone_3 rfl (lv_at hl 0 rfl) ?_
  refine lv_iload_n C0.1 C0.2.1 dL_ifDone_4 rfl (lv_at hl 1 rfl) ?_
  refine lv_iload_n C0.1 C0.2.1 dL_ifDone_5 rfl (lv_at hl 2 rfl) ?_
  refine lv_iload_n C0.1 C0.2.1 dL_ifDone_6 rfl (lv_at hl 3 rfl) ?_
  obtain ⟨k1, r1, M1, h1, hN, hE⟩ := bh_some hF
  refine h_vi (rest := [.int 0, .ref (gad G 227)]) C0 hM hT hl.1 (k_X4_ifDone l hst G B0 sa M a0 a1 a2 h1) (⟨tbx [802, 803, 804, 69, 805] (by decide +kernel) (by decide +kernel), rfl, by decide +kernel, by decide +kernel, by decide +kernel⟩ : CWV RL 68 RX4 yX4_ifDone cX4_ifDone 6 (some .int) 3) rfl rfl ⟨Nat.le_of_ble_eq_true rfl, Nat.le_of_ble_eq_true rfl⟩ rfl (Nat.le_of_ble_eq_true rfl) ⟨Nat.le_of_ble_eq_true rfl, Nat.le_of_ble_eq_true rfl⟩ dL_ifDone_7 (fun hk ce q9 H locs hM hce hcv hcl => ?_) (fun hk H locs hM => ?_)
  · obtain ⟨hs, he⟩ := hE hk
    subst he
    rcases hsel_cons hs with ⟨e1, e2⟩ | hs
    · subst e1
      subst e2
      refine h_catch C0 hT hex [] { startPc := 0, endPc := 12, handlerPc := 15, catchType := 13 } [] rfl (by decide) [] (by decide) (by decide) (by intro q hq; cases hq) rfl (by decide) clk_13 (by decide +kernel) hce hcv hcl ?_
      refine lv_astore (lv' := [(5, .ref q9), (0, .ref (gad G 216)), (1, .int a0), (2, .int a1), (3, .int a2), (4, .ref (gad G 227))]) C0.1 C0.2.1 dL_ifDone_15 hl (by decide) rfl (fun ls hl => ?_)
      refine lv_iconst (v := (1 : Int32)) C0.1 C0.2.1 dL_ifDone_17 (by decide) ?_
      exact x_hret C0 hM hsz (Nat.le_of_ble_eq_true rfl) (Nat.le_of_ble_eq_true rfl) dL_ifDone_18
    exact (hsel_nil hs).elim
  · obtain ⟨e8, e9⟩ := y_2 (hN hk)
    subst e8
    subst e9
    refine lv_i2l (v := Int32.toInt64 r1) C0.1 C0.2.1 dL_ifDone_10 rfl ?_
    refine y_last C0 hM dL_ifDone_11 (fun H locs hM => ?_)
    refine lv_goto (tgt := 19) C0.1 C0.2.1 dL_ifDone_12 (by decide) ?_
    refine lv_iconst (v := (0 : Int32)) C0.1 C0.2.1 dL_ifDone_19 (by decide) ?_
    exact x_hret C0 hM hsz (Nat.le_of_ble_eq_true rfl) (Nat.le_of_ble_eq_true rfl) dL_ifDone_20
def F_L_ifEnded (M : MS) (a0 : Int32) : Option (Int32 × MS) := bh (F_X4_ifEnded M a0) [(1, (1 : Int32))]
set_option maxHeartbeats 4000000 in
set_option maxRecDepth 100000 in
theorem k_L_ifEnded (l : Launch) (hst : l.stackTraces = false) (G : GG) (B0 : Nat) (sa : Nat × Nat × Nat) (M : MS) (a0 : Int32) {r : Int32} {Mf : MS} (hF : F_L_ifEnded M a0 = some (r, Mf)) : HI l yL_ifEnded (WH yL_ifEnded cL_ifEnded 4 (some .int) [(0, 9, 12, 13)]) (RmX 8) G B0 sa [.ref (gad G 216), .int a0, .ref (gad G 227)] M r Mf := by
  intro sz
  refine x_metH (by decide +kernel) (Nat.le_of_ble_eq_true rfl) (fun p e s m below meth c ls hsz C0 hex hM hT hl => ?_)
  have hl : lv_has ls 4 [(0, .ref (gad G 216)), (1, .int a0), (2, .ref (gad G 227))] := hl
  have C0 : CX p s m meth c ([.ref (gad G 216), .int a0, .ref (gad G 227)] : List Value).toArray cL_ifEnded RL 4 (some .int) := C0
  rw [F_L_ifEnded] at hF
  refine lv_aload_n C0.1 C0.2.1 dL_ifEnded_0 rfl (lv_at hl 2 rfl) ?_
  refine lv_iconst (v := (0 : Int32)) C0.1 C0.2.1 dL_ifEnded_1 (by decide) ?_
  refine lv_aload_n C0.1 C0.2.1 dL_ifEnded_2 rfl (lv_at hl 0 rfl) ?_
  refine lv_iload_n C0.1 C0.2.1 dL_ifEnded_3 rfl (lv_at hl 1 rfl) ?_
  obtain ⟨k1, r1, M1, h1, hN, hE⟩ := bh_some hF
  refine h_vi (rest := [.int 0, .ref (gad G 227)]) C0 hM hT hl.1 (k_X4_ifEnded l hst G B0 sa M a0 h1) (⟨tbx [809, 810, 811, 69, 812] (by decide +kernel) (by decide +kernel), rfl, by decide +kernel, by decide +kernel, by decide +kernel⟩ : CWV RL 71 RX4 yX4_ifEnded cX4_ifEnded 3 (some .int) 1) rfl rfl ⟨Nat.le_of_ble_eq_true rfl, Nat.le_of_ble_eq_true rfl⟩ rfl (Nat.le_of_ble_eq_true rfl) ⟨Nat.le_of_ble_eq_true rfl, Nat.le_of_ble_eq_true rfl⟩ dL_ifEnded_4 (fun hk ce q9 H locs hM hce hcv hcl => ?_) (fun hk H locs hM => ?_)
  · obtain ⟨hs, he⟩ := hE hk
    subst he
    rcases hsel_cons hs with ⟨e1, e2⟩ | hs
    · subst e1
      subst e2
      refine h_catch C0 hT hex [] { startPc := 0, endPc := 9, handlerPc := 12, catchType := 13 } [] rfl (by decide) [] (by decide) (by decide) (by intro q hq; cases hq) rfl (by decide) clk_13 (by decide +kernel) hce hcv hcl ?_
      refine lv_astore_n (lv' := [(3, .ref q9), (0, .ref (gad G 216)), (1, .int a0), (2, .ref (gad G 227))]) C0.1 C0.2.1 dL_ifEnded_12 rfl hl (by decide) rfl (fun ls hl => ?_)
      refine lv_iconst (v := (1 : Int32)) C0.1 C0.2.1 dL_ifEnded_13 (by decide) ?_
      exact x_hret C0 hM hsz (Nat.le_of_ble_eq_true rfl) (Nat.le_of_ble_eq_true rfl) dL_ifEnded_14
    exact (hsel_nil hs).elim
  · obtain ⟨e8, e9⟩ := y_2 (hN hk)
    subst e8
    subst e9
    refine lv_i2l (v := Int32.toInt64 r1) C0.1 C0.2.1 dL_ifEnded_7 rfl ?_
    refine y_last C0 hM dL_ifEnded_8 (fun H locs hM => ?_)
    refine lv_goto (tgt := 15) C0.1 C0.2.1 dL_ifEnded_9 (by decide) ?_
    refine lv_iconst (v := (0 : Int32)) C0.1 C0.2.1 dL_ifEnded_15 (by decide) ?_
    exact x_hret C0 hM hsz (Nat.le_of_ble_eq_true rfl) (Nat.le_of_ble_eq_true rfl) dL_ifEnded_16
def F_L_inRow (M : MS) (a0 : Int32) : Option (Int32 × MS) := bh (F_X4_inRow M a0) [(1, (1 : Int32))]
set_option maxHeartbeats 4000000 in
set_option maxRecDepth 100000 in
theorem k_L_inRow (l : Launch) (hst : l.stackTraces = false) (G : GG) (B0 : Nat) (sa : Nat × Nat × Nat) (M : MS) (a0 : Int32) {r : Int32} {Mf : MS} (hF : F_L_inRow M a0 = some (r, Mf)) : HI l yL_inRow (WH yL_inRow cL_inRow 4 (some .int) [(0, 9, 12, 13)]) (RmX 8) G B0 sa [.ref (gad G 216), .int a0, .ref (gad G 227)] M r Mf := by
  intro sz
  refine x_metH (by decide +kernel) (Nat.le_of_ble_eq_true rfl) (fun p e s m below meth c ls hsz C0 hex hM hT hl => ?_)
  have hl : lv_has ls 4 [(0, .ref (gad G 216)), (1, .int a0), (2, .ref (gad G 227))] := hl
  have C0 : CX p s m meth c ([.ref (gad G 216), .int a0, .ref (gad G 227)] : List Value).toArray cL_inRow RL 4 (some .int) := C0
  rw [F_L_inRow] at hF
  refine lv_aload_n C0.1 C0.2.1 dL_inRow_0 rfl (lv_at hl 2 rfl) ?_
  refine lv_iconst (v := (0 : Int32)) C0.1 C0.2.1 dL_inRow_1 (by decide) ?_
  refine lv_aload_n C0.1 C0.2.1 dL_inRow_2 rfl (lv_at hl 0 rfl) ?_
  refine lv_iload_n C0.1 C0.2.1 dL_inRow_3 rfl (lv_at hl 1 rfl) ?_
  obtain ⟨k1, r1, M1, h1, hN, hE⟩ := bh_some hF
  refine h_vi (rest := [.int 0, .ref (gad G 227)]) C0 hM hT hl.1 (k_X4_inRow l hst G B0 sa M a0 h1) (⟨tbx [788, 789, 790, 69, 791] (by decide +kernel) (by decide +kernel), rfl, by decide +kernel, by decide +kernel, by decide +kernel⟩ : CWV RL 62 RX4 yX4_inRow cX4_inRow 2 (some .int) 1) rfl rfl ⟨Nat.le_of_ble_eq_true rfl, Nat.le_of_ble_eq_true rfl⟩ rfl (Nat.le_of_ble_eq_true rfl) ⟨Nat.le_of_ble_eq_true rfl, Nat.le_of_ble_eq_true rfl⟩ dL_inRow_4 (fun hk ce q9 H locs hM hce hcv hcl => ?_) (fun hk H locs hM => ?_)
  · obtain ⟨hs, he⟩ := hE hk
    subst he
    rcases hsel_cons hs with ⟨e1, e2⟩ | hs
    · subst e1
      subst e2
      refine h_catch C0 hT hex [] { startPc := 0, endPc := 9, handlerPc := 12, catchType := 13 } [] rfl (by decide) [] (by decide) (by decide) (by intro q hq; cases hq) rfl (by decide) clk_13 (by decide +kernel) hce hcv hcl ?_
      refine lv_astore_n (lv' := [(3, .ref q9), (0, .ref (gad G 216)), (1, .int a0), (2, .ref (gad G 227))]) C0.1 C0.2.1 dL_inRow_12 rfl hl (by decide) rfl (fun ls hl => ?_)
      refine lv_iconst (v := (1 : Int32)) C0.1 C0.2.1 dL_inRow_13 (by decide) ?_
      exact x_hret C0 hM hsz (Nat.le_of_ble_eq_true rfl) (Nat.le_of_ble_eq_true rfl) dL_inRow_14
    exact (hsel_nil hs).elim
  · obtain ⟨e8, e9⟩ := y_2 (hN hk)
    subst e8
    subst e9
    refine lv_i2l (v := Int32.toInt64 r1) C0.1 C0.2.1 dL_inRow_7 rfl ?_
    refine y_last C0 hM dL_inRow_8 (fun H locs hM => ?_)
    refine lv_goto (tgt := 15) C0.1 C0.2.1 dL_inRow_9 (by decide) ?_
    refine lv_iconst (v := (0 : Int32)) C0.1 C0.2.1 dL_inRow_15 (by decide) ?_
    exact x_hret C0 hM hsz (Nat.le_of_ble_eq_true rfl) (Nat.le_of_ble_eq_true rfl) dL_inRow_16
def F_L_readied (M : MS) (a0 : Int32) (a1 : Int32) : Option (Int32 × MS) := bh (F_X4_readied M a0 a1) [(3, (1 : Int32)), (1, (2 : Int32))]
set_option maxHeartbeats 4000000 in
set_option maxRecDepth 100000 in
theorem k_L_readied (l : Launch) (hst : l.stackTraces = false) (G : GG) (B0 : Nat) (sa : Nat × Nat × Nat) (M : MS) (a0 : Int32) (a1 : Int32) {r : Int32} {Mf : MS} (hF : F_L_readied M a0 a1 = some (r, Mf)) : HI l yL_readied (WH yL_readied cL_readied 5 (some .int) [(0, 10, 13, 21), (0, 10, 17, 13)]) (RmX 8) G B0 sa [.ref (gad G 216), .int a0, .int a1, .ref (gad G 227)] M r Mf := by
  intro sz
  refine x_metH (by decide +kernel) (Nat.le_of_ble_eq_true rfl) (fun p e s m below meth c ls hsz C0 hex hM hT hl => ?_)
  have hl : lv_has ls 5 [(0, .ref (gad G 216)), (1, .int a0), (2, .int a1), (3, .ref (gad G 227))] := hl
  have C0 : CX p s m meth c ([.ref (gad G 216), .int a0, .int a1, .ref (gad G 227)] : List Value).toArray cL_readied RL 5 (some .int) := C0
  rw [F_L_readied] at hF
  refine lv_aload_n C0.1 C0.2.1 dL_readied_0 rfl (lv_at hl 3 rfl) ?_
  refine lv_iconst (v := (0 : Int32)) C0.1 C0.2.1 dL_readied_1 (by decide) ?_
  refine lv_aload_n C0.1 C0.2.1 dL_readied_2 rfl (lv_at hl 0 rfl) ?_
  refine lv_iload_n C0.1 C0.2.1 dL_readied_3 rfl (lv_at hl 1 rfl) ?_
  refine lv_iload_n C0.1 C0.2.1 dL_readied_4 rfl (lv_at hl 2 rfl) ?_
  obtain ⟨k1, r1, M1, h1, hN, hE⟩ := bh_some hF
  refine h_vi (rest := [.int 0, .ref (gad G 227)]) C0 hM hT hl.1 (k_X4_readied l hst G B0 sa M a0 a1 h1) (⟨tbx [781, 782, 783, 69, 784] (by decide +kernel) (by decide +kernel), rfl, by decide +kernel, by decide +kernel, by decide +kernel⟩ : CWV RL 59 RX4 yX4_readied cX4_readied 3 (some .int) 2) rfl rfl ⟨Nat.le_of_ble_eq_true rfl, Nat.le_of_ble_eq_true rfl⟩ rfl (Nat.le_of_ble_eq_true rfl) ⟨Nat.le_of_ble_eq_true rfl, Nat.le_of_ble_eq_true rfl⟩ dL_readied_5 (fun hk ce q9 H locs hM hce hcv hcl => ?_) (fun hk H locs hM => ?_)
  · obtain ⟨hs, he⟩ := hE hk
    subst he
    rcases hsel_cons hs with ⟨e1, e2⟩ | hs
    · subst e1
      subst e2
      refine h_catch C0 hT hex [] { startPc := 0, endPc := 10, handlerPc := 13, catchType := 21 } [{ startPc := 0, endPc := 10, handlerPc := 17, catchType := 13 }] rfl (by decide) [] (by decide) (by decide) (by intro q hq; cases hq) rfl (by decide) clk_21 (by decide +kernel) hce hcv hcl ?_
      refine lv_astore (lv' := [(4, .ref q9), (0, .ref (gad G 216)), (1, .int a0), (2, .int a1), (3, .ref (gad G 227))]) C0.1 C0.2.1 dL_readied_13 hl (by decide) rfl (fun ls hl => ?_)
      refine lv_iconst (v := (1 : Int32)) C0.1 C0.2.1 dL_readied_15 (by decide) ?_
      exact x_hret C0 hM hsz (Nat.le_of_ble_eq_true rfl) (Nat.le_of_ble_eq_true rfl) dL_readied_16
    rcases hsel_cons hs with ⟨e1, e2⟩ | hs
    · subst e1
      subst e2
      refine h_catch C0 hT hex [{ startPc := 0, endPc := 10, handlerPc := 13, catchType := 21 }] { startPc := 0, endPc := 10, handlerPc := 17, catchType := 13 } [] rfl (by decide) [(21, 3)] (by decide) (by decide) (by intro q hq; simp only [List.mem_cons, List.not_mem_nil, or_false] at hq; rcases hq with rfl <;> first | exact clk_21) rfl (by decide) clk_13 (by decide +kernel) hce hcv hcl ?_
      refine lv_astore (lv' := [(4, .ref q9), (0, .ref (gad G 216)), (1, .int a0), (2, .int a1), (3, .ref (gad G 227))]) C0.1 C0.2.1 dL_readied_17 hl (by decide) rfl (fun ls hl => ?_)
      refine lv_iconst (v := (2 : Int32)) C0.1 C0.2.1 dL_readied_19 (by decide) ?_
      exact x_hret C0 hM hsz (Nat.le_of_ble_eq_true rfl) (Nat.le_of_ble_eq_true rfl) dL_readied_20
    exact (hsel_nil hs).elim
  · obtain ⟨e8, e9⟩ := y_2 (hN hk)
    subst e8
    subst e9
    refine lv_i2l (v := Int32.toInt64 r1) C0.1 C0.2.1 dL_readied_8 rfl ?_
    refine y_last C0 hM dL_readied_9 (fun H locs hM => ?_)
    refine lv_goto (tgt := 21) C0.1 C0.2.1 dL_readied_10 (by decide) ?_
    refine lv_iconst (v := (0 : Int32)) C0.1 C0.2.1 dL_readied_21 (by decide) ?_
    exact x_hret C0 hM hsz (Nat.le_of_ble_eq_true rfl) (Nat.le_of_ble_eq_true rfl) dL_readied_22
def F_L_ready (M : MS) (a0 : Int32) (a1 : Int32) (a2 : Int32) (a3 : Int32) : Option (Int32 × MS) := bh (F_X4_ready M a0 a1 a2 a3) [(3, (1 : Int32)), (1, (2 : Int32)), (2, (3 : Int32))]
set_option maxHeartbeats 4000000 in
set_option maxRecDepth 100000 in
theorem k_L_ready (l : Launch) (hst : l.stackTraces = false) (G : GG) (B0 : Nat) (sa : Nat × Nat × Nat) (M : MS) (a0 : Int32) (a1 : Int32) (a2 : Int32) (a3 : Int32) {r : Int32} {Mf : MS} (hF : F_L_ready M a0 a1 a2 a3 = some (r, Mf)) : HI l yL_ready (WH yL_ready cL_ready 7 (some .int) [(0, 14, 17, 21), (0, 14, 21, 13), (0, 14, 25, 15)]) (RmX 8) G B0 sa [.ref (gad G 216), .int a0, .int a1, .int a2, .int a3, .ref (gad G 227)] M r Mf := by
  intro sz
  refine x_metH (by decide +kernel) (Nat.le_of_ble_eq_true rfl) (fun p e s m below meth c ls hsz C0 hex hM hT hl => ?_)
  have hl : lv_has ls 7 [(0, .ref (gad G 216)), (1, .int a0), (2, .int a1), (3, .int a2), (4, .int a3), (5, .ref (gad G 227))] := hl
  have C0 : CX p s m meth c ([.ref (gad G 216), .int a0, .int a1, .int a2, .int a3, .ref (gad G 227)] : List Value).toArray cL_ready RL 7 (some .int) := C0
  rw [F_L_ready] at hF
  refine lv_aload C0.1 C0.2.1 dL_ready_0 (lv_at hl 5 rfl) ?_
  refine lv_iconst (v := (0 : Int32)) C0.1 C0.2.1 dL_ready_2 (by decide) ?_
  refine lv_aload_n C0.1 C0.2.1 dL_ready_3 rfl (lv_at hl 0 rfl) ?_
  refine lv_iload_n C0.1 C0.2.1 dL_ready_4 rfl (lv_at hl 1 rfl) ?_
  refine lv_iload_n C0.1 C0.2.1 dL_ready_5 rfl (lv_at hl 2 rfl) ?_
  refine lv_iload_n C0.1 C0.2.1 dL_ready_6 rfl (lv_at hl 3 rfl) ?_
  refine lv_iload C0.1 C0.2.1 dL_ready_7 (lv_at hl 4 rfl) ?_
  obtain ⟨k1, r1, M1, h1, hN, hE⟩ := bh_some hF
  refine h_vi (rest := [.int 0, .ref (gad G 227)]) C0 hM hT hl.1 (k_X4_ready l hst G B0 sa M a0 a1 a2 a3 h1) (⟨tbx [689, 690, 691, 69, 692] (by decide +kernel) (by decide +kernel), rfl, by decide +kernel, by decide +kernel, by decide +kernel⟩ : CWV RL 37 RX4 yX4_ready cX4_ready 5 (some .int) 4) rfl rfl ⟨Nat.le_of_ble_eq_true rfl, Nat.le_of_ble_eq_true rfl⟩ rfl (Nat.le_of_ble_eq_true rfl) ⟨Nat.le_of_ble_eq_true rfl, Nat.le_of_ble_eq_true rfl⟩ dL_ready_9 (fun hk ce q9 H locs hM hce hcv hcl => ?_) (fun hk H locs hM => ?_)
  · obtain ⟨hs, he⟩ := hE hk
    subst he
    rcases hsel_cons hs with ⟨e1, e2⟩ | hs
    · subst e1
      subst e2
      refine h_catch C0 hT hex [] { startPc := 0, endPc := 14, handlerPc := 17, catchType := 21 } [{ startPc := 0, endPc := 14, handlerPc := 21, catchType := 13 }, { startPc := 0, endPc := 14, handlerPc := 25, catchType := 15 }] rfl (by decide) [] (by decide) (by decide) (by intro q hq; cases hq) rfl (by decide) clk_21 (by decide +kernel) hce hcv hcl ?_
      refine lv_astore (lv' := [(6, .ref q9), (0, .ref (gad G 216)), (1, .int a0), (2, .int a1), (3, .int a2), (4, .int a3), (5, .ref (gad G 227))]) C0.1 C0.2.1 dL_ready_17 hl (by decide) rfl (fun ls hl => ?_)
      refine lv_iconst (v := (1 : Int32)) C0.1 C0.2.1 dL_ready_19 (by decide) ?_
      exact x_hret C0 hM hsz (Nat.le_of_ble_eq_true rfl) (Nat.le_of_ble_eq_true rfl) dL_ready_20
    rcases hsel_cons hs with ⟨e1, e2⟩ | hs
    · subst e1
      subst e2
      refine h_catch C0 hT hex [{ startPc := 0, endPc := 14, handlerPc := 17, catchType := 21 }] { startPc := 0, endPc := 14, handlerPc := 21, catchType := 13 } [{ startPc := 0, endPc := 14, handlerPc := 25, catchType := 15 }] rfl (by decide) [(21, 3)] (by decide) (by decide) (by intro q hq; simp only [List.mem_cons, List.not_mem_nil, or_false] at hq; rcases hq with rfl <;> first | exact clk_21) rfl (by decide) clk_13 (by decide +kernel) hce hcv hcl ?_
      refine lv_astore (lv' := [(6, .ref q9), (0, .ref (gad G 216)), (1, .int a0), (2, .int a1), (3, .int a2), (4, .int a3), (5, .ref (gad G 227))]) C0.1 C0.2.1 dL_ready_21 hl (by decide) rfl (fun ls hl => ?_)
      refine lv_iconst (v := (2 : Int32)) C0.1 C0.2.1 dL_ready_23 (by decide) ?_
      exact x_hret C0 hM hsz (Nat.le_of_ble_eq_true rfl) (Nat.le_of_ble_eq_true rfl) dL_ready_24
    rcases hsel_cons hs with ⟨e1, e2⟩ | hs
    · subst e1
      subst e2
      refine h_catch C0 hT hex [{ startPc := 0, endPc := 14, handlerPc := 17, catchType := 21 }, { startPc := 0, endPc := 14, handlerPc := 21, catchType := 13 }] { startPc := 0, endPc := 14, handlerPc := 25, catchType := 15 } [] rfl (by decide) [(21, 3), (13, 1)] (by decide) (by decide) (by intro q hq; simp only [List.mem_cons, List.not_mem_nil, or_false] at hq; rcases hq with rfl | rfl <;> first | exact clk_21 | exact clk_13) rfl (by decide) clk_15 (by decide +kernel) hce hcv hcl ?_
      refine lv_astore (lv' := [(6, .ref q9), (0, .ref (gad G 216)), (1, .int a0), (2, .int a1), (3, .int a2), (4, .int a3), (5, .ref (gad G 227))]) C0.1 C0.2.1 dL_ready_25 hl (by decide) rfl (fun ls hl => ?_)
      refine lv_iconst (v := (3 : Int32)) C0.1 C0.2.1 dL_ready_27 (by decide) ?_
      exact x_hret C0 hM hsz (Nat.le_of_ble_eq_true rfl) (Nat.le_of_ble_eq_true rfl) dL_ready_28
    exact (hsel_nil hs).elim
  · obtain ⟨e8, e9⟩ := y_2 (hN hk)
    subst e8
    subst e9
    refine lv_i2l (v := Int32.toInt64 r1) C0.1 C0.2.1 dL_ready_12 rfl ?_
    refine y_last C0 hM dL_ready_13 (fun H locs hM => ?_)
    refine lv_goto (tgt := 29) C0.1 C0.2.1 dL_ready_14 (by decide) ?_
    refine lv_iconst (v := (0 : Int32)) C0.1 C0.2.1 dL_ready_29 (by decide) ?_
    exact x_hret C0 hM hsz (Nat.le_of_ble_eq_true rfl) (Nat.le_of_ble_eq_true rfl) dL_ready_30
def F_L_run (M : MS) : Option (Int32 × MS) := bh (F_X4_run M) [(1, (1 : Int32))]
set_option maxHeartbeats 4000000 in
set_option maxRecDepth 100000 in
theorem k_L_run (l : Launch) (hst : l.stackTraces = false) (G : GG) (B0 : Nat) (sa : Nat × Nat × Nat) (M : MS) {r : Int32} {Mf : MS} (hF : F_L_run M = some (r, Mf)) : HI l yL_run (WH yL_run cL_run 3 (some .int) [(0, 8, 11, 13)]) (RmX 8) G B0 sa [.ref (gad G 216), .ref (gad G 227)] M r Mf := by
  intro sz
  refine x_metH (by decide +kernel) (Nat.le_of_ble_eq_true rfl) (fun p e s m below meth c ls hsz C0 hex hM hT hl => ?_)
  have hl : lv_has ls 3 [(0, .ref (gad G 216)), (1, .ref (gad G 227))] := hl
  have C0 : CX p s m meth c ([.ref (gad G 216), .ref (gad G 227)] : List Value).toArray cL_run RL 3 (some .int) := C0
  rw [F_L_run] at hF
  refine lv_aload_n C0.1 C0.2.1 dL_run_0 rfl (lv_at hl 1 rfl) ?_
  refine lv_iconst (v := (0 : Int32)) C0.1 C0.2.1 dL_run_1 (by decide) ?_
  refine lv_aload_n C0.1 C0.2.1 dL_run_2 rfl (lv_at hl 0 rfl) ?_
  obtain ⟨k1, r1, M1, h1, hN, hE⟩ := bh_some hF
  refine h_vi (rest := [.int 0, .ref (gad G 227)]) C0 hM hT hl.1 (k_X4_run l hst G B0 sa M h1) (⟨tbx [737, 738, 739, 69, 740] (by decide +kernel) (by decide +kernel), rfl, by decide +kernel, by decide +kernel, by decide +kernel⟩ : CWV RL 49 RX4 yX4_run cX4_run 3 (some .int) 0) rfl rfl ⟨Nat.le_of_ble_eq_true rfl, Nat.le_of_ble_eq_true rfl⟩ rfl (Nat.le_of_ble_eq_true rfl) ⟨Nat.le_of_ble_eq_true rfl, Nat.le_of_ble_eq_true rfl⟩ dL_run_3 (fun hk ce q9 H locs hM hce hcv hcl => ?_) (fun hk H locs hM => ?_)
  · obtain ⟨hs, he⟩ := hE hk
    subst he
    rcases hsel_cons hs with ⟨e1, e2⟩ | hs
    · subst e1
      subst e2
      refine h_catch C0 hT hex [] { startPc := 0, endPc := 8, handlerPc := 11, catchType := 13 } [] rfl (by decide) [] (by decide) (by decide) (by intro q hq; cases hq) rfl (by decide) clk_13 (by decide +kernel) hce hcv hcl ?_
      refine lv_astore_n (lv' := [(2, .ref q9), (0, .ref (gad G 216)), (1, .ref (gad G 227))]) C0.1 C0.2.1 dL_run_11 rfl hl (by decide) rfl (fun ls hl => ?_)
      refine lv_iconst (v := (1 : Int32)) C0.1 C0.2.1 dL_run_12 (by decide) ?_
      exact x_hret C0 hM hsz (Nat.le_of_ble_eq_true rfl) (Nat.le_of_ble_eq_true rfl) dL_run_13
    exact (hsel_nil hs).elim
  · obtain ⟨e8, e9⟩ := y_2 (hN hk)
    subst e8
    subst e9
    refine lv_i2l (v := Int32.toInt64 r1) C0.1 C0.2.1 dL_run_6 rfl ?_
    refine y_last C0 hM dL_run_7 (fun H locs hM => ?_)
    refine lv_goto (tgt := 14) C0.1 C0.2.1 dL_run_8 (by decide) ?_
    refine lv_iconst (v := (0 : Int32)) C0.1 C0.2.1 dL_run_14 (by decide) ?_
    exact x_hret C0 hM hsz (Nat.le_of_ble_eq_true rfl) (Nat.le_of_ble_eq_true rfl) dL_run_15
def F_L_step (M : MS) (a0 : Int32) : Option (Int32 × MS) := bh (F_X4_step M a0) [(1, (1 : Int32)), (2, (2 : Int32))]
set_option maxHeartbeats 4000000 in
set_option maxRecDepth 100000 in
theorem k_L_step (l : Launch) (hst : l.stackTraces = false) (G : GG) (B0 : Nat) (sa : Nat × Nat × Nat) (M : MS) (a0 : Int32) {r : Int32} {Mf : MS} (hF : F_L_step M a0 = some (r, Mf)) : HI l yL_step (WH yL_step cL_step 4 (some .int) [(0, 9, 12, 13), (0, 9, 15, 15)]) (RmX 8) G B0 sa [.ref (gad G 216), .int a0, .ref (gad G 227)] M r Mf := by
  intro sz
  refine x_metH (by decide +kernel) (Nat.le_of_ble_eq_true rfl) (fun p e s m below meth c ls hsz C0 hex hM hT hl => ?_)
  have hl : lv_has ls 4 [(0, .ref (gad G 216)), (1, .int a0), (2, .ref (gad G 227))] := hl
  have C0 : CX p s m meth c ([.ref (gad G 216), .int a0, .ref (gad G 227)] : List Value).toArray cL_step RL 4 (some .int) := C0
  rw [F_L_step] at hF
  refine lv_aload_n C0.1 C0.2.1 dL_step_0 rfl (lv_at hl 2 rfl) ?_
  refine lv_iconst (v := (0 : Int32)) C0.1 C0.2.1 dL_step_1 (by decide) ?_
  refine lv_aload_n C0.1 C0.2.1 dL_step_2 rfl (lv_at hl 0 rfl) ?_
  refine lv_iload_n C0.1 C0.2.1 dL_step_3 rfl (lv_at hl 1 rfl) ?_
  obtain ⟨k1, r1, M1, h1, hN, hE⟩ := bh_some hF
  refine h_vi (rest := [.int 0, .ref (gad G 227)]) C0 hM hT hl.1 (k_X4_step l hst G B0 sa M a0 h1) (⟨tbx [657, 658, 659, 69, 660] (by decide +kernel) (by decide +kernel), rfl, by decide +kernel, by decide +kernel, by decide +kernel⟩ : CWV RL 23 RX4 yX4_step cX4_step 2 (some .int) 1) rfl rfl ⟨Nat.le_of_ble_eq_true rfl, Nat.le_of_ble_eq_true rfl⟩ rfl (Nat.le_of_ble_eq_true rfl) ⟨Nat.le_of_ble_eq_true rfl, Nat.le_of_ble_eq_true rfl⟩ dL_step_4 (fun hk ce q9 H locs hM hce hcv hcl => ?_) (fun hk H locs hM => ?_)
  · obtain ⟨hs, he⟩ := hE hk
    subst he
    rcases hsel_cons hs with ⟨e1, e2⟩ | hs
    · subst e1
      subst e2
      refine h_catch C0 hT hex [] { startPc := 0, endPc := 9, handlerPc := 12, catchType := 13 } [{ startPc := 0, endPc := 9, handlerPc := 15, catchType := 15 }] rfl (by decide) [] (by decide) (by decide) (by intro q hq; cases hq) rfl (by decide) clk_13 (by decide +kernel) hce hcv hcl ?_
      refine lv_astore_n (lv' := [(3, .ref q9), (0, .ref (gad G 216)), (1, .int a0), (2, .ref (gad G 227))]) C0.1 C0.2.1 dL_step_12 rfl hl (by decide) rfl (fun ls hl => ?_)
      refine lv_iconst (v := (1 : Int32)) C0.1 C0.2.1 dL_step_13 (by decide) ?_
      exact x_hret C0 hM hsz (Nat.le_of_ble_eq_true rfl) (Nat.le_of_ble_eq_true rfl) dL_step_14
    rcases hsel_cons hs with ⟨e1, e2⟩ | hs
    · subst e1
      subst e2
      refine h_catch C0 hT hex [{ startPc := 0, endPc := 9, handlerPc := 12, catchType := 13 }] { startPc := 0, endPc := 9, handlerPc := 15, catchType := 15 } [] rfl (by decide) [(13, 1)] (by decide) (by decide) (by intro q hq; simp only [List.mem_cons, List.not_mem_nil, or_false] at hq; rcases hq with rfl <;> first | exact clk_13) rfl (by decide) clk_15 (by decide +kernel) hce hcv hcl ?_
      refine lv_astore_n (lv' := [(3, .ref q9), (0, .ref (gad G 216)), (1, .int a0), (2, .ref (gad G 227))]) C0.1 C0.2.1 dL_step_15 rfl hl (by decide) rfl (fun ls hl => ?_)
      refine lv_iconst (v := (2 : Int32)) C0.1 C0.2.1 dL_step_16 (by decide) ?_
      exact x_hret C0 hM hsz (Nat.le_of_ble_eq_true rfl) (Nat.le_of_ble_eq_true rfl) dL_step_17
    exact (hsel_nil hs).elim
  · obtain ⟨e8, e9⟩ := y_2 (hN hk)
    subst e8
    subst e9
    refine lv_i2l (v := Int32.toInt64 r1) C0.1 C0.2.1 dL_step_7 rfl ?_
    refine y_last C0 hM dL_step_8 (fun H locs hM => ?_)
    refine lv_goto (tgt := 18) C0.1 C0.2.1 dL_step_9 (by decide) ?_
    refine lv_iconst (v := (0 : Int32)) C0.1 C0.2.1 dL_step_18 (by decide) ?_
    exact x_hret C0 hM hsz (Nat.le_of_ble_eq_true rfl) (Nat.le_of_ble_eq_true rfl) dL_step_19
def F_L_strike (M : MS) (a0 : Int32) : Option (Int32 × MS) := bh (F_X4_strike M a0) [(3, (1 : Int32)), (2, (2 : Int32))]
set_option maxHeartbeats 4000000 in
set_option maxRecDepth 100000 in
theorem k_L_strike (l : Launch) (hst : l.stackTraces = false) (G : GG) (B0 : Nat) (sa : Nat × Nat × Nat) (M : MS) (a0 : Int32) {r : Int32} {Mf : MS} (hF : F_L_strike M a0 = some (r, Mf)) : HI l yL_strike (WH yL_strike cL_strike 4 (some .int) [(0, 9, 12, 21), (0, 9, 15, 15)]) (RmX 8) G B0 sa [.ref (gad G 216), .int a0, .ref (gad G 227)] M r Mf := by
  intro sz
  refine x_metH (by decide +kernel) (Nat.le_of_ble_eq_true rfl) (fun p e s m below meth c ls hsz C0 hex hM hT hl => ?_)
  have hl : lv_has ls 4 [(0, .ref (gad G 216)), (1, .int a0), (2, .ref (gad G 227))] := hl
  have C0 : CX p s m meth c ([.ref (gad G 216), .int a0, .ref (gad G 227)] : List Value).toArray cL_strike RL 4 (some .int) := C0
  rw [F_L_strike] at hF
  refine lv_aload_n C0.1 C0.2.1 dL_strike_0 rfl (lv_at hl 2 rfl) ?_
  refine lv_iconst (v := (0 : Int32)) C0.1 C0.2.1 dL_strike_1 (by decide) ?_
  refine lv_aload_n C0.1 C0.2.1 dL_strike_2 rfl (lv_at hl 0 rfl) ?_
  refine lv_iload_n C0.1 C0.2.1 dL_strike_3 rfl (lv_at hl 1 rfl) ?_
  obtain ⟨k1, r1, M1, h1, hN, hE⟩ := bh_some hF
  refine h_vi (rest := [.int 0, .ref (gad G 227)]) C0 hM hT hl.1 (k_X4_strike l hst G B0 sa M a0 h1) (⟨tbx [626, 627, 628, 69, 629] (by decide +kernel) (by decide +kernel), rfl, by decide +kernel, by decide +kernel, by decide +kernel⟩ : CWV RL 17 RX4 yX4_strike cX4_strike 2 (some .int) 1) rfl rfl ⟨Nat.le_of_ble_eq_true rfl, Nat.le_of_ble_eq_true rfl⟩ rfl (Nat.le_of_ble_eq_true rfl) ⟨Nat.le_of_ble_eq_true rfl, Nat.le_of_ble_eq_true rfl⟩ dL_strike_4 (fun hk ce q9 H locs hM hce hcv hcl => ?_) (fun hk H locs hM => ?_)
  · obtain ⟨hs, he⟩ := hE hk
    subst he
    rcases hsel_cons hs with ⟨e1, e2⟩ | hs
    · subst e1
      subst e2
      refine h_catch C0 hT hex [] { startPc := 0, endPc := 9, handlerPc := 12, catchType := 21 } [{ startPc := 0, endPc := 9, handlerPc := 15, catchType := 15 }] rfl (by decide) [] (by decide) (by decide) (by intro q hq; cases hq) rfl (by decide) clk_21 (by decide +kernel) hce hcv hcl ?_
      refine lv_astore_n (lv' := [(3, .ref q9), (0, .ref (gad G 216)), (1, .int a0), (2, .ref (gad G 227))]) C0.1 C0.2.1 dL_strike_12 rfl hl (by decide) rfl (fun ls hl => ?_)
      refine lv_iconst (v := (1 : Int32)) C0.1 C0.2.1 dL_strike_13 (by decide) ?_
      exact x_hret C0 hM hsz (Nat.le_of_ble_eq_true rfl) (Nat.le_of_ble_eq_true rfl) dL_strike_14
    rcases hsel_cons hs with ⟨e1, e2⟩ | hs
    · subst e1
      subst e2
      refine h_catch C0 hT hex [{ startPc := 0, endPc := 9, handlerPc := 12, catchType := 21 }] { startPc := 0, endPc := 9, handlerPc := 15, catchType := 15 } [] rfl (by decide) [(21, 3)] (by decide) (by decide) (by intro q hq; simp only [List.mem_cons, List.not_mem_nil, or_false] at hq; rcases hq with rfl <;> first | exact clk_21) rfl (by decide) clk_15 (by decide +kernel) hce hcv hcl ?_
      refine lv_astore_n (lv' := [(3, .ref q9), (0, .ref (gad G 216)), (1, .int a0), (2, .ref (gad G 227))]) C0.1 C0.2.1 dL_strike_15 rfl hl (by decide) rfl (fun ls hl => ?_)
      refine lv_iconst (v := (2 : Int32)) C0.1 C0.2.1 dL_strike_16 (by decide) ?_
      exact x_hret C0 hM hsz (Nat.le_of_ble_eq_true rfl) (Nat.le_of_ble_eq_true rfl) dL_strike_17
    exact (hsel_nil hs).elim
  · obtain ⟨e8, e9⟩ := y_2 (hN hk)
    subst e8
    subst e9
    refine lv_i2l (v := Int32.toInt64 r1) C0.1 C0.2.1 dL_strike_7 rfl ?_
    refine y_last C0 hM dL_strike_8 (fun H locs hM => ?_)
    refine lv_goto (tgt := 18) C0.1 C0.2.1 dL_strike_9 (by decide) ?_
    refine lv_iconst (v := (0 : Int32)) C0.1 C0.2.1 dL_strike_18 (by decide) ?_
    exact x_hret C0 hM hsz (Nat.le_of_ble_eq_true rfl) (Nat.le_of_ble_eq_true rfl) dL_strike_19
def F_L_undo (M : MS) : Option (Int32 × MS) := bh (F_X4_undo M) [(2, (1 : Int32))]
set_option maxHeartbeats 4000000 in
set_option maxRecDepth 100000 in
theorem k_L_undo (l : Launch) (hst : l.stackTraces = false) (G : GG) (B0 : Nat) (sa : Nat × Nat × Nat) (M : MS) {r : Int32} {Mf : MS} (hF : F_L_undo M = some (r, Mf)) : HI l yL_undo (WH yL_undo cL_undo 3 (some .int) [(0, 8, 11, 15)]) (RmX 8) G B0 sa [.ref (gad G 216), .ref (gad G 227)] M r Mf := by
  intro sz
  refine x_metH (by decide +kernel) (Nat.le_of_ble_eq_true rfl) (fun p e s m below meth c ls hsz C0 hex hM hT hl => ?_)
  have hl : lv_has ls 3 [(0, .ref (gad G 216)), (1, .ref (gad G 227))] := hl
  have C0 : CX p s m meth c ([.ref (gad G 216), .ref (gad G 227)] : List Value).toArray cL_undo RL 3 (some .int) := C0
  rw [F_L_undo] at hF
  refine lv_aload_n C0.1 C0.2.1 dL_undo_0 rfl (lv_at hl 1 rfl) ?_
  refine lv_iconst (v := (0 : Int32)) C0.1 C0.2.1 dL_undo_1 (by decide) ?_
  refine lv_aload_n C0.1 C0.2.1 dL_undo_2 rfl (lv_at hl 0 rfl) ?_
  obtain ⟨k1, r1, M1, h1, hN, hE⟩ := bh_some hF
  refine h_vi (rest := [.int 0, .ref (gad G 227)]) C0 hM hT hl.1 (k_X4_undo l hst G B0 sa M h1) (⟨tbx [767, 768, 769, 69, 770] (by decide +kernel) (by decide +kernel), rfl, by decide +kernel, by decide +kernel, by decide +kernel⟩ : CWV RL 52 RX4 yX4_undo cX4_undo 1 (some .int) 0) rfl rfl ⟨Nat.le_of_ble_eq_true rfl, Nat.le_of_ble_eq_true rfl⟩ rfl (Nat.le_of_ble_eq_true rfl) ⟨Nat.le_of_ble_eq_true rfl, Nat.le_of_ble_eq_true rfl⟩ dL_undo_3 (fun hk ce q9 H locs hM hce hcv hcl => ?_) (fun hk H locs hM => ?_)
  · obtain ⟨hs, he⟩ := hE hk
    subst he
    rcases hsel_cons hs with ⟨e1, e2⟩ | hs
    · subst e1
      subst e2
      refine h_catch C0 hT hex [] { startPc := 0, endPc := 8, handlerPc := 11, catchType := 15 } [] rfl (by decide) [] (by decide) (by decide) (by intro q hq; cases hq) rfl (by decide) clk_15 (by decide +kernel) hce hcv hcl ?_
      refine lv_astore_n (lv' := [(2, .ref q9), (0, .ref (gad G 216)), (1, .ref (gad G 227))]) C0.1 C0.2.1 dL_undo_11 rfl hl (by decide) rfl (fun ls hl => ?_)
      refine lv_iconst (v := (1 : Int32)) C0.1 C0.2.1 dL_undo_12 (by decide) ?_
      exact x_hret C0 hM hsz (Nat.le_of_ble_eq_true rfl) (Nat.le_of_ble_eq_true rfl) dL_undo_13
    exact (hsel_nil hs).elim
  · obtain ⟨e8, e9⟩ := y_2 (hN hk)
    subst e8
    subst e9
    refine lv_i2l (v := Int32.toInt64 r1) C0.1 C0.2.1 dL_undo_6 rfl ?_
    refine y_last C0 hM dL_undo_7 (fun H locs hM => ?_)
    refine lv_goto (tgt := 14) C0.1 C0.2.1 dL_undo_8 (by decide) ?_
    refine lv_iconst (v := (0 : Int32)) C0.1 C0.2.1 dL_undo_14 (by decide) ?_
    exact x_hret C0 hM hsz (Nat.le_of_ble_eq_true rfl) (Nat.le_of_ble_eq_true rfl) dL_undo_15
