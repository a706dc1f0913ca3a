section YR
variable {p : Program} {l : Launch} {e : Env} {R : Room} {s : State} {m : MethodId} {args : Array Value} {below : List Frame} {meth : Method} {c : Code} {H : Heap} {locs : List Loc} {cells slots : Nat} {Q : State → Prop}
variable {cc : ByteArray} {own : String} {nL : Nat} {ret : Option FieldType} {pc : Nat} {ls : Array Slot} {rest : List Value} {G : GG} {M : MS}
theorem y_get (C0 : CX p s m meth c args cc own nL ret) (hM : MX G M s H locs) {v ci : Nat} (hv : ok ci v) {fs : List Value} (he : ent G M v = .inr (ci, fs)) {C : String} {T : u_T} {N index : Nat} (hc : vwCl[ci]? = some (C, T, N)) (hin : ∀ w ∈ u_ws C T N, w ∈ TBg) (k : Nat) (hk : k < N)
    (hlink : Cond.fieldLink own index (T k).1 (T k).2.1 (T k).2.2.1 ∈ TBg) {val : Value} (hval : fs[k]? = some val) (hdg : decode cc pc = .ok (.getfield index, 3))
    (kk : W p l e R s m args below meth c H locs cells slots Q (F0 m (pc + 3) ls (val :: rest))) : W p l e R s m args below meth c H locs cells slots Q (F0 m pc ls (.ref (gad G v) :: rest)) := by
  obtain ⟨hx, hb, -, hown, hts, -, -⟩ := C0
  obtain ⟨hK, hP, -, -⟩ := hM
  exact va_get hx hb hts hin hown hK hP v ((wsM_at hv.1).trans (by rw [he])) hc k hk (hts _ hlink) (fun _ h => h) hval hdg kk
theorem y_put (C0 : CX p s m meth c args cc own nL ret) (hM : MX G M s H locs) {v ci : Nat} (hv : ok ci v) {fs : List Value} (he : ent G M v = .inr (ci, fs)) {C : String} {T : u_T} {N index : Nat} (hc : vwCl[ci]? = some (C, T, N)) (hin : ∀ w ∈ u_ws C T N, w ∈ TBg) (ty0 : Nat → FieldType) (hty : ∀ k, k < N → parseFieldDescriptor (T k).2.2.1 = some (ty0 k)) (hnm : ∀ a, a < N → ∀ b, b < N → a ≠ b → (T a).2.1 ≠ (T b).2.1) (k : Nat) (hk : k < N)
    (hlink : Cond.fieldLink own index (T k).1 (T k).2.1 (T k).2.2.1 ∈ TBg) (hfin : (T k).2.2.2 = false) {ty : FieldType} {val : Value} (hd : parseFieldDescriptor (T k).2.2.1 = some ty) (hn : narrow ty val = val) (hfit : fits ty val = true) (hl : k < fs.length) (hdg : decode cc pc = .ok (.putfield index, 3))
    {M' : MS} (h1 : ent G M' v = .inr (ci, fs.set k val)) (h2 : ∀ u, u < 224 → u ≠ v → ent G M' u = ent G M u) (h3 : ∀ u, 224 ≤ u → rA M' u = rA M u)
    (kk : ∀ (H1 : Heap) (locs1 : List Loc), MX G M' s H1 locs1 → W p l e R s m args below meth c H1 locs1 cells slots Q (F0 m (pc + 3) ls rest)) : W p l e R s m args below meth c H locs cells slots Q (F0 m pc ls (val :: .ref (gad G v) :: rest)) := by
  obtain ⟨hx, hb, -, hown, hts, -, -⟩ := C0
  have hD := hM.D
  obtain ⟨hK, hP, hG, hS⟩ := hM
  refine va_put hx hb hts hin ty0 hty hnm hown hK hP hD hS v ((wsM_at hv.1).trans (by rw [he])) hc k hk (hts _ hlink) (fun _ h => h) hfin hd hn hfit hl hdg (fun H1 locs1 hP1 _ hS1 => kk H1 locs1 ⟨hK, ?_, hG, hS1⟩)
  rw [wsM_set hG hv.1 h1 h2 h3] at hP1
  exact hP1
theorem y_iald (C0 : CX p s m meth c args cc own nL ret) (hM : MX G M s H locs) {v n : Nat} (hv : oka n v) {i : Int32} (hi : inb i n = true) (hdg : decode cc pc = .ok (.iaload, 1))
    (kk : W p l e R s m args below meth c H locs cells slots Q (F0 m (pc + 1) ls (.int (rA M v i.toNatClampNeg) :: rest))) : W p l e R s m args below meth c H locs cells slots Q (F0 m pc ls (.int i :: .ref (gad G v) :: rest)) := by
  obtain ⟨hx, hb, -, hown, hts, -, -⟩ := C0
  obtain ⟨hK, hP, -, -⟩ := hM
  exact va_iald hx hb hK hP v 0 ((wsM_at hv.1.1).trans (by rw [ent6n hv])) rfl (inb_in hi) hdg kk
theorem y_iast (C0 : CX p s m meth c args cc own nL ret) (hM : MX G M s H locs) {v n : Nat} (hv : oka n v) {i x : Int32} (hi : inb i n = true) (hdg : decode cc pc = .ok (.iastore, 1))
    (kk : ∀ (H1 : Heap) (locs1 : List Loc), MX G (wA M v i.toNatClampNeg x) s H1 locs1 → W p l e R s m args below meth c H1 locs1 cells slots Q (F0 m (pc + 1) ls rest)) : W p l e R s m args below meth c H locs cells slots Q (F0 m pc ls (.int x :: .int i :: .ref (gad G v) :: rest)) := by
  obtain ⟨hx, hb, -, hown, hts, -, -⟩ := C0
  have hD := hM.D
  obtain ⟨hK, hP, hG, hS⟩ := hM
  refine va_iast hx hb hK hP hD hS v 0 ((wsM_at hv.1.1).trans (by rw [ent6n hv])) rfl (inb_in hi) hdg (fun H1 locs1 hP1 _ hS1 => kk H1 locs1 ⟨hK, ?_, hG, hS1⟩)
  rw [wsM_set (M' := wA M v i.toNatClampNeg x) hG hv.1.1 (by rw [ent6n hv]; simp [rA, wA]) (fun u _ hu => ent_wA_ne hu) (fun u hu => rA_wA_ge (fun q => absurd hv.1.1 (by omega)))] at hP1
  exact hP1
theorem y_alen (C0 : CX p s m meth c args cc own nL ret) (hM : MX G M s H locs) {v n : Nat} (hv : oka n v) {x : Int32} (hn : Int32.ofNat n = x) (hdg : decode cc pc = .ok (.arraylength, 1))
    (kk : W p l e R s m args below meth c H locs cells slots Q (F0 m (pc + 1) ls (.int x :: rest))) : W p l e R s m args below meth c H locs cells slots Q (F0 m pc ls (.ref (gad G v) :: rest)) := by
  obtain ⟨hx, hb, -, hown, hts, -, -⟩ := C0
  obtain ⟨hK, hP, -, -⟩ := hM
  exact va_alen hx hb hK hP v 0 ((wsM_at hv.1.1).trans (by rw [ent6n hv])) (ty := .int) rfl hn hdg kk
theorem y_alen7 (C0 : CX p s m meth c args cc own nL ret) (hM : MX G M s H locs) {v : Nat} (hv : ok 7 v) (hdg : decode cc pc = .ok (.arraylength, 1))
    (kk : W p l e R s m args below meth c H locs cells slots Q (F0 m (pc + 1) ls (.int 10 :: rest))) : W p l e R s m args below meth c H locs cells slots Q (F0 m pc ls (.ref (gad G v) :: rest)) := by
  obtain ⟨hx, hb, -, hown, hts, -, -⟩ := C0
  obtain ⟨hK, hP, -, -⟩ := hM
  exact va_alen hx hb hK hP v 1 ((wsM_at hv.1).trans (by rw [ent7 hv])) (ty := .object RX0) rfl rfl hdg kk
theorem y_alen8 (C0 : CX p s m meth c args cc own nL ret) (hM : MX G M s H locs) {v : Nat} (hv : ok 8 v) (hdg : decode cc pc = .ok (.arraylength, 1))
    (kk : W p l e R s m args below meth c H locs cells slots Q (F0 m (pc + 1) ls (.int 6 :: rest))) : W p l e R s m args below meth c H locs cells slots Q (F0 m pc ls (.ref (gad G v) :: rest)) := by
  obtain ⟨hx, hb, -, hown, hts, -, -⟩ := C0
  obtain ⟨hK, hP, -, -⟩ := hM
  exact va_alen hx hb hK hP v 2 ((wsM_at hv.1).trans (by rw [ent8 hv])) (ty := .object RX3) rfl rfl hdg kk
theorem y_aald7 (C0 : CX p s m meth c args cc own nL ret) (hM : MX G M s H locs) {v : Nat} (hv : ok 7 v) {i : Int32} (hi : inb i 10 = true) (hdg : decode cc pc = .ok (.aaload, 1))
    (kk : W p l e R s m args below meth c H locs cells slots Q (F0 m (pc + 1) ls (.ref (gad G (v + 4 + i.toNatClampNeg)) :: rest))) : W p l e R s m args below meth c H locs cells slots Q (F0 m pc ls (.int i :: .ref (gad G v) :: rest)) := by
  obtain ⟨hx, hb, -, hown, hts, -, -⟩ := C0
  obtain ⟨hK, hP, -, -⟩ := hM
  exact va_aldq (f := fun i => some (gad G (v + 4 + i))) hx hb hK hP v 1 ((wsM_at hv.1).trans (by rw [ent7 hv])) rfl (inb_in hi) hdg kk
theorem y_aald8 (C0 : CX p s m meth c args cc own nL ret) (hM : MX G M s H locs) {v : Nat} (hv : ok 8 v) {i : Int32} (hi : inb i 6 = true) (hdg : decode cc pc = .ok (.aaload, 1))
    (kk : W p l e R s m args below meth c H locs cells slots Q (F0 m (pc + 1) ls (.ref (gad G (27 * rS M i.toNatClampNeg)) :: rest))) : W p l e R s m args below meth c H locs cells slots Q (F0 m pc ls (.int i :: .ref (gad G v) :: rest)) := by
  obtain ⟨hx, hb, -, hown, hts, -, -⟩ := C0
  obtain ⟨hK, hP, -, -⟩ := hM
  exact va_aldq (f := fun i => some (gad G (27 * rS M i))) hx hb hK hP v 2 ((wsM_at hv.1).trans (by rw [ent8 hv])) rfl (inb_in hi) hdg kk
theorem y_aast8 (C0 : CX p s m meth c args cc own nL ret) (hM : MX G M s H locs) {v : Nat} (hv : ok 8 v) {i : Int32} {k : Nat} (hk : k < 8) (hi : inb i 6 = true) (hdg : decode cc pc = .ok (.aastore, 1))
    (kk : ∀ (H1 : Heap) (locs1 : List Loc), MX G (wS M i.toNatClampNeg k) s H1 locs1 → W p l e R s m args below meth c H1 locs1 cells slots Q (F0 m (pc + 1) ls rest)) : W p l e R s m args below meth c H locs cells slots Q (F0 m pc ls (.ref (gad G (27 * k)) :: .int i :: .ref (gad G v) :: rest)) := by
  obtain ⟨hx, hb, -, hown, hts, -, -⟩ := C0
  have hD := hM.D
  obtain ⟨hK, hP, hG, hS⟩ := hM
  have hv8 := kd8_is hv
  refine va_astq (r := (RX3, TX3, 10)) hx hb hK hP hD hS v 2 (27 * k) 3 ((wsM_at hv.1).trans (by rw [ent8 hv])) rfl ((wsM_at (ok_sk hk).1).trans (by rw [ent3 (ok_sk hk)])) rfl (inb_in hi) hdg (fun H1 locs1 hP1 _ hS1 => kk H1 locs1 ⟨hK, ?_, hG, hS1⟩)
  rw [wsM_set (M' := wS M i.toNatClampNeg k) hG hv.1 (by
    rw [ent8 hv]
    have : (fun j => some (gad G (27 * rS (wS M i.toNatClampNeg k) j))) = va_up (fun j => some (gad G (27 * rS M j))) i.toNatClampNeg (some (gad G (27 * k))) := by
      funext j
      by_cases hj : j = i.toNatClampNeg <;> simp [rS, wS, va_up, hj]
    rw [this]) (fun u hu hne => ent_wS_ne hu (fun q => hne (by rw [hv8]; exact q))) (fun u _ => rfl)] at hP1
  exact hP1
/-- a call's words and frame -/
def CWV (own : String) (index : Nat) (C : String) (y : MethodName) (cc : ByteArray) (nL : Nat) (ret : Option FieldType) (n : Nat) : Prop :=
  (∀ w ∈ ([.methodLink own index y, .instanceMethod y, .selects C y y, .initialized C, .code y cc nL ret] : List Cond), w ∈ TBg) ∧ y.cls = C ∧ y.cls ≠ "java/lang/invoke/MethodHandle" ∧ y.cls ≠ "java/lang/invoke/VarHandle" ∧ (parseMethodDescriptor y.desc).map (fun d => d.parameters.length) = some n
def CWS (own : String) (index : Nat) (y : MethodName) (cc : ByteArray) (nL : Nat) (ret : Option FieldType) (n : Nat) : Prop :=
  (∀ w ∈ ([.methodLink own index y, .static y, .initialized y.cls, .code y cc nL ret] : List Cond), w ∈ TBg) ∧ y.cls ≠ "java/lang/invoke/MethodHandle" ∧ y.cls ≠ "java/lang/invoke/VarHandle" ∧ (parseMethodDescriptor y.desc).map (fun d => d.parameters.length) = some n
theorem good_TBg {ws : List Cond} (h : ∀ w ∈ ws, w ∈ TBg) : GoodIn TBg ws := fun w hw => ⟨h w hw, good_of_word (TBg_good w (h w hw))⟩
theorem WS_in {y : MethodName} {cc : ByteArray} {n : Nat} {r : Option FieldType} (h : Cond.code y cc n r ∈ TBg) : ∀ w ∈ WS y cc n r, w ∈ TBg := fun w hw => (List.mem_cons.mp hw).elim (fun e => by rw [e]; exact h) id
def Rm (d : Nat) : Room := { frames := d, cells := 0, slots := 0, locals := 30 * d + 24 }
/-- contracts: from the state M the method y, called with av, comes back with r and the state M' -/
def KI (l : Launch) (y : MethodName) (ws : List Cond) (rm : Room) (G : GG) (av : List Value) (M : MS) (r : Int32) (M' : MS) : Prop := ∀ sz, Met l y ws rm (va_Pc av (fun U => U.heap.size = sz ∧ Wd G M U)) (va_Qi (fun (r' : Int32) (_ : Unit) => r' = r) (fun _ t => Wd G M' t) (Af G sz)) 0 0 (Af G sz)
def KV (l : Launch) (y : MethodName) (ws : List Cond) (rm : Room) (G : GG) (av : List Value) (M : MS) (M' : MS) : Prop := ∀ sz, Met l y ws rm (va_Pc av (fun U => U.heap.size = sz ∧ Wd G M U)) (va_Qv (fun (_ : Unit) => True) (fun _ t => Wd G M' t) (Af G sz)) 0 0 (Af G sz)
def KL (l : Launch) (y : MethodName) (ws : List Cond) (rm : Room) (G : GG) (av : List Value) (M : MS) (r : Int64) (M' : MS) : Prop := ∀ sz, Met l y ws rm (va_Pc av (fun U => U.heap.size = sz ∧ Wd G M U)) (va_Ql (fun (r' : Int64) (_ : Unit) => r' = r) (fun _ t => Wd G M' t) (Af G sz)) 0 0 (Af G sz)
def KDd (l : Launch) (y : MethodName) (ws : List Cond) (rm : Room) (G : GG) (av : List Value) (M : MS) (r : UInt64) (M' : MS) : Prop := ∀ sz, Met l y ws rm (va_Pc av (fun U => U.heap.size = sz ∧ Wd G M U)) (va_Qd (fun (r' : UInt64) (_ : Unit) => r' = r) (fun _ t => Wd G M' t) (Af G sz)) 0 0 (Af G sz)
def KR (l : Launch) (y : MethodName) (ws : List Cond) (rm : Room) (G : GG) (av : List Value) (M : MS) (r : Nat) (M' : MS) : Prop := ∀ sz, Met l y ws rm (va_Pc av (fun U => U.heap.size = sz ∧ Wd G M U)) (va_Qr (fun (_ : Unit) => True) (fun _ a t => a = gad G r ∧ Wd G M' t) (Af G sz)) 0 0 (Af G sz)
theorem Wd_blind {G : GG} {M : MS} {sz : Nat} {av : List Value} : FrameBlind (va_Pc av (fun U => U.heap.size = sz ∧ Wd G M U)) := fun a U g mk q => by
  obtain ⟨h1, h2, h3, h4, h5⟩ := q
  exact ⟨h1, h2, va_K.moved (u := U) (U := U.calling g mk a) (Vm.Alike.refl U.vm) h3, h4, h5⟩
theorem MX_free {G : GG} {M : MS} {s : State} {H : Heap} {locs : List Loc} (hM : MX G M s H locs) : ∀ q, Af G H.size q → Af G s.heap.size q := by
  rintro q (h | h | h)
  · exact Or.inl h
  · exact Or.inr (Or.inl h)
  · exact Or.inr (Or.inr (Nat.le_trans hM.2.2.2.1 h))
theorem y_cwV {C : String} {y : MethodName} {cc' : ByteArray} {nL' n index : Nat} {ret' : Option FieldType} {rm : Room} (C0 : CX p s m meth c args cc own nL ret) (cw : CWV own index C y cc' nL' ret' n) (hm : rm.cells = 0) (hs : rm.slots = 0) (hR : rm.frames + 1 ≤ R.frames ∧ 8 + (nL' + 11) + rm.locals ≤ R.locals) :
    CallW R s args own C index y cc' nL' ret' (WS y cc' nL' ret') rm 0 0 n := by
  obtain ⟨hx, hb, -, hown, hts, -, -⟩ := C0
  obtain ⟨h1, h2, h3, h4, h5⟩ := cw
  have hi : ∀ w ∈ wsV own index C y (WS y cc' nL' ret'), w ∈ TBg := by
    intro w hw
    rcases List.mem_append.mp hw with h | h
    · exact h1 w (List.mem_append_left [Cond.code y cc' nL' ret'] h)
    · exact WS_in (h1 _ (by simp)) w h
  exact cwV n hts (good_TBg hi) rfl hm hs ⟨h2, h3, h4, h5⟩ hR
theorem y_cwS {y : MethodName} {cc' : ByteArray} {nL' n index : Nat} {ret' : Option FieldType} {rm : Room} (C0 : CX p s m meth c args cc own nL ret) (cw : CWS own index y cc' nL' ret' n) (hm : rm.cells = 0) (hs : rm.slots = 0) (hR : rm.frames + 1 ≤ R.frames ∧ 8 + (nL' + 11) + rm.locals ≤ R.locals) :
    CallB R s args own index y cc' nL' ret' (WS y cc' nL' ret') rm 0 0 n ∧ (Cond.static y).before args s = true := by
  obtain ⟨hx, hb, -, hown, hts, -, -⟩ := C0
  obtain ⟨h1, h3, h4, h5⟩ := cw
  have hi : ∀ w ∈ va_wsS own index y (WS y cc' nL' ret'), w ∈ TBg := by
    intro w hw
    rcases List.mem_append.mp hw with h | h
    · exact h1 w (List.mem_append_left [Cond.code y cc' nL' ret'] h)
    · exact WS_in (h1 _ (by simp)) w h
  exact va_cwS n hts (good_TBg hi) rfl hm hs ⟨h3, h4, h5⟩ hR
theorem y_pre {av : List Value} (hM : MX G M s H locs) : FrameBlind (va_Pc av (fun U => U.heap.size = H.size ∧ Wd G M U)) ∧ ∀ U : State, U.heap = H → s.WarmedH U.vm → va_Pc av (fun U => U.heap.size = H.size ∧ Wd G M U) av.toArray U := by
  obtain ⟨hK, hP, hG, hS⟩ := hM
  exact ⟨Wd_blind, fun U hU hW => ⟨rfl, by rw [hU], va_K.moved hW.alike hK, by rw [hU]; exact hP, hG⟩⟩
theorem y_back {M' : MS} {t : State} {H1 : Heap} {locs1 : List Loc} (ht : t.heap = H1) (hvm : s.vm.Alike t.vm) (hB : Wd G M' t) (hS : va_S (Af G s.heap.size) s.heap H1 locs1) : MX G M' s H1 locs1 := by
  obtain ⟨hK, hP, hG⟩ := hB
  exact ⟨va_K.moved hvm.symm hK, by rw [← ht]; exact hP, hG, hS⟩
theorem y_vi {C : String} {T : u_T} {N ci v : Nat} {y : MethodName} {cc' : ByteArray} {nL' index : Nat} {ret' : Option FieldType} {rm : Room} {As st0 : List Value} {r : Int32} {M' : MS} {fs : List Value} (C0 : CX p s m meth c args cc own nL ret) (hM : MX G M s H locs) (hls : ls.size = nL) (hv : ok ci v) (he : ent G M v = .inr (ci, fs)) (hc : vwCl[ci]? = some (C, T, N))
    (hK : KI l y (WS y cc' nL' ret') rm G (.ref (gad G v) :: As) M r M') (cw : CWV own index C y cc' nL' ret' As.length) (hm : rm.cells = 0) (hs : rm.slots = 0) (hR : rm.frames + 1 ≤ R.frames ∧ 8 + (nL' + 11) + rm.locals ≤ R.locals) (hst : st0 = As.reverse ++ .ref (gad G v) :: rest) (hW : (rest.map fun v => v.category).sum ≤ 8) (hf : cells + 0 ≤ R.cells ∧ slots + 0 ≤ R.slots) (hdg : decode cc pc = .ok (.invokevirtual index, 3))
    (kk : ∀ (H1 : Heap) (locs1 : List Loc), MX G M' s H1 locs1 → W p l e R s m args below meth c H1 locs1 cells slots Q (F0 m (pc + 3) ls (.int r :: rest))) : W p l e R s m args below meth c H locs cells slots Q (F0 m pc ls st0) := by
  have hcw := y_cwV C0 cw hm hs hR
  obtain ⟨hx, hb, hml, hown, hts, -, -⟩ := C0
  have hp := y_pre (av := .ref (gad G v) :: As) hM
  refine va_calli (va_runV (As := As) (rest := rest) ⟨hx, hb, hml, hown, hts⟩ (hK H.size) hcw ⟨hp.1, va_recv hM.1 hM.2.1 (ci := ci) (q0 := v) hc ((wsM_at hv.1).trans (by rw [he])), hp.2⟩ rfl rfl hls hst (lv_room hW) hdg hf) hM.2.2.2 (fun q _ h => MX_free hM q h) (MX_free hM) (fun r' u t H1 locs1 ht hvm hw hB _ _ hS => ?_)
  subst hw
  exact kk H1 locs1 (y_back ht hvm hB hS)
theorem y_vv {C : String} {T : u_T} {N ci v : Nat} {y : MethodName} {cc' : ByteArray} {nL' index : Nat} {ret' : Option FieldType} {rm : Room} {As st0 : List Value} {M' : MS} {fs : List Value} (C0 : CX p s m meth c args cc own nL ret) (hM : MX G M s H locs) (hls : ls.size = nL) (hv : ok ci v) (he : ent G M v = .inr (ci, fs)) (hc : vwCl[ci]? = some (C, T, N))
    (hK : KV l y (WS y cc' nL' ret') rm G (.ref (gad G v) :: As) M M') (cw : CWV own index C y cc' nL' ret' As.length) (hm : rm.cells = 0) (hs : rm.slots = 0) (hR : rm.frames + 1 ≤ R.frames ∧ 8 + (nL' + 11) + rm.locals ≤ R.locals) (hst : st0 = As.reverse ++ .ref (gad G v) :: rest) (hW : (rest.map fun v => v.category).sum ≤ 8) (hf : cells + 0 ≤ R.cells ∧ slots + 0 ≤ R.slots) (hdg : decode cc pc = .ok (.invokevirtual index, 3))
    (kk : ∀ (H1 : Heap) (locs1 : List Loc), MX G M' s H1 locs1 → W p l e R s m args below meth c H1 locs1 cells slots Q (F0 m (pc + 3) ls rest)) : W p l e R s m args below meth c H locs cells slots Q (F0 m pc ls st0) := by
  have hcw := y_cwV C0 cw hm hs hR
  obtain ⟨hx, hb, hml, hown, hts, -, -⟩ := C0
  have hp := y_pre (av := .ref (gad G v) :: As) hM
  exact va_callv (va_runV (As := As) (rest := rest) ⟨hx, hb, hml, hown, hts⟩ (hK H.size) hcw ⟨hp.1, va_recv hM.1 hM.2.1 (ci := ci) (q0 := v) hc ((wsM_at hv.1).trans (by rw [he])), hp.2⟩ rfl rfl hls hst (lv_room hW) hdg hf) hM.2.2.2 (fun q _ h => MX_free hM q h) (MX_free hM) (fun u t H1 locs1 ht hvm hw hB _ _ hS => kk H1 locs1 (y_back ht hvm hB hS))
theorem y_vl {C : String} {T : u_T} {N ci v : Nat} {y : MethodName} {cc' : ByteArray} {nL' index : Nat} {ret' : Option FieldType} {rm : Room} {As st0 : List Value} {r : Int64} {M' : MS} {fs : List Value} (C0 : CX p s m meth c args cc own nL ret) (hM : MX G M s H locs) (hls : ls.size = nL) (hv : ok ci v) (he : ent G M v = .inr (ci, fs)) (hc : vwCl[ci]? = some (C, T, N))
    (hK : KL l y (WS y cc' nL' ret') rm G (.ref (gad G v) :: As) M r M') (cw : CWV own index C y cc' nL' ret' As.length) (hm : rm.cells = 0) (hs : rm.slots = 0) (hR : rm.frames + 1 ≤ R.frames ∧ 8 + (nL' + 11) + rm.locals ≤ R.locals) (hst : st0 = As.reverse ++ .ref (gad G v) :: rest) (hW : (rest.map fun v => v.category).sum ≤ 8) (hf : cells + 0 ≤ R.cells ∧ slots + 0 ≤ R.slots) (hdg : decode cc pc = .ok (.invokevirtual index, 3))
    (kk : ∀ (H1 : Heap) (locs1 : List Loc), MX G M' s H1 locs1 → W p l e R s m args below meth c H1 locs1 cells slots Q (F0 m (pc + 3) ls (.long r :: rest))) : W p l e R s m args below meth c H locs cells slots Q (F0 m pc ls st0) := by
  have hcw := y_cwV C0 cw hm hs hR
  obtain ⟨hx, hb, hml, hown, hts, -, -⟩ := C0
  have hp := y_pre (av := .ref (gad G v) :: As) hM
  refine va_calll (va_runV (As := As) (rest := rest) ⟨hx, hb, hml, hown, hts⟩ (hK H.size) hcw ⟨hp.1, va_recv hM.1 hM.2.1 (ci := ci) (q0 := v) hc ((wsM_at hv.1).trans (by rw [he])), hp.2⟩ rfl rfl hls hst (lv_room hW) hdg hf) hM.2.2.2 (fun q _ h => MX_free hM q h) (MX_free hM) (fun r' u t H1 locs1 ht hvm hw hB _ _ hS => ?_)
  subst hw
  exact kk H1 locs1 (y_back ht hvm hB hS)
theorem y_vd {C : String} {T : u_T} {N ci v : Nat} {y : MethodName} {cc' : ByteArray} {nL' index : Nat} {ret' : Option FieldType} {rm : Room} {As st0 : List Value} {r : UInt64} {M' : MS} {fs : List Value} (C0 : CX p s m meth c args cc own nL ret) (hM : MX G M s H locs) (hls : ls.size = nL) (hv : ok ci v) (he : ent G M v = .inr (ci, fs)) (hc : vwCl[ci]? = some (C, T, N))
    (hK : KDd l y (WS y cc' nL' ret') rm G (.ref (gad G v) :: As) M r M') (cw : CWV own index C y cc' nL' ret' As.length) (hm : rm.cells = 0) (hs : rm.slots = 0) (hR : rm.frames + 1 ≤ R.frames ∧ 8 + (nL' + 11) + rm.locals ≤ R.locals) (hst : st0 = As.reverse ++ .ref (gad G v) :: rest) (hW : (rest.map fun v => v.category).sum ≤ 8) (hf : cells + 0 ≤ R.cells ∧ slots + 0 ≤ R.slots) (hdg : decode cc pc = .ok (.invokevirtual index, 3))
    (kk : ∀ (H1 : Heap) (locs1 : List Loc), MX G M' s H1 locs1 → W p l e R s m args below meth c H1 locs1 cells slots Q (F0 m (pc + 3) ls (.double r :: rest))) : W p l e R s m args below meth c H locs cells slots Q (F0 m pc ls st0) := by
  have hcw := y_cwV C0 cw hm hs hR
  obtain ⟨hx, hb, hml, hown, hts, -, -⟩ := C0
  have hp := y_pre (av := .ref (gad G v) :: As) hM
  refine va_calld (va_runV (As := As) (rest := rest) ⟨hx, hb, hml, hown, hts⟩ (hK H.size) hcw ⟨hp.1, va_recv hM.1 hM.2.1 (ci := ci) (q0 := v) hc ((wsM_at hv.1).trans (by rw [he])), hp.2⟩ rfl rfl hls hst (lv_room hW) hdg hf) hM.2.2.2 (fun q _ h => MX_free hM q h) (MX_free hM) (fun r' u t H1 locs1 ht hvm hw hB _ _ hS => ?_)
  subst hw
  exact kk H1 locs1 (y_back ht hvm hB hS)
theorem y_vr {C : String} {T : u_T} {N ci v : Nat} {y : MethodName} {cc' : ByteArray} {nL' index : Nat} {ret' : Option FieldType} {rm : Room} {As st0 : List Value} {r : Nat} {M' : MS} {fs : List Value} (C0 : CX p s m meth c args cc own nL ret) (hM : MX G M s H locs) (hls : ls.size = nL) (hv : ok ci v) (he : ent G M v = .inr (ci, fs)) (hc : vwCl[ci]? = some (C, T, N))
    (hK : KR l y (WS y cc' nL' ret') rm G (.ref (gad G v) :: As) M r M') (cw : CWV own index C y cc' nL' ret' As.length) (hm : rm.cells = 0) (hs : rm.slots = 0) (hR : rm.frames + 1 ≤ R.frames ∧ 8 + (nL' + 11) + rm.locals ≤ R.locals) (hst : st0 = As.reverse ++ .ref (gad G v) :: rest) (hW : (rest.map fun v => v.category).sum ≤ 8) (hf : cells + 0 ≤ R.cells ∧ slots + 0 ≤ R.slots) (hdg : decode cc pc = .ok (.invokevirtual index, 3))
    (kk : ∀ (H1 : Heap) (locs1 : List Loc), MX G M' s H1 locs1 → W p l e R s m args below meth c H1 locs1 cells slots Q (F0 m (pc + 3) ls (.ref (gad G r) :: rest))) : W p l e R s m args below meth c H locs cells slots Q (F0 m pc ls st0) := by
  have hcw := y_cwV C0 cw hm hs hR
  obtain ⟨hx, hb, hml, hown, hts, -, -⟩ := C0
  have hp := y_pre (av := .ref (gad G v) :: As) hM
  refine va_callr (va_runV (As := As) (rest := rest) ⟨hx, hb, hml, hown, hts⟩ (hK H.size) hcw ⟨hp.1, va_recv hM.1 hM.2.1 (ci := ci) (q0 := v) hc ((wsM_at hv.1).trans (by rw [he])), hp.2⟩ rfl rfl hls hst (lv_room hW) hdg hf) hM.2.2.2 (fun q _ h => MX_free hM q h) (MX_free hM) (fun u ra t H1 locs1 ht hvm hw hB _ _ hS => ?_)
  obtain ⟨hra, hB⟩ := hB
  subst hra
  exact kk H1 locs1 (y_back ht hvm hB hS)
theorem y_si {y : MethodName} {cc' : ByteArray} {nL' index : Nat} {ret' : Option FieldType} {rm : Room} {As st0 : List Value} {r : Int32} {M' : MS} (C0 : CX p s m meth c args cc own nL ret) (hM : MX G M s H locs) (hls : ls.size = nL)
    (hK : KI l y (WS y cc' nL' ret') rm G As M r M') (cw : CWS own index y cc' nL' ret' As.length) (hm : rm.cells = 0) (hs : rm.slots = 0) (hR : rm.frames + 1 ≤ R.frames ∧ 8 + (nL' + 11) + rm.locals ≤ R.locals) (hst : st0 = As.reverse ++ rest) (hW : (rest.map fun v => v.category).sum ≤ 8) (hf : cells + 0 ≤ R.cells ∧ slots + 0 ≤ R.slots) (hdg : decode cc pc = .ok (.invokestatic index, 3))
    (kk : ∀ (H1 : Heap) (locs1 : List Loc), MX G M' s H1 locs1 → W p l e R s m args below meth c H1 locs1 cells slots Q (F0 m (pc + 3) ls (.int r :: rest))) : W p l e R s m args below meth c H locs cells slots Q (F0 m pc ls st0) := by
  have hcw := y_cwS C0 cw hm hs hR
  obtain ⟨hx, hb, hml, hown, hts, -, -⟩ := C0
  have hp := y_pre (av := As) hM
  refine va_calli (va_runS (As := As) (rest := rest) ⟨hx, hb, hml, hown, hts⟩ (hK H.size) hcw hp rfl rfl hls hst (lv_room hW) hdg hf) hM.2.2.2 (fun q _ h => MX_free hM q h) (MX_free hM) (fun r' u t H1 locs1 ht hvm hw hB _ _ hS => ?_)
  subst hw
  exact kk H1 locs1 (y_back ht hvm hB hS)
theorem y_sl {y : MethodName} {cc' : ByteArray} {nL' index : Nat} {ret' : Option FieldType} {rm : Room} {As st0 : List Value} {r : Int64} {M' : MS} (C0 : CX p s m meth c args cc own nL ret) (hM : MX G M s H locs) (hls : ls.size = nL)
    (hK : KL l y (WS y cc' nL' ret') rm G As M r M') (cw : CWS own index y cc' nL' ret' As.length) (hm : rm.cells = 0) (hs : rm.slots = 0) (hR : rm.frames + 1 ≤ R.frames ∧ 8 + (nL' + 11) + rm.locals ≤ R.locals) (hst : st0 = As.reverse ++ rest) (hW : (rest.map fun v => v.category).sum ≤ 8) (hf : cells + 0 ≤ R.cells ∧ slots + 0 ≤ R.slots) (hdg : decode cc pc = .ok (.invokestatic index, 3))
    (kk : ∀ (H1 : Heap) (locs1 : List Loc), MX G M' s H1 locs1 → W p l e R s m args below meth c H1 locs1 cells slots Q (F0 m (pc + 3) ls (.long r :: rest))) : W p l e R s m args below meth c H locs cells slots Q (F0 m pc ls st0) := by
  have hcw := y_cwS C0 cw hm hs hR
  obtain ⟨hx, hb, hml, hown, hts, -, -⟩ := C0
  have hp := y_pre (av := As) hM
  refine va_calll (va_runS (As := As) (rest := rest) ⟨hx, hb, hml, hown, hts⟩ (hK H.size) hcw hp rfl rfl hls hst (lv_room hW) hdg hf) hM.2.2.2 (fun q _ h => MX_free hM q h) (MX_free hM) (fun r' u t H1 locs1 ht hvm hw hB _ _ hS => ?_)
  subst hw
  exact kk H1 locs1 (y_back ht hvm hB hS)
/-- a method's start: what the walk begins with -/
theorem y_met {y : MethodName} {av : List Value} {Qc : Array Value → State → Outcome → State → Prop} {rm : Room} {sz : Nat} {cc : ByteArray} {nL : Nat} {ret : Option FieldType} (hy : plainName y.cls = true) (hn : (lg_sl av).length ≤ nL) (hm : Cond.code y cc nL ret = Cond.code y cc nL ret)
    (body : ∀ (p : Program) (e : Env) (s : State) (m : MethodId) (below : List Frame) (meth : Method) (c : Code) (ls : Array Slot), s.heap.size = sz → CX p s m meth c av.toArray cc y.cls nL ret → MX G M s s.heap [] → lv_has ls nL (lv_args 0 av) →
      W p l e rm s m av.toArray below meth c s.heap [] 0 0 (MQ below Qc av.toArray s 0 0 (Af G sz)) (F0 m 0 ls [])) :
    Met l y (WS y cc nL ret) rm (va_Pc av (fun U => U.heap.size = sz ∧ Wd G M U)) Qc 0 0 (Af G sz) := by
  refine Met.ofW (cc := cc) (maxL := nL) (ret := ret) hy rfl ?_
  intro p e s m args below meth c s₁ B hml hv
  obtain ⟨rfl, hsz, hK, hP, hG⟩ := hv
  have hts := atoms_spec (ws := WS y cc nL ret) B.pre
  rw [lg_entry_eq]
  exact body p e s m below meth c _ hsz ⟨B.exec, B.bytes, hml, findClass_of_methodNamed B.named, fun w hw => hts w (List.mem_cons_of_mem _ hw), B.returns, B.notSynchronized⟩ ⟨hK, hP, hG, va_S.rf⟩ (lv_entry av hn)
theorem y_iret {Mf : MS} {r : Int32} {sz : Nat} (C0 : CX p s m meth c args cc own nL (some .int)) (hM : MX G Mf s H locs) (hsz : s.heap.size = sz) (hdg : decode cc pc = .ok (.ireturn, 1)) :
    W p l e R s m args below meth c H locs cells slots (MQ below (va_Qi (fun (r' : Int32) (_ : Unit) => r' = r) (fun _ t => Wd G Mf t) (Af G sz)) args s cells slots (Af G sz)) (F0 m pc ls [.int r]) := by
  obtain ⟨hx, hb, -, hown, hts, hr, hlk⟩ := C0
  subst hsz
  obtain ⟨hK, hP, hG, hS⟩ := hM
  exact W.iret hx hb hr (fun t ht hW => ⟨⟨r, (), rfl, rfl, va_K.moved hW.alike hK, by rw [ht]; exact hP, hG⟩, hS.F ht⟩) hS.2.2 hdg hlk
theorem y_zret {Mf : MS} {r : Int32} {sz : Nat} (C0 : CX p s m meth c args cc own nL (some .boolean)) (hM : MX G Mf s H locs) (hsz : s.heap.size = sz) (hn : narrow .boolean (.int r) = .int r) (hdg : decode cc pc = .ok (.ireturn, 1)) :
    W p l e R s m args below meth c H locs cells slots (MQ below (va_Qi (fun (r' : Int32) (_ : Unit) => r' = r) (fun _ t => Wd G Mf t) (Af G sz)) args s cells slots (Af G sz)) (F0 m pc ls [.int r]) := by
  obtain ⟨hx, hb, -, hown, hts, hr, hlk⟩ := C0
  subst hsz
  obtain ⟨hK, hP, hG, hS⟩ := hM
  exact W.zret hx hb hr hn (fun t ht hW => ⟨⟨r, (), rfl, rfl, va_K.moved hW.alike hK, by rw [ht]; exact hP, hG⟩, hS.F ht⟩) hS.2.2 hdg hlk
theorem y_vret {Mf : MS} {sz : Nat} (C0 : CX p s m meth c args cc own nL none) (hM : MX G Mf s H locs) (hsz : s.heap.size = sz) (hdg : decode cc pc = .ok (.return_, 1)) :
    W p l e R s m args below meth c H locs cells slots (MQ below (va_Qv (fun (_ : Unit) => True) (fun _ t => Wd G Mf t) (Af G sz)) args s cells slots (Af G sz)) (F0 m pc ls []) := by
  obtain ⟨hx, hb, -, hown, hts, hr, hlk⟩ := C0
  subst hsz
  obtain ⟨hK, hP, hG, hS⟩ := hM
  exact W.vret hx hb hr (fun t ht hW => ⟨⟨(), rfl, trivial, va_K.moved hW.alike hK, by rw [ht]; exact hP, hG⟩, hS.F ht⟩) hS.2.2 hdg hlk
theorem y_lret {Mf : MS} {r : Int64} {sz : Nat} (C0 : CX p s m meth c args cc own nL (some .long)) (hM : MX G Mf s H locs) (hsz : s.heap.size = sz) (hdg : decode cc pc = .ok (.lreturn, 1)) :
    W p l e R s m args below meth c H locs cells slots (MQ below (va_Ql (fun (r' : Int64) (_ : Unit) => r' = r) (fun _ t => Wd G Mf t) (Af G sz)) args s cells slots (Af G sz)) (F0 m pc ls [.long r]) := by
  obtain ⟨hx, hb, -, hown, hts, hr, hlk⟩ := C0
  subst hsz
  obtain ⟨hK, hP, hG, hS⟩ := hM
  exact W.lret hx hb hr (fun t ht hW => ⟨⟨r, (), rfl, rfl, va_K.moved hW.alike hK, by rw [ht]; exact hP, hG⟩, hS.F ht⟩) hS.2.2 hdg hlk
theorem y_dret {Mf : MS} {r : UInt64} {sz : Nat} (C0 : CX p s m meth c args cc own nL (some .double)) (hM : MX G Mf s H locs) (hsz : s.heap.size = sz) (hdg : decode cc pc = .ok (.dreturn, 1)) :
    W p l e R s m args below meth c H locs cells slots (MQ below (va_Qd (fun (r' : UInt64) (_ : Unit) => r' = r) (fun _ t => Wd G Mf t) (Af G sz)) args s cells slots (Af G sz)) (F0 m pc ls [.double r]) := by
  obtain ⟨hx, hb, -, hown, hts, hr, hlk⟩ := C0
  subst hsz
  obtain ⟨hK, hP, hG, hS⟩ := hM
  exact W.dret hx hb hr (fun t ht hW => ⟨⟨r, (), rfl, rfl, va_K.moved hW.alike hK, by rw [ht]; exact hP, hG⟩, hS.F ht⟩) hS.2.2 hdg hlk
theorem y_aret {Mf : MS} {r : Nat} {C : String} {sz : Nat} (C0 : CX p s m meth c args cc own nL (some (.object C))) (hM : MX G Mf s H locs) (hsz : s.heap.size = sz) (hdg : decode cc pc = .ok (.areturn, 1)) :
    W p l e R s m args below meth c H locs cells slots (MQ below (va_Qr (fun (_ : Unit) => True) (fun _ a t => a = gad G r ∧ Wd G Mf t) (Af G sz)) args s cells slots (Af G sz)) (F0 m pc ls [.ref (gad G r)]) := by
  obtain ⟨hx, hb, -, hown, hts, hr, hlk⟩ := C0
  subst hsz
  obtain ⟨hK, hP, hG, hS⟩ := hM
  exact W.aret hx hb hr (Or.inl ⟨C, rfl⟩) (Or.inr ⟨_, rfl⟩) (fun t ht hW => ⟨⟨(), gad G r, rfl, trivial, rfl, va_K.moved hW.alike hK, by rw [ht]; exact hP, hG⟩, hS.F ht⟩) hS.2.2 hdg hlk
theorem y_topi {x y : Int32} (h : y = x) (k : W p l e R s m args below meth c H locs cells slots Q (F0 m pc ls (.int y :: rest))) : W p l e R s m args below meth c H locs cells slots Q (F0 m pc ls (.int x :: rest)) := h ▸ k
theorem y_topl {x y : Int64} (h : y = x) (k : W p l e R s m args below meth c H locs cells slots Q (F0 m pc ls (.long y :: rest))) : W p l e R s m args below meth c H locs cells slots Q (F0 m pc ls (.long x :: rest)) := h ▸ k
theorem y_topd {x y : UInt64} (h : y = x) (k : W p l e R s m args below meth c H locs cells slots Q (F0 m pc ls (.double y :: rest))) : W p l e R s m args below meth c H locs cells slots Q (F0 m pc ls (.double x :: rest)) := h ▸ k
theorem y_topsk {x y : Nat} (h : y = x) (k : W p l e R s m args below meth c H locs cells slots Q (F0 m pc ls (.ref (gad G (27 * y)) :: rest))) : W p l e R s m args below meth c H locs cells slots Q (F0 m pc ls (.ref (gad G (27 * x)) :: rest)) := h ▸ k
theorem y_mn {M1 M2 : MS} (h : M1 = M2) (k : MX G M2 s H locs) : MX G M1 s H locs := h ▸ k
def MW (own : String) (index : Nat) (y : MethodName) (cd : ByteArray) (n : Nat) : Prop := ∀ w ∈ ([.methodLink own index y, .static y, .initialized "java/lang/Math", .code y cd n (some .int)] : List Cond), w ∈ TBg
theorem y_mmax (C0 : CX p s m meth c args cc own nL ret) (hls : ls.size = nL) {index : Nat} (hw : MW own index Lib.Math.max.name Lib.Math.max.code 2) (hfr : 1 ≤ R.frames) (hlo : (rest.map fun v => v.category).sum + 13 ≤ R.locals) (hf : cells ≤ R.cells ∧ slots ≤ R.slots) {x y : Int32} (hdg : decode cc pc = .ok (.invokestatic index, 3))
    (kk : W p l e R s m args below meth c H locs cells slots Q (F0 m (pc + 3) ls (.int (if x < y then y else x) :: rest))) : W p l e R s m args below meth c H locs cells slots Q (F0 m pc ls (.int y :: .int x :: rest)) := by
  obtain ⟨hx, hb, hml, hown, hts, -, -⟩ := C0
  exact va_mmax hx hb (hml.trans hls.symm) hown (hts _ (hw _ (by simp))) (hts _ (hw _ (by simp))) (hts _ (hw _ (by simp))) (hts _ (hw _ (by simp))) hfr hlo hf.1 hf.2 hdg kk
theorem y_mmin (C0 : CX p s m meth c args cc own nL ret) (hls : ls.size = nL) {index : Nat} (hw : MW own index Lib.Math.min.name Lib.Math.min.code 2) (hfr : 1 ≤ R.frames) (hlo : (rest.map fun v => v.category).sum + 13 ≤ R.locals) (hf : cells ≤ R.cells ∧ slots ≤ R.slots) {x y : Int32} (hdg : decode cc pc = .ok (.invokestatic index, 3))
    (kk : W p l e R s m args below meth c H locs cells slots Q (F0 m (pc + 3) ls (.int (if y < x then y else x) :: rest))) : W p l e R s m args below meth c H locs cells slots Q (F0 m pc ls (.int y :: .int x :: rest)) := by
  obtain ⟨hx, hb, hml, hown, hts, -, -⟩ := C0
  exact va_mmin hx hb (hml.trans hls.symm) hown (hts _ (hw _ (by simp))) (hts _ (hw _ (by simp))) (hts _ (hw _ (by simp))) (hts _ (hw _ (by simp))) hfr hlo hf.1 hf.2 hdg kk
theorem y_mabs (C0 : CX p s m meth c args cc own nL ret) (hls : ls.size = nL) {index : Nat} (hw : MW own index Lib.Math.abs.name Lib.Math.abs.code 1) (hfr : 1 ≤ R.frames) (hlo : (rest.map fun v => v.category).sum + 13 ≤ R.locals) (hf : cells ≤ R.cells ∧ slots ≤ R.slots) {x : Int32} (hdg : decode cc pc = .ok (.invokestatic index, 3))
    (kk : W p l e R s m args below meth c H locs cells slots Q (F0 m (pc + 3) ls (.int (if 0 ≤ x then x else 0 - x) :: rest))) : W p l e R s m args below meth c H locs cells slots Q (F0 m pc ls (.int x :: rest)) := by
  obtain ⟨hx, hb, hml, hown, hts, -, -⟩ := C0
  exact va_mabs hx hb (hml.trans hls.symm) hown (hts _ (hw _ (by simp))) (hts _ (hw _ (by simp))) (hts _ (hw _ (by simp))) (hts _ (hw _ (by simp))) hfr hlo hf.1 hf.2 hdg kk
theorem y_copy (C0 : CX p s m meth c args cc own nL ret) (hM : MX G M s H locs) (hls : ls.size = nL) {index : Nat} (hw : ∀ w ∈ ([.methodLink own index arraycopyName, .native arraycopyName, .static arraycopyName, .initialized "java/lang/System"] : List Cond), w ∈ TBg)
    {v w n0 n1 : Nat} (hv : oka n0 v) (hw1 : oka n1 w) {sp dp n : Int32} (h1 : ¬ sp < 0) (h2 : ¬ dp < 0) (h3 : ¬ n < 0) (h4 : sp.toNatClampNeg + n.toNatClampNeg ≤ n0) (h5 : dp.toNatClampNeg + n.toNatClampNeg ≤ n1)
    (hfr : 1 ≤ R.frames) (hlo : (rest.map fun v => v.category).sum + (nativeFrameWords "java/lang/System" "arraycopy" 5 + 11) ≤ R.locals) (hdg : decode cc pc = .ok (.invokestatic index, 3))
    (kk : ∀ (H1 : Heap) (locs1 : List Loc), MX G (wC M v w sp.toNatClampNeg dp.toNatClampNeg n.toNatClampNeg) s H1 locs1 → W p l e R s m args below meth c H1 locs1 cells slots Q (F0 m (pc + 3) ls rest)) : W p l e R s m args below meth c H locs cells slots Q (F0 m pc ls (.int n :: .int dp :: .ref (gad G w) :: .int sp :: .ref (gad G v) :: rest)) := by
  obtain ⟨hx, hb, hml, hown, hts, -, -⟩ := C0
  have hD := hM.D
  obtain ⟨hK, hP, hG, hS⟩ := hM
  refine va_copyi (f := rA M v) (g := rA M w) (ty := .int) hx hb (hml.trans hls.symm) hown (hts _ (hw _ (by simp))) (hts _ (hw _ (by simp))) (hts _ (hw _ (by simp))) (hts _ (hw _ (by simp))) hK hP hD hS v w 0 0 ((wsM_at hv.1.1).trans (by rw [ent6n hv])) ((wsM_at hw1.1.1).trans (by rw [ent6n hw1])) rfl rfl rfl h1 h2 h3 h4 h5 (fun _ _ => rfl) hfr hlo hdg (fun H1 locs1 hP1 _ hS1 => kk H1 locs1 ⟨hK, ?_, hG, hS1⟩)
  rw [wsM_set (M' := wC M v w sp.toNatClampNeg dp.toNatClampNeg n.toNatClampNeg) hG hw1.1.1 (by rw [ent6n hw1]; simp [rA, wC]) (fun u _ hu => ent_wC_ne hu) (fun u hu => rA_wC_ge (fun q => absurd hw1.1.1 (by omega)))] at hP1
  exact hP1
end YR
abbrev QI (below : List Frame) (args : Array Value) (s : State) (G : GG) (sz : Nat) (r : Int32) (Mf : MS) : State → Prop := MQ below (va_Qi (fun (r' : Int32) (_ : Unit) => r' = r) (fun _ t => Wd G Mf t) (Af G sz)) args s 0 0 (Af G sz)
abbrev QV (below : List Frame) (args : Array Value) (s : State) (G : GG) (sz : Nat) (Mf : MS) : State → Prop := MQ below (va_Qv (fun (_ : Unit) => True) (fun _ t => Wd G Mf t) (Af G sz)) args s 0 0 (Af G sz)
abbrev QL (below : List Frame) (args : Array Value) (s : State) (G : GG) (sz : Nat) (r : Int64) (Mf : MS) : State → Prop := MQ below (va_Ql (fun (r' : Int64) (_ : Unit) => r' = r) (fun _ t => Wd G Mf t) (Af G sz)) args s 0 0 (Af G sz)
abbrev QD (below : List Frame) (args : Array Value) (s : State) (G : GG) (sz : Nat) (r : UInt64) (Mf : MS) : State → Prop := MQ below (va_Qd (fun (r' : UInt64) (_ : Unit) => r' = r) (fun _ t => Wd G Mf t) (Af G sz)) args s 0 0 (Af G sz)
abbrev QR (below : List Frame) (args : Array Value) (s : State) (G : GG) (sz : Nat) (r : Nat) (Mf : MS) : State → Prop := MQ below (va_Qr (fun (_ : Unit) => True) (fun _ a t => a = gad G r ∧ Wd G Mf t) (Af G sz)) args s 0 0 (Af G sz)
theorem y_2 {α β : Type} {a c : α} {b d : β} (h : some (a, b) = some (c, d)) : a = c ∧ b = d := by cases h; exact ⟨rfl, rfl⟩
theorem y_1 {α : Type} {a c : α} (h : some a = some c) : a = c := by cases h; rfl
theorem ok_now : ok 3 0 := ok_c (by decide +kernel)
theorem ok_scratch : ok 3 27 := ok_c (by decide +kernel)
theorem ok_saved : ok 8 217 := ok_c (by decide +kernel)
theorem ok_text : ok 1 218 := ok_c (by decide +kernel)
theorem ok_tt : ok 4 216 := ok_c (by decide +kernel)
theorem oka_a : oka 48 220 := oka_c (by decide +kernel)
theorem oka_cc : oka 24 221 := oka_c (by decide +kernel)
theorem oka_r : oka 6 222 := oka_c (by decide +kernel)
theorem oka_t : oka 7 223 := oka_c (by decide +kernel)
theorem oka_codes9 : oka 60 219 := oka_c (by decide +kernel)
theorem zob_n {r : Int32} (h : (r == 0 || r == 1) = true) : narrow .boolean (.int r) = .int r := by
  simp only [Bool.or_eq_true, beq_iff_eq] at h
  rcases h with h | h <;> rw [h] <;> rfl
def tsO (dflt lo hi : Int) (offs : Array Int) (x : Int) : Int := if x < lo ∨ hi < x then dflt else offs[(x - lo).toNat]?.getD dflt
theorem ts_d {x : Int32} {dflt lo hi : Int} {offs : Array Int} (h : ∀ k : Int, lo ≤ k → k ≤ hi → x.toInt = k → offs[(k - lo).toNat]?.getD dflt = dflt) : tsO dflt lo hi offs x.toInt = dflt := by
  unfold tsO
  split
  · rfl
  · exact h x.toInt (by omega) (by omega) rfl
section YT
variable {p : Program} {l : Launch} {e : Env} {R : Room} {s : State} {m : MethodId} {args : Array Value} {below : List Frame} {meth : Method} {c : Code} {H : Heap} {locs : List Loc} {cells slots : Nat} {Q : State → Prop}
variable {cc : ByteArray} {own : String} {nL : Nat} {ret : Option FieldType} {pc : Nat} {ls : Array Slot} {rest : List Value}
theorem y_tsw (C0 : CX p s m meth c args cc own nL ret) {dflt lo hi : Int} {offs : Array Int} {len : Nat} {x : Int32} {off : Int} {tgt : Nat} (hdg : decode cc pc = .ok (.tableswitch dflt lo hi offs, len)) (hz : (hi - lo + 1).toNat ≤ offs.size) (ho : tsO dflt lo hi offs x.toInt = off) (ht : (pc : Int) + off = (tgt : Int))
    (k : W p l e R s m args below meth c H locs cells slots Q (F0 m tgt ls rest)) : W p l e R s m args below meth c H locs cells slots Q (F0 m pc ls (.int x :: rest)) := by
  obtain ⟨hx, hb, -⟩ := C0
  by_cases h : x.toInt < lo ∨ hi < x.toInt
  · unfold tsO at ho
    rw [if_pos h] at ho
    exact lv_tableOut hx hb hdg h (by rw [ho]; exact ht) k
  · unfold tsO at ho
    rw [if_neg h] at ho
    have hl : (x.toInt - lo).toNat < offs.size := by omega
    rw [Array.getElem?_eq_getElem hl] at ho
    exact lv_tableIn hx hb hdg (by omega) (by omega) (by rw [Array.getElem?_eq_getElem hl]; exact congrArg some ho) ht k
end YT
