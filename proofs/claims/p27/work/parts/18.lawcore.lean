/-! the law's own methods: contracts of those that call the class or make rows of their own -/
def RmL (d mc : Nat) : Room := { frames := d, cells := mc, slots := 6 * mc, locals := 40 * d + 24 }
def LI (l : Launch) (y : MethodName) (ws : List Cond) (rm : Room) (mc : Nat) (G : GG) (B0 : Nat) (sa : Nat × Nat × Nat) (av : List Value) (M : MS) (r : Int32) (Mf : MS) : Prop := ∀ sz, Met l y ws rm (va_Pc av (WX G B0 sa M sz)) (va_Qi (fun (r' : Int32) (_ : Unit) => r' = r) (fun _ t => Wd G Mf t) (Af G sz)) mc (6 * mc) (Af G sz)
def LV (l : Launch) (y : MethodName) (ws : List Cond) (rm : Room) (mc : Nat) (G : GG) (B0 : Nat) (sa : Nat × Nat × Nat) (av : List Value) (M : MS) (Mf : MS) : Prop := ∀ sz, Met l y ws rm (va_Pc av (WX G B0 sa M sz)) (va_Qv (fun (_ : Unit) => True) (fun _ t => Wd G Mf t) (Af G sz)) mc (6 * mc) (Af G sz)
abbrev QLI (below : List Frame) (args : Array Value) (s : State) (G : GG) (sz mc : Nat) (r : Int32) (Mf : MS) : State → Prop := MQ below (va_Qi (fun (r' : Int32) (_ : Unit) => r' = r) (fun _ t => Wd G Mf t) (Af G sz)) args s mc (6 * mc) (Af G sz)
abbrev QLV (below : List Frame) (args : Array Value) (s : State) (G : GG) (sz mc : Nat) (Mf : MS) : State → Prop := MQ below (va_Qv (fun (_ : Unit) => True) (fun _ t => Wd G Mf t) (Af G sz)) args s mc (6 * mc) (Af G sz)
/-- a call of the class that comes back -/
def bd0 {β : Type} (o : Option (Nat × Int32 × MS)) (k : Int32 → MS → Option β) : Option β := match o with
  | none => none
  | some (n, r, M1) => if n = 0 then k r M1 else none
theorem bd0_some {β : Type} {o : Option (Nat × Int32 × MS)} {k : Int32 → MS → Option β} {x : β} (h : bd0 o k = some x) : ∃ r M1, o = some (0, r, M1) ∧ k r M1 = some x := by
  cases o with
  | none => cases h
  | some a =>
    obtain ⟨n, r, M1⟩ := a
    by_cases hk : n = 0
    · subst hk
      exact ⟨r, M1, rfl, h⟩
    · have h2 : (none : Option β) = some x := by simpa [bd0, hk] using h
      cases h2
theorem va_P_in {D : va_G} {cl : List vw_C} {ws ws' : va_W} {H : Heap} (h : va_P D cl ws H) (hm : ∀ q ∈ ws', q ∈ ws) : va_P D cl ws' H := fun k q hk => by
  obtain ⟨i, hi⟩ := List.getElem?_of_mem (hm q (List.mem_of_getElem? hk))
  exact h i q hi
theorem u_ty {U : State} {a b : ClassId} {ty : FieldType} (h1 : va_RA U a ty) (h2 : va_RA U b ty) : a = b := by
  cases ty with
  | object C =>
    obtain ⟨k1, c1, -, -, -, h3⟩ := h1
    obtain ⟨k2, c2, -, -, -, h4⟩ := h2
    exact Option.some.inj (h3.symm.trans h4)
  | _ => exact Option.some.inj (Eq.trans (Eq.symm h1) h2)
theorem wsM_GE {G : GG} {M : MS} {v q : Nat} : wsM (GE G v q) M = wsM G M ++ [(q, entT G M v)] := by
  unfold wsM
  rw [List.append_assoc]
  congr 1
  show ((G.2.2.2 ++ [(v, q)]).map _) = _
  rw [List.map_append]
  rfl
theorem wsM_wZ {G : GG} {M : MS} {v : Nat} (hv : 224 ≤ v) (hf : fr G v) : wsM G (wZ M v) = wsM G M := by
  unfold wsM
  have h1 : wsSt G (wZ M v) = wsSt G M := by
    unfold wsSt
    refine List.map_congr_left (fun u hu => ?_)
    have hu2 := List.mem_range.mp hu
    have hne : u ≠ v := by omega
    have e : ∀ c', rF (wZ M v) c' u = rF M c' u := fun c' => rfl
    have e2 : rA (wZ M v) u = rA M u := by simp [rA, wZ, hne]
    have e3 : rS (wZ M v) = rS M := rfl
    simp only [ent, el0, el1, el2, el3, el4, e, e2, e3]
  have h2 : wsTr G (wZ M v) = wsTr G M := by
    unfold wsTr
    refine List.map_congr_left (fun x hx => ?_)
    have hne := hf x hx
    have e2 : rA (wZ M v) x.1 = rA M x.1 := by simp [rA, wZ, hne]
    simp only [entT, e2]
  rw [h1, h2]
theorem MX.drop {G : GG} {M : MS} {s : State} {H : Heap} {locs : List Loc} {v q : Nat} (hM : MX (GE G v q) M s H locs) (hq : s.heap.size ≤ q) : MX G M s H locs := by
  obtain ⟨hK, hP, ⟨g1, g2, g3, g4⟩, hS1, hS2, hS3⟩ := hM
  have hin : ∀ x, x ∈ tr G → x ∈ tr (GE G v q) := fun x hx => List.mem_append_left _ hx
  have hA : ∀ z, Af (GE G v q) s.heap.size z → Af G s.heap.size z := by
    rintro z (h | ⟨x, hx, e⟩ | h)
    · exact Or.inl h
    · rcases List.mem_append.mp (show x ∈ G.2.2.2 ++ [(v, q)] from hx) with h1 | h1
      · exact Or.inr (Or.inl ⟨x, h1, e⟩)
      · refine Or.inr (Or.inr ?_)
        rw [List.mem_singleton.mp h1] at e
        have e2 : z = q := e
        omega
    · exact Or.inr (Or.inr h)
  refine ⟨hK, va_P_in hP (fun y hy => ?_), ⟨g1, fun i j x y hx hy => g2 i j x y ?_ ?_, fun u x hu hx => g3 u x hu (hin x hx), fun x hx => g4 x (hin x hx)⟩, hS1, fun z h1 h2 => hS2 z h1 (fun h => h2 (hA z h)), fun z hz => hA _ (hS3 z hz)⟩
  · rw [wsM_GE]; exact List.mem_append_left _ hy
  · show (tr G ++ [(v, q)])[i]? = some x
    rw [List.getElem?_append_left (List.getElem?_eq_some_iff.mp hx).1]; exact hx
  · show (tr G ++ [(v, q)])[j]? = some y
    rw [List.getElem?_append_left (List.getElem?_eq_some_iff.mp hy).1]; exact hy
section ZR
variable {p : Program} {l : Launch} {e : Env} {R : Room} {s : State} {m : MethodId} {args : Array Value} {below : List Frame} {meth : Method} {c : Code} {H : Heap} {locs : List Loc} {cells slots : Nat} {Q : State → Prop}
variable {cc : ByteArray} {own : String} {nL : Nat} {ret : Option FieldType} {pc : Nat} {ls : Array Slot} {rest : List Value} {G : GG} {M : MS} {B0 : Nat} {sa : Nat × Nat × Nat}
theorem y_sv {y : MethodName} {cc' : ByteArray} {nL' index : Nat} {ret' : Option FieldType} {rm : Room} {As st0 : List Value} {M' : MS} (C0 : CX p s m meth c args cc own nL ret) (hM : MX G M s H locs) (hls : ls.size = nL)
    (hK : KV l y (WS y cc' nL' ret') rm G As M M') (cw : CWS own index y cc' nL' ret' As.length) (hm : rm.cells = 0) (hs : rm.slots = 0) (hR : rm.frames + 1 ≤ R.frames ∧ 8 + (nL' + 11) + rm.locals ≤ R.locals) (hst : st0 = As.reverse ++ rest) (hW : (rest.map fun v => v.category).sum ≤ 8) (hf : cells + 0 ≤ R.cells ∧ slots + 0 ≤ R.slots) (hdg : decode cc pc = .ok (.invokestatic index, 3))
    (kk : ∀ (H1 : Heap) (locs1 : List Loc), MX G M' s H1 locs1 → W p l e R s m args below meth c H1 locs1 cells slots Q (F0 m (pc + 3) ls rest)) : W p l e R s m args below meth c H locs cells slots Q (F0 m pc ls st0) := by
  have hcw := y_cwS C0 cw hm hs hR
  obtain ⟨hx, hb, hml, hown, hts, -, -⟩ := C0
  have hp := y_pre (av := As) hM
  exact va_callv (va_runS (As := As) (rest := rest) ⟨hx, hb, hml, hown, hts⟩ (hK H.size) hcw hp rfl rfl hls hst (lv_room hW) hdg hf) hM.2.2.2 (fun q _ h => MX_free hM q h) (MX_free hM) (fun u t H1 locs1 ht hvm hw hB _ _ hS => kk H1 locs1 (y_back ht hvm hB hS))
theorem z_met {y : MethodName} {av : List Value} {Qc : Array Value → State → Outcome → State → Prop} {rm : Room} {sz mc ms : Nat} {cc : ByteArray} {nL : Nat} {ret : Option FieldType} (hy : plainName y.cls = true) (hn : (lg_sl av).length ≤ nL)
    (body : ∀ (p : Program) (e : Env) (s : State) (m : MethodId) (below : List Frame) (meth : Method) (c : Code) (ls : Array Slot), s.heap.size = sz → CX p s m meth c av.toArray cc y.cls nL ret → MX G M s s.heap [] → TX G B0 sa s s.heap → lv_has ls nL (lv_args 0 av) →
      W p l e rm s m av.toArray below meth c s.heap [] 0 0 (MQ below Qc av.toArray s mc ms (Af G sz)) (F0 m 0 ls [])) :
    Met l y (WS y cc nL ret) rm (va_Pc av (WX G B0 sa M sz)) Qc mc ms (Af G sz) := by
  refine Met.ofW (cc := cc) (maxL := nL) (ret := ret) hy rfl ?_
  intro p e s m args below meth c s₁ B hml hv
  obtain ⟨rfl, hsz, ⟨hK, hP, hG⟩, hT⟩ := hv
  have hts := atoms_spec (ws := WS y cc nL ret) B.pre
  rw [lg_entry_eq]
  exact body p e s m below meth c _ hsz ⟨B.exec, B.bytes, hml, findClass_of_methodNamed B.named, fun w hw => hts w (List.mem_cons_of_mem _ hw), B.returns, B.notSynchronized⟩ ⟨hK, hP, hG, va_S.rf⟩ hT (lv_entry av hn)
theorem z_iret {Mf : MS} {r : Int32} {sz mc : Nat} (C0 : CX p s m meth c args cc own nL (some .int)) (hM : MX G Mf s H locs) (hsz : s.heap.size = sz) (h1 : cells ≤ mc) (h2 : slots ≤ 6 * mc) (hdg : decode cc pc = .ok (.ireturn, 1)) :
    W p l e R s m args below meth c H locs cells slots (QLI below args s G sz mc r Mf) (F0 m pc ls [.int r]) := W.widen (k := mc) (n := 6 * mc) h1 h2 (y_iret C0 hM hsz hdg)
theorem z_zret {Mf : MS} {r : Int32} {sz mc : Nat} (C0 : CX p s m meth c args cc own nL (some .boolean)) (hM : MX G Mf s H locs) (hsz : s.heap.size = sz) (hn : narrow .boolean (.int r) = .int r) (h1 : cells ≤ mc) (h2 : slots ≤ 6 * mc) (hdg : decode cc pc = .ok (.ireturn, 1)) :
    W p l e R s m args below meth c H locs cells slots (QLI below args s G sz mc r Mf) (F0 m pc ls [.int r]) := W.widen (k := mc) (n := 6 * mc) h1 h2 (y_zret C0 hM hsz hn hdg)
theorem z_vret {Mf : MS} {sz mc : Nat} (C0 : CX p s m meth c args cc own nL none) (hM : MX G Mf s H locs) (hsz : s.heap.size = sz) (h1 : cells ≤ mc) (h2 : slots ≤ 6 * mc) (hdg : decode cc pc = .ok (.return_, 1)) :
    W p l e R s m args below meth c H locs cells slots (QLV below args s G sz mc Mf) (F0 m pc ls []) := W.widen (k := mc) (n := 6 * mc) h1 h2 (y_vret C0 hM hsz hdg)
theorem h_vi {y : MethodName} {cc' : ByteArray} {nL' index k : Nat} {ret' : Option FieldType} {rm : Room} {As st0 : List Value} {r : Int32} {M' : MS} (C0 : CX p s m meth c args cc own nL ret) (hM : MX G M s H locs) (hT : TX G B0 sa s s.heap) (hls : ls.size = nL)
    (hK : XI l y (WS y cc' nL' ret') rm G B0 sa (.ref (gad G 216) :: As) M k r M') (cw : CWV own index RX4 y cc' nL' ret' As.length) (hm : rm.cells = 4) (hs : rm.slots = 24) (hR : rm.frames + 1 ≤ R.frames ∧ 8 + (nL' + 11) + rm.locals ≤ R.locals) (hst : st0 = As.reverse ++ .ref (gad G 216) :: rest) (hW : (rest.map fun v => v.category).sum ≤ 8) (hf : cells + 4 ≤ R.cells ∧ slots + 24 ≤ R.slots) (hdg : decode cc pc = .ok (.invokevirtual index, 3))
    (kx : k ≠ 0 → ∀ (ce : Cell) (q9 : Addr) (H1 : Heap) (locs1 : List Loc), MX G M' s H1 locs1 → H1[q9]? = some ce → ce.vm = .none → s.vm.findClass (EC k) = some ce.cls → vx_W p l e R s m args below meth c H1 locs1 (cells + 4) (slots + 24) Q (F0 m pc ls rest) q9)
    (kk : k = 0 → ∀ (H1 : Heap) (locs1 : List Loc), MX G M' s H1 locs1 → W p l e R s m args below meth c H1 locs1 (cells + 4) (slots + 24) Q (F0 m (pc + 3) ls (.int r :: rest))) : W p l e R s m args below meth c H locs cells slots Q (F0 m pc ls st0) := by
  have hcw : CallW R s args own RX4 index y cc' nL' ret' (WS y cc' nL' ret') rm 4 24 As.length := by
    obtain ⟨hx, hb, -, hown, hts, -, -⟩ := C0
    obtain ⟨h1, h2, h3, h4, h5⟩ := cw
    have hi : ∀ w ∈ wsV own index RX4 y (WS y cc' nL' ret'), w ∈ TBg := by
      intro w hw
      rcases List.mem_append.mp hw with h | h
      · exact h1 w (List.mem_append_left [Cond.code y cc' nL' ret'] h)
      · exact WS_in (h1 _ (by simp)) w h
    exact cwV As.length hts (good_TBg hi) rfl hm hs ⟨h2, h3, h4, h5⟩ hR
  obtain ⟨hx, hb, hml, hown, hts, -, -⟩ := C0
  have hp := x_pre (av := .ref (gad G 216) :: As) hM hT
  refine vx_calli (vx_runV (As := As) (rest := rest) ⟨hx, hb, hml, hown, hts⟩ (hK H.size) hcw ⟨hp.1, va_recv hM.1 hM.2.1 (ci := 4) (q0 := 216) (q := (RX4, TX4, 5)) rfl ((wsM_at ok_tt.1).trans (by rw [ent4 ok_tt])), hp.2⟩ rfl rfl hls hst (lv_room hW) hdg hf) hM.2.2.2 (fun q _ h => MX_free hM q h) (MX_free hM) (fun q _ h => MX_free hM q h)
    (fun E ce q9 u t H1 locs1 ht hvm hw hB _ _ hS hce hcv hcl => ?_) (fun r' u t H1 locs1 ht hvm hw hB _ _ hS => ?_)
  · obtain ⟨hE, hB⟩ := hB
    subst hE
    exact kx hw ce q9 H1 locs1 (y_back ht hvm hB hS) hce hcv hcl
  · obtain ⟨hk, hr⟩ := hw
    subst hr
    exact kk hk H1 locs1 (y_back ht hvm hB hS)
/-- a throwing method of the class, called where it doesn't throw -/
theorem z_vi {y : MethodName} {cc' : ByteArray} {nL' index : Nat} {ret' : Option FieldType} {rm : Room} {As st0 : List Value} {r : Int32} {M' : MS} (c' n' : Nat) (C0 : CX p s m meth c args cc own nL ret) (hM : MX G M s H locs) (hT : TX G B0 sa s s.heap) (hls : ls.size = nL)
    (hK : XI l y (WS y cc' nL' ret') rm G B0 sa (.ref (gad G 216) :: As) M 0 r M') (cw : CWV own index RX4 y cc' nL' ret' As.length) (hm : rm.cells = 4) (hs : rm.slots = 24) (hR : rm.frames + 1 ≤ R.frames ∧ 8 + (nL' + 11) + rm.locals ≤ R.locals) (hst : st0 = As.reverse ++ .ref (gad G 216) :: rest) (hW : (rest.map fun v => v.category).sum ≤ 8) (hf : cells + 4 ≤ R.cells ∧ slots + 24 ≤ R.slots) (hc : cells + 4 ≤ c') (hn : slots + 24 ≤ n') (hdg : decode cc pc = .ok (.invokevirtual index, 3))
    (kk : ∀ (H1 : Heap) (locs1 : List Loc), MX G M' s H1 locs1 → W p l e R s m args below meth c H1 locs1 c' n' Q (F0 m (pc + 3) ls (.int r :: rest))) : W p l e R s m args below meth c H locs cells slots Q (F0 m pc ls st0) :=
  h_vi C0 hM hT hls hK cw hm hs hR hst hW hf hdg (fun h => absurd rfl h) (fun _ H1 locs1 hM1 => W.widen (k := c') (n := n') hc hn (kk H1 locs1 hM1))
theorem z_cwS {y : MethodName} {cc' : ByteArray} {nL' n index mc : Nat} {ret' : Option FieldType} {rm : Room} (C0 : CX p s m meth c args cc own nL ret) (cw : CWS own index y cc' nL' ret' n) (hm : rm.cells = mc) (hs : rm.slots = 6 * mc) (hR : rm.frames + 1 ≤ R.frames ∧ 8 + (nL' + 11) + rm.locals ≤ R.locals) :
    CallB R s args own index y cc' nL' ret' (WS y cc' nL' ret') rm mc (6 * mc) n ∧ (Cond.static y).before args s = true := by
  obtain ⟨hx, hb, -, hown, hts, -, -⟩ := C0
  obtain ⟨h1, h3, h4, h5⟩ := cw
  have hi : ∀ w ∈ va_wsS own index y (WS y cc' nL' ret'), w ∈ TBg := by
    intro w hw
    rcases List.mem_append.mp hw with h | h
    · exact h1 w (List.mem_append_left [Cond.code y cc' nL' ret'] h)
    · exact WS_in (h1 _ (by simp)) w h
  exact va_cwS n hts (good_TBg hi) rfl hm hs ⟨h3, h4, h5⟩ hR
theorem z_si {y : MethodName} {cc' : ByteArray} {nL' index mc : Nat} {ret' : Option FieldType} {rm : Room} {As st0 : List Value} {r : Int32} {M' : MS} (c' n' : Nat) (C0 : CX p s m meth c args cc own nL ret) (hM : MX G M s H locs) (hT : TX G B0 sa s s.heap) (hls : ls.size = nL)
    (hK : LI l y (WS y cc' nL' ret') rm mc G B0 sa As M r M') (cw : CWS own index y cc' nL' ret' As.length) (hm : rm.cells = mc) (hs : rm.slots = 6 * mc) (hR : rm.frames + 1 ≤ R.frames ∧ 8 + (nL' + 11) + rm.locals ≤ R.locals) (hst : st0 = As.reverse ++ rest) (hW : (rest.map fun v => v.category).sum ≤ 8) (hf : cells + mc ≤ R.cells ∧ slots + 6 * mc ≤ R.slots) (hc : cells + mc ≤ c') (hn : slots + 6 * mc ≤ n') (hdg : decode cc pc = .ok (.invokestatic index, 3))
    (kk : ∀ (H1 : Heap) (locs1 : List Loc), MX G M' s H1 locs1 → W p l e R s m args below meth c H1 locs1 c' n' Q (F0 m (pc + 3) ls (.int r :: rest))) : W p l e R s m args below meth c H locs cells slots Q (F0 m pc ls st0) := by
  have hcw := z_cwS C0 cw hm hs hR
  obtain ⟨hx, hb, hml, hown, hts, -, -⟩ := C0
  have hp := x_pre (av := As) hM hT
  refine va_calli (va_runS (As := As) (rest := rest) ⟨hx, hb, hml, hown, hts⟩ (hK H.size) hcw hp rfl rfl hls hst (lv_room hW) hdg hf) hM.2.2.2 (fun q _ h => MX_free hM q h) (MX_free hM) (fun r' u t H1 locs1 ht hvm hw hB _ _ hS => ?_)
  subst hw
  exact W.widen (k := c') (n := n') hc hn (kk H1 locs1 (y_back ht hvm hB hS))
theorem z_sv {y : MethodName} {cc' : ByteArray} {nL' index mc : Nat} {ret' : Option FieldType} {rm : Room} {As st0 : List Value} {M' : MS} (c' n' : Nat) (C0 : CX p s m meth c args cc own nL ret) (hM : MX G M s H locs) (hT : TX G B0 sa s s.heap) (hls : ls.size = nL)
    (hK : LV l y (WS y cc' nL' ret') rm mc G B0 sa As M M') (cw : CWS own index y cc' nL' ret' As.length) (hm : rm.cells = mc) (hs : rm.slots = 6 * mc) (hR : rm.frames + 1 ≤ R.frames ∧ 8 + (nL' + 11) + rm.locals ≤ R.locals) (hst : st0 = As.reverse ++ rest) (hW : (rest.map fun v => v.category).sum ≤ 8) (hf : cells + mc ≤ R.cells ∧ slots + 6 * mc ≤ R.slots) (hc : cells + mc ≤ c') (hn : slots + 6 * mc ≤ n') (hdg : decode cc pc = .ok (.invokestatic index, 3))
    (kk : ∀ (H1 : Heap) (locs1 : List Loc), MX G M' s H1 locs1 → W p l e R s m args below meth c H1 locs1 c' n' Q (F0 m (pc + 3) ls rest)) : W p l e R s m args below meth c H locs cells slots Q (F0 m pc ls st0) := by
  have hcw := z_cwS C0 cw hm hs hR
  obtain ⟨hx, hb, hml, hown, hts, -, -⟩ := C0
  have hp := x_pre (av := As) hM hT
  refine va_callv (va_runS (As := As) (rest := rest) ⟨hx, hb, hml, hown, hts⟩ (hK H.size) hcw hp rfl rfl hls hst (lv_room hW) hdg hf) hM.2.2.2 (fun q _ h => MX_free hM q h) (MX_free hM) (fun u t H1 locs1 ht hvm hw hB _ _ hS => ?_)
  exact W.widen (k := c') (n := n') hc hn (kk H1 locs1 (y_back ht hvm hB hS))
/-- a row of its own -/
theorem z_new {v n : Nat} (c' n' : Nat) (C0 : CX p s m meth c args cc own nL ret) (hM : MX G M s H locs) (hT : TX G B0 sa s s.heap) (hfr : fr G v) (hv : 224 ≤ v) (hn : ln v = n) {x : Int32} (hx0 : ¬ x < 0) (hxn : x.toNatClampNeg = n) (harr : Cond.arrayClass .int ∈ TBg) (hbytes : n * 4 ≤ 536870912) (hcells : cells + 1 ≤ R.cells) (hslots : slots + n ≤ R.slots) (hc : cells + 1 ≤ c') (hs : slots + n ≤ n') (hdg : decode cc pc = .ok (.newarray .int, 2))
    (kk : ∀ (q : Nat) (H1 : Heap), MX (GE G v q) (wZ M v) s H1 locs → TX (GE G v q) B0 sa s s.heap → s.heap.size ≤ q → W p l e R s m args below meth c H1 locs c' n' Q (F0 m (pc + 2) ls (.ref q :: rest))) : W p l e R s m args below meth c H locs cells slots Q (F0 m pc ls (.int x :: rest)) := by
  obtain ⟨hx, hb, -, hown, hts, -, -⟩ := C0
  have hD := hM.D
  obtain ⟨hK, hP, ⟨g1, g2, g3, g4⟩, hS⟩ := hM
  refine va_newa (atype := .int) (a0 := (n, .inl (fun _ => 0))) hx hb (hts _ harr) (ty := .int) rfl hK hP hD hS (fun q h => Or.inr (Or.inr h)) (fun _ => rfl) hx0 hxn hbytes hcells hslots hdg (fun q cA H1 hK1 hP1 hD1 hS1 => ?_)
  have hcA : cA = G.2.1.1 := u_ty (hK1.2 3 _ rfl).2 (hK1.2 0 _ rfl).2
  have hl : (wsM G M).length = 224 + (tr G).length := by simp [wsM, wsSt, wsTr]
  have hnew : (wsM G M ++ [(q, (.inl (cA, n, .inl (fun _ => 0)) : va_E))])[224 + (tr G).length]? = some (q, .inl (cA, n, .inl (fun _ => 0))) := by
    rw [List.getElem?_append_right (by omega), hl]; simp
  have ns : ∀ u, u < 224 → gad G u ≠ q := fun u hu e => by
    have h1 : (wsM G M ++ [(q, (.inl (cA, n, .inl (fun _ => 0)) : va_E))])[u]? = some (gad G u, ent G M u) := by
      rw [List.getElem?_append_left (by omega)]; exact wsM_at hu
    have := hD1.1 _ _ _ _ h1 hnew e
    omega
  have nt : ∀ (i : Nat) (x : Nat × Nat), (tr G)[i]? = some x → x.2 ≠ q := fun i x hi e => by
    have hil := (List.getElem?_eq_some_iff.mp hi).1
    have h1 : (wsM G M ++ [(q, (.inl (cA, n, .inl (fun _ => 0)) : va_E))])[224 + i]? = some (x.2, entT G M x.1) := by
      rw [List.getElem?_append_left (by omega)]; exact wsM_tr hi
    have := hD1.1 _ _ _ _ h1 hnew e
    omega
  have hq : s.heap.size ≤ q := by
    rcases hD1.2 _ _ hnew with ⟨u, hu, e⟩ | ⟨x, hx9, e⟩ | h
    · exact absurd e.symm (ns u hu)
    · obtain ⟨i, hi⟩ := List.getElem?_of_mem hx9
      exact absurd e.symm (nt i x hi)
    · exact h
  have hmem : ∀ x, x ∈ tr (GE G v q) → x ∈ tr G ∨ x = (v, q) := fun x hx9 => by
    rcases List.mem_append.mp (show x ∈ G.2.2.2 ++ [(v, q)] from hx9) with h1 | h1
    · exact Or.inl h1
    · exact Or.inr (List.mem_singleton.mp h1)
  have hget : ∀ (i : Nat) (x : Nat × Nat), (tr (GE G v q))[i]? = some x → (i < (tr G).length ∧ (tr G)[i]? = some x) ∨ (i = (tr G).length ∧ x = (v, q)) := fun i x hi => by
    have hi2 : (tr G ++ [(v, q)])[i]? = some x := hi
    by_cases hil : i < (tr G).length
    · rw [List.getElem?_append_left hil] at hi2
      exact Or.inl ⟨hil, hi2⟩
    · rw [List.getElem?_append_right (by omega)] at hi2
      have h2 := (List.getElem?_eq_some_iff.mp hi2).1
      have h3 : i - (tr G).length = 0 := by simp only [List.length_cons, List.length_nil] at h2; omega
      rw [h3] at hi2
      refine Or.inr ⟨by omega, ?_⟩
      cases hi2
      rfl
  refine W.widen (k := c') (n := n') hc hs (kk q H1 ⟨hK, ?_, ⟨g1, fun i j x y hi hj hxy => ?_, fun u x hu hx9 => ?_, fun x hx9 => ?_⟩, hS1.1, fun z h1 h2 => hS1.2.1 z h1 (fun h => h2 ?_), fun z hz => ?_⟩ ⟨⟨⟨hT.1.1.1, fun x hx9 => ?_⟩, hT.1.2⟩, hT.2⟩ hq)
  · have e0 : entT G (wZ M v) v = .inl (cA, n, .inl (fun _ => 0)) := by
      rw [hcA]
      unfold entT
      rw [hn]
      congr 2
      simp [rA, wZ]
    rw [wsM_GE, e0, wsM_wZ hv hfr]
    exact hP1
  · rcases hget i x hi with ⟨h1, h2⟩ | ⟨h1, h2⟩ <;> rcases hget j y hj with ⟨h3, h4⟩ | ⟨h3, h4⟩
    · exact g2 i j x y h2 h4 hxy
    · subst h4
      rcases hxy with h | h
      · exact absurd h (hfr x (List.mem_of_getElem? h2))
      · exact absurd h (nt i x h2)
    · subst h2
      rcases hxy with h | h
      · exact absurd h.symm (hfr y (List.mem_of_getElem? h4))
      · exact absurd h.symm (nt j y h4)
    · omega
  · rcases hmem x hx9 with h | h
    · exact g3 u x hu h
    · rw [h]; exact ns u hu
  · rcases hmem x hx9 with h | h
    · exact g4 x h
    · rw [h]; exact hv
  · rcases h with h | ⟨x, hx9, e9⟩ | h
    · exact Or.inl h
    · exact Or.inr (Or.inl ⟨x, List.mem_append_left _ hx9, e9⟩)
    · exact Or.inr (Or.inr h)
  · rcases hS1.2.2 z hz with h | ⟨x, hx9, e9⟩ | h
    · exact Or.inl h
    · exact Or.inr (Or.inl ⟨x, List.mem_append_left _ hx9, e9⟩)
    · exact Or.inr (Or.inr h)
  · rcases hmem x hx9 with h | h
    · exact hT.1.1.2 x h
    · rw [h]; exact Nat.le_trans hT.1.2 hq
theorem tr_GE {v q : Nat} : (tr (GE G v q))[(tr G).length]? = some (v, q) := by
  show (tr G ++ [(v, q)])[(tr G).length]? = some (v, q)
  simp
theorem z_tld {v q n : Nat} (C0 : CX p s m meth c args cc own nL ret) (hM : MX (GE G v q) M s H locs) (hn : ln v = n) {i : Int32} (hi : inb i n = true) (hdg : decode cc pc = .ok (.iaload, 1))
    (kk : W p l e R s m args below meth c H locs cells slots Q (F0 m (pc + 1) ls (.int (rA M v i.toNatClampNeg) :: rest))) : W p l e R s m args below meth c H locs cells slots Q (F0 m pc ls (.int i :: .ref q :: rest)) := by
  obtain ⟨hx, hb, -, hown, hts, -, -⟩ := C0
  obtain ⟨hK, hP, -, -⟩ := hM
  refine va_iald (f := rA M v) hx hb hK hP (224 + (tr G).length) 0 ((wsM_tr (tr_GE (v := v) (q := q))).trans ?_) rfl (inb_in hi) hdg kk
  unfold entT
  rw [hn]
theorem z_tst {v q n : Nat} (C0 : CX p s m meth c args cc own nL ret) (hM : MX (GE G v q) M s H locs) (hn : ln v = n) {i x : Int32} (hi : inb i n = true) (hdg : decode cc pc = .ok (.iastore, 1))
    (kk : ∀ (H1 : Heap) (locs1 : List Loc), MX (GE G v q) (wA M v i.toNatClampNeg x) s H1 locs1 → W p l e R s m args below meth c H1 locs1 cells slots Q (F0 m (pc + 1) ls rest)) : W p l e R s m args below meth c H locs cells slots Q (F0 m pc ls (.int x :: .int i :: .ref q :: rest)) := by
  obtain ⟨hx, hb, -, hown, hts, -, -⟩ := C0
  have hD := hM.D
  obtain ⟨hK, hP, hG, hS⟩ := hM
  have hv : 224 ≤ v := hG.2.2.2 (v, q) (List.mem_of_getElem? tr_GE)
  refine va_iast (f := rA M v) hx hb hK hP hD hS (224 + (tr G).length) 0 ((wsM_tr (tr_GE (v := v) (q := q))).trans ?_) rfl (inb_in hi) hdg (fun H1 locs1 hP1 _ hS1 => kk H1 locs1 ⟨hK, ?_, hG, hS1⟩)
  · unfold entT
    rw [hn]
  · have e0 := wsM_setT (M' := wA M v i.toNatClampNeg x) hG (tr_GE (v := v) (q := q)) (fun u hu => ent_wA_ne (by omega)) (fun u h1 h2 => by
      have h3 : u ≠ v := h2
      simp [rA, wA, h3])
    rw [← e0]
    have e1 : entT (GE G v q) (wA M v i.toNatClampNeg x) v = .inl (G.2.1.1, n, .inl (upd (rA M v) i.toNatClampNeg x)) := by
      unfold entT
      rw [hn]
      have : rA (wA M v i.toNatClampNeg x) v = upd (rA M v) i.toNatClampNeg x := by simp [rA, wA]
      rw [this]
      rfl
    show va_P _ _ ((wsM (GE G v q) M).set (224 + (tr G).length) (q, entT (GE G v q) (wA M v i.toNatClampNeg x) v)) H1
    rw [e1]
    exact hP1
end ZR

/-! the script: it lies outside the world, and nothing writes to it -/
def PSc (G : GG) (B0 : Nat) (sa : Nat × Nat × Nat) (b L : Nat) (xs : Nat → Int32) (M : MS) (sz : Nat) (U : State) : Prop := WX G B0 sa M sz U ∧ va_X b L xs U U.heap ∧ b < sz ∧ ¬ Af G sz b
def LSc (l : Launch) (y : MethodName) (ws : List Cond) (rm : Room) (mc : Nat) (G : GG) (B0 : Nat) (sa : Nat × Nat × Nat) (b L : Nat) (xs : Nat → Int32) (av : List Value) (M : MS) (r : Int32) (Mf : MS) : Prop := ∀ sz, Met l y ws rm (va_Pc av (PSc G B0 sa b L xs M sz)) (va_Qi (fun (r' : Int32) (_ : Unit) => r' = r) (fun _ t => Wd G Mf t) (Af G sz)) mc (6 * mc) (Af G sz)
theorem PSc_blind {G : GG} {B0 : Nat} {sa : Nat × Nat × Nat} {b L : Nat} {xs : Nat → Int32} {M : MS} {sz : Nat} {av : List Value} : FrameBlind (va_Pc av (PSc G B0 sa b L xs M sz)) := fun a U g mk q => by
  obtain ⟨h0, h1, h2, h3⟩ := q
  obtain ⟨h4, h5⟩ := WX_blind (av := av) a U g mk ⟨h0, h1⟩
  exact ⟨h4, h5, va_X.moved (u := U) (U := U.calling g mk a) (Vm.Alike.refl U.vm) h2, h3⟩
section SR
variable {p : Program} {l : Launch} {e : Env} {R : Room} {s : State} {m : MethodId} {args : Array Value} {below : List Frame} {meth : Method} {c : Code} {H : Heap} {locs : List Loc} {cells slots : Nat} {Q : State → Prop}
variable {cc : ByteArray} {own : String} {nL : Nat} {ret : Option FieldType} {pc : Nat} {ls : Array Slot} {rest : List Value} {G : GG} {M : MS} {B0 : Nat} {sa : Nat × Nat × Nat} {b L : Nat} {xs : Nat → Int32}
theorem s_met {y : MethodName} {av : List Value} {Qc : Array Value → State → Outcome → State → Prop} {rm : Room} {sz mc ms : Nat} {cc : ByteArray} {nL : Nat} {ret : Option FieldType} (hy : plainName y.cls = true) (hn : (lg_sl av).length ≤ nL)
    (body : ∀ (p : Program) (e : Env) (s : State) (m : MethodId) (below : List Frame) (meth : Method) (c : Code) (ls : Array Slot), s.heap.size = sz → CX p s m meth c av.toArray cc y.cls nL ret → MX G M s s.heap [] → TX G B0 sa s s.heap → va_X b L xs s s.heap → b < s.heap.size → ¬ Af G s.heap.size b → lv_has ls nL (lv_args 0 av) →
      W p l e rm s m av.toArray below meth c s.heap [] 0 0 (MQ below Qc av.toArray s mc ms (Af G sz)) (F0 m 0 ls [])) :
    Met l y (WS y cc nL ret) rm (va_Pc av (PSc G B0 sa b L xs M sz)) Qc mc ms (Af G sz) := by
  refine Met.ofW (cc := cc) (maxL := nL) (ret := ret) hy rfl ?_
  intro p e s m args below meth c s₁ B hml hv
  obtain ⟨rfl, ⟨hsz, ⟨hK, hP, hG⟩, hT⟩, hX, hbl, hbA⟩ := hv
  have hts := atoms_spec (ws := WS y cc nL ret) B.pre
  rw [lg_entry_eq]
  exact body p e s m below meth c _ hsz ⟨B.exec, B.bytes, hml, findClass_of_methodNamed B.named, fun w hw => hts w (List.mem_cons_of_mem _ hw), B.returns, B.notSynchronized⟩ ⟨hK, hP, hG, va_S.rf⟩ hT hX (by rw [hsz]; exact hbl) (by rw [hsz]; exact hbA) (lv_entry av hn)
theorem s_pre {av : List Value} (hM : MX G M s H locs) (hT : TX G B0 sa s s.heap) (hX : va_X b L xs s s.heap) (hbl : b < s.heap.size) (hbA : ¬ Af G s.heap.size b) : FrameBlind (va_Pc av (PSc G B0 sa b L xs M H.size)) ∧ ∀ U : State, U.heap = H → s.WarmedH U.vm → va_Pc av (PSc G B0 sa b L xs M H.size) av.toArray U := by
  have hM0 := hM
  obtain ⟨hK, hP, hG, hS⟩ := hM
  refine ⟨PSc_blind, fun U hU hW => ⟨rfl, ⟨by rw [hU], ⟨va_K.moved hW.alike hK, by rw [hU]; exact hP, hG⟩, by rw [hU]; exact hT.to hW hS⟩, ?_, Nat.lt_of_lt_of_le hbl hS.1, fun h => hbA (MX_free hM0 b h)⟩⟩
  rw [hU]
  exact va_X.moved hW.alike (hX.kept (hS.2.1 b hbl hbA))
theorem z_cell {y : MethodName} {cc' : ByteArray} {nL' index mc : Nat} {ret' : Option FieldType} {rm : Room} {As st0 : List Value} {r : Int32} {M' : MS} (C0 : CX p s m meth c args cc own nL ret) (hM : MX G M s H locs) (hT : TX G B0 sa s s.heap) (hX : va_X b L xs s s.heap) (hbl : b < s.heap.size) (hbA : ¬ Af G s.heap.size b) (hls : ls.size = nL)
    (hK : LSc l y (WS y cc' nL' ret') rm mc G B0 sa b L xs As M r M') (cw : CWS own index y cc' nL' ret' As.length) (hm : rm.cells = mc) (hs : rm.slots = 6 * mc) (hR : rm.frames + 1 ≤ R.frames ∧ 8 + (nL' + 11) + rm.locals ≤ R.locals) (hst : st0 = As.reverse ++ rest) (hW : (rest.map fun v => v.category).sum ≤ 8) (hf : cells + mc ≤ R.cells ∧ slots + 6 * mc ≤ R.slots) (c' n' : Nat) (hc : cells + mc ≤ c') (hn : slots + 6 * mc ≤ n') (hdg : decode cc pc = .ok (.invokestatic index, 3))
    (kk : ∀ (H1 : Heap) (locs1 : List Loc), MX G M' s H1 locs1 → W p l e R s m args below meth c H1 locs1 c' n' Q (F0 m (pc + 3) ls (.int r :: rest))) : W p l e R s m args below meth c H locs cells slots Q (F0 m pc ls st0) := by
  have hcw := z_cwS C0 cw hm hs hR
  obtain ⟨hx, hb, hml, hown, hts, -, -⟩ := C0
  have hp := s_pre (av := As) hM hT hX hbl hbA
  refine va_calli (va_runS (As := As) (rest := rest) ⟨hx, hb, hml, hown, hts⟩ (hK H.size) hcw hp rfl rfl hls hst (lv_room hW) hdg hf) hM.2.2.2 (fun q _ h => MX_free hM q h) (MX_free hM) (fun r' u t H1 locs1 ht hvm hw hB _ _ hS => ?_)
  subst hw
  exact W.widen (k := c') (n := n') hc hn (kk H1 locs1 (y_back ht hvm hB hS))
end SR
def F_L_cell (xs : Nat → Int32) (L : Nat) (k : Int32) : Option Int32 := if Int32.ofNat L ≤ k then some ((32452867 : Int32) * k + (15485863 : Int32)) else gdb (inb k L) (some (xs (Int32.toNatClampNeg k)))
set_option maxHeartbeats 4000000 in
set_option maxRecDepth 100000 in
theorem k_L_cell (l : Launch) (G : GG) (B0 : Nat) (sa : Nat × Nat × Nat) (b L : Nat) (xs : Nat → Int32) (M : MS) (k : Int32) {r : Int32} (hF : F_L_cell xs L k = some r) : LSc l yL_cell (WS yL_cell cL_cell 2 (some .int)) (RmL 0 0) 0 G B0 sa b L xs [.ref b, .int k] M r M := by
  intro sz
  refine s_met (by decide +kernel) (Nat.le_of_ble_eq_true rfl) (fun p e s m below meth c ls hsz C0 hM hT hX hbl hbA hl => ?_)
  have hl : lv_has ls 2 [(0, .ref b), (1, .int k)] := hl
  have C0 : CX p s m meth c ([.ref b, .int k] : List Value).toArray cL_cell RL 2 (some .int) := C0
  rw [F_L_cell] at hF
  refine lv_iload_n C0.1 C0.2.1 dL_cell_0 rfl (lv_at hl 1 rfl) ?_
  refine lv_aload_n C0.1 C0.2.1 dL_cell_1 rfl (lv_at hl 0 rfl) ?_
  refine va_slen C0.1 C0.2.1 hX hbl hbA hM.2.2.2 dL_cell_2 ?_
  refine lv_icmp_ge (tgt := 12) C0.1 C0.2.1 dL_cell_3 (by decide) (fun c1 => ?_) (fun c1 => ?_)
  · have hF := if_t c1 hF
    refine lv_ldc (v := (32452867 : Int32)) C0.1 C0.2.1 C0.2.2.2.1 (C0.2.2.2.2.1 _ (tb1 556 (by decide +kernel) (by decide +kernel))) dL_cell_12 ?_
    refine lv_iload_n C0.1 C0.2.1 dL_cell_14 rfl (lv_at hl 1 rfl) ?_
    refine lv_imul C0.1 C0.2.1 dL_cell_15 ?_
    refine lv_ldc (v := (15485863 : Int32)) C0.1 C0.2.1 C0.2.2.2.1 (C0.2.2.2.2.1 _ (tb1 557 (by decide +kernel) (by decide +kernel))) dL_cell_16 ?_
    refine lv_iadd C0.1 C0.2.1 dL_cell_18 ?_
    have e8 := y_1 hF
    subst e8
    exact z_iret C0 hM hsz (by omega) (by omega) dL_cell_19
  · obtain ⟨g1, hF⟩ := gdb_some (if_f c1 hF)
    refine lv_aload_n C0.1 C0.2.1 dL_cell_6 rfl (lv_at hl 0 rfl) ?_
    refine lv_iload_n C0.1 C0.2.1 dL_cell_7 rfl (lv_at hl 1 rfl) ?_
    refine va_sld C0.1 C0.2.1 hX hbl hbA hM.2.2.2 (inb_in g1) dL_cell_8 ?_
    refine lv_goto (tgt := 19) C0.1 C0.2.1 dL_cell_9 (by decide) ?_
    have e8 := y_1 hF
    subst e8
    exact z_iret C0 hM hsz (by omega) (by omega) dL_cell_19
