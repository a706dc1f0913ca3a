def EC (k : Nat) : String := if k = 1 then "java/lang/IllegalArgumentException" else if k = 2 then "java/lang/IllegalStateException" else "java/lang/IndexOutOfBoundsException"
def NGW : List Cond := [.castable (EC 1) (EC 1), .castable (EC 2) (EC 2), .castable (EC 3) (EC 3), .declares ⟨"java/lang/RuntimeException", "<init>", "()V"⟩, .declares ⟨"java/lang/RuntimeException", "<init>", "(Ljava/lang/String;)V"⟩, .declares ⟨"java/lang/Exception", "<init>", "()V"⟩, .declares ⟨"java/lang/Exception", "<init>", "(Ljava/lang/String;)V"⟩, .declares ⟨"java/lang/Throwable", "<init>", "()V"⟩, .declares ⟨"java/lang/Throwable", "<init>", "(Ljava/lang/String;)V"⟩]
theorem NGW_warm {s U : State} (hW : s.WarmedH U.vm) (h : ∀ w ∈ NGW, va_Nw w s) : ∀ w ∈ NGW, va_Nw w U := by
  intro w hw
  have h0 := h w hw
  simp only [NGW, List.mem_cons, List.not_mem_nil, or_false] at hw
  rcases hw with rfl | rfl | rfl | rfl | rfl | rfl | rfl | rfl | rfl
  · exact va_Nw.warmC hW h0
  · exact va_Nw.warmC hW h0
  · exact va_Nw.warmC hW h0
  all_goals exact va_Nw.warmD hW h0
/-- what a throw needs of the world: the statics of Throwable, the texts, which classes are apart -/
def TX (G : GG) (B0 : Nat) (sa : Nat × Nat × Nat) (U : State) (H : Heap) : Prop :=
  (((∀ v, v < 224 → B0 ≤ gad G v) ∧ ∀ x, x ∈ tr G → B0 ≤ x.2) ∧ B0 ≤ H.size) ∧ (vx_Zq Bundle.tN "UNASSIGNED_STACK" Bundle.steD (fun q => B0 ≤ q) U H ∧ vx_Zq Bundle.tN "SUPPRESSED_SENTINEL" Bundle.listD (fun q => B0 ≤ q) U H) ∧
  (vk_R RX4 204 "an argument is not as the document allows it" sa.1 U ∧ vk_R RX4 209 "this is not possible now" sa.2.1 U ∧ vk_R RX4 197 "there is no such fighter" sa.2.2 U) ∧
  ∀ w ∈ NGW, va_Nw w U
theorem TX.to {G : GG} {B0 : Nat} {sa : Nat × Nat × Nat} {s U : State} {H : Heap} {locs : List Loc} (h : TX G B0 sa s s.heap) (hW : s.WarmedH U.vm) (hS : va_S (Af G s.heap.size) s.heap H locs) : TX G B0 sa U H := by
  obtain ⟨⟨h1, h2⟩, ⟨h3, h4⟩, ⟨h5, h6, h7⟩, h9⟩ := h
  have hk : ∀ a : Nat, a < s.heap.size → ¬ (B0 ≤ a) → H[a]? = s.heap[a]? := fun a ha hb => hS.2.1 a ha (by
    rintro (⟨v, hv, e⟩ | ⟨x, hx, e⟩ | e)
    · exact hb (by rw [e]; exact h1.1 v hv)
    · exact hb (by rw [e]; exact h1.2 x hx)
    · omega)
  exact ⟨⟨h1, Nat.le_trans h2 hS.1⟩, ⟨vx_Zq.moved hW.alike (h3.kept hk), vx_Zq.moved hW.alike (h4.kept hk)⟩, ⟨vk_R.warm hW h5, vk_R.warm hW h6, vk_R.warm hW h7⟩, NGW_warm hW h9⟩
theorem TX.same {G : GG} {B0 : Nat} {sa : Nat × Nat × Nat} {s U : State} {H : Heap} (h : TX G B0 sa s H) (hv : U.vm = s.vm) : TX G B0 sa U H := by
  obtain ⟨⟨h1, h2⟩, ⟨h3, h4⟩, ⟨h5, h6, h7⟩, h9⟩ := h
  have ha : s.vm.Alike U.vm := by rw [hv]; exact Vm.Alike.refl _
  refine ⟨⟨h1, h2⟩, ⟨vx_Zq.moved ha h3, vx_Zq.moved ha h4⟩, ⟨vk_R.same hv h5, vk_R.same hv h6, vk_R.same hv h7⟩, fun w hw => ?_⟩
  refine va_Nw.same ?_ hv.symm (h9 w hw)
  exact (by decide +kernel : ∀ w ∈ NGW, w.onTables = true) w hw
def WX (G : GG) (B0 : Nat) (sa : Nat × Nat × Nat) (M : MS) (sz : Nat) (U : State) : Prop := U.heap.size = sz ∧ Wd G M U ∧ TX G B0 sa U U.heap
theorem WX_blind {G : GG} {B0 : Nat} {sa : Nat × Nat × Nat} {M : MS} {sz : Nat} {av : List Value} : FrameBlind (va_Pc av (WX G B0 sa M sz)) := fun a U g mk q => by
  obtain ⟨h1, h2, ⟨h3, h4, h5⟩, h6⟩ := q
  exact ⟨h1, h2, ⟨va_K.moved (u := U) (U := U.calling g mk a) (Vm.Alike.refl U.vm) h3, h4, h5⟩, TX.same (s := U) (U := U.calling g mk a) h6 rfl⟩
def XV (l : Launch) (y : MethodName) (ws : List Cond) (rm : Room) (G : GG) (B0 : Nat) (sa : Nat × Nat × Nat) (av : List Value) (M : MS) (k : Nat) (Mf : MS) : Prop := ∀ sz, vx_Met l y ws rm (va_Pc av (WX G B0 sa M sz)) (va_Qv (fun _ : Unit => k = 0) (fun _ t => Wd G Mf t) (Af G sz)) (vx_X (fun _ : Unit => k ≠ 0) (fun E _ t => E = EC k ∧ Wd G Mf t) (Af G sz)) 1 6 (Af G sz)
def XI (l : Launch) (y : MethodName) (ws : List Cond) (rm : Room) (G : GG) (B0 : Nat) (sa : Nat × Nat × Nat) (av : List Value) (M : MS) (k : Nat) (r : Int32) (Mf : MS) : Prop := ∀ sz, vx_Met l y ws rm (va_Pc av (WX G B0 sa M sz)) (va_Qi (fun (r' : Int32) (_ : Unit) => k = 0 ∧ r' = r) (fun _ t => Wd G Mf t) (Af G sz)) (vx_X (fun _ : Unit => k ≠ 0) (fun E _ t => E = EC k ∧ Wd G Mf t) (Af G sz)) 4 24 (Af G sz)
abbrev QXV (below : List Frame) (args : Array Value) (s : State) (G : GG) (sz : Nat) (k : Nat) (Mf : MS) : State → Prop := vx_MQ below (va_Qv (fun _ : Unit => k = 0) (fun _ t => Wd G Mf t) (Af G sz)) (vx_X (fun _ : Unit => k ≠ 0) (fun E _ t => E = EC k ∧ Wd G Mf t) (Af G sz)) args s 1 6 (Af G sz)
abbrev QXI (below : List Frame) (args : Array Value) (s : State) (G : GG) (sz : Nat) (k : Nat) (r : Int32) (Mf : MS) : State → Prop := vx_MQ below (va_Qi (fun (r' : Int32) (_ : Unit) => k = 0 ∧ r' = r) (fun _ t => Wd G Mf t) (Af G sz)) (vx_X (fun _ : Unit => k ≠ 0) (fun E _ t => E = EC k ∧ Wd G Mf t) (Af G sz)) args s 4 24 (Af G sz)
def RmV (d : Nat) : Room := { frames := d, cells := 1, slots := 6, locals := 30 * d + 24 }
def RmX (d : Nat) : Room := { frames := d, cells := 4, slots := 24, locals := 30 * d + 24 }
def bx {β : Type} (o : Option (Nat × MS)) (K : MS → Option (Nat × β × MS)) (d : β) : Option (Nat × β × MS) := match o with
  | none => none
  | some (k, M1) => if k = 0 then K M1 else some (k, d, M1)
theorem bx_some {β : Type} {o : Option (Nat × MS)} {K : MS → Option (Nat × β × MS)} {d : β} {k : Nat} {r : β} {Mf : MS} (h : bx o K d = some (k, r, Mf)) : (∃ M1, o = some (0, M1) ∧ K M1 = some (k, r, Mf)) ∨ (o = some (k, Mf) ∧ k ≠ 0) := by
  cases o with
  | none => cases h
  | some a =>
    obtain ⟨k1, M1⟩ := a
    by_cases hk : k1 = 0
    · subst hk
      exact Or.inl ⟨M1, rfl, h⟩
    · have h2 : some (k1, d, M1) = some (k, r, Mf) := by simpa [bx, hk] using h
      cases h2
      exact Or.inr ⟨rfl, hk⟩
theorem y_3 {α β γ : Type} {a a' : α} {b b' : β} {c c' : γ} (h : some (a, b, c) = some (a', b', c')) : a = a' ∧ b = b' ∧ c = c' := by cases h; exact ⟨rfl, rfl, rfl⟩
section XR
variable {p : Program} {l : Launch} {e : Env} {R : Room} {s : State} {m : MethodId} {args : Array Value} {below : List Frame} {meth : Method} {c : Code} {H : Heap} {locs : List Loc} {cells slots : Nat} {Q : State → Prop}
variable {cc : ByteArray} {own : String} {nL : Nat} {ret : Option FieldType} {pc : Nat} {ls : Array Slot} {rest : List Value} {G : GG} {M : MS} {B0 : Nat} {sa : Nat × Nat × Nat}
theorem x_met {y : MethodName} {av : List Value} {Qc : Array Value → State → Outcome → State → Prop} {XC : String → State → State → Prop} {rm : Room} {sz mc ms : Nat} {cc : ByteArray} {nL : Nat} {ret : Option FieldType} (hy : plainName y.cls = true) (hn : (lg_sl av).length ≤ nL)
    (body : ∀ (p : Program) (e : Env) (s : State) (m : MethodId) (below : List Frame) (meth : Method) (c : Code) (ls : Array Slot), s.heap.size = sz → CX p s m meth c av.toArray cc y.cls nL ret → (∀ x ∈ c.exceptionTable.toList, False) → MX G M s s.heap [] → TX G B0 sa s s.heap → lv_has ls nL (lv_args 0 av) →
      W p l e rm s m av.toArray below meth c s.heap [] 0 0 (vx_MQ below Qc XC av.toArray s mc ms (Af G sz)) (F0 m 0 ls [])) :
    vx_Met l y (WS y cc nL ret) rm (va_Pc av (WX G B0 sa M sz)) Qc XC mc ms (Af G sz) := by
  refine vx_ofW (cc := cc) (maxL := nL) (ret := ret) hy rfl ?_
  intro p e s m args below meth c s₁ B hml hex hv
  obtain ⟨rfl, hsz, ⟨hK, hP, hG⟩, hT⟩ := hv
  have hts := atoms_spec (ws := WS y cc nL ret) B.pre
  rw [lg_entry_eq]
  exact body p e s m below meth c _ hsz ⟨B.exec, B.bytes, hml, findClass_of_methodNamed B.named, fun w hw => hts w (List.mem_cons_of_mem _ hw), B.returns, B.notSynchronized⟩ hex ⟨hK, hP, hG, va_S.rf⟩ hT (lv_entry av hn)
theorem x_vret {Mf : MS} {k sz : Nat} (C0 : CX p s m meth c args cc own nL none) (hM : MX G Mf s H locs) (hsz : s.heap.size = sz) (hk : k = 0) (h1 : cells ≤ 1) (h2 : slots ≤ 6) (hdg : decode cc pc = .ok (.return_, 1)) :
    W p l e R s m args below meth c H locs cells slots (QXV below args s G sz k Mf) (F0 m pc ls []) := by
  obtain ⟨hx, hb, -, hown, hts, hr, hlk⟩ := C0
  subst hsz
  obtain ⟨hK, hP, hG, hS⟩ := hM
  refine W.widen (k := 1) (n := 6) h1 h2 (vx_ret ?_)
  exact W.vret hx hb hr (fun t ht hW => ⟨⟨(), rfl, hk, va_K.moved hW.alike hK, by rw [ht]; exact hP, hG⟩, hS.F ht⟩) hS.2.2 hdg hlk
theorem x_iret {Mf : MS} {r : Int32} {k sz : Nat} (C0 : CX p s m meth c args cc own nL (some .int)) (hM : MX G Mf s H locs) (hsz : s.heap.size = sz) (hk : k = 0) (h1 : cells ≤ 4) (h2 : slots ≤ 24) (hdg : decode cc pc = .ok (.ireturn, 1)) :
    W p l e R s m args below meth c H locs cells slots (QXI below args s G sz k r Mf) (F0 m pc ls [.int r]) := by
  obtain ⟨hx, hb, -, hown, hts, hr, hlk⟩ := C0
  subst hsz
  obtain ⟨hK, hP, hG, hS⟩ := hM
  refine W.widen (k := 4) (n := 24) h1 h2 (vx_ret ?_)
  exact W.iret hx hb hr (fun t ht hW => ⟨⟨r, (), rfl, ⟨hk, rfl⟩, va_K.moved hW.alike hK, by rw [ht]; exact hP, hG⟩, hS.F ht⟩) hS.2.2 hdg hlk
theorem TX_nar {s : State} (hT : TX G B0 sa s s.heap) : ∀ q, Af G s.heap.size q → B0 ≤ q := by
  rintro q (⟨v, hv, e⟩ | ⟨x, hx, e⟩ | e)
  · rw [e]; exact hT.1.1.1 v hv
  · rw [e]; exact hT.1.1.2 x hx
  · exact Nat.le_trans hT.1.2 e
/-- 'throw new E(text)' out of a method without a table -/
theorem x_throw {k ik is ic a sz : Nat} {text : String} (C0 : CX p s m meth c args cc RX4 nL ret) (hM : MX G M s H locs) (hT : TX G B0 sa s s.heap) (hsz : s.heap.size = sz) (hex : ∀ x ∈ c.exceptionTable.toList, False) (hl : l.stackTraces = false) (hls : ls.size = nL)
    (hkn : k ≠ 0) (hcls : Bundle.fit (EC k) = true) (hws : ∀ w ∈ ([.classLink RX4 ik (EC k), .initialized (EC k)] : List Cond), w ∈ TBg) (hat : ∀ w ∈ (vx_atS RX4 ic (EC k) ["java/lang/RuntimeException", "java/lang/Exception"]).filter goodWord, w ∈ TBg) (hat2 : ∀ w ∈ (vx_atS RX4 ic (EC k) ["java/lang/RuntimeException", "java/lang/Exception"]).filter (fun w => !goodWord w), w ∈ NGW)
    (hgood : ∀ w ∈ Cond.classLink RX4 ik (EC k) :: Cond.initialized (EC k) :: vx_atS RX4 ic (EC k) ["java/lang/RuntimeException", "java/lang/Exception"], vx_ot w = true) (hstr : vk_R RX4 is text a s)
    (d0 : decode cc pc = .ok (.new ik, 3)) (d3 : decode cc (pc + 3) = .ok (.dup, 1)) (d4 : decode cc (pc + 4) = .ok (.ldc is, 2)) (d6 : decode cc (pc + 6) = .ok (.invokespecial ic, 3)) (d9 : decode cc (pc + 9) = .ok (.athrow, 1))
    (hfr : 5 < R.frames) (hlo : (rest.map fun v => v.category).sum + 82 ≤ R.locals) (hc1 : cells + 1 ≤ R.cells) (hs1 : slots + 6 ≤ R.slots) (hc : cells + 1 ≤ 1) (hs : slots + 6 ≤ 6) :
    W p l e R s m args below meth c H locs cells slots (QXV below args s G sz k M) (F0 m pc ls rest) := by
  obtain ⟨hx, hb, hml, hown, hts, -, hlk⟩ := C0
  subst hsz
  have hM0 := hM
  obtain ⟨hK, hP, hG, hS⟩ := hM
  have hn := TX_nar hT
  refine vx_throwS (A := Af G s.heap.size) (sa := a) (text := text) (names := ["java/lang/RuntimeException", "java/lang/Exception"]) hx hb hl hown hcls (by decide +kernel) (hts _ (hws _ (by simp))) (hts _ (hws _ (by simp))) hstr (vx_hat (B := NGW) (fun w hw => hts w (hat w hw)) hat2 (fun w hw => va_Nw.use ((by decide +kernel : ∀ w ∈ NGW, w.onTables = true) w hw) (hT.2.2.2 w hw))) hgood (hT.2.1.1.narrow hn) (hT.2.1.2.narrow hn) hS (hls.trans hml.symm) d0 d3 d4 d6 d9 (fun x hx9 => (hex x hx9).elim) hfr hlo hc1 hs1 hlk (fun t ha hz hq => ?_) hS.2.2 hc hs
  refine ⟨(), hkn, ⟨rfl, va_K.moved ha hK, hP.kept (fun k q hk => hq q.1 (hP k q hk).lt), hG⟩, Nat.le_trans hS.1 hz, fun q h1 h2 => ?_⟩
  rw [hq q (Nat.lt_of_lt_of_le h1 hS.1)]
  exact hS.2.1 q h1 h2
theorem x_pre {av : List Value} (hM : MX G M s H locs) (hT : TX G B0 sa s s.heap) : FrameBlind (va_Pc av (WX G B0 sa M H.size)) ∧ ∀ U : State, U.heap = H → s.WarmedH U.vm → va_Pc av (WX G B0 sa M H.size) av.toArray U := by
  obtain ⟨hK, hP, hG, hS⟩ := hM
  exact ⟨WX_blind, fun U hU hW => ⟨rfl, by rw [hU], ⟨va_K.moved hW.alike hK, by rw [hU]; exact hP, hG⟩, by rw [hU]; exact hT.to hW hS⟩⟩
theorem x_sv0 {y : MethodName} {cc' : ByteArray} {nL' index : Nat} {ret' : Option FieldType} {rm : Room} {As st0 : List Value} {M' : MS} (C0 : CX p s m meth c args cc own nL ret) (hM : MX G M s H locs) (hT : TX G B0 sa s s.heap) (hls : ls.size = nL)
    (hK : XV l y (WS y cc' nL' ret') rm G B0 sa As M 0 M') (cw : CWS own index y cc' nL' ret' As.length) (hm : rm.cells = 1) (hs : rm.slots = 6) (hR : rm.frames + 1 ≤ R.frames ∧ 8 + (nL' + 11) + rm.locals ≤ R.locals) (hst : st0 = As.reverse ++ rest) (hW : (rest.map fun v => v.category).sum ≤ 8) (hf : cells + 1 ≤ R.cells ∧ slots + 6 ≤ R.slots) (hdg : decode cc pc = .ok (.invokestatic index, 3))
    (kk : ∀ (H1 : Heap) (locs1 : List Loc), MX G M' s H1 locs1 → W p l e R s m args below meth c H1 locs1 (cells + 1) (slots + 6) Q (F0 m (pc + 3) ls rest)) : W p l e R s m args below meth c H locs cells slots Q (F0 m pc ls st0) := by
  have hcw : CallB R s args own index y cc' nL' ret' (WS y cc' nL' ret') rm 1 6 As.length ∧ (Cond.static y).before args s = true := by
    obtain ⟨hx, hb, -, hown, hts, -, -⟩ := C0
    obtain ⟨h1, h3, h4, h5⟩ := cw
    have hi : ∀ w ∈ va_wsS own index y (WS y cc' nL' ret'), w ∈ TBg := by
      intro w hw
      rcases List.mem_append.mp hw with h | h
      · exact h1 w (List.mem_append_left [Cond.code y cc' nL' ret'] h)
      · exact WS_in (h1 _ (by simp)) w h
    exact va_cwS As.length hts (good_TBg hi) rfl hm hs ⟨h3, h4, h5⟩ hR
  obtain ⟨hx, hb, hml, hown, hts, -, -⟩ := C0
  have hp := x_pre (av := As) hM hT
  exact vx_callv (vx_runS (As := As) (rest := rest) ⟨hx, hb, hml, hown, hts⟩ (hK H.size) hcw hp rfl rfl hls hst (lv_room hW) hdg hf) hM.2.2.2 (fun q _ h => MX_free hM q h) (MX_free hM) (fun q _ h => MX_free hM q h)
    (fun E ce q9 u t H1 locs1 ht hvm hw hB _ _ hS _ _ _ => absurd rfl hw) (fun u t H1 locs1 ht hvm hw hB _ _ hS => kk H1 locs1 (y_back ht hvm hB hS))
theorem x_sv1 {y : MethodName} {cc' : ByteArray} {nL' index k sz : Nat} {r : Int32} {ret' : Option FieldType} {rm : Room} {As st0 : List Value} {Mf : MS} (C0 : CX p s m meth c args cc own nL ret) (hM : MX G M s H locs) (hT : TX G B0 sa s s.heap) (hsz : s.heap.size = sz) (hex : ∀ x ∈ c.exceptionTable.toList, False) (hls : ls.size = nL) (hk : k ≠ 0)
    (hK : XV l y (WS y cc' nL' ret') rm G B0 sa As M k Mf) (cw : CWS own index y cc' nL' ret' As.length) (hm : rm.cells = 1) (hs : rm.slots = 6) (hR : rm.frames + 1 ≤ R.frames ∧ 8 + (nL' + 11) + rm.locals ≤ R.locals) (hst : st0 = As.reverse ++ rest) (hW : (rest.map fun v => v.category).sum ≤ 8) (hf : cells + 1 ≤ R.cells ∧ slots + 6 ≤ R.slots) (hc : cells + 1 ≤ 4) (hs4 : slots + 6 ≤ 24) (hdg : decode cc pc = .ok (.invokestatic index, 3)) :
    W p l e R s m args below meth c H locs cells slots (QXI below args s G sz k r Mf) (F0 m pc ls st0) := by
  have hcw : CallB R s args own index y cc' nL' ret' (WS y cc' nL' ret') rm 1 6 As.length ∧ (Cond.static y).before args s = true := by
    obtain ⟨hx, hb, -, hown, hts, -, -⟩ := C0
    obtain ⟨h1, h3, h4, h5⟩ := cw
    have hi : ∀ w ∈ va_wsS own index y (WS y cc' nL' ret'), w ∈ TBg := by
      intro w hw
      rcases List.mem_append.mp hw with h | h
      · exact h1 w (List.mem_append_left [Cond.code y cc' nL' ret'] h)
      · exact WS_in (h1 _ (by simp)) w h
    exact va_cwS As.length hts (good_TBg hi) rfl hm hs ⟨h3, h4, h5⟩ hR
  obtain ⟨hx, hb, hml, hown, hts, -, hlk⟩ := C0
  have hp := x_pre (av := As) hM hT
  subst hsz
  exact vx_callv (vx_runS (As := As) (rest := rest) ⟨hx, hb, hml, hown, hts⟩ (hK H.size) hcw hp rfl rfl hls hst (lv_room hW) hdg hf) hM.2.2.2 (fun q _ h => MX_free hM q h) (MX_free hM) (fun q _ h => MX_free hM q h)
    (fun E ce q9 u t H1 locs1 ht hvm hw hB _ _ hS hce hcv hcl => by
      obtain ⟨hE, hB⟩ := hB
      obtain ⟨hK1, hP1, hG1, hS1⟩ := y_back ht hvm hB hS
      refine vx_out (fun x hx9 => (hex x hx9).elim) hlk hce hcv hcl (fun t2 ht2 ha2 => ⟨(), hw, ⟨hE, va_K.moved ha2 hK1, by rw [ht2]; exact hP1, hG1⟩, hS.F ht2⟩) hS.2.2 hc hs4)
    (fun u t H1 locs1 ht hvm hw hB _ _ hS => absurd hw hk)
theorem x_vv0 {C : String} {T : u_T} {N ci v : Nat} {y : MethodName} {cc' : ByteArray} {nL' index : Nat} {ret' : Option FieldType} {rm : Room} {As st0 : List Value} {M' : MS} {fs : List Value} (C0 : CX p s m meth c args cc own nL ret) (hM : MX G M s H locs) (hT : TX G B0 sa s s.heap) (hls : ls.size = nL) (hv : ok ci v) (he : ent G M v = .inr (ci, fs)) (hc : vwCl[ci]? = some (C, T, N))
    (hK : XV l y (WS y cc' nL' ret') rm G B0 sa (.ref (gad G v) :: As) M 0 M') (cw : CWV own index C y cc' nL' ret' As.length) (hm : rm.cells = 1) (hs : rm.slots = 6) (hR : rm.frames + 1 ≤ R.frames ∧ 8 + (nL' + 11) + rm.locals ≤ R.locals) (hst : st0 = As.reverse ++ .ref (gad G v) :: rest) (hW : (rest.map fun v => v.category).sum ≤ 8) (hf : cells + 1 ≤ R.cells ∧ slots + 6 ≤ R.slots) (hdg : decode cc pc = .ok (.invokevirtual index, 3))
    (kk : ∀ (H1 : Heap) (locs1 : List Loc), MX G M' s H1 locs1 → W p l e R s m args below meth c H1 locs1 (cells + 1) (slots + 6) Q (F0 m (pc + 3) ls rest)) : W p l e R s m args below meth c H locs cells slots Q (F0 m pc ls st0) := by
  have hcw : CallW R s args own C index y cc' nL' ret' (WS y cc' nL' ret') rm 1 6 As.length := by
    obtain ⟨hx, hb, -, hown, hts, -, -⟩ := C0
    obtain ⟨h1, h2, h3, h4, h5⟩ := cw
    have hi : ∀ w ∈ wsV own index C y (WS y cc' nL' ret'), w ∈ TBg := by
      intro w hw
      rcases List.mem_append.mp hw with h | h
      · exact h1 w (List.mem_append_left [Cond.code y cc' nL' ret'] h)
      · exact WS_in (h1 _ (by simp)) w h
    exact cwV As.length hts (good_TBg hi) rfl hm hs ⟨h2, h3, h4, h5⟩ hR
  obtain ⟨hx, hb, hml, hown, hts, -, -⟩ := C0
  have hp := x_pre (av := .ref (gad G v) :: As) hM hT
  exact vx_callv (vx_runV (As := As) (rest := rest) ⟨hx, hb, hml, hown, hts⟩ (hK H.size) hcw ⟨hp.1, va_recv hM.1 hM.2.1 (ci := ci) (q0 := v) hc ((wsM_at hv.1).trans (by rw [he])), hp.2⟩ rfl rfl hls hst (lv_room hW) hdg hf) hM.2.2.2 (fun q _ h => MX_free hM q h) (MX_free hM) (fun q _ h => MX_free hM q h)
    (fun E ce q9 u t H1 locs1 ht hvm hw hB _ _ hS _ _ _ => absurd rfl hw) (fun u t H1 locs1 ht hvm hw hB _ _ hS => kk H1 locs1 (y_back ht hvm hB hS))
theorem x_vv1 {C : String} {T : u_T} {N ci v k sz : Nat} {r : Int32} {y : MethodName} {cc' : ByteArray} {nL' index : Nat} {ret' : Option FieldType} {rm : Room} {As st0 : List Value} {Mf : MS} {fs : List Value} (C0 : CX p s m meth c args cc own nL ret) (hM : MX G M s H locs) (hT : TX G B0 sa s s.heap) (hsz : s.heap.size = sz) (hex : ∀ x ∈ c.exceptionTable.toList, False) (hls : ls.size = nL) (hv : ok ci v) (he : ent G M v = .inr (ci, fs)) (hc : vwCl[ci]? = some (C, T, N)) (hk : k ≠ 0)
    (hK : XV l y (WS y cc' nL' ret') rm G B0 sa (.ref (gad G v) :: As) M k Mf) (cw : CWV own index C y cc' nL' ret' As.length) (hm : rm.cells = 1) (hs : rm.slots = 6) (hR : rm.frames + 1 ≤ R.frames ∧ 8 + (nL' + 11) + rm.locals ≤ R.locals) (hst : st0 = As.reverse ++ .ref (gad G v) :: rest) (hW : (rest.map fun v => v.category).sum ≤ 8) (hf : cells + 1 ≤ R.cells ∧ slots + 6 ≤ R.slots) (hc4 : cells + 1 ≤ 4) (hs4 : slots + 6 ≤ 24) (hdg : decode cc pc = .ok (.invokevirtual index, 3)) :
    W p l e R s m args below meth c H locs cells slots (QXI below args s G sz k r Mf) (F0 m pc ls st0) := by
  have hcw : CallW R s args own C index y cc' nL' ret' (WS y cc' nL' ret') rm 1 6 As.length := by
    obtain ⟨hx, hb, -, hown, hts, -, -⟩ := C0
    obtain ⟨h1, h2, h3, h4, h5⟩ := cw
    have hi : ∀ w ∈ wsV own index C y (WS y cc' nL' ret'), w ∈ TBg := by
      intro w hw
      rcases List.mem_append.mp hw with h | h
      · exact h1 w (List.mem_append_left [Cond.code y cc' nL' ret'] h)
      · exact WS_in (h1 _ (by simp)) w h
    exact cwV As.length hts (good_TBg hi) rfl hm hs ⟨h2, h3, h4, h5⟩ hR
  obtain ⟨hx, hb, hml, hown, hts, -, hlk⟩ := C0
  have hp := x_pre (av := .ref (gad G v) :: As) hM hT
  subst hsz
  exact vx_callv (vx_runV (As := As) (rest := rest) ⟨hx, hb, hml, hown, hts⟩ (hK H.size) hcw ⟨hp.1, va_recv hM.1 hM.2.1 (ci := ci) (q0 := v) hc ((wsM_at hv.1).trans (by rw [he])), hp.2⟩ rfl rfl hls hst (lv_room hW) hdg hf) hM.2.2.2 (fun q _ h => MX_free hM q h) (MX_free hM) (fun q _ h => MX_free hM q h)
    (fun E ce q9 u t H1 locs1 ht hvm hw hB _ _ hS hce hcv hcl => by
      obtain ⟨hE, hB⟩ := hB
      obtain ⟨hK1, hP1, hG1, hS1⟩ := y_back ht hvm hB hS
      refine vx_out (fun x hx9 => (hex x hx9).elim) hlk hce hcv hcl (fun t2 ht2 ha2 => ⟨(), hw, ⟨hE, va_K.moved ha2 hK1, by rw [ht2]; exact hP1, hG1⟩, hS.F ht2⟩) hS.2.2 hc4 hs4)
    (fun u t H1 locs1 ht hvm hw hB _ _ hS => absurd hw hk)
end XR
/-! the three methods that throw -/
def F_X4_requireArgument (M : MS) (a0 : Int32) : Option (Nat × MS) := if ¬ a0 = 0 then some (0, M) else some (1, M)
def F_X4_requireState (M : MS) (a0 : Int32) : Option (Nat × MS) := if ¬ a0 = 0 then some (0, M) else some (2, M)
def F_X4_requireFighter (M : MS) (a0 : Int32) : Option (Nat × MS) := bd (F_X3_isFighter M 0 a0) fun r1 => if ¬ r1 = 0 then some (0, M) else some (3, M)
theorem xat_in {ic : Nat} {X : String} (h : ((vx_atS RX4 ic X ["java/lang/RuntimeException", "java/lang/Exception"]).filter goodWord).all (fun w => decide (w ∈ lw_tbl)) = true) : ∀ w ∈ (vx_atS RX4 ic X ["java/lang/RuntimeException", "java/lang/Exception"]).filter goodWord, w ∈ TBg := fun w hw => TBg_in (of_decide_eq_true (List.all_eq_true.mp h w hw)) (List.mem_filter.mp hw).2
set_option maxHeartbeats 4000000 in
set_option maxRecDepth 100000 in
theorem k_X4_requireArgument (l : Launch) (hst : l.stackTraces = false) (G : GG) (B0 : Nat) (sa : Nat × Nat × Nat) (M : MS) (a0 : Int32) {k : Nat} {Mf : MS} (hF : F_X4_requireArgument M a0 = some (k, Mf)) : XV l yX4_requireArgument (WS yX4_requireArgument cX4_requireArgument 1 none) (RmV 6) G B0 sa [.int a0] M k Mf := by
  intro sz
  refine x_met (by decide +kernel) (Nat.le_of_ble_eq_true rfl) (fun p e s m below meth c ls hsz C0 hex hM hT hl => ?_)
  have hl : lv_has ls 1 [(0, .int a0)] := hl
  have C0 : CX p s m meth c ([.int a0] : List Value).toArray cX4_requireArgument RX4 1 none := C0
  rw [F_X4_requireArgument] at hF
  refine lv_iload_n C0.1 C0.2.1 dX4_requireArgument_0 rfl (lv_at hl 0 rfl) ?_
  refine lv_if_ne (tgt := 14) C0.1 C0.2.1 dX4_requireArgument_1 (by decide) (fun c1 => ?_) (fun c1 => ?_)
  · obtain ⟨e8, e9⟩ := y_2 (if_t c1 hF)
    subst e9
    exact x_vret C0 hM hsz e8.symm (by decide) (by decide) dX4_requireArgument_14
  · obtain ⟨e8, e9⟩ := y_2 (if_f (fun q => q c1) hF)
    subst e9
    subst e8
    exact x_throw (text := "an argument is not as the document allows it") C0 hM hT hsz hex hst hl.1 (by decide) (by decide +kernel) (tbx [442, 17] (by decide +kernel) (by decide +kernel)) (xat_in (by decide +kernel)) (by decide +kernel) (by decide +kernel) hT.2.2.1.1 dX4_requireArgument_4 dX4_requireArgument_7 dX4_requireArgument_8 dX4_requireArgument_10 dX4_requireArgument_13 (by decide) (by decide) (by decide) (by decide) (by decide) (by decide)
set_option maxHeartbeats 4000000 in
set_option maxRecDepth 100000 in
theorem k_X4_requireState (l : Launch) (hst : l.stackTraces = false) (G : GG) (B0 : Nat) (sa : Nat × Nat × Nat) (M : MS) (a0 : Int32) {k : Nat} {Mf : MS} (hF : F_X4_requireState M a0 = some (k, Mf)) : XV l yX4_requireState (WS yX4_requireState cX4_requireState 1 none) (RmV 6) G B0 sa [.int a0] M k Mf := by
  intro sz
  refine x_met (by decide +kernel) (Nat.le_of_ble_eq_true rfl) (fun p e s m below meth c ls hsz C0 hex hM hT hl => ?_)
  have hl : lv_has ls 1 [(0, .int a0)] := hl
  have C0 : CX p s m meth c ([.int a0] : List Value).toArray cX4_requireState RX4 1 none := C0
  rw [F_X4_requireState] at hF
  refine lv_iload_n C0.1 C0.2.1 dX4_requireState_0 rfl (lv_at hl 0 rfl) ?_
  refine lv_if_ne (tgt := 14) C0.1 C0.2.1 dX4_requireState_1 (by decide) (fun c1 => ?_) (fun c1 => ?_)
  · obtain ⟨e8, e9⟩ := y_2 (if_t c1 hF)
    subst e9
    exact x_vret C0 hM hsz e8.symm (by decide) (by decide) dX4_requireState_14
  · obtain ⟨e8, e9⟩ := y_2 (if_f (fun q => q c1) hF)
    subst e9
    subst e8
    exact x_throw (text := "this is not possible now") C0 hM hT hsz hex hst hl.1 (by decide) (by decide +kernel) (tbx [366, 16] (by decide +kernel) (by decide +kernel)) (xat_in (by decide +kernel)) (by decide +kernel) (by decide +kernel) hT.2.2.1.2.1 dX4_requireState_4 dX4_requireState_7 dX4_requireState_8 dX4_requireState_10 dX4_requireState_13 (by decide) (by decide) (by decide) (by decide) (by decide) (by decide)
set_option maxHeartbeats 4000000 in
set_option maxRecDepth 100000 in
theorem k_X4_requireFighter (l : Launch) (hst : l.stackTraces = false) (G : GG) (B0 : Nat) (sa : Nat × Nat × Nat) (M : MS) (a0 : Int32) {k : Nat} {Mf : MS} (hF : F_X4_requireFighter M a0 = some (k, Mf)) : XV l yX4_requireFighter (WS yX4_requireFighter cX4_requireFighter 2 none) (RmV 6) G B0 sa [.ref (gad G 216), .int a0] M k Mf := by
  intro sz
  refine x_met (by decide +kernel) (Nat.le_of_ble_eq_true rfl) (fun p e s m below meth c ls hsz C0 hex hM hT hl => ?_)
  have hl : lv_has ls 2 [(0, .ref (gad G 216)), (1, .int a0)] := hl
  have C0 : CX p s m meth c ([.ref (gad G 216), .int a0] : List Value).toArray cX4_requireFighter RX4 2 none := C0
  rw [F_X4_requireFighter] at hF
  refine lv_aload_n C0.1 C0.2.1 dX4_requireFighter_0 rfl (lv_at hl 0 rfl) ?_
  refine gf4_0 C0 hM ok_tt fl_RX4_10 dX4_requireFighter_1 ?_
  refine lv_iload_n C0.1 C0.2.1 dX4_requireFighter_4 rfl (lv_at hl 1 rfl) ?_
  obtain ⟨r1, h2, hF⟩ := bd_some hF
  refine y_vi (rest := []) C0 hM hl.1 ok_now (ent3 ok_now) rfl (k_X3_isFighter l G M 0 a0 h2 ok_now) (⟨tbx [284, 285, 286, 7, 287] (by decide +kernel) (by decide +kernel), rfl, by decide +kernel, by decide +kernel, by decide +kernel⟩ : CWV RX4 141 RX3 yX3_isFighter cX3_isFighter 2 (some .boolean) 1) rfl rfl ⟨Nat.le_of_ble_eq_true rfl, Nat.le_of_ble_eq_true rfl⟩ rfl (Nat.le_of_ble_eq_true rfl) ⟨Nat.le_of_ble_eq_true rfl, Nat.le_of_ble_eq_true rfl⟩ dX4_requireFighter_5 (fun H locs hM => ?_)
  refine lv_if_ne (tgt := 21) C0.1 C0.2.1 dX4_requireFighter_8 (by decide) (fun c1 => ?_) (fun c1 => ?_)
  · obtain ⟨e8, e9⟩ := y_2 (if_t c1 hF)
    subst e9
    exact x_vret C0 hM hsz e8.symm (by decide) (by decide) dX4_requireFighter_21
  · obtain ⟨e8, e9⟩ := y_2 (if_f (fun q => q c1) hF)
    subst e9
    subst e8
    exact x_throw (text := "there is no such fighter") C0 hM hT hsz hex hst hl.1 (by decide) (by decide +kernel) (tbx [288, 18] (by decide +kernel) (by decide +kernel)) (xat_in (by decide +kernel)) (by decide +kernel) (by decide +kernel) hT.2.2.1.2.2 dX4_requireFighter_11 dX4_requireFighter_14 dX4_requireFighter_15 dX4_requireFighter_17 dX4_requireFighter_20 (by decide) (by decide) (by decide) (by decide) (by decide) (by decide)
