/-! making the objects: worlds as lists, new things at the head -/
def NG2 (U : State) : Prop := va_Nw (.methodLinkNest RX3 17 yX0_init "TurnTracker") U ∧ va_Nw (.methodLinkNest RX3 24 yX2_init "TurnTracker") U ∧ va_Nw (.methodLinkNest RX4 29 yX1_init "TurnTracker") U ∧ va_AO RX0 U ∧ va_AO RX3 U
theorem NG2.to {s U : State} (hW : s.WarmedH U.vm) (h : NG2 s) : NG2 U := ⟨va_Nw.warmM hW h.1, va_Nw.warmM hW h.2.1, va_Nw.warmM hW h.2.2.1, va_AO.moved hW.alike h.2.2.2.1, va_AO.moved hW.alike h.2.2.2.2⟩
theorem NG2.same {s U : State} (hv : s.vm = U.vm) (h : NG2 s) : NG2 U := ⟨va_Nw.same rfl hv h.1, va_Nw.same rfl hv h.2.1, va_Nw.same rfl hv h.2.2.1, va_AO.moved (by rw [hv]; exact Vm.Alike.refl _) h.2.2.2.1, va_AO.moved (by rw [hv]; exact Vm.Alike.refl _) h.2.2.2.2⟩
def LX (D : va_G) (tys : List (ClassId × FieldType)) (ws : va_W) (s : State) (H : Heap) (locs : List Loc) (A : Nat → Prop) : Prop := va_K D vwCl tys s ∧ va_P D vwCl ws H ∧ va_D A ws ∧ va_S A s.heap H locs ∧ ∀ q, s.heap.size ≤ q → A q

/-- the same things in another order: by their places -/
theorem va_D_pos {A : Nat → Prop} {ws ws' : va_W} (hD : va_D A ws) (f : Nat → Nat) (hf : ∀ i q, ws'[i]? = some q → ws[f i]? = some q) (hi : ∀ i j, i < ws'.length → j < ws'.length → f i = f j → i = j) : va_D A ws' := by
  refine ⟨fun i j x y hx hy hxy => ?_, fun k q hk => hD.2 _ q (hf k q hk)⟩
  exact hi i j (List.getElem?_eq_some_iff.mp hx).1 (List.getElem?_eq_some_iff.mp hy).1 (hD.1 _ _ x y (hf i x hx) (hf j y hy) hxy)
theorem rot_P {D : va_G} {cl : List vw_C} {ws : va_W} {x : Nat × va_E} {H : Heap} (h : va_P D cl (ws ++ [x]) H) : va_P D cl (x :: ws) H := va_P_in h (fun q hq => by
  rcases List.mem_cons.mp hq with e | e
  · rw [e]; simp
  · exact List.mem_append_left _ e)
theorem rot_D {A : Nat → Prop} {ws : va_W} {x : Nat × va_E} (h : va_D A (ws ++ [x])) : va_D A (x :: ws) := by
  refine va_D_pos h (fun i => if i = 0 then ws.length else i - 1) (fun i q hq => ?_) (fun i j hi hj e => ?_)
  · cases i with
    | zero => rw [List.getElem?_cons_zero] at hq; simpa using hq
    | succ i =>
      rw [List.getElem?_cons_succ] at hq
      have hl := (List.getElem?_eq_some_iff.mp hq).1
      simp only [Nat.succ_ne_zero, if_false, Nat.add_sub_cancel]
      rw [List.getElem?_append_left hl]
      exact hq
  · simp only [List.length_cons] at hi hj
    by_cases h1 : i = 0 <;> by_cases h2 : j = 0 <;> simp [h1, h2] at e <;> omega
theorem u_join {A0 : Nat → Prop} {D : va_G} {cl : List vw_C} {ws w1 : va_W} {q0 : Nat} {e0 : va_E} {H H1 : Heap} (hP : va_P D cl ws H) (hD : va_D A0 ws) (p : Nat) (hp : ws[p]? = some (q0, e0)) (hk : ∀ q : Nat, q < H.size → ¬ va_A [(q0, e0)] H.size q → H1[q]? = H[q]?) (hF : ∀ q, va_A [(q0, e0)] H.size q → A0 q) (hP1 : va_P D cl w1 H1) (hD1 : va_D (va_A [(q0, e0)] H.size) w1) :
    va_P D cl (ws.eraseIdx p ++ w1) H1 ∧ va_D A0 (ws.eraseIdx p ++ w1) := by
  have key : ∀ (k : Nat) (q : Nat × va_E), (ws.eraseIdx p)[k]? = some q → ws[if k < p then k else k + 1]? = some q := by
    intro k q h
    rw [List.getElem?_eraseIdx] at h
    split at h
    · rw [if_pos (by assumption)]; exact h
    · rw [if_neg (by assumption)]; exact h
  have ne : ∀ k : Nat, (if k < p then k else k + 1) ≠ p := by intro k; split <;> omega
  have apart : ∀ (k : Nat) (q : Nat × va_E), (ws.eraseIdx p)[k]? = some q → q.1 < H.size ∧ ¬ va_A [(q0, e0)] H.size q.1 := by
    intro k q h
    have h2 := key k q h
    have hl := (hP _ q h2).lt
    refine ⟨hl, ?_⟩
    rintro (⟨i, e, hi⟩ | h3)
    · cases i with
      | zero =>
        simp only [List.getElem?_cons_zero, Option.some.injEq, Prod.mk.injEq] at hi
        exact ne k (hD.1 _ _ q (q0, e0) h2 hp hi.1.symm)
      | succ i => simp at hi
    · omega
  refine ⟨va_P.app (fun k q h => ?_) hP1, va_D.app ?_ (hD1.weaken (fun k q _ h => hF q.1 h)) (fun i j x y hx hy hxy => ?_)⟩
  · obtain ⟨g1, g2⟩ := apart k q h
    exact (hP _ q (key k q h)).kept (hk q.1 g1 g2)
  · refine va_D_pos hD (fun k => if k < p then k else k + 1) key (fun i j _ _ e => ?_)
    split at e <;> split at e <;> omega
  · exact (apart i x hx).2 (by rw [hxy]; exact hD1.2 j y hy)

theorem va_P_arr {D : va_G} {cl : List vw_C} {ws : va_W} {p a n : Nat} {cA : ClassId} {f g : Nat → Option Nat} {H : Heap} {A : Nat → Prop} (hP : va_P D cl ws H) (hD : va_D A ws) (hp : ws[p]? = some (a, .inl (cA, n, .inr (.inr (.inr (.inr f)))))) (h : ∀ i, i < n → f i = g i) : va_P D cl (ws.set p (a, .inl (cA, n, .inr (.inr (.inr (.inr g)))))) H := by
  refine hP.set hD hp ?_ (fun _ _ => rfl)
  have h1 := hP p _ hp
  show H[a]? = some (arrV cA n (fun j => va_rf (g j)))
  have h2 : H[a]? = some (arrV cA n (fun j => va_rf (f j))) := h1
  rw [h2]
  congr 1
  unfold arrV
  congr 1
  apply Array.ext
  · simp
  · intro i h1 h2
    simp only [Array.getElem_ofFn]
    rw [h i (by simpa using h1)]
theorem va_P_arrI {D : va_G} {cl : List vw_C} {ws : va_W} {p a n : Nat} {cA : ClassId} {f g : Nat → Int32} {H : Heap} {A : Nat → Prop} (hP : va_P D cl ws H) (hD : va_D A ws) (hp : ws[p]? = some (a, .inl (cA, n, .inl f))) (h : ∀ i, i < n → f i = g i) : va_P D cl (ws.set p (a, .inl (cA, n, .inl g))) H := by
  refine hP.set hD hp ?_ (fun _ _ => rfl)
  have h1 := hP p _ hp
  show H[a]? = some (arrV cA n (fun j => .int (g j)))
  have h2 : H[a]? = some (arrV cA n (fun j => .int (f j))) := h1
  rw [h2]
  congr 1
  unfold arrV
  congr 1
  apply Array.ext
  · simp
  · intro i h1 h2
    simp only [Array.getElem_ofFn]
    rw [h i (by simpa using h1)]
def RmC (d cells slots : Nat) : Room := { frames := d, cells := cells, slots := slots, locals := 30 * d + 24 }
def KC (l : Launch) (y : MethodName) (ws : List Cond) (rm : Room) (D : va_G) (q0 : Nat) (e0 : va_E) (mc ms : Nat) {T : Type} (post : T → Prop) (wo : T → va_W) (to : T → List (ClassId × FieldType)) : Prop := ∀ sz, Met l y ws rm (va_Pc [.ref q0] (fun V => V.heap.size = sz ∧ (va_P D vwCl [(q0, e0)] V.heap ∧ va_K D vwCl [] V) ∧ NG2 V)) (va_Qv post (fun u t => va_P D vwCl (wo u) t.heap ∧ va_K D vwCl (to u) t ∧ va_D (va_A [(q0, e0)] sz) (wo u)) (va_A [(q0, e0)] sz)) mc ms (va_A [(q0, e0)] sz)
section UR
variable {p : Program} {l : Launch} {e : Env} {R : Room} {s : State} {m : MethodId} {args : Array Value} {below : List Frame} {meth : Method} {c : Code} {H : Heap} {locs : List Loc} {cells slots : Nat} {Q : State → Prop}
variable {cc : ByteArray} {own : String} {nL : Nat} {ret : Option FieldType} {pc : Nat} {ls : Array Slot} {rest : List Value} {D : va_G} {tys : List (ClassId × FieldType)} {ws : va_W} {A : Nat → Prop}
theorem u_met {y : MethodName} {q0 : Nat} {e0 : va_E} {T : Type} {post : T → Prop} {wo : T → va_W} {to : T → List (ClassId × FieldType)} {rm : Room} {mc ms : Nat} {cc : ByteArray} {nL : Nat} (hy : plainName y.cls = true) (hn : 1 ≤ nL) (hnm : y.name = "<init>")
    (body : ∀ (sz : Nat) (p : Program) (e : Env) (s : State) (m : MethodId) (below : List Frame) (meth : Method) (c : Code) (ls : Array Slot), CX p s m meth c #[.ref q0] cc y.cls nL none → meth.name = "<init>" → NG2 s → LX D [] [(q0, e0)] s s.heap [] (va_A [(q0, e0)] sz) → s.heap.size = sz → lv_has ls nL [(0, .ref q0)] →
      W p l e rm s m #[.ref q0] below meth c s.heap [] 0 0 (MQ below (va_Qv post (fun u t => va_P D vwCl (wo u) t.heap ∧ va_K D vwCl (to u) t ∧ va_D (va_A [(q0, e0)] sz) (wo u)) (va_A [(q0, e0)] sz)) #[.ref q0] s mc ms (va_A [(q0, e0)] sz)) (F0 m 0 ls [])) :
    KC l y (WS y cc nL none) rm D q0 e0 mc ms post wo to := by
  intro sz
  refine Met.ofW (cc := cc) (maxL := nL) (ret := none) hy rfl ?_
  intro p e s m args below meth c s₁ B hml hv
  obtain ⟨rfl, hsz, ⟨hP, hK⟩, hG⟩ := hv
  have hts := atoms_spec (ws := WS y cc nL none) B.pre
  rw [lg_entry_eq]
  refine body sz p e s m below meth c _ ⟨B.exec, B.bytes, hml, findClass_of_methodNamed B.named, fun w hw => hts w (List.mem_cons_of_mem _ hw), B.returns, B.notSynchronized⟩ ((name_of_methodNamed B.named B.method).1.trans hnm) hG ⟨hK, hP, ⟨fun i j x y hi hj hxy => ?_, fun k q hk => Or.inl ⟨k, q.2, hk⟩⟩, va_S.rf, fun q h => Or.inr (by omega)⟩ hsz (lv_entry [.ref q0] hn)
  cases i with
  | zero => cases j with
    | zero => rfl
    | succ j => simp at hj
  | succ i => simp at hi
theorem u_obj (C0 : CX p s m meth c args cc own nL ret) (hls : ls.size = nL) {a idx : Nat} (hw : ∀ w ∈ ([.methodLink own idx objectInit, .instanceMethod objectInit, .code objectInit ⟨#[0xb1]⟩ 1 none] : List Cond), w ∈ TBg) (hd : decode cc pc = .ok (.invokespecial idx, 3)) (hframes : 1 ≤ R.frames) (hlocals : (rest.map fun v => v.category).sum + 12 ≤ R.locals)
    (kk : W p l e R s m args below meth c H locs cells slots Q (F0 m (pc + 3) ls rest)) : W p l e R s m args below meth c H locs cells slots Q (F0 m pc ls (.ref a :: rest)) := by
  obtain ⟨hx, hb, hml, hown, hts, -, -⟩ := C0
  exact W.objInit hx hb hown (hts _ (hw _ (by simp))) (hts _ (hw _ (by simp))) (hts _ (hw _ (by simp))) rfl (by rw [hml]; exact hls) rfl hd hframes (by show 2 * 0 + _ + 12 ≤ _; omega) kk
theorem u_put (C0 : CX p s m meth c args cc own nL ret) (hL : LX D tys ws s H locs A) (p0 : Nat) {a ci : Nat} {fs : List Value} (he : ws[p0]? = some (a, .inr (ci, fs))) {C : String} {T : u_T} {N index : Nat} (hc : vwCl[ci]? = some (C, T, N)) (hin : ∀ w ∈ u_ws C T N, w ∈ TBg) (ty0 : Nat → FieldType) (hty : ∀ k, k < N → parseFieldDescriptor (T k).2.2.1 = some (ty0 k)) (hnm : ∀ a, a < N → ∀ b, b < N → a ≠ b → (T a).2.1 ≠ (T b).2.1) (k : Nat) (hk : k < N)
    (hlink : Cond.fieldLink own index (T k).1 (T k).2.1 (T k).2.2.1 ∈ TBg) (hfin : (T k).2.2.2 = false ∨ ((T k).2.2.2 = true ∧ meth.name = "<init>" ∧ (T k).1 = own)) {ty : FieldType} {val : Value} (hd : parseFieldDescriptor (T k).2.2.1 = some ty) (hn : narrow ty val = val) (hfit : fits ty val = true) (hl : k < fs.length) (hdg : decode cc pc = .ok (.putfield index, 3))
    (kk : ∀ (H1 : Heap) (locs1 : List Loc), LX D tys (ws.set p0 (a, .inr (ci, fs.set k val))) s H1 locs1 A → W p l e R s m args below meth c H1 locs1 cells slots Q (F0 m (pc + 3) ls rest)) : W p l e R s m args below meth c H locs cells slots Q (F0 m pc ls (val :: .ref a :: rest)) := by
  obtain ⟨hx, hb, -, hown, hts, -, -⟩ := C0
  obtain ⟨hK, hP, hD, hS, hA⟩ := hL
  rcases hfin with h | ⟨h, h2, h3⟩
  · exact va_put hx hb hts hin ty0 hty hnm hown hK hP hD hS p0 he hc k hk (hts _ hlink) (fun _ h => h) h hd hn hfit hl hdg (fun H1 locs1 hP1 hD1 hS1 => kk H1 locs1 ⟨hK, hP1, hD1, hS1, hA⟩)
  · exact va_putF hx hb hts hin ty0 hty hnm hown hK hP hD hS p0 he hc k hk (hts _ hlink) (fun _ h => h) h h2 h3 hd hn hfit hl hdg (fun H1 locs1 hP1 hD1 hS1 => kk H1 locs1 ⟨hK, hP1, hD1, hS1, hA⟩)
theorem u_get (C0 : CX p s m meth c args cc own nL ret) (hL : LX D tys ws s H locs A) (p0 : Nat) {a ci : Nat} {fs : List Value} (he : ws[p0]? = some (a, .inr (ci, fs))) {C : String} {T : u_T} {N index : Nat} (hc : vwCl[ci]? = some (C, T, N)) (hin : ∀ w ∈ u_ws C T N, w ∈ TBg) (k : Nat) (hk : k < N) (hlink : Cond.fieldLink own index (T k).1 (T k).2.1 (T k).2.2.1 ∈ TBg) {val : Value} (hval : fs[k]? = some val) (hdg : decode cc pc = .ok (.getfield index, 3))
    (kk : W p l e R s m args below meth c H locs cells slots Q (F0 m (pc + 3) ls (val :: rest))) : W p l e R s m args below meth c H locs cells slots Q (F0 m pc ls (.ref a :: rest)) := by
  obtain ⟨hx, hb, -, hown, hts, -, -⟩ := C0
  obtain ⟨hK, hP, hD, hS, hA⟩ := hL
  exact va_get hx hb hts hin hown hK hP p0 he hc k hk (hts _ hlink) (fun _ h => h) hval hdg kk
theorem u_newa (C0 : CX p s m meth c args cc own nL ret) (hL : LX D tys ws s H locs A) {n : Int32} {N' : Nat} (harr : Cond.arrayClass .int ∈ TBg) (hn : ¬ n < 0) (hN : n.toNatClampNeg = N') (hbytes : N' * 4 ≤ 536870912) (hcells : cells + 1 ≤ R.cells) (hslots : slots + N' ≤ R.slots) (hdg : decode cc pc = .ok (.newarray .int, 2))
    (kk : ∀ (q : Nat) (cA : ClassId) (H1 : Heap), LX D (tys ++ [(cA, .int)]) ((q, .inl (cA, N', .inl (fun _ => 0))) :: ws) s H1 locs A → W p l e R s m args below meth c H1 locs (cells + 1) (slots + N') Q (F0 m (pc + 2) ls (.ref q :: rest))) : W p l e R s m args below meth c H locs cells slots Q (F0 m pc ls (.int n :: rest)) := by
  obtain ⟨hx, hb, -, hown, hts, -, -⟩ := C0
  obtain ⟨hK, hP, hD, hS, hA⟩ := hL
  exact va_newa (atype := .int) (a0 := (N', .inl (fun _ => 0))) hx hb (hts _ harr) (ty := .int) rfl hK hP hD hS hA (fun _ => rfl) hn hN hbytes hcells hslots hdg (fun q cA H1 hK1 hP1 hD1 hS1 => kk q cA H1 ⟨hK1, rot_P hP1, rot_D hD1, hS1, hA⟩)
theorem u_newq (C0 : CX p s m meth c args cc own nL ret) (hL : LX D tys ws s H locs A) {C : String} {index : Nat} {n : Int32} {N' : Nat} (hcl : Cond.classLink own index C ∈ TBg) (hover : va_AO C s) (hn : ¬ n < 0) (hN : n.toNatClampNeg = N') (hbytes : N' * 4 ≤ 536870912) (hcells : cells + 1 ≤ R.cells) (hslots : slots + N' ≤ R.slots) (hdg : decode cc pc = .ok (.anewarray index, 3))
    (kk : ∀ (q : Nat) (cA : ClassId) (H1 : Heap), LX D (tys ++ [(cA, .object C)]) ((q, .inl (cA, N', .inr (.inr (.inr (.inr (fun _ => none)))))) :: ws) s H1 locs A → W p l e R s m args below meth c H1 locs (cells + 1) (slots + N') Q (F0 m (pc + 3) ls (.ref q :: rest))) : W p l e R s m args below meth c H locs cells slots Q (F0 m pc ls (.int n :: rest)) := by
  obtain ⟨hx, hb, -, hown, hts, -, -⟩ := C0
  obtain ⟨hK, hP, hD, hS, hA⟩ := hL
  exact va_newq hx hb hown (hts _ hcl) hover hK hP hD hS hA hn hN hbytes hcells hslots hdg (fun q cA H1 hK1 hP1 hD1 hS1 => kk q cA H1 ⟨hK1, rot_P hP1, rot_D hD1, hS1, hA⟩)
theorem u_new (C0 : CX p s m meth c args cc own nL ret) (hL : LX D tys ws s H locs A) {C : String} {T : u_T} {N ci index : Nat} (hin : ∀ w ∈ u_ws C T N, w ∈ TBg) (ty : Nat → FieldType) (hty : ∀ k, k < N → parseFieldDescriptor (T k).2.2.1 = some (ty k)) (hws : ∀ w ∈ ([.classLink own index C, .instantiable C N, .initialized C] : List Cond), w ∈ TBg) (hc : vwCl[ci]? = some (C, T, N)) {fs : List Value} (hfs : ∀ j, j < N → defaultValue (ty j) = vp_V fs j) (hcells : cells + 1 ≤ R.cells) (hslots : slots + N ≤ R.slots) (hdg : decode cc pc = .ok (.new index, 3))
    (kk : ∀ (q : Nat) (H1 : Heap), LX D tys ((q, .inr (ci, fs)) :: ws) s H1 locs A → W p l e R s m args below meth c H1 locs (cells + 1) (slots + N) Q (F0 m (pc + 3) ls (.ref q :: rest))) : W p l e R s m args below meth c H locs cells slots Q (F0 m pc ls rest) := by
  obtain ⟨hx, hb, -, hown, hts, -, -⟩ := C0
  obtain ⟨hK, hP, hD, hS, hA⟩ := hL
  exact va_new hx hb hts hin ty hty hown (hts _ (hws _ (by simp))) (hts _ (hws _ (by simp))) (hts _ (hws _ (by simp))) hK hP hD hS hA hc hfs hcells hslots hdg (fun q H1 hP1 hD1 hS1 => kk q H1 ⟨hK, rot_P hP1, rot_D hD1, hS1, hA⟩)
theorem u_astq (C0 : CX p s m meth c args cc own nL ret) (hL : LX D tys ws s H locs A) (p0 t0 pk ci : Nat) {cA : ClassId} {r : vw_C} {a n v : Nat} {vs : List Value} {f : Nat → Option Nat} (ha : ws[p0]? = some (a, .inl (cA, n, .inr (.inr (.inr (.inr f)))))) (ht : tys[t0]? = some (cA, .object r.1)) (hv : ws[pk]? = some (v, .inr (ci, vs))) (hc : vwCl[ci]? = some r) {i : Int32} (hin : inb i n = true) (hdg : decode cc pc = .ok (.aastore, 1))
    (kk : ∀ (H1 : Heap) (locs1 : List Loc), LX D tys (ws.set p0 (a, .inl (cA, n, .inr (.inr (.inr (.inr (va_up f i.toNatClampNeg (some v)))))))) s H1 locs1 A → W p l e R s m args below meth c H1 locs1 cells slots Q (F0 m (pc + 1) ls rest)) : W p l e R s m args below meth c H locs cells slots Q (F0 m pc ls (.ref v :: .int i :: .ref a :: rest)) := by
  obtain ⟨hx, hb, -, hown, hts, -, -⟩ := C0
  obtain ⟨hK, hP, hD, hS, hA⟩ := hL
  exact va_astq hx hb hK hP hD hS p0 t0 pk ci ha ht hv hc (inb_in hin) hdg (fun H1 locs1 hP1 hD1 hS1 => kk H1 locs1 ⟨hK, hP1, hD1, hS1, hA⟩)
theorem u_iast (C0 : CX p s m meth c args cc own nL ret) (hL : LX D tys ws s H locs A) (p0 t0 : Nat) {cA : ClassId} {a n : Nat} {f : Nat → Int32} (ha : ws[p0]? = some (a, .inl (cA, n, .inl f))) (ht : tys[t0]? = some (cA, .int)) {i x : Int32} (hin : inb i n = true) (hdg : decode cc pc = .ok (.iastore, 1))
    (kk : ∀ (H1 : Heap) (locs1 : List Loc), LX D tys (ws.set p0 (a, .inl (cA, n, .inl (upd f i.toNatClampNeg x)))) s H1 locs1 A → W p l e R s m args below meth c H1 locs1 cells slots Q (F0 m (pc + 1) ls rest)) : W p l e R s m args below meth c H locs cells slots Q (F0 m pc ls (.int x :: .int i :: .ref a :: rest)) := by
  obtain ⟨hx, hb, -, hown, hts, -, -⟩ := C0
  obtain ⟨hK, hP, hD, hS, hA⟩ := hL
  exact va_iast hx hb hK hP hD hS p0 t0 ha ht (inb_in hin) hdg (fun H1 locs1 hP1 hD1 hS1 => kk H1 locs1 ⟨hK, hP1, hD1, hS1, hA⟩)
theorem u_alenq (C0 : CX p s m meth c args cc own nL ret) (hL : LX D tys ws s H locs A) (p0 t0 : Nat) {cA : ClassId} {a n : Nat} {C : String} {f : Nat → Option Nat} (ha : ws[p0]? = some (a, .inl (cA, n, .inr (.inr (.inr (.inr f)))))) (ht : tys[t0]? = some (cA, .object C)) {v : Int32} (hv : Int32.ofNat n = v) (hdg : decode cc pc = .ok (.arraylength, 1))
    (kk : W p l e R s m args below meth c H locs cells slots Q (F0 m (pc + 1) ls (.int v :: rest))) : W p l e R s m args below meth c H locs cells slots Q (F0 m pc ls (.ref a :: rest)) := by
  obtain ⟨hx, hb, -, hown, hts, -, -⟩ := C0
  obtain ⟨hK, hP, hD, hS, hA⟩ := hL
  exact va_alen hx hb hK hP p0 t0 ha ht hv hdg kk
theorem u_pre {q0 : Nat} {e0 : va_E} (hL : LX D tys ws s H locs A) (hN : NG2 s) (p0 : Nat) (hp : ws[p0]? = some (q0, e0)) : PreS s H (va_Pc [.ref q0] (fun V => V.heap.size = H.size ∧ (va_P D vwCl [(q0, e0)] V.heap ∧ va_K D vwCl [] V) ∧ NG2 V)) [.ref q0] := by
  obtain ⟨hK, hP, hD, hS, hA⟩ := hL
  refine ⟨fun a U g mk q => ?_, fun U hU hW => ⟨rfl, by rw [hU], ⟨?_, (va_K.moved hW.alike hK).sub [] rfl⟩, hN.to hW⟩⟩
  · obtain ⟨h1, h2, ⟨h3, h4⟩, h5⟩ := q
    exact ⟨h1, h2, ⟨h3, va_K.moved (u := U) (U := U.calling g mk a) (Vm.Alike.refl U.vm) h4⟩, NG2.same (s := U) (U := U.calling g mk a) rfl h5⟩
  · rw [hU]
    refine va_P_in hP (fun q hq => ?_)
    rw [List.mem_singleton.mp hq]
    exact List.mem_of_getElem? hp
theorem u_Aq {q0 : Nat} {e0 : va_E} (hL : LX D tys ws s H locs A) (p0 : Nat) (hp : ws[p0]? = some (q0, e0)) : ∀ q, va_A [(q0, e0)] H.size q → A q := by
  obtain ⟨hK, hP, hD, hS, hA⟩ := hL
  rintro q (⟨i, e, hi⟩ | h)
  · cases i with
    | zero =>
      simp only [List.getElem?_cons_zero, Option.some.injEq, Prod.mk.injEq] at hi
      rw [← hi.1]
      exact hD.2 p0 _ hp
    | succ i => simp at hi
  · exact hA q (Nat.le_trans hS.1 h)
theorem u_init {T : Type} {post : T → Prop} {wo : T → va_W} {to : T → List (ClassId × FieldType)} {y : MethodName} {cc' : ByteArray} {nL' index mc ms q0 : Nat} {e0 : va_E} {rm : Room} (C0 : CX p s m meth c args cc own nL ret) (hL : LX D tys ws s H locs A) (hN : NG2 s) (hls : ls.size = nL) (p0 : Nat) (hp : ws[p0]? = some (q0, e0))
    (hK : KC l y (WS y cc' nL' none) rm D q0 e0 mc ms post wo to) (cw : (∀ w ∈ ([.methodLink own index y, .instanceMethod y, .initialized y.cls, .code y cc' nL' none] : List Cond), w ∈ TBg) ∧ y.cls ≠ "java/lang/invoke/MethodHandle" ∧ y.cls ≠ "java/lang/invoke/VarHandle" ∧ (parseMethodDescriptor y.desc).map (fun d => d.parameters.length) = some 0) (hy : y.name = "<init>") (hm : rm.cells = mc) (hs : rm.slots = ms) (hR : rm.frames + 1 ≤ R.frames ∧ 8 + (nL' + 11) + rm.locals ≤ R.locals) (hW : (rest.map fun v => v.category).sum ≤ 8) (hf : cells + mc ≤ R.cells ∧ slots + ms ≤ R.slots) (hdg : decode cc pc = .ok (.invokespecial index, 3))
    (kk : ∀ (u : T) (H1 : Heap) (locs1 : List Loc), post u → LX D (tys ++ to u) (ws.eraseIdx p0 ++ wo u) s H1 locs1 A → W p l e R s m args below meth c H1 locs1 (cells + mc) (slots + ms) Q (F0 m (pc + 3) ls rest)) : W p l e R s m args below meth c H locs cells slots Q (F0 m pc ls (.ref q0 :: rest)) := by
  obtain ⟨hx, hb, hml, hown, hts, -, -⟩ := C0
  obtain ⟨h1, h3, h4, h5⟩ := cw
  have hG : GoodIn TBg (WS y cc' nL' none) := good_TBg (WS_in (h1 _ (by simp)))
  have hcb : CallB R s args own index y cc' nL' none (WS y cc' nL' none) rm mc ms 0 := callB_of 0 hts hG rfl hm hs (hts _ (h1 _ (by simp))) (hts _ (h1 _ (by simp))) ⟨h3, h4, h5⟩ hR
  have hpre := u_pre hL hN p0 hp
  have hAq := u_Aq hL p0 hp
  obtain ⟨hK0, hP, hD, hS, hA⟩ := hL
  refine va_callv (va_runI (As := []) (rest := rest) ⟨hx, hb, hml, hown, hts⟩ (hK H.size) ⟨hcb, hy, hts _ (h1 _ (by simp))⟩ hpre rfl rfl hls rfl (lv_room hW) hdg hf) hS (fun q _ h => hAq q h) hAq (fun u t H1 locs1 ht hvm hw hB _ hk hS1 => ?_)
  obtain ⟨hP1, hK1, hD1⟩ := hB
  rw [ht] at hP1
  obtain ⟨hP2, hD2⟩ := u_join hP hD p0 hp hk hAq hP1 hD1
  exact kk u H1 locs1 hw ⟨hK0.app (va_K.moved hvm.symm hK1), hP2, hD2, hS1, hA⟩
theorem u_initN {T : Type} {post : T → Prop} {wo : T → va_W} {to : T → List (ClassId × FieldType)} {y : MethodName} {cc' : ByteArray} {nL' index mc ms q0 : Nat} {e0 : va_E} {rm : Room} {host : String} (C0 : CX p s m meth c args cc own nL ret) (hL : LX D tys ws s H locs A) (hN : NG2 s) (hls : ls.size = nL) (p0 : Nat) (hp : ws[p0]? = some (q0, e0))
    (hK : KC l y (WS y cc' nL' none) rm D q0 e0 mc ms post wo to) (hnest : va_Nw (.methodLinkNest own index y host) s) (cw : (∀ w ∈ ([.instanceMethod y, .initialized y.cls, .code y cc' nL' none] : List Cond), w ∈ TBg) ∧ y.cls ≠ "java/lang/invoke/MethodHandle" ∧ y.cls ≠ "java/lang/invoke/VarHandle" ∧ (parseMethodDescriptor y.desc).map (fun d => d.parameters.length) = some 0) (hy : y.name = "<init>") (hm : rm.cells = mc) (hs : rm.slots = ms) (hR : rm.frames + 1 ≤ R.frames ∧ 8 + (nL' + 11) + rm.locals ≤ R.locals) (hW : (rest.map fun v => v.category).sum ≤ 8) (hf : cells + mc ≤ R.cells ∧ slots + ms ≤ R.slots) (hdg : decode cc pc = .ok (.invokespecial index, 3))
    (kk : ∀ (u : T) (H1 : Heap) (locs1 : List Loc), post u → LX D (tys ++ to u) (ws.eraseIdx p0 ++ wo u) s H1 locs1 A → W p l e R s m args below meth c H1 locs1 (cells + mc) (slots + ms) Q (F0 m (pc + 3) ls rest)) : W p l e R s m args below meth c H locs cells slots Q (F0 m pc ls (.ref q0 :: rest)) := by
  obtain ⟨hx, hb, hml, hown, hts, -, -⟩ := C0
  obtain ⟨h1, h3, h4, h5⟩ := cw
  have hG : GoodIn TBg (WS y cc' nL' none) := good_TBg (WS_in (h1 _ (by simp)))
  have hcb : va_CN R s args own index y host cc' nL' none (WS y cc' nL' none) rm mc ms 0 := va_cnB 0 hts hG rfl hm hs hnest (hts _ (h1 _ (by simp))) ⟨h3, h4, h5⟩ hR
  have hpre := u_pre hL hN p0 hp
  have hAq := u_Aq hL p0 hp
  obtain ⟨hK0, hP, hD, hS, hA⟩ := hL
  refine va_callv (va_runIN (As := []) (rest := rest) ⟨hx, hb, hml, hown, hts⟩ (hK H.size) ⟨hcb, hy, hts _ (h1 _ (by simp))⟩ hpre rfl rfl hls rfl (lv_room hW) hdg hf) hS (fun q _ h => hAq q h) hAq (fun u t H1 locs1 ht hvm hw hB _ hk hS1 => ?_)
  obtain ⟨hP1, hK1, hD1⟩ := hB
  rw [ht] at hP1
  obtain ⟨hP2, hD2⟩ := u_join hP hD p0 hp hk hAq hP1 hD1
  exact kk u H1 locs1 hw ⟨hK0.app (va_K.moved hvm.symm hK1), hP2, hD2, hS1, hA⟩
theorem u_ret {T : Type} {post : T → Prop} {wo : T → va_W} {to : T → List (ClassId × FieldType)} {q0 sz : Nat} {e0 : va_E} (u : T) (C0 : CX p s m meth c args cc own nL none) (hL : LX D (to u) (wo u) s H locs (va_A [(q0, e0)] sz)) (hp : post u) (hsz : s.heap.size = sz) (hdg : decode cc pc = .ok (.return_, 1)) :
    W p l e R s m args below meth c H locs cells slots (MQ below (va_Qv post (fun u t => va_P D vwCl (wo u) t.heap ∧ va_K D vwCl (to u) t ∧ va_D (va_A [(q0, e0)] sz) (wo u)) (va_A [(q0, e0)] sz)) args s cells slots (va_A [(q0, e0)] sz)) (F0 m pc ls []) := by
  obtain ⟨hx, hb, -, hown, hts, hr, hlk⟩ := C0
  obtain ⟨hK, hP, hD, hS, hA⟩ := hL
  exact W.vret hx hb hr (fun t ht hW => ⟨⟨u, rfl, hp, by rw [ht]; exact hP, va_K.moved hW.alike hK, hD⟩, hS.F ht⟩) hS.2.2 hdg hlk
end UR
