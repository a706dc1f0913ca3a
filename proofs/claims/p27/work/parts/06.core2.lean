def entT (G : GG) (M : MS) (v : Nat) : va_E := .inl (G.2.1.1, ln v, .inl (rA M v))
def wsSt (G : GG) (M : MS) : va_W := (List.range 224).map (fun v => (gad G v, ent G M v))
def wsTr (G : GG) (M : MS) : va_W := (tr G).map (fun x => (x.2, entT G M x.1))
def wsM (G : GG) (M : MS) : va_W := wsSt G M ++ wsTr G M
theorem wsSt_len {G : GG} {M : MS} : (wsSt G M).length = 224 := by simp [wsSt]
theorem wsM_at {G : GG} {M : MS} {v : Nat} (hv : v < 224) : (wsM G M)[v]? = some (gad G v, ent G M v) := by
  rw [wsM, List.getElem?_append_left (by rw [wsSt_len]; exact hv)]
  simp [wsSt, hv]
theorem wsM_tr {G : GG} {M : MS} {k : Nat} {x : Nat × Nat} (h : (tr G)[k]? = some x) : (wsM G M)[224 + k]? = some (x.2, entT G M x.1) := by
  rw [wsM, List.getElem?_append_right (by rw [wsSt_len]; omega), wsSt_len, Nat.add_sub_cancel_left]
  simp [wsTr, h]
theorem wsM_ge {G : GG} {M : MS} {k : Nat} {y : Nat × va_E} (hk : ¬ k < 224) (h : (wsM G M)[k]? = some y) : ∃ x, (tr G)[k - 224]? = some x ∧ y = (x.2, entT G M x.1) := by
  rw [wsM, List.getElem?_append_right (by rw [wsSt_len]; omega), wsSt_len] at h
  simp only [wsTr, List.getElem?_map, Option.map_eq_some_iff] at h
  obtain ⟨x, h1, h2⟩ := h
  exact ⟨x, h1, h2.symm⟩
def GD (G : GG) : Prop := (∀ i j, i < 224 → j < 224 → gad G i = gad G j → i = j) ∧ (∀ (i j : Nat) (x y : Nat × Nat), (tr G)[i]? = some x → (tr G)[j]? = some y → x.1 = y.1 ∨ x.2 = y.2 → i = j) ∧ (∀ v x, v < 224 → x ∈ tr G → gad G v ≠ x.2) ∧ ∀ x ∈ tr G, 224 ≤ x.1
theorem wsM_set {G : GG} {M M' : MS} {v : Nat} {e : va_E} (hG : GD G) (hv : v < 224) (he : ent G M' v = e) (ho : ∀ u, u < 224 → u ≠ v → ent G M' u = ent G M u) (hr : ∀ u, 224 ≤ u → rA M' u = rA M u) : (wsM G M).set v (gad G v, e) = wsM G M' := by
  refine List.ext_getElem? (fun i => ?_)
  by_cases hi : i < 224
  · by_cases hiv : i = v
    · subst hiv
      rw [List.getElem?_set_self (by rw [wsM, List.length_append, wsSt_len]; omega), wsM_at hi, he]
    · rw [List.getElem?_set_ne (Ne.symm hiv), wsM_at hi, wsM_at hi, ho i hi hiv]
  · rw [List.getElem?_set_ne (by omega), wsM, wsM, List.getElem?_append_right (by rw [wsSt_len]; omega), List.getElem?_append_right (by rw [wsSt_len]; omega), wsSt_len, wsSt_len]
    simp only [wsTr, List.getElem?_map]
    cases h : (tr G)[i - 224]? with
    | none => rfl
    | some x =>
      have := hG.2.2.2 x (List.mem_of_getElem? h)
      simp only [Option.map_some, entT, hr x.1 this]
theorem wsM_setT {G : GG} {M M' : MS} {k : Nat} {x : Nat × Nat} (hG : GD G) (hk : (tr G)[k]? = some x) (ho : ∀ u, u < 224 → ent G M' u = ent G M u) (hr : ∀ u, 224 ≤ u → u ≠ x.1 → rA M' u = rA M u) : (wsM G M).set (224 + k) (x.2, entT G M' x.1) = wsM G M' := by
  refine List.ext_getElem? (fun i => ?_)
  by_cases hi : i < 224
  · rw [List.getElem?_set_ne (by omega), wsM_at hi, wsM_at hi, ho i hi]
  · have hl : k < (tr G).length := (List.getElem?_eq_some_iff.mp hk).1
    by_cases hik : i = 224 + k
    · subst hik
      rw [List.getElem?_set_self (by rw [wsM, List.length_append, wsSt_len]; simp [wsTr]; omega), wsM_tr hk]
    · rw [List.getElem?_set_ne (by omega), wsM, wsM, List.getElem?_append_right (by rw [wsSt_len]; omega), List.getElem?_append_right (by rw [wsSt_len]; omega), wsSt_len, wsSt_len]
      simp only [wsTr, List.getElem?_map]
      cases h : (tr G)[i - 224]? with
      | none => rfl
      | some y =>
        have h1 := hG.2.2.2 y (List.mem_of_getElem? h)
        have h2 : y.1 ≠ x.1 := fun q => hik (by have := hG.2.1 (i - 224) k y x h hk (Or.inl q); omega)
        simp only [Option.map_some, entT, hr y.1 h1 h2]
def Af (G : GG) (sz : Nat) : Nat → Prop := fun q => (∃ v, v < 224 ∧ q = gad G v) ∨ (∃ x, x ∈ tr G ∧ q = x.2) ∨ sz ≤ q
theorem va_D_wsM {G : GG} {M : MS} {A : Nat → Prop} (h : GD G) (hA : ∀ v, v < 224 → A (gad G v)) (hT : ∀ x, x ∈ tr G → A x.2) : va_D A (wsM G M) := by
  have key : ∀ (k : Nat) (q : Nat × va_E), (wsM G M)[k]? = some q → (k < 224 ∧ q.1 = gad G k) ∨ (224 ≤ k ∧ ∃ x, (tr G)[k - 224]? = some x ∧ q.1 = x.2) := by
    intro k q hk
    by_cases hl : k < 224
    · rw [wsM_at hl] at hk
      cases hk
      exact Or.inl ⟨hl, rfl⟩
    · obtain ⟨x, h1, h2⟩ := wsM_ge hl hk
      exact Or.inr ⟨by omega, x, h1, by rw [h2]⟩
  refine ⟨fun i j x y hi hj hxy => ?_, fun k q hk => ?_⟩
  · rcases key i x hi with ⟨h1, h2⟩ | ⟨h1, x1, h2, h3⟩ <;> rcases key j y hj with ⟨h4, h5⟩ | ⟨h4, y1, h5, h6⟩
    · exact h.1 i j h1 h4 (by rw [← h2, ← h5]; exact hxy)
    · exact absurd (by rw [← h2, ← h6]; exact hxy) (h.2.2.1 i y1 h1 (List.mem_of_getElem? h5))
    · exact absurd (by rw [← h3, ← h5]; exact hxy.symm) (h.2.2.1 j x1 h4 (List.mem_of_getElem? h2))
    · have := h.2.1 (i - 224) (j - 224) x1 y1 h2 h5 (Or.inr (by rw [← h3, ← h6]; exact hxy))
      omega
  · rcases key k q hk with ⟨h1, h2⟩ | ⟨_, x1, h2, h3⟩
    · rw [h2]; exact hA k h1
    · rw [h3]; exact hT x1 (List.mem_of_getElem? h2)
def tysM (G : GG) : List (ClassId × FieldType) := [(G.2.1.1, .int), (G.2.1.2.1, .object RX0), (G.2.1.2.2, .object RX3)]
def Wd (G : GG) (M : MS) (U : State) : Prop := va_K G.1 vwCl (tysM G) U ∧ va_P G.1 vwCl (wsM G M) U.heap ∧ GD G
def MX (G : GG) (M : MS) (s : State) (H : Heap) (locs : List Loc) : Prop := va_K G.1 vwCl (tysM G) s ∧ va_P G.1 vwCl (wsM G M) H ∧ GD G ∧ va_S (Af G s.heap.size) s.heap H locs
theorem MX.D {G : GG} {M : MS} {s : State} {H : Heap} {locs : List Loc} (h : MX G M s H locs) : va_D (Af G s.heap.size) (wsM G M) := va_D_wsM h.2.2.1 (fun v hv => Or.inl ⟨v, hv, rfl⟩) (fun x hx => Or.inr (Or.inl ⟨x, hx, rfl⟩))
/-- all words of the tables that any state of the run keeps -/
def TBg : List Cond := lw_tbl.filter goodWord
theorem TBg_in {w : Cond} (h : w ∈ lw_tbl) (g : goodWord w = true) : w ∈ TBg := List.mem_filter.mpr ⟨h, g⟩
theorem TBg_good : ∀ w ∈ TBg, goodWord w = true := fun w h => (List.mem_filter.mp h).2
def WS (y : MethodName) (cc : ByteArray) (n : Nat) (r : Option FieldType) : List Cond := .code y cc n r :: TBg
def CX (p : Program) (s : State) (m : MethodId) (meth : Method) (c : Code) (args : Array Value) (cc : ByteArray) (own : String) (nL : Nat) (ret : Option FieldType) : Prop :=
  p.tables.exec = Jvm.exec ∧ c.code = cc ∧ c.maxLocals = nL ∧ s.vm.findClass own = some m.cls ∧ (∀ w ∈ TBg, w.before args s = true) ∧ meth.sig.returnType = ret ∧ meth.locks = false
theorem fin_TBg {C : String} {T : u_T} {N : Nat} (h : (u_ws C T N).all (fun w => decide (w ∈ lw_tbl) && goodWord w) = true) : ∀ w ∈ u_ws C T N, w ∈ TBg := by
  intro w hw
  have h1 := List.all_eq_true.mp h w hw
  simp only [Bool.and_eq_true, decide_eq_true_eq] at h1
  exact TBg_in h1.1 h1.2
theorem fX0 : ∀ w ∈ u_ws RX0 TX0 14, w ∈ TBg := fin_TBg (by decide +kernel)
theorem fX1 : ∀ w ∈ u_ws RX1 TX1 2, w ∈ TBg := fin_TBg (by decide +kernel)
theorem fX2 : ∀ w ∈ u_ws RX2 TX2 2, w ∈ TBg := fin_TBg (by decide +kernel)
theorem fX3 : ∀ w ∈ u_ws RX3 TX3 10, w ∈ TBg := fin_TBg (by decide +kernel)
theorem fX4 : ∀ w ∈ u_ws RX4 TX4 5, w ∈ TBg := fin_TBg (by decide +kernel)
def oka (n v : Nat) : Prop := ok 6 v ∧ ln v = n
theorem ent6n {G : GG} {M : MS} {n v : Nat} (h : oka n v) : ent G M v = .inl (G.2.1.1, n, .inl (rA M v)) := by rw [ent6 h.1, h.2]
theorem oka_c {n v : Nat} (h : (okb 6 v && ln v == n) = true) : oka n v := by
  simp only [Bool.and_eq_true, beq_iff_eq] at h
  exact ⟨ok_of h.1, h.2⟩
theorem oka_cond {v : Nat} (h : ok 0 v) : oka 4 (v + 11) := ⟨ok_cond h, ln_cond h⟩
theorem oka_numbers {v : Nat} (h : ok 2 v) : oka 10 (v + 1) := ⟨ok_numbers h, ln_numbers h⟩
theorem oka_readiers {v : Nat} (h : ok 3 v) : oka 10 (v + 4) := ⟨ok_readiers h, ln_readiers h⟩
theorem oka_codes {v : Nat} (h : ok 1 v) : oka 60 (v + 1) := ⟨ok_codes h, ln_codes h⟩
/-- writing a field: the other cells stay -/
theorem ent_wF_ne {G : GG} {M : MS} {c v u : Nat} {x : Int32} (h : u ≠ v) : ent G (wF M c v x) u = ent G M u := by
  have e : ∀ c', rF (wF M c v x) c' u = rF M c' u := fun c' => by simp [rF, wF, h]
  have e2 : rA (wF M c v x) u = rA M u := rfl
  have e3 : rS (wF M c v x) = rS M := rfl
  have e4 : rH (wF M c v x) = rH M := rfl
  have e5 : rO (wF M c v x) = rO M := rfl
  simp only [ent, el0, el1, el2, el3, el4, e, e2, e3, e4, e5]
theorem ent_wA_ne {G : GG} {M : MS} {v i u : Nat} {x : Int32} (h : u ≠ v) : ent G (wA M v i x) u = ent G M u := by
  have e : ∀ c', rF (wA M v i x) c' u = rF M c' u := fun c' => rfl
  have e2 : rA (wA M v i x) u = rA M u := by simp [rA, wA, h]
  have e3 : rS (wA M v i x) = rS M := rfl
  have e4 : rH (wA M v i x) = rH M := rfl
  have e5 : rO (wA M v i x) = rO M := rfl
  simp only [ent, el0, el1, el2, el3, el4, e, e2, e3, e4, e5]
theorem ent_wC_ne {G : GG} {M : MS} {v w a b n u : Nat} (h : u ≠ w) : ent G (wC M v w a b n) u = ent G M u := by
  have e : ∀ c', rF (wC M v w a b n) c' u = rF M c' u := fun c' => rfl
  have e2 : rA (wC M v w a b n) u = rA M u := by simp [rA, wC, h]
  have e3 : rS (wC M v w a b n) = rS M := rfl
  have e4 : rH (wC M v w a b n) = rH M := rfl
  have e5 : rO (wC M v w a b n) = rO M := rfl
  simp only [ent, el0, el1, el2, el3, el4, e, e2, e3, e4, e5]
theorem kd8_is {v : Nat} (h : ok 8 v) : v = 217 := by
  have e : (List.range 224).all (fun v => !(kd v == 8) || v == 217) = true := by decide +kernel
  have h1 := List.all_eq_true.mp e v (List.mem_range.mpr h.1)
  simpa [h.2] using h1
theorem ent_wS_ne {G : GG} {M : MS} {i k u : Nat} (h : u < 224) (hu : u ≠ 217) : ent G (wS M i k) u = ent G M u := by
  have hk : kd u ≠ 8 := fun q => hu (kd8_is ⟨h, q⟩)
  have e : ∀ c', rF (wS M i k) c' u = rF M c' u := fun c' => rfl
  have e2 : rA (wS M i k) u = rA M u := rfl
  have e4 : rH (wS M i k) = rH M := rfl
  have e5 : rO (wS M i k) = rO M := rfl
  simp only [ent, el0, el1, el2, el3, el4, e, e2, e4, e5, if_neg hk]





theorem rF_self {M : MS} {c v : Nat} {x : Int32} : rF (wF M c v x) c v = x := by simp [rF, wF]
theorem rF_nec {M : MS} {c c' v v' : Nat} {x : Int32} (h : c' ≠ c) : rF (wF M c v x) c' v' = rF M c' v' := by simp [rF, wF, h]
/-- what a write of an int field makes of the cell's list -/
def elk (ci : Nat) (G : GG) (M : MS) (v : Nat) : List Value := match ci with
  | 0 => el0 G M v
  | 1 => el1 G M v
  | 2 => el2 G M v
  | 3 => el3 G M v
  | _ => el4 G M v
theorem rA_wA_ge {M : MS} {v i u : Nat} {x : Int32} (h : u ≠ v) : rA (wA M v i x) u = rA M u := by simp [rA, wA, h]
theorem rA_wC_ge {M : MS} {v w a b n u : Nat} (h : u ≠ w) : rA (wC M v w a b n) u = rA M u := by simp [rA, wC, h]
theorem pt0_0 {G : GG} {M : MS} {v : Nat} {x : Int32} (h : ok 0 v) : ent G (wF M 0 v x) v = .inr (0, (el0 G M v).set 0 (.int x)) := by rw [ent0 h]; simp [el0, rF, wF, rH]
theorem pt0_1 {G : GG} {M : MS} {v : Nat} {x : Int32} (h : ok 0 v) : ent G (wF M 1 v x) v = .inr (0, (el0 G M v).set 1 (.int x)) := by rw [ent0 h]; simp [el0, rF, wF, rH]
theorem pt0_2 {G : GG} {M : MS} {v : Nat} {x : Int32} (h : ok 0 v) : ent G (wF M 2 v x) v = .inr (0, (el0 G M v).set 2 (.int x)) := by rw [ent0 h]; simp [el0, rF, wF, rH]
theorem pt0_3 {G : GG} {M : MS} {v : Nat} {x : Int32} (h : ok 0 v) : ent G (wF M 3 v x) v = .inr (0, (el0 G M v).set 3 (.int x)) := by rw [ent0 h]; simp [el0, rF, wF, rH]
theorem pt0_4 {G : GG} {M : MS} {v : Nat} {x : Int32} (h : ok 0 v) : ent G (wF M 4 v x) v = .inr (0, (el0 G M v).set 4 (.int x)) := by rw [ent0 h]; simp [el0, rF, wF, rH]
theorem pt0_5 {G : GG} {M : MS} {v : Nat} {x : Int32} (h : ok 0 v) : ent G (wF M 5 v x) v = .inr (0, (el0 G M v).set 5 (.int x)) := by rw [ent0 h]; simp [el0, rF, wF, rH]
theorem pt0_7 {G : GG} {M : MS} {v : Nat} {x : Int32} (h : ok 0 v) : ent G (wF M 7 v x) v = .inr (0, (el0 G M v).set 7 (.int x)) := by rw [ent0 h]; simp [el0, rF, wF, rH]
theorem pt0_8 {G : GG} {M : MS} {v : Nat} {x : Int32} (h : ok 0 v) : ent G (wF M 8 v x) v = .inr (0, (el0 G M v).set 8 (.int x)) := by rw [ent0 h]; simp [el0, rF, wF, rH]
theorem pt0_9 {G : GG} {M : MS} {v : Nat} {x : Int32} (h : ok 0 v) : ent G (wF M 9 v x) v = .inr (0, (el0 G M v).set 9 (.int x)) := by rw [ent0 h]; simp [el0, rF, wF, rH]
theorem pt0_10 {G : GG} {M : MS} {v : Nat} {x : Int32} (h : ok 0 v) : ent G (wF M 10 v x) v = .inr (0, (el0 G M v).set 10 (.int x)) := by rw [ent0 h]; simp [el0, rF, wF, rH]
theorem pt0_11 {G : GG} {M : MS} {v : Nat} {x : Int32} (h : ok 0 v) : ent G (wF M 11 v x) v = .inr (0, (el0 G M v).set 11 (.int x)) := by rw [ent0 h]; simp [el0, rF, wF, rH]
theorem pt0_12 {G : GG} {M : MS} {v : Nat} {x : Int32} (h : ok 0 v) : ent G (wF M 12 v x) v = .inr (0, (el0 G M v).set 12 (.int x)) := by rw [ent0 h]; simp [el0, rF, wF, rH]
theorem pt0_13 {G : GG} {M : MS} {v : Nat} {x : Int32} (h : ok 0 v) : ent G (wF M 13 v x) v = .inr (0, (el0 G M v).set 13 (.int x)) := by rw [ent0 h]; simp [el0, rF, wF, rH]
theorem pt1_1 {G : GG} {M : MS} {v : Nat} {x : Int32} (h : ok 1 v) : ent G (wF M 17 v x) v = .inr (1, (el1 G M v).set 1 (.int x)) := by rw [ent1 h]; simp [el1, rF, wF, rH]
theorem pt2_1 {G : GG} {M : MS} {v : Nat} {x : Int32} (h : ok 2 v) : ent G (wF M 33 v x) v = .inr (2, (el2 G M v).set 1 (.int x)) := by rw [ent2 h]; simp [el2, rF, wF, rH]
theorem pt3_4 {G : GG} {M : MS} {v : Nat} {x : Int32} (h : ok 3 v) : ent G (wF M 52 v x) v = .inr (3, (el3 G M v).set 4 (.int x)) := by rw [ent3 h]; simp [el3, rF, wF, rH]
theorem pt3_5 {G : GG} {M : MS} {v : Nat} {x : Int32} (h : ok 3 v) : ent G (wF M 53 v x) v = .inr (3, (el3 G M v).set 5 (.int x)) := by rw [ent3 h]; simp [el3, rF, wF, rH]
theorem pt3_6 {G : GG} {M : MS} {v : Nat} {x : Int32} (h : ok 3 v) : ent G (wF M 54 v x) v = .inr (3, (el3 G M v).set 6 (.int x)) := by rw [ent3 h]; simp [el3, rF, wF, rH]
theorem pt3_7 {G : GG} {M : MS} {v : Nat} {x : Int32} (h : ok 3 v) : ent G (wF M 55 v x) v = .inr (3, (el3 G M v).set 7 (.int x)) := by rw [ent3 h]; simp [el3, rF, wF, rH]
theorem pt3_8 {G : GG} {M : MS} {v : Nat} {x : Int32} (h : ok 3 v) : ent G (wF M 56 v x) v = .inr (3, (el3 G M v).set 8 (.int x)) := by rw [ent3 h]; simp [el3, rF, wF, rH]
theorem pt3_9 {G : GG} {M : MS} {v : Nat} {x : Int32} (h : ok 3 v) : ent G (wF M 57 v x) v = .inr (3, (el3 G M v).set 9 (.int x)) := by rw [ent3 h]; simp [el3, rF, wF, rH]
theorem pt4_3 {G : GG} {M : MS} {v : Nat} {x : Int32} (h : ok 4 v) : ent G (wF M 67 v x) v = .inr (4, (el4 G M v).set 3 (.int x)) := by rw [ent4 h]; simp [el4, rF, wF, rH]
