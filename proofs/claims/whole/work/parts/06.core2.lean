def wsM (G : GG) (M : MS) : va_W := (List.range 228).map (fun v => (gad G v, ent G M v))
theorem wsM_at {G : GG} {M : MS} {v : Nat} (hv : v < 228) : (wsM G M)[v]? = some (gad G v, ent G M v) := by simp [wsM, hv]
theorem wsM_set {G : GG} {M M' : MS} {v : Nat} {e : va_E} (he : ent G M' v = e) (ho : ∀ u, u < 228 → u ≠ v → ent G M' u = ent G M u) : (wsM G M).set v (gad G v, e) = wsM G M' := by
  refine List.ext_getElem? (fun i => ?_)
  by_cases hi : i < 228
  · by_cases hiv : i = v
    · subst hiv
      rw [List.getElem?_set_self (by simp [wsM, hi]), wsM_at hi, he]
    · rw [List.getElem?_set_ne (Ne.symm hiv), wsM_at hi, wsM_at hi, ho i hi hiv]
  · rw [List.getElem?_eq_none (by simp [wsM]; omega), List.getElem?_eq_none (by simp [wsM]; omega)]
def GD (G : GG) : Prop := ∀ i j, i < 228 → j < 228 → gad G i = gad G j → i = j
def Af (G : GG) (sz : Nat) : Nat → Prop := fun q => (∃ v, v < 228 ∧ q = gad G v) ∨ sz ≤ q
theorem va_D_wsM {G : GG} {M : MS} {A : Nat → Prop} (h : GD G) (hA : ∀ v, v < 228 → A (gad G v)) : va_D A (wsM G M) := by
  have key : ∀ (k : Nat) (q : Nat × va_E), (wsM G M)[k]? = some q → k < 228 ∧ q.1 = gad G k := by
    intro k q hk
    have hl : k < 228 := by have := (List.getElem?_eq_some_iff.mp hk).1; simpa [wsM] using this
    rw [wsM_at hl] at hk
    cases hk
    exact ⟨hl, rfl⟩
  refine ⟨fun i j x y hi hj hxy => ?_, fun k q hk => ?_⟩
  · obtain ⟨h1, h2⟩ := key i x hi
    obtain ⟨h3, h4⟩ := key j y hj
    exact h i j h1 h3 (by rw [← h2, ← h4]; exact hxy)
  · obtain ⟨h1, h2⟩ := key k q hk
    rw [h2]; exact hA k h1
def tysM (G : GG) : List (ClassId × FieldType) := [(G.2.1.1, .int), (G.2.1.2.1, .object RX0), (G.2.1.2.2.1, .object RX3), (G.2.1.2.2.2, .long)]
def Wd (G : GG) (M : MS) (U : State) : Prop := va_K G.1 vwCl (tysM G) U ∧ va_P G.1 vwCl (wsM G M) U.heap ∧ GD G
def MX (G : GG) (M : MS) (s : State) (H : Heap) (locs : List Loc) : Prop := va_K G.1 vwCl (tysM G) s ∧ va_P G.1 vwCl (wsM G M) H ∧ GD G ∧ va_S (Af G s.heap.size) s.heap H locs
theorem MX.D {G : GG} {M : MS} {s : State} {H : Heap} {locs : List Loc} (h : MX G M s H locs) : va_D (Af G s.heap.size) (wsM G M) := va_D_wsM h.2.2.1 (fun v hv => Or.inl ⟨v, hv, rfl⟩)
/-- all words of the tables that any state of the run keeps -/
def TBg : List Cond := lw_tbl.filter goodWord
theorem TBg_in {w : Cond} (h : w ∈ lw_tbl) (g : goodWord w = true) : w ∈ TBg := List.mem_filter.mpr ⟨h, g⟩
theorem TBg_good : ∀ w ∈ TBg, goodWord w = true := fun w h => (List.mem_filter.mp h).2
def WS (y : MethodName) (cc : ByteArray) (n : Nat) (r : Option FieldType) : List Cond := .code y cc n r :: TBg
def CX (p : Program) (s : State) (m : MethodId) (meth : Method) (c : Code) (args : Array Value) (cc : ByteArray) (own : String) (nL : Nat) (ret : Option FieldType) : Prop :=
  p.tables.exec = Jvm.exec ∧ c.code = cc ∧ c.maxLocals = nL ∧ s.vm.findClass own = some m.cls ∧ (∀ w ∈ TBg, w.before args s = true) ∧ meth.sig.returnType = ret ∧ meth.locks = false
theorem fin_TBg {C : String} {T : u_T} {N : Nat} (h : (u_ws C T N).all (fun w => decide (w ∈ lw_tbl) && goodWord w) = true) : ∀ w ∈ u_ws C T N, w ∈ TBg := by
  intro w hw
  have h1 := List.all_eq_true.mp h w hw
  simp only [Bool.and_eq_true, decide_eq_true_eq] at h1
  exact TBg_in h1.1 h1.2
theorem fX0 : ∀ w ∈ u_ws RX0 TX0 14, w ∈ TBg := fin_TBg (by decide +kernel)
theorem fX1 : ∀ w ∈ u_ws RX1 TX1 2, w ∈ TBg := fin_TBg (by decide +kernel)
theorem fX2 : ∀ w ∈ u_ws RX2 TX2 2, w ∈ TBg := fin_TBg (by decide +kernel)
theorem fX3 : ∀ w ∈ u_ws RX3 TX3 10, w ∈ TBg := fin_TBg (by decide +kernel)
theorem fX4 : ∀ w ∈ u_ws RX4 TX4 5, w ∈ TBg := fin_TBg (by decide +kernel)
theorem fX5 : ∀ w ∈ u_ws RX5 TX5 14, w ∈ TBg := fin_TBg (by decide +kernel)
def oka (n v : Nat) : Prop := ok 6 v ∧ ln v = n
theorem ent6n {G : GG} {M : MS} {n v : Nat} (h : oka n v) : ent G M v = .inl (G.2.1.1, n, .inl (rA M v)) := by rw [ent6 h.1, h.2]
theorem oka_c {n v : Nat} (h : (okb 6 v && ln v == n) = true) : oka n v := by
  simp only [Bool.and_eq_true, beq_iff_eq] at h
  exact ⟨ok_of h.1, h.2⟩
theorem oka_cond {v : Nat} (h : ok 0 v) : oka 4 (v + 11) := ⟨ok_cond h, ln_cond h⟩
theorem oka_numbers {v : Nat} (h : ok 2 v) : oka 10 (v + 1) := ⟨ok_numbers h, ln_numbers h⟩
theorem oka_readiers {v : Nat} (h : ok 3 v) : oka 10 (v + 4) := ⟨ok_readiers h, ln_readiers h⟩
theorem oka_codes {v : Nat} (h : ok 1 v) : oka 60 (v + 1) := ⟨ok_codes h, ln_codes h⟩
/-- writing a field: the other cells stay -/
theorem ent_wF_ne {G : GG} {M : MS} {c v u : Nat} {x : Int32} (h : u ≠ v) : ent G (wF M c v x) u = ent G M u := by
  have e : ∀ c', rF (wF M c v x) c' u = rF M c' u := fun c' => by simp [rF, wF, h]
  have e2 : rA (wF M c v x) u = rA M u := rfl
  have e3 : rS (wF M c v x) = rS M := rfl
  have e4 : rH (wF M c v x) = rH M := rfl
  have e5 : rO (wF M c v x) = rO M := rfl
  simp only [ent, el0, el1, el2, el3, el4, el5, e, e2, e3, e4, e5]
theorem ent_wA_ne {G : GG} {M : MS} {v i u : Nat} {x : Int32} (h : u ≠ v) : ent G (wA M v i x) u = ent G M u := by
  have e : ∀ c', rF (wA M v i x) c' u = rF M c' u := fun c' => rfl
  have e2 : rA (wA M v i x) u = rA M u := by simp [rA, wA, h]
  have e3 : rS (wA M v i x) = rS M := rfl
  have e4 : rH (wA M v i x) = rH M := rfl
  have e5 : rO (wA M v i x) = rO M := rfl
  simp only [ent, el0, el1, el2, el3, el4, el5, e, e2, e3, e4, e5]
theorem ent_wC_ne {G : GG} {M : MS} {v w a b n u : Nat} (h : u ≠ w) : ent G (wC M v w a b n) u = ent G M u := by
  have e : ∀ c', rF (wC M v w a b n) c' u = rF M c' u := fun c' => rfl
  have e2 : rA (wC M v w a b n) u = rA M u := by simp [rA, wC, h]
  have e3 : rS (wC M v w a b n) = rS M := rfl
  have e4 : rH (wC M v w a b n) = rH M := rfl
  have e5 : rO (wC M v w a b n) = rO M := rfl
  simp only [ent, el0, el1, el2, el3, el4, el5, e, e2, e3, e4, e5]
theorem kd8_is {v : Nat} (h : ok 8 v) : v = 217 := by
  have e : (List.range 228).all (fun v => !(kd v == 8) || v == 217) = true := by decide +kernel
  have h1 := List.all_eq_true.mp e v (List.mem_range.mpr h.1)
  simpa [h.2] using h1
theorem ent_wS_ne {G : GG} {M : MS} {i k u : Nat} (h : u < 228) (hu : u ≠ 217) : ent G (wS M i k) u = ent G M u := by
  have hk : kd u ≠ 8 := fun q => hu (kd8_is ⟨h, q⟩)
  have e : ∀ c', rF (wS M i k) c' u = rF M c' u := fun c' => rfl
  have e2 : rA (wS M i k) u = rA M u := rfl
  have e4 : rH (wS M i k) = rH M := rfl
  have e5 : rO (wS M i k) = rO M := rfl
  simp only [ent, el0, el1, el2, el3, el4, el5, e, e2, e4, e5, if_neg hk]
theorem kd5_is {v : Nat} (h : ok 5 v) : v = 220 := by
  have e : (List.range 228).all (fun v => !(kd v == 5) || v == 220) = true := by decide +kernel
  have h1 := List.all_eq_true.mp e v (List.mem_range.mpr h.1)
  simpa [h.2] using h1
theorem ent_wH_ne {G : GG} {M : MS} {x : Int64} {u : Nat} (h : u < 228) (hu : u ≠ 220) : ent G (wH M x) u = ent G M u := by
  have hk : kd u ≠ 5 := fun q => hu (kd5_is ⟨h, q⟩)
  have e : ∀ c', rF (wH M x) c' u = rF M c' u := fun c' => rfl
  have e2 : rA (wH M x) u = rA M u := rfl
  have e3 : rS (wH M x) = rS M := rfl
  have e5 : rO (wH M x) = rO M := rfl
  simp only [ent, el0, el1, el2, el3, el4, e, e2, e3, e5, if_neg hk]
theorem kd9_is {v : Nat} (h : ok 9 v) : v = 227 := by
  have e : (List.range 228).all (fun v => !(kd v == 9) || v == 227) = true := by decide +kernel
  have h1 := List.all_eq_true.mp e v (List.mem_range.mpr h.1)
  simpa [h.2] using h1
theorem kd_le9 {v : Nat} (h : v < 228) : kd v ≤ 9 := by
  have e : (List.range 228).all (fun v => decide (kd v ≤ 9)) = true := by decide +kernel
  simpa using List.all_eq_true.mp e v (List.mem_range.mpr h)
theorem ent_wO_ne {G : GG} {M : MS} {x : Int64} {u : Nat} (h : u < 228) (hu : u ≠ 227) : ent G (wO M x) u = ent G M u := by
  have hk : kd u ≠ 9 := fun q => hu (kd9_is ⟨h, q⟩)
  have h9 := kd_le9 h
  have e : ∀ c', rF (wO M x) c' u = rF M c' u := fun c' => rfl
  have e2 : rA (wO M x) u = rA M u := rfl
  have e3 : rS (wO M x) = rS M := rfl
  have e4 : rH (wO M x) = rH M := rfl
  have h10 : kd u = 0 ∨ kd u = 1 ∨ kd u = 2 ∨ kd u = 3 ∨ kd u = 4 ∨ kd u = 5 ∨ kd u = 6 ∨ kd u = 7 ∨ kd u = 8 := by omega
  rcases h10 with q | q | q | q | q | q | q | q | q <;> simp [ent, q, el0, el1, el2, el3, el4, el5, e, e2, e3, e4]
theorem rF_self {M : MS} {c v : Nat} {x : Int32} : rF (wF M c v x) c v = x := by simp [rF, wF]
theorem rF_nec {M : MS} {c c' v v' : Nat} {x : Int32} (h : c' ≠ c) : rF (wF M c v x) c' v' = rF M c' v' := by simp [rF, wF, h]
/-- what a write of an int field makes of the cell's list -/
def elk (ci : Nat) (G : GG) (M : MS) (v : Nat) : List Value := match ci with
  | 0 => el0 G M v
  | 1 => el1 G M v
  | 2 => el2 G M v
  | 3 => el3 G M v
  | 4 => el4 G M v
  | _ => el5 G M v
theorem pt0_0 {G : GG} {M : MS} {v : Nat} {x : Int32} (h : ok 0 v) : ent G (wF M 0 v x) v = .inr (0, (el0 G M v).set 0 (.int x)) := by rw [ent0 h]; simp [el0, rF, wF, rH]
theorem pt0_1 {G : GG} {M : MS} {v : Nat} {x : Int32} (h : ok 0 v) : ent G (wF M 1 v x) v = .inr (0, (el0 G M v).set 1 (.int x)) := by rw [ent0 h]; simp [el0, rF, wF, rH]
theorem pt0_2 {G : GG} {M : MS} {v : Nat} {x : Int32} (h : ok 0 v) : ent G (wF M 2 v x) v = .inr (0, (el0 G M v).set 2 (.int x)) := by rw [ent0 h]; simp [el0, rF, wF, rH]
theorem pt0_3 {G : GG} {M : MS} {v : Nat} {x : Int32} (h : ok 0 v) : ent G (wF M 3 v x) v = .inr (0, (el0 G M v).set 3 (.int x)) := by rw [ent0 h]; simp [el0, rF, wF, rH]
theorem pt0_4 {G : GG} {M : MS} {v : Nat} {x : Int32} (h : ok 0 v) : ent G (wF M 4 v x) v = .inr (0, (el0 G M v).set 4 (.int x)) := by rw [ent0 h]; simp [el0, rF, wF, rH]
theorem pt0_5 {G : GG} {M : MS} {v : Nat} {x : Int32} (h : ok 0 v) : ent G (wF M 5 v x) v = .inr (0, (el0 G M v).set 5 (.int x)) := by rw [ent0 h]; simp [el0, rF, wF, rH]
theorem pt0_7 {G : GG} {M : MS} {v : Nat} {x : Int32} (h : ok 0 v) : ent G (wF M 7 v x) v = .inr (0, (el0 G M v).set 7 (.int x)) := by rw [ent0 h]; simp [el0, rF, wF, rH]
theorem pt0_8 {G : GG} {M : MS} {v : Nat} {x : Int32} (h : ok 0 v) : ent G (wF M 8 v x) v = .inr (0, (el0 G M v).set 8 (.int x)) := by rw [ent0 h]; simp [el0, rF, wF, rH]
theorem pt0_9 {G : GG} {M : MS} {v : Nat} {x : Int32} (h : ok 0 v) : ent G (wF M 9 v x) v = .inr (0, (el0 G M v).set 9 (.int x)) := by rw [ent0 h]; simp [el0, rF, wF, rH]
theorem pt0_10 {G : GG} {M : MS} {v : Nat} {x : Int32} (h : ok 0 v) : ent G (wF M 10 v x) v = .inr (0, (el0 G M v).set 10 (.int x)) := by rw [ent0 h]; simp [el0, rF, wF, rH]
theorem pt0_11 {G : GG} {M : MS} {v : Nat} {x : Int32} (h : ok 0 v) : ent G (wF M 11 v x) v = .inr (0, (el0 G M v).set 11 (.int x)) := by rw [ent0 h]; simp [el0, rF, wF, rH]
theorem pt0_12 {G : GG} {M : MS} {v : Nat} {x : Int32} (h : ok 0 v) : ent G (wF M 12 v x) v = .inr (0, (el0 G M v).set 12 (.int x)) := by rw [ent0 h]; simp [el0, rF, wF, rH]
theorem pt0_13 {G : GG} {M : MS} {v : Nat} {x : Int32} (h : ok 0 v) : ent G (wF M 13 v x) v = .inr (0, (el0 G M v).set 13 (.int x)) := by rw [ent0 h]; simp [el0, rF, wF, rH]
theorem pt1_1 {G : GG} {M : MS} {v : Nat} {x : Int32} (h : ok 1 v) : ent G (wF M 17 v x) v = .inr (1, (el1 G M v).set 1 (.int x)) := by rw [ent1 h]; simp [el1, rF, wF, rH]
theorem pt2_1 {G : GG} {M : MS} {v : Nat} {x : Int32} (h : ok 2 v) : ent G (wF M 33 v x) v = .inr (2, (el2 G M v).set 1 (.int x)) := by rw [ent2 h]; simp [el2, rF, wF, rH]
theorem pt3_4 {G : GG} {M : MS} {v : Nat} {x : Int32} (h : ok 3 v) : ent G (wF M 52 v x) v = .inr (3, (el3 G M v).set 4 (.int x)) := by rw [ent3 h]; simp [el3, rF, wF, rH]
theorem pt3_5 {G : GG} {M : MS} {v : Nat} {x : Int32} (h : ok 3 v) : ent G (wF M 53 v x) v = .inr (3, (el3 G M v).set 5 (.int x)) := by rw [ent3 h]; simp [el3, rF, wF, rH]
theorem pt3_6 {G : GG} {M : MS} {v : Nat} {x : Int32} (h : ok 3 v) : ent G (wF M 54 v x) v = .inr (3, (el3 G M v).set 6 (.int x)) := by rw [ent3 h]; simp [el3, rF, wF, rH]
theorem pt3_7 {G : GG} {M : MS} {v : Nat} {x : Int32} (h : ok 3 v) : ent G (wF M 55 v x) v = .inr (3, (el3 G M v).set 7 (.int x)) := by rw [ent3 h]; simp [el3, rF, wF, rH]
theorem pt3_8 {G : GG} {M : MS} {v : Nat} {x : Int32} (h : ok 3 v) : ent G (wF M 56 v x) v = .inr (3, (el3 G M v).set 8 (.int x)) := by rw [ent3 h]; simp [el3, rF, wF, rH]
theorem pt3_9 {G : GG} {M : MS} {v : Nat} {x : Int32} (h : ok 3 v) : ent G (wF M 57 v x) v = .inr (3, (el3 G M v).set 9 (.int x)) := by rw [ent3 h]; simp [el3, rF, wF, rH]
theorem pt4_3 {G : GG} {M : MS} {v : Nat} {x : Int32} (h : ok 4 v) : ent G (wF M 67 v x) v = .inr (4, (el4 G M v).set 3 (.int x)) := by rw [ent4 h]; simp [el4, rF, wF, rH]
theorem pt5_0 {G : GG} {M : MS} {v : Nat} {x : Int32} (h : ok 5 v) : ent G (wF M 80 v x) v = .inr (5, (el5 G M v).set 0 (.int x)) := by rw [ent5 h]; simp [el5, rF, wF, rH]
theorem pt5_3 {G : GG} {M : MS} {v : Nat} {x : Int32} (h : ok 5 v) : ent G (wF M 83 v x) v = .inr (5, (el5 G M v).set 3 (.int x)) := by rw [ent5 h]; simp [el5, rF, wF, rH]
theorem pt5_6 {G : GG} {M : MS} {v : Nat} {x : Int32} (h : ok 5 v) : ent G (wF M 86 v x) v = .inr (5, (el5 G M v).set 6 (.int x)) := by rw [ent5 h]; simp [el5, rF, wF, rH]
theorem pt5_8 {G : GG} {M : MS} {v : Nat} {x : Int32} (h : ok 5 v) : ent G (wF M 88 v x) v = .inr (5, (el5 G M v).set 8 (.int x)) := by rw [ent5 h]; simp [el5, rF, wF, rH]
theorem pt5_10 {G : GG} {M : MS} {v : Nat} {x : Int32} (h : ok 5 v) : ent G (wF M 90 v x) v = .inr (5, (el5 G M v).set 10 (.int x)) := by rw [ent5 h]; simp [el5, rF, wF, rH]
theorem pt5_11 {G : GG} {M : MS} {v : Nat} {x : Int32} (h : ok 5 v) : ent G (wF M 91 v x) v = .inr (5, (el5 G M v).set 11 (.int x)) := by rw [ent5 h]; simp [el5, rF, wF, rH]
theorem pt5_12 {G : GG} {M : MS} {v : Nat} {x : Int32} (h : ok 5 v) : ent G (wF M 92 v x) v = .inr (5, (el5 G M v).set 12 (.int x)) := by rw [ent5 h]; simp [el5, rF, wF, rH]
