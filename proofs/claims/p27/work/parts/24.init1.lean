theorem u_sub {D : va_G} {tys tys' : List (ClassId × FieldType)} {ws : va_W} {s : State} {H : Heap} {locs : List Loc} {A : Nat → Prop} (hL : LX D tys ws s H locs A) (is : List Nat) (h : is.filterMap (fun i => tys[i]?) = tys') : LX D tys' ws s H locs A := ⟨hL.1.sub is h, hL.2⟩
theorem u_reo {D : va_G} {tys : List (ClassId × FieldType)} {ws ws' : va_W} {s : State} {H : Heap} {locs : List Loc} {A : Nat → Prop} (hL : LX D tys ws s H locs A) (is : List Nat) (hn : va_nd is = true) (h : is.map (fun i => ws[i]?) = ws'.map some) : LX D tys ws' s H locs A := by
  obtain ⟨h1, h2, h3, h4, h5⟩ := hL
  refine ⟨h1, va_P_in h2 (fun q hq => ?_), h3.sub is hn h, h4, h5⟩
  have h6 : some q ∈ is.map (fun i => ws[i]?) := by rw [h]; exact List.mem_map.mpr ⟨q, hq, rfl⟩
  obtain ⟨i, -, hi⟩ := List.mem_map.mp h6
  exact List.mem_of_getElem? hi
theorem u_arr {D : va_G} {tys : List (ClassId × FieldType)} {ws : va_W} {s : State} {H : Heap} {locs : List Loc} {A : Nat → Prop} {a n : Nat} {cA : ClassId} {f : Nat → Option Nat} (hL : LX D tys ws s H locs A) (p0 : Nat) (hp : ws[p0]? = some (a, .inl (cA, n, .inr (.inr (.inr (.inr f)))))) (g : Nat → Option Nat) (h : ∀ i, i < n → f i = g i) : LX D tys (ws.set p0 (a, .inl (cA, n, .inr (.inr (.inr (.inr g)))))) s H locs A :=
  ⟨hL.1, va_P_arr hL.2.1 hL.2.2.1 hp h, hL.2.2.1.set hp, hL.2.2.2⟩
set_option maxHeartbeats 4000000 in
set_option maxRecDepth 100000 in
theorem k_X0_init (l : Launch) (D : va_G) (q0 : Nat) : KC l yX0_init (WS yX0_init cX0_init 1 none) (RmC 1 1 4) D q0 (.inr (0, [.int 0, .int 0, .int 0, .int 0, .int 0, .int 0, .null, .int 0, .int 0, .int 0, .int 0, .int 0, .int 0, .int 0])) 1 4 (fun _ : Nat × ClassId => True) (fun u : Nat × ClassId => [(q0, .inr (0, [.int 0, .int 0, .int 0, .int 0, .int 0, .int 0, .ref u.1, .int 0, .int (-1 : Int32), .int (-1 : Int32), .int (-1 : Int32), .int (-1 : Int32), .int 0, .int 0])), (u.1, .inl (u.2, 4, .inl (fun _ => 0)))]) (fun u : Nat × ClassId => [(u.2, .int)]) := by
  refine u_met (by decide +kernel) (by decide) rfl (fun sz p e s m below meth c ls C0 hin hN hL hsz hl => ?_)
  have C0 : CX p s m meth c #[.ref q0] cX0_init RX0 1 none := C0
  have hL : LX D [] [(q0, .inr (0, [.int 0, .int 0, .int 0, .int 0, .int 0, .int 0, .null, .int 0, .int 0, .int 0, .int 0, .int 0, .int 0, .int 0]))] s s.heap [] (va_A [(q0, .inr (0, [.int 0, .int 0, .int 0, .int 0, .int 0, .int 0, .null, .int 0, .int 0, .int 0, .int 0, .int 0, .int 0, .int 0]))] sz) := hL
  refine lv_aload_n C0.1 C0.2.1 dX0_init_0 rfl (lv_at hl 0 rfl) ?_
  refine u_obj C0 hl.1 (tbx [39, 25, 26] (by decide +kernel) (by decide +kernel)) dX0_init_1 (Nat.le_of_ble_eq_true rfl) (by decide) ?_
  refine lv_aload_n C0.1 C0.2.1 dX0_init_4 rfl (lv_at hl 0 rfl) ?_
  refine lv_iconst (v := (4 : Int32)) C0.1 C0.2.1 dX0_init_5 (by decide) ?_
  refine u_newa (N' := 4) C0 hL (tb1 96 (by decide +kernel) (by decide +kernel)) (by decide) (by decide) (by decide) (Nat.le_of_ble_eq_true rfl) (Nat.le_of_ble_eq_true rfl) dX0_init_6 (fun q1 t2 H hL => ?_)
  have hL : LX D [(t2, .int)] [(q1, .inl (t2, 4, .inl (fun _ => 0))), (q0, .inr (0, [.int 0, .int 0, .int 0, .int 0, .int 0, .int 0, .null, .int 0, .int 0, .int 0, .int 0, .int 0, .int 0, .int 0]))] s H [] (va_A [(q0, .inr (0, [.int 0, .int 0, .int 0, .int 0, .int 0, .int 0, .null, .int 0, .int 0, .int 0, .int 0, .int 0, .int 0, .int 0]))] sz) := hL
  refine u_put (ty := .array .int) (val := .ref q1) C0 hL 1 rfl rfl fX0 tyX0 tyX0_ok nmX0 6 (by decide) (tb1 52 (by decide +kernel) (by decide +kernel)) (Or.inr ⟨rfl, hin, rfl⟩) (by decide +kernel) rfl rfl (Nat.le_of_ble_eq_true rfl) dX0_init_8 (fun H locs hL => ?_)
  have hL : LX D [(t2, .int)] [(q1, .inl (t2, 4, .inl (fun _ => 0))), (q0, .inr (0, [.int 0, .int 0, .int 0, .int 0, .int 0, .int 0, .ref q1, .int 0, .int 0, .int 0, .int 0, .int 0, .int 0, .int 0]))] s H locs (va_A [(q0, .inr (0, [.int 0, .int 0, .int 0, .int 0, .int 0, .int 0, .null, .int 0, .int 0, .int 0, .int 0, .int 0, .int 0, .int 0]))] sz) := hL
  refine lv_aload_n C0.1 C0.2.1 dX0_init_11 rfl (lv_at hl 0 rfl) ?_
  refine lv_iconst (v := (-1 : Int32)) C0.1 C0.2.1 dX0_init_12 (by decide) ?_
  refine u_put (ty := .int) (val := .int (-1 : Int32)) C0 hL 1 rfl rfl fX0 tyX0 tyX0_ok nmX0 8 (by decide) (tb1 55 (by decide +kernel) (by decide +kernel)) (Or.inl rfl) (by decide +kernel) rfl rfl (Nat.le_of_ble_eq_true rfl) dX0_init_13 (fun H locs hL => ?_)
  have hL : LX D [(t2, .int)] [(q1, .inl (t2, 4, .inl (fun _ => 0))), (q0, .inr (0, [.int 0, .int 0, .int 0, .int 0, .int 0, .int 0, .ref q1, .int 0, .int (-1 : Int32), .int 0, .int 0, .int 0, .int 0, .int 0]))] s H locs (va_A [(q0, .inr (0, [.int 0, .int 0, .int 0, .int 0, .int 0, .int 0, .null, .int 0, .int 0, .int 0, .int 0, .int 0, .int 0, .int 0]))] sz) := hL
  refine lv_aload_n C0.1 C0.2.1 dX0_init_16 rfl (lv_at hl 0 rfl) ?_
  refine lv_iconst (v := (-1 : Int32)) C0.1 C0.2.1 dX0_init_17 (by decide) ?_
  refine u_put (ty := .int) (val := .int (-1 : Int32)) C0 hL 1 rfl rfl fX0 tyX0 tyX0_ok nmX0 9 (by decide) (tb1 57 (by decide +kernel) (by decide +kernel)) (Or.inl rfl) (by decide +kernel) rfl rfl (Nat.le_of_ble_eq_true rfl) dX0_init_18 (fun H locs hL => ?_)
  have hL : LX D [(t2, .int)] [(q1, .inl (t2, 4, .inl (fun _ => 0))), (q0, .inr (0, [.int 0, .int 0, .int 0, .int 0, .int 0, .int 0, .ref q1, .int 0, .int (-1 : Int32), .int (-1 : Int32), .int 0, .int 0, .int 0, .int 0]))] s H locs (va_A [(q0, .inr (0, [.int 0, .int 0, .int 0, .int 0, .int 0, .int 0, .null, .int 0, .int 0, .int 0, .int 0, .int 0, .int 0, .int 0]))] sz) := hL
  refine lv_aload_n C0.1 C0.2.1 dX0_init_21 rfl (lv_at hl 0 rfl) ?_
  refine lv_iconst (v := (-1 : Int32)) C0.1 C0.2.1 dX0_init_22 (by decide) ?_
  refine u_put (ty := .int) (val := .int (-1 : Int32)) C0 hL 1 rfl rfl fX0 tyX0 tyX0_ok nmX0 10 (by decide) (tb1 59 (by decide +kernel) (by decide +kernel)) (Or.inl rfl) (by decide +kernel) rfl rfl (Nat.le_of_ble_eq_true rfl) dX0_init_23 (fun H locs hL => ?_)
  have hL : LX D [(t2, .int)] [(q1, .inl (t2, 4, .inl (fun _ => 0))), (q0, .inr (0, [.int 0, .int 0, .int 0, .int 0, .int 0, .int 0, .ref q1, .int 0, .int (-1 : Int32), .int (-1 : Int32), .int (-1 : Int32), .int 0, .int 0, .int 0]))] s H locs (va_A [(q0, .inr (0, [.int 0, .int 0, .int 0, .int 0, .int 0, .int 0, .null, .int 0, .int 0, .int 0, .int 0, .int 0, .int 0, .int 0]))] sz) := hL
  refine lv_aload_n C0.1 C0.2.1 dX0_init_26 rfl (lv_at hl 0 rfl) ?_
  refine lv_iconst (v := (-1 : Int32)) C0.1 C0.2.1 dX0_init_27 (by decide) ?_
  refine u_put (ty := .int) (val := .int (-1 : Int32)) C0 hL 1 rfl rfl fX0 tyX0 tyX0_ok nmX0 11 (by decide) (tb1 61 (by decide +kernel) (by decide +kernel)) (Or.inl rfl) (by decide +kernel) rfl rfl (Nat.le_of_ble_eq_true rfl) dX0_init_28 (fun H locs hL => ?_)
  have hL : LX D [(t2, .int)] [(q1, .inl (t2, 4, .inl (fun _ => 0))), (q0, .inr (0, [.int 0, .int 0, .int 0, .int 0, .int 0, .int 0, .ref q1, .int 0, .int (-1 : Int32), .int (-1 : Int32), .int (-1 : Int32), .int (-1 : Int32), .int 0, .int 0]))] s H locs (va_A [(q0, .inr (0, [.int 0, .int 0, .int 0, .int 0, .int 0, .int 0, .null, .int 0, .int 0, .int 0, .int 0, .int 0, .int 0, .int 0]))] sz) := hL
  have hL := u_reo (ws' := [(q0, .inr (0, [.int 0, .int 0, .int 0, .int 0, .int 0, .int 0, .ref q1, .int 0, .int (-1 : Int32), .int (-1 : Int32), .int (-1 : Int32), .int (-1 : Int32), .int 0, .int 0])), (q1, .inl (t2, 4, .inl (fun _ => 0)))]) hL [1, 0] (by decide) rfl
  exact u_ret (q1, t2) C0 hL trivial hsz dX0_init_31
set_option maxHeartbeats 4000000 in
set_option maxRecDepth 100000 in
theorem k_X2_init (l : Launch) (D : va_G) (q0 : Nat) : KC l yX2_init (WS yX2_init cX2_init 1 none) (RmC 1 1 10) D q0 (.inr (2, [.null, .int 0])) 1 10 (fun _ : Nat × ClassId => True) (fun u : Nat × ClassId => [(q0, .inr (2, [.ref u.1, .int (0 : Int32)])), (u.1, .inl (u.2, 10, .inl (fun _ => 0)))]) (fun u : Nat × ClassId => [(u.2, .int)]) := by
  refine u_met (by decide +kernel) (by decide) rfl (fun sz p e s m below meth c ls C0 hin hN hL hsz hl => ?_)
  have C0 : CX p s m meth c #[.ref q0] cX2_init RX2 1 none := C0
  have hL : LX D [] [(q0, .inr (2, [.null, .int 0]))] s s.heap [] (va_A [(q0, .inr (2, [.null, .int 0]))] sz) := hL
  refine lv_aload_n C0.1 C0.2.1 dX2_init_0 rfl (lv_at hl 0 rfl) ?_
  refine u_obj C0 hl.1 (tbx [102, 25, 26] (by decide +kernel) (by decide +kernel)) dX2_init_1 (Nat.le_of_ble_eq_true rfl) (by decide) ?_
  refine lv_aload_n C0.1 C0.2.1 dX2_init_4 rfl (lv_at hl 0 rfl) ?_
  refine lv_bipush (v := (10 : Int32)) C0.1 C0.2.1 dX2_init_5 (by decide) ?_
  refine u_newa (N' := 10) C0 hL (tb1 96 (by decide +kernel) (by decide +kernel)) (by decide) (by decide) (by decide) (Nat.le_of_ble_eq_true rfl) (Nat.le_of_ble_eq_true rfl) dX2_init_7 (fun q1 t2 H hL => ?_)
  have hL : LX D [(t2, .int)] [(q1, .inl (t2, 10, .inl (fun _ => 0))), (q0, .inr (2, [.null, .int 0]))] s H [] (va_A [(q0, .inr (2, [.null, .int 0]))] sz) := hL
  refine u_put (ty := .array .int) (val := .ref q1) C0 hL 1 rfl rfl fX2 tyX2 tyX2_ok nmX2 0 (by decide) (tb1 103 (by decide +kernel) (by decide +kernel)) (Or.inr ⟨rfl, hin, rfl⟩) (by decide +kernel) rfl rfl (Nat.le_of_ble_eq_true rfl) dX2_init_9 (fun H locs hL => ?_)
  have hL : LX D [(t2, .int)] [(q1, .inl (t2, 10, .inl (fun _ => 0))), (q0, .inr (2, [.ref q1, .int 0]))] s H locs (va_A [(q0, .inr (2, [.null, .int 0]))] sz) := hL
  refine lv_aload_n C0.1 C0.2.1 dX2_init_12 rfl (lv_at hl 0 rfl) ?_
  refine lv_iconst (v := (0 : Int32)) C0.1 C0.2.1 dX2_init_13 (by decide) ?_
  refine u_put (ty := .int) (val := .int (0 : Int32)) C0 hL 1 rfl rfl fX2 tyX2 tyX2_ok nmX2 1 (by decide) (tb1 104 (by decide +kernel) (by decide +kernel)) (Or.inl rfl) (by decide +kernel) rfl rfl (Nat.le_of_ble_eq_true rfl) dX2_init_14 (fun H locs hL => ?_)
  have hL : LX D [(t2, .int)] [(q1, .inl (t2, 10, .inl (fun _ => 0))), (q0, .inr (2, [.ref q1, .int (0 : Int32)]))] s H locs (va_A [(q0, .inr (2, [.null, .int 0]))] sz) := hL
  have hL := u_reo (ws' := [(q0, .inr (2, [.ref q1, .int (0 : Int32)])), (q1, .inl (t2, 10, .inl (fun _ => 0)))]) hL [1, 0] (by decide) rfl
  exact u_ret (q1, t2) C0 hL trivial hsz dX2_init_17
set_option maxHeartbeats 4000000 in
set_option maxRecDepth 100000 in
theorem k_X1_init (l : Launch) (D : va_G) (q0 : Nat) : KC l yX1_init (WS yX1_init cX1_init 1 none) (RmC 1 1 60) D q0 (.inr (1, [.null, .int 0])) 1 60 (fun _ : Nat × ClassId => True) (fun u : Nat × ClassId => [(q0, .inr (1, [.ref u.1, .int (0 : Int32)])), (u.1, .inl (u.2, 60, .inl (fun _ => 0)))]) (fun u : Nat × ClassId => [(u.2, .int)]) := by
  refine u_met (by decide +kernel) (by decide) rfl (fun sz p e s m below meth c ls C0 hin hN hL hsz hl => ?_)
  have C0 : CX p s m meth c #[.ref q0] cX1_init RX1 1 none := C0
  have hL : LX D [] [(q0, .inr (1, [.null, .int 0]))] s s.heap [] (va_A [(q0, .inr (1, [.null, .int 0]))] sz) := hL
  refine lv_aload_n C0.1 C0.2.1 dX1_init_0 rfl (lv_at hl 0 rfl) ?_
  refine u_obj C0 hl.1 (tbx [151, 25, 26] (by decide +kernel) (by decide +kernel)) dX1_init_1 (Nat.le_of_ble_eq_true rfl) (by decide) ?_
  refine lv_aload_n C0.1 C0.2.1 dX1_init_4 rfl (lv_at hl 0 rfl) ?_
  refine lv_bipush (v := (60 : Int32)) C0.1 C0.2.1 dX1_init_5 (by decide) ?_
  refine u_newa (N' := 60) C0 hL (tb1 96 (by decide +kernel) (by decide +kernel)) (by decide) (by decide) (by decide) (Nat.le_of_ble_eq_true rfl) (Nat.le_of_ble_eq_true rfl) dX1_init_7 (fun q1 t2 H hL => ?_)
  have hL : LX D [(t2, .int)] [(q1, .inl (t2, 60, .inl (fun _ => 0))), (q0, .inr (1, [.null, .int 0]))] s H [] (va_A [(q0, .inr (1, [.null, .int 0]))] sz) := hL
  refine u_put (ty := .array .int) (val := .ref q1) C0 hL 1 rfl rfl fX1 tyX1 tyX1_ok nmX1 0 (by decide) (tb1 152 (by decide +kernel) (by decide +kernel)) (Or.inr ⟨rfl, hin, rfl⟩) (by decide +kernel) rfl rfl (Nat.le_of_ble_eq_true rfl) dX1_init_9 (fun H locs hL => ?_)
  have hL : LX D [(t2, .int)] [(q1, .inl (t2, 60, .inl (fun _ => 0))), (q0, .inr (1, [.ref q1, .int 0]))] s H locs (va_A [(q0, .inr (1, [.null, .int 0]))] sz) := hL
  refine lv_aload_n C0.1 C0.2.1 dX1_init_12 rfl (lv_at hl 0 rfl) ?_
  refine lv_iconst (v := (0 : Int32)) C0.1 C0.2.1 dX1_init_13 (by decide) ?_
  refine u_put (ty := .int) (val := .int (0 : Int32)) C0 hL 1 rfl rfl fX1 tyX1 tyX1_ok nmX1 1 (by decide) (tb1 153 (by decide +kernel) (by decide +kernel)) (Or.inl rfl) (by decide +kernel) rfl rfl (Nat.le_of_ble_eq_true rfl) dX1_init_14 (fun H locs hL => ?_)
  have hL : LX D [(t2, .int)] [(q1, .inl (t2, 60, .inl (fun _ => 0))), (q0, .inr (1, [.ref q1, .int (0 : Int32)]))] s H locs (va_A [(q0, .inr (1, [.null, .int 0]))] sz) := hL
  have hL := u_reo (ws' := [(q0, .inr (1, [.ref q1, .int (0 : Int32)])), (q1, .inl (t2, 60, .inl (fun _ => 0)))]) hL [1, 0] (by decide) rfl
  exact u_ret (q1, t2) C0 hL trivial hsz dX1_init_17
