theorem u_tl (x y : Nat × va_E) (T : va_W) (ad : Nat → Nat) (tI tF : ClassId) : ([x, y] ++ (T ++ blkW ad tI tF))[2 + T.length]? = some (ad 0, .inr (3, [.ref (ad 1), .ref (ad 15), .ref (ad 2), .ref (ad 4), .int 0, .int 0, .int (-1), .int 0, .int 0, .int 0])) := by
  rw [List.getElem?_append_right (by simp), List.getElem?_append_right (by simp)]
  simp [blkW, blkE]
def ttW (q0 : Nat) (u : (Nat → Nat → Nat) × Nat × Nat × Nat × ClassId × ClassId × ClassId) : va_W := [(u.2.1, .inl (u.2.2.2.2.2.2, 6, .inr (.inr (.inr (.inr (fun i => some (u.1 (i + 2) 0))))))), (q0, .inr (4, [.ref (u.1 0 0), .ref (u.1 1 0), .ref u.2.1, .int (0 : Int32), .ref u.2.2.1]))] ++ ((((((((blkW (u.1 0) u.2.2.2.2.1 u.2.2.2.2.2.1 ++ blkW (u.1 1) u.2.2.2.2.1 u.2.2.2.2.2.1) ++ [(u.2.2.1, .inr (1, [.ref u.2.2.2.1, .int (0 : Int32)])), (u.2.2.2.1, .inl (u.2.2.2.2.1, 60, .inl (fun _ => 0)))]) ++ blkW (u.1 2) u.2.2.2.2.1 u.2.2.2.2.2.1) ++ blkW (u.1 3) u.2.2.2.2.1 u.2.2.2.2.2.1) ++ blkW (u.1 4) u.2.2.2.2.1 u.2.2.2.2.2.1) ++ blkW (u.1 5) u.2.2.2.2.1 u.2.2.2.2.2.1) ++ blkW (u.1 6) u.2.2.2.2.1 u.2.2.2.2.2.1) ++ blkW (u.1 7) u.2.2.2.2.1 u.2.2.2.2.2.1)
set_option maxHeartbeats 4000000 in
set_option maxRecDepth 100000 in
theorem k_X4_init (l : Launch) (D : va_G) (q0 : Nat) : KC l yX4_init (WS yX4_init cX4_init 2 none) (RmC 3 219 1988) D q0 (.inr (4, [.null, .null, .null, .int 0, .null])) 219 1988 (fun _ : (Nat → Nat → Nat) × Nat × Nat × Nat × ClassId × ClassId × ClassId => True) (ttW q0) (fun u => [(u.2.2.2.2.1, .int), (u.2.2.2.2.2.1, .object RX0), (u.2.2.2.2.2.2, .object RX3)]) := by
  refine u_met (by decide +kernel) (by decide) rfl (fun sz p e s m below meth c ls C0 hin hN hL hsz hl => ?_)
  have C0 : CX p s m meth c #[.ref q0] cX4_init RX4 2 none := C0
  have hL : LX D [] [(q0, .inr (4, [.null, .null, .null, .int 0, .null]))] s s.heap [] (va_A [(q0, .inr (4, [.null, .null, .null, .int 0, .null]))] sz) := hL
  refine lv_aload_n C0.1 C0.2.1 dX4_init_0 rfl (lv_at hl 0 rfl) ?_
  refine u_obj C0 hl.1 (tbx [24, 25, 26] (by decide +kernel) (by decide +kernel)) dX4_init_1 (Nat.le_of_ble_eq_true rfl) (by decide) ?_
  refine lv_aload_n C0.1 C0.2.1 dX4_init_4 rfl (lv_at hl 0 rfl) ?_
  refine u_new (C := RX3) (T := TX3) (N := 10) (ci := 3) (fs := [.null, .null, .null, .null, .int 0, .int 0, .int 0, .int 0, .int 0, .int 0]) C0 hL fX3 tyX3 tyX3_ok (tbx [27, 28, 7] (by decide +kernel) (by decide +kernel)) rfl (fun j hj => by rcases (show j = 0 ∨ j = 1 ∨ j = 2 ∨ j = 3 ∨ j = 4 ∨ j = 5 ∨ j = 6 ∨ j = 7 ∨ j = 8 ∨ j = 9 by omega) with rfl | rfl | rfl | rfl | rfl | rfl | rfl | rfl | rfl | rfl <;> rfl) (Nat.le_of_ble_eq_true rfl) (Nat.le_of_ble_eq_true rfl) dX4_init_5 (fun q1 H hL => ?_)
  have hL : LX D [] [(q1, .inr (3, [.null, .null, .null, .null, .int 0, .int 0, .int 0, .int 0, .int 0, .int 0])), (q0, .inr (4, [.null, .null, .null, .int 0, .null]))] s H [] (va_A [(q0, .inr (4, [.null, .null, .null, .int 0, .null]))] sz) := hL
  refine lv_dup C0.1 C0.2.1 dX4_init_8 rfl ?_
  refine u_init (rest := [.ref q1, .ref q0]) C0 hL hN hl.1 0 rfl (k_X3_init l D q1) ⟨tbx [29, 30, 7, 31] (by decide +kernel) (by decide +kernel), by decide +kernel, by decide +kernel, by decide +kernel⟩ rfl rfl rfl ⟨Nat.le_of_ble_eq_true rfl, Nat.le_of_ble_eq_true rfl⟩ (Nat.le_of_ble_eq_true rfl) ⟨Nat.le_of_ble_eq_true rfl, Nat.le_of_ble_eq_true rfl⟩ dX4_init_9 (fun u H locs hu hL => ?_)
  obtain ⟨ad2, ti3, tf4⟩ := u
  dsimp only at hu
  subst hu
  have hL : LX D [(ti3, .int), (tf4, .object RX0)] ([(q0, .inr (4, [.null, .null, .null, .int 0, .null]))] ++ blkW ad2 ti3 tf4) s H locs (va_A [(q0, .inr (4, [.null, .null, .null, .int 0, .null]))] sz) := hL
  obtain ⟨T5, eT5⟩ : ∃ T, T = blkW ad2 ti3 tf4 := ⟨_, rfl⟩
  rw [← eT5] at hL
  have hL : LX D [(ti3, .int), (tf4, .object RX0)] ([(q0, .inr (4, [.null, .null, .null, .int 0, .null]))] ++ T5) s H locs (va_A [(q0, .inr (4, [.null, .null, .null, .int 0, .null]))] sz) := hL
  refine u_put (ty := .object "TurnTracker$Skirmish") (val := .ref (ad2 0)) C0 hL 0 rfl rfl fX4 tyX4 tyX4_ok nmX4 0 (by decide) (tb1 159 (by decide +kernel) (by decide +kernel)) (Or.inr ⟨rfl, hin, rfl⟩) (by decide +kernel) rfl rfl (Nat.le_of_ble_eq_true rfl) dX4_init_12 (fun H locs hL => ?_)
  have hL : LX D [(ti3, .int), (tf4, .object RX0)] ([(q0, .inr (4, [.ref (ad2 0), .null, .null, .int 0, .null]))] ++ T5) s H locs (va_A [(q0, .inr (4, [.null, .null, .null, .int 0, .null]))] sz) := hL
  refine lv_aload_n C0.1 C0.2.1 dX4_init_15 rfl (lv_at hl 0 rfl) ?_
  refine u_new (C := RX3) (T := TX3) (N := 10) (ci := 3) (fs := [.null, .null, .null, .null, .int 0, .int 0, .int 0, .int 0, .int 0, .int 0]) C0 hL fX3 tyX3 tyX3_ok (tbx [27, 28, 7] (by decide +kernel) (by decide +kernel)) rfl (fun j hj => by rcases (show j = 0 ∨ j = 1 ∨ j = 2 ∨ j = 3 ∨ j = 4 ∨ j = 5 ∨ j = 6 ∨ j = 7 ∨ j = 8 ∨ j = 9 by omega) with rfl | rfl | rfl | rfl | rfl | rfl | rfl | rfl | rfl | rfl <;> rfl) (Nat.le_of_ble_eq_true rfl) (Nat.le_of_ble_eq_true rfl) dX4_init_16 (fun q6 H hL => ?_)
  have hL : LX D [(ti3, .int), (tf4, .object RX0)] ([(q6, .inr (3, [.null, .null, .null, .null, .int 0, .int 0, .int 0, .int 0, .int 0, .int 0])), (q0, .inr (4, [.ref (ad2 0), .null, .null, .int 0, .null]))] ++ T5) s H locs (va_A [(q0, .inr (4, [.null, .null, .null, .int 0, .null]))] sz) := hL
  refine lv_dup C0.1 C0.2.1 dX4_init_19 rfl ?_
  refine u_init (rest := [.ref q6, .ref q0]) C0 hL hN hl.1 0 rfl (k_X3_init l D q6) ⟨tbx [29, 30, 7, 31] (by decide +kernel) (by decide +kernel), by decide +kernel, by decide +kernel, by decide +kernel⟩ rfl rfl rfl ⟨Nat.le_of_ble_eq_true rfl, Nat.le_of_ble_eq_true rfl⟩ (Nat.le_of_ble_eq_true rfl) ⟨Nat.le_of_ble_eq_true rfl, Nat.le_of_ble_eq_true rfl⟩ dX4_init_20 (fun u H locs hu hL => ?_)
  obtain ⟨ad7, ti8, tf9⟩ := u
  dsimp only at hu
  subst hu
  have hL : LX D [(ti3, .int), (tf4, .object RX0), (ti8, .int), (tf9, .object RX0)] ([(q0, .inr (4, [.ref (ad2 0), .null, .null, .int 0, .null]))] ++ (T5 ++ blkW ad7 ti8 tf9)) s H locs (va_A [(q0, .inr (4, [.null, .null, .null, .int 0, .null]))] sz) := hL
  obtain ⟨T10, eT10⟩ : ∃ T, T = (T5 ++ blkW ad7 ti8 tf9) := ⟨_, rfl⟩
  rw [← eT10] at hL
  have e9 : ti3 = ti8 := u_ty (hL.1.2 0 _ rfl).2 (hL.1.2 2 _ rfl).2
  subst e9
  have e9 : tf4 = tf9 := u_ty (hL.1.2 1 _ rfl).2 (hL.1.2 3 _ rfl).2
  subst e9
  have hL := u_sub (tys' := [(ti3, .int), (tf4, .object RX0)]) hL [0, 1] rfl
  have hL : LX D [(ti3, .int), (tf4, .object RX0)] ([(q0, .inr (4, [.ref (ad2 0), .null, .null, .int 0, .null]))] ++ T10) s H locs (va_A [(q0, .inr (4, [.null, .null, .null, .int 0, .null]))] sz) := hL
  refine u_put (ty := .object "TurnTracker$Skirmish") (val := .ref (ad7 0)) C0 hL 0 rfl rfl fX4 tyX4 tyX4_ok nmX4 1 (by decide) (tb1 160 (by decide +kernel) (by decide +kernel)) (Or.inr ⟨rfl, hin, rfl⟩) (by decide +kernel) rfl rfl (Nat.le_of_ble_eq_true rfl) dX4_init_23 (fun H locs hL => ?_)
  have hL : LX D [(ti3, .int), (tf4, .object RX0)] ([(q0, .inr (4, [.ref (ad2 0), .ref (ad7 0), .null, .int 0, .null]))] ++ T10) s H locs (va_A [(q0, .inr (4, [.null, .null, .null, .int 0, .null]))] sz) := hL
  refine lv_aload_n C0.1 C0.2.1 dX4_init_26 rfl (lv_at hl 0 rfl) ?_
  refine lv_bipush (v := (6 : Int32)) C0.1 C0.2.1 dX4_init_27 (by decide) ?_
  refine u_newq (C := RX3) (N' := 6) C0 hL (tb1 27 (by decide +kernel) (by decide +kernel)) hN.2.2.2.2 (by decide) (by decide) (by decide) (Nat.le_of_ble_eq_true rfl) (Nat.le_of_ble_eq_true rfl) dX4_init_29 (fun q11 t12 H hL => ?_)
  have hL : LX D [(ti3, .int), (tf4, .object RX0), (t12, .object RX3)] ([(q11, .inl (t12, 6, .inr (.inr (.inr (.inr (fun _ => none)))))), (q0, .inr (4, [.ref (ad2 0), .ref (ad7 0), .null, .int 0, .null]))] ++ T10) s H locs (va_A [(q0, .inr (4, [.null, .null, .null, .int 0, .null]))] sz) := hL
  refine u_put (ty := .array (.object "TurnTracker$Skirmish")) (val := .ref q11) C0 hL 1 rfl rfl fX4 tyX4 tyX4_ok nmX4 2 (by decide) (tb1 161 (by decide +kernel) (by decide +kernel)) (Or.inr ⟨rfl, hin, rfl⟩) (by decide +kernel) rfl rfl (Nat.le_of_ble_eq_true rfl) dX4_init_32 (fun H locs hL => ?_)
  have hL : LX D [(ti3, .int), (tf4, .object RX0), (t12, .object RX3)] ([(q11, .inl (t12, 6, .inr (.inr (.inr (.inr (fun _ => none)))))), (q0, .inr (4, [.ref (ad2 0), .ref (ad7 0), .ref q11, .int 0, .null]))] ++ T10) s H locs (va_A [(q0, .inr (4, [.null, .null, .null, .int 0, .null]))] sz) := hL
  refine lv_aload_n C0.1 C0.2.1 dX4_init_35 rfl (lv_at hl 0 rfl) ?_
  refine lv_iconst (v := (0 : Int32)) C0.1 C0.2.1 dX4_init_36 (by decide) ?_
  refine u_put (ty := .int) (val := .int (0 : Int32)) C0 hL 1 rfl rfl fX4 tyX4 tyX4_ok nmX4 3 (by decide) (tb1 162 (by decide +kernel) (by decide +kernel)) (Or.inl rfl) (by decide +kernel) rfl rfl (Nat.le_of_ble_eq_true rfl) dX4_init_37 (fun H locs hL => ?_)
  have hL : LX D [(ti3, .int), (tf4, .object RX0), (t12, .object RX3)] ([(q11, .inl (t12, 6, .inr (.inr (.inr (.inr (fun _ => none)))))), (q0, .inr (4, [.ref (ad2 0), .ref (ad7 0), .ref q11, .int (0 : Int32), .null]))] ++ T10) s H locs (va_A [(q0, .inr (4, [.null, .null, .null, .int 0, .null]))] sz) := hL
  refine lv_aload_n C0.1 C0.2.1 dX4_init_40 rfl (lv_at hl 0 rfl) ?_
  refine u_new (C := RX1) (T := TX1) (N := 2) (ci := 1) (fs := [.null, .int 0]) C0 hL fX1 tyX1 tyX1_ok (tbx [146, 147, 10] (by decide +kernel) (by decide +kernel)) rfl (fun j hj => by rcases (show j = 0 ∨ j = 1 by omega) with rfl | rfl <;> rfl) (Nat.le_of_ble_eq_true rfl) (Nat.le_of_ble_eq_true rfl) dX4_init_41 (fun q13 H hL => ?_)
  have hL : LX D [(ti3, .int), (tf4, .object RX0), (t12, .object RX3)] ([(q13, .inr (1, [.null, .int 0])), (q11, .inl (t12, 6, .inr (.inr (.inr (.inr (fun _ => none)))))), (q0, .inr (4, [.ref (ad2 0), .ref (ad7 0), .ref q11, .int (0 : Int32), .null]))] ++ T10) s H locs (va_A [(q0, .inr (4, [.null, .null, .null, .int 0, .null]))] sz) := hL
  refine lv_dup C0.1 C0.2.1 dX4_init_44 rfl ?_
  refine u_initN (rest := [.ref q13, .ref q0]) C0 hL hN hl.1 0 rfl (k_X1_init l D q13) hN.2.2.1 ⟨tbx [149, 10, 150] (by decide +kernel) (by decide +kernel), by decide +kernel, by decide +kernel, by decide +kernel⟩ rfl rfl rfl ⟨Nat.le_of_ble_eq_true rfl, Nat.le_of_ble_eq_true rfl⟩ (Nat.le_of_ble_eq_true rfl) ⟨Nat.le_of_ble_eq_true rfl, Nat.le_of_ble_eq_true rfl⟩ dX4_init_45 (fun u H locs hu hL => ?_)
  obtain ⟨b14, t15⟩ := u
  have hL : LX D [(ti3, .int), (tf4, .object RX0), (t12, .object RX3), (t15, .int)] ([(q11, .inl (t12, 6, .inr (.inr (.inr (.inr (fun _ => none)))))), (q0, .inr (4, [.ref (ad2 0), .ref (ad7 0), .ref q11, .int (0 : Int32), .null]))] ++ (T10 ++ [(q13, .inr (1, [.ref b14, .int (0 : Int32)])), (b14, .inl (t15, 60, .inl (fun _ => 0)))])) s H locs (va_A [(q0, .inr (4, [.null, .null, .null, .int 0, .null]))] sz) := hL
  obtain ⟨T16, eT16⟩ : ∃ T, T = (T10 ++ [(q13, .inr (1, [.ref b14, .int (0 : Int32)])), (b14, .inl (t15, 60, .inl (fun _ => 0)))]) := ⟨_, rfl⟩
  rw [← eT16] at hL
  have e9 : ti3 = t15 := u_ty (hL.1.2 0 _ rfl).2 (hL.1.2 3 _ rfl).2
  subst e9
  have hL := u_sub (tys' := [(ti3, .int), (tf4, .object RX0), (t12, .object RX3)]) hL [0, 1, 2] rfl
  have hL : LX D [(ti3, .int), (tf4, .object RX0), (t12, .object RX3)] ([(q11, .inl (t12, 6, .inr (.inr (.inr (.inr (fun _ => none)))))), (q0, .inr (4, [.ref (ad2 0), .ref (ad7 0), .ref q11, .int (0 : Int32), .null]))] ++ T16) s H locs (va_A [(q0, .inr (4, [.null, .null, .null, .int 0, .null]))] sz) := hL
  refine u_put (ty := .object "TurnTracker$OrderText") (val := .ref q13) C0 hL 1 rfl rfl fX4 tyX4 tyX4_ok nmX4 4 (by decide) (tb1 163 (by decide +kernel) (by decide +kernel)) (Or.inr ⟨rfl, hin, rfl⟩) (by decide +kernel) rfl rfl (Nat.le_of_ble_eq_true rfl) dX4_init_48 (fun H locs hL => ?_)
  have hL : LX D [(ti3, .int), (tf4, .object RX0), (t12, .object RX3)] ([(q11, .inl (t12, 6, .inr (.inr (.inr (.inr (fun _ => none)))))), (q0, .inr (4, [.ref (ad2 0), .ref (ad7 0), .ref q11, .int (0 : Int32), .ref q13]))] ++ T16) s H locs (va_A [(q0, .inr (4, [.null, .null, .null, .int 0, .null]))] sz) := hL
  refine lv_iconst (v := (0 : Int32)) C0.1 C0.2.1 dX4_init_51 (by decide) ?_
  refine lv_istore_n (lv' := [(1, .int (0 : Int32)), (0, .ref q0)]) C0.1 C0.2.1 dX4_init_52 rfl hl (by decide) rfl (fun ls hl => ?_)
  refine lv_iload_n C0.1 C0.2.1 dX4_init_53 rfl (lv_at hl 0 rfl) ?_
  refine lv_aload_n C0.1 C0.2.1 dX4_init_54 rfl (lv_at hl 1 rfl) ?_
  refine u_get (val := .ref q11) C0 hL 1 rfl rfl fX4 2 (by decide) (tb1 161 (by decide +kernel) (by decide +kernel)) rfl dX4_init_55 ?_
  refine u_alenq (v := (6 : Int32)) C0 hL 0 2 rfl rfl rfl dX4_init_58 ?_
  refine lv_icmp_ge (tgt := 81) C0.1 C0.2.1 dX4_init_59 (by decide) (fun c9 => absurd c9 (by decide)) (fun c9 => ?_)
  refine lv_aload_n C0.1 C0.2.1 dX4_init_62 rfl (lv_at hl 1 rfl) ?_
  refine u_get (val := .ref q11) C0 hL 1 rfl rfl fX4 2 (by decide) (tb1 161 (by decide +kernel) (by decide +kernel)) rfl dX4_init_63 ?_
  refine lv_iload_n C0.1 C0.2.1 dX4_init_66 rfl (lv_at hl 0 rfl) ?_
  refine u_new (C := RX3) (T := TX3) (N := 10) (ci := 3) (fs := [.null, .null, .null, .null, .int 0, .int 0, .int 0, .int 0, .int 0, .int 0]) C0 hL fX3 tyX3 tyX3_ok (tbx [27, 28, 7] (by decide +kernel) (by decide +kernel)) rfl (fun j hj => by rcases (show j = 0 ∨ j = 1 ∨ j = 2 ∨ j = 3 ∨ j = 4 ∨ j = 5 ∨ j = 6 ∨ j = 7 ∨ j = 8 ∨ j = 9 by omega) with rfl | rfl | rfl | rfl | rfl | rfl | rfl | rfl | rfl | rfl <;> rfl) (Nat.le_of_ble_eq_true rfl) (Nat.le_of_ble_eq_true rfl) dX4_init_67 (fun q17 H hL => ?_)
  have hL : LX D [(ti3, .int), (tf4, .object RX0), (t12, .object RX3)] ([(q17, .inr (3, [.null, .null, .null, .null, .int 0, .int 0, .int 0, .int 0, .int 0, .int 0])), (q11, .inl (t12, 6, .inr (.inr (.inr (.inr (fun _ => none)))))), (q0, .inr (4, [.ref (ad2 0), .ref (ad7 0), .ref q11, .int (0 : Int32), .ref q13]))] ++ T16) s H locs (va_A [(q0, .inr (4, [.null, .null, .null, .int 0, .null]))] sz) := hL
  refine lv_dup C0.1 C0.2.1 dX4_init_70 rfl ?_
  refine u_init (rest := [.ref q17, .int (0 : Int32), .ref q11]) C0 hL hN hl.1 0 rfl (k_X3_init l D q17) ⟨tbx [29, 30, 7, 31] (by decide +kernel) (by decide +kernel), by decide +kernel, by decide +kernel, by decide +kernel⟩ rfl rfl rfl ⟨Nat.le_of_ble_eq_true rfl, Nat.le_of_ble_eq_true rfl⟩ (Nat.le_of_ble_eq_true rfl) ⟨Nat.le_of_ble_eq_true rfl, Nat.le_of_ble_eq_true rfl⟩ dX4_init_71 (fun u H locs hu hL => ?_)
  obtain ⟨ad18, ti19, tf20⟩ := u
  dsimp only at hu
  subst hu
  have hL : LX D [(ti3, .int), (tf4, .object RX0), (t12, .object RX3), (ti19, .int), (tf20, .object RX0)] ([(q11, .inl (t12, 6, .inr (.inr (.inr (.inr (fun _ => none)))))), (q0, .inr (4, [.ref (ad2 0), .ref (ad7 0), .ref q11, .int (0 : Int32), .ref q13]))] ++ (T16 ++ blkW ad18 ti19 tf20)) s H locs (va_A [(q0, .inr (4, [.null, .null, .null, .int 0, .null]))] sz) := hL
  obtain ⟨T21, eT21⟩ : ∃ T, T = (T16 ++ blkW ad18 ti19 tf20) := ⟨_, rfl⟩
  rw [← eT21] at hL
  have e9 : ti3 = ti19 := u_ty (hL.1.2 0 _ rfl).2 (hL.1.2 3 _ rfl).2
  subst e9
  have e9 : tf4 = tf20 := u_ty (hL.1.2 1 _ rfl).2 (hL.1.2 4 _ rfl).2
  subst e9
  have hL := u_sub (tys' := [(ti3, .int), (tf4, .object RX0), (t12, .object RX3)]) hL [0, 1, 2] rfl
  have hL : LX D [(ti3, .int), (tf4, .object RX0), (t12, .object RX3)] ([(q11, .inl (t12, 6, .inr (.inr (.inr (.inr (fun _ => none)))))), (q0, .inr (4, [.ref (ad2 0), .ref (ad7 0), .ref q11, .int (0 : Int32), .ref q13]))] ++ T21) s H locs (va_A [(q0, .inr (4, [.null, .null, .null, .int 0, .null]))] sz) := hL
  refine u_astq (r := (RX3, TX3, 10)) C0 hL 0 2 (2 + List.length T16) 3 rfl rfl (by rw [eT21]; exact u_tl _ _ _ _ _ _) rfl (by decide) dX4_init_74 (fun H locs hL => ?_)
  have hL : LX D [(ti3, .int), (tf4, .object RX0), (t12, .object RX3)] ([(q11, .inl (t12, 6, .inr (.inr (.inr (.inr (va_up (fun _ => none) 0 (some (ad18 0)))))))), (q0, .inr (4, [.ref (ad2 0), .ref (ad7 0), .ref q11, .int (0 : Int32), .ref q13]))] ++ T21) s H locs (va_A [(q0, .inr (4, [.null, .null, .null, .int 0, .null]))] sz) := hL
  refine lv_iinc (v := (1 : Int32)) (lv' := [(1, .int (1 : Int32)), (0, .ref q0)]) C0.1 C0.2.1 dX4_init_75 hl (k := 0) rfl (by decide) (by decide) rfl (fun ls hl => ?_)
  refine lv_goto (tgt := 53) C0.1 C0.2.1 dX4_init_78 (by decide) ?_
  refine lv_iload_n C0.1 C0.2.1 dX4_init_53 rfl (lv_at hl 0 rfl) ?_
  refine lv_aload_n C0.1 C0.2.1 dX4_init_54 rfl (lv_at hl 1 rfl) ?_
  refine u_get (val := .ref q11) C0 hL 1 rfl rfl fX4 2 (by decide) (tb1 161 (by decide +kernel) (by decide +kernel)) rfl dX4_init_55 ?_
  refine u_alenq (v := (6 : Int32)) C0 hL 0 2 rfl rfl rfl dX4_init_58 ?_
  refine lv_icmp_ge (tgt := 81) C0.1 C0.2.1 dX4_init_59 (by decide) (fun c9 => absurd c9 (by decide)) (fun c9 => ?_)
  refine lv_aload_n C0.1 C0.2.1 dX4_init_62 rfl (lv_at hl 1 rfl) ?_
  refine u_get (val := .ref q11) C0 hL 1 rfl rfl fX4 2 (by decide) (tb1 161 (by decide +kernel) (by decide +kernel)) rfl dX4_init_63 ?_
  refine lv_iload_n C0.1 C0.2.1 dX4_init_66 rfl (lv_at hl 0 rfl) ?_
  refine u_new (C := RX3) (T := TX3) (N := 10) (ci := 3) (fs := [.null, .null, .null, .null, .int 0, .int 0, .int 0, .int 0, .int 0, .int 0]) C0 hL fX3 tyX3 tyX3_ok (tbx [27, 28, 7] (by decide +kernel) (by decide +kernel)) rfl (fun j hj => by rcases (show j = 0 ∨ j = 1 ∨ j = 2 ∨ j = 3 ∨ j = 4 ∨ j = 5 ∨ j = 6 ∨ j = 7 ∨ j = 8 ∨ j = 9 by omega) with rfl | rfl | rfl | rfl | rfl | rfl | rfl | rfl | rfl | rfl <;> rfl) (Nat.le_of_ble_eq_true rfl) (Nat.le_of_ble_eq_true rfl) dX4_init_67 (fun q22 H hL => ?_)
  have hL : LX D [(ti3, .int), (tf4, .object RX0), (t12, .object RX3)] ([(q22, .inr (3, [.null, .null, .null, .null, .int 0, .int 0, .int 0, .int 0, .int 0, .int 0])), (q11, .inl (t12, 6, .inr (.inr (.inr (.inr (va_up (fun _ => none) 0 (some (ad18 0)))))))), (q0, .inr (4, [.ref (ad2 0), .ref (ad7 0), .ref q11, .int (0 : Int32), .ref q13]))] ++ T21) s H locs (va_A [(q0, .inr (4, [.null, .null, .null, .int 0, .null]))] sz) := hL
  refine lv_dup C0.1 C0.2.1 dX4_init_70 rfl ?_
  refine u_init (rest := [.ref q22, .int (1 : Int32), .ref q11]) C0 hL hN hl.1 0 rfl (k_X3_init l D q22) ⟨tbx [29, 30, 7, 31] (by decide +kernel) (by decide +kernel), by decide +kernel, by decide +kernel, by decide +kernel⟩ rfl rfl rfl ⟨Nat.le_of_ble_eq_true rfl, Nat.le_of_ble_eq_true rfl⟩ (Nat.le_of_ble_eq_true rfl) ⟨Nat.le_of_ble_eq_true rfl, Nat.le_of_ble_eq_true rfl⟩ dX4_init_71 (fun u H locs hu hL => ?_)
  obtain ⟨ad23, ti24, tf25⟩ := u
  dsimp only at hu
  subst hu
  have hL : LX D [(ti3, .int), (tf4, .object RX0), (t12, .object RX3), (ti24, .int), (tf25, .object RX0)] ([(q11, .inl (t12, 6, .inr (.inr (.inr (.inr (va_up (fun _ => none) 0 (some (ad18 0)))))))), (q0, .inr (4, [.ref (ad2 0), .ref (ad7 0), .ref q11, .int (0 : Int32), .ref q13]))] ++ (T21 ++ blkW ad23 ti24 tf25)) s H locs (va_A [(q0, .inr (4, [.null, .null, .null, .int 0, .null]))] sz) := hL
  obtain ⟨T26, eT26⟩ : ∃ T, T = (T21 ++ blkW ad23 ti24 tf25) := ⟨_, rfl⟩
  rw [← eT26] at hL
  have e9 : ti3 = ti24 := u_ty (hL.1.2 0 _ rfl).2 (hL.1.2 3 _ rfl).2
  subst e9
  have e9 : tf4 = tf25 := u_ty (hL.1.2 1 _ rfl).2 (hL.1.2 4 _ rfl).2
  subst e9
  have hL := u_sub (tys' := [(ti3, .int), (tf4, .object RX0), (t12, .object RX3)]) hL [0, 1, 2] rfl
  have hL : LX D [(ti3, .int), (tf4, .object RX0), (t12, .object RX3)] ([(q11, .inl (t12, 6, .inr (.inr (.inr (.inr (va_up (fun _ => none) 0 (some (ad18 0)))))))), (q0, .inr (4, [.ref (ad2 0), .ref (ad7 0), .ref q11, .int (0 : Int32), .ref q13]))] ++ T26) s H locs (va_A [(q0, .inr (4, [.null, .null, .null, .int 0, .null]))] sz) := hL
  refine u_astq (r := (RX3, TX3, 10)) C0 hL 0 2 (2 + List.length T21) 3 rfl rfl (by rw [eT26]; exact u_tl _ _ _ _ _ _) rfl (by decide) dX4_init_74 (fun H locs hL => ?_)
  have hL : LX D [(ti3, .int), (tf4, .object RX0), (t12, .object RX3)] ([(q11, .inl (t12, 6, .inr (.inr (.inr (.inr (va_up (va_up (fun _ => none) 0 (some (ad18 0))) 1 (some (ad23 0)))))))), (q0, .inr (4, [.ref (ad2 0), .ref (ad7 0), .ref q11, .int (0 : Int32), .ref q13]))] ++ T26) s H locs (va_A [(q0, .inr (4, [.null, .null, .null, .int 0, .null]))] sz) := hL
  refine lv_iinc (v := (2 : Int32)) (lv' := [(1, .int (2 : Int32)), (0, .ref q0)]) C0.1 C0.2.1 dX4_init_75 hl (k := 0) rfl (by decide) (by decide) rfl (fun ls hl => ?_)
  refine lv_goto (tgt := 53) C0.1 C0.2.1 dX4_init_78 (by decide) ?_
  refine lv_iload_n C0.1 C0.2.1 dX4_init_53 rfl (lv_at hl 0 rfl) ?_
  refine lv_aload_n C0.1 C0.2.1 dX4_init_54 rfl (lv_at hl 1 rfl) ?_
  refine u_get (val := .ref q11) C0 hL 1 rfl rfl fX4 2 (by decide) (tb1 161 (by decide +kernel) (by decide +kernel)) rfl dX4_init_55 ?_
  refine u_alenq (v := (6 : Int32)) C0 hL 0 2 rfl rfl rfl dX4_init_58 ?_
  refine lv_icmp_ge (tgt := 81) C0.1 C0.2.1 dX4_init_59 (by decide) (fun c9 => absurd c9 (by decide)) (fun c9 => ?_)
  refine lv_aload_n C0.1 C0.2.1 dX4_init_62 rfl (lv_at hl 1 rfl) ?_
  refine u_get (val := .ref q11) C0 hL 1 rfl rfl fX4 2 (by decide) (tb1 161 (by decide +kernel) (by decide +kernel)) rfl dX4_init_63 ?_
  refine lv_iload_n C0.1 C0.2.1 dX4_init_66 rfl (lv_at hl 0 rfl) ?_
  refine u_new (C := RX3) (T := TX3) (N := 10) (ci := 3) (fs := [.null, .null, .null, .null, .int 0, .int 0, .int 0, .int 0, .int 0, .int 0]) C0 hL fX3 tyX3 tyX3_ok (tbx [27, 28, 7] (by decide +kernel) (by decide +kernel)) rfl (fun j hj => by rcases (show j = 0 ∨ j = 1 ∨ j = 2 ∨ j = 3 ∨ j = 4 ∨ j = 5 ∨ j = 6 ∨ j = 7 ∨ j = 8 ∨ j = 9 by omega) with rfl | rfl | rfl | rfl | rfl | rfl | rfl | rfl | rfl | rfl <;> rfl) (Nat.le_of_ble_eq_true rfl) (Nat.le_of_ble_eq_true rfl) dX4_init_67 (fun q27 H hL => ?_)
  have hL : LX D [(ti3, .int), (tf4, .object RX0), (t12, .object RX3)] ([(q27, .inr (3, [.null, .null, .null, .null, .int 0, .int 0, .int 0, .int 0, .int 0, .int 0])), (q11, .inl (t12, 6, .inr (.inr (.inr (.inr (va_up (va_up (fun _ => none) 0 (some (ad18 0))) 1 (some (ad23 0)))))))), (q0, .inr (4, [.ref (ad2 0), .ref (ad7 0), .ref q11, .int (0 : Int32), .ref q13]))] ++ T26) s H locs (va_A [(q0, .inr (4, [.null, .null, .null, .int 0, .null]))] sz) := hL
  refine lv_dup C0.1 C0.2.1 dX4_init_70 rfl ?_
  refine u_init (rest := [.ref q27, .int (2 : Int32), .ref q11]) C0 hL hN hl.1 0 rfl (k_X3_init l D q27) ⟨tbx [29, 30, 7, 31] (by decide +kernel) (by decide +kernel), by decide +kernel, by decide +kernel, by decide +kernel⟩ rfl rfl rfl ⟨Nat.le_of_ble_eq_true rfl, Nat.le_of_ble_eq_true rfl⟩ (Nat.le_of_ble_eq_true rfl) ⟨Nat.le_of_ble_eq_true rfl, Nat.le_of_ble_eq_true rfl⟩ dX4_init_71 (fun u H locs hu hL => ?_)
  obtain ⟨ad28, ti29, tf30⟩ := u
  dsimp only at hu
  subst hu
  have hL : LX D [(ti3, .int), (tf4, .object RX0), (t12, .object RX3), (ti29, .int), (tf30, .object RX0)] ([(q11, .inl (t12, 6, .inr (.inr (.inr (.inr (va_up (va_up (fun _ => none) 0 (some (ad18 0))) 1 (some (ad23 0)))))))), (q0, .inr (4, [.ref (ad2 0), .ref (ad7 0), .ref q11, .int (0 : Int32), .ref q13]))] ++ (T26 ++ blkW ad28 ti29 tf30)) s H locs (va_A [(q0, .inr (4, [.null, .null, .null, .int 0, .null]))] sz) := hL
  obtain ⟨T31, eT31⟩ : ∃ T, T = (T26 ++ blkW ad28 ti29 tf30) := ⟨_, rfl⟩
  rw [← eT31] at hL
  have e9 : ti3 = ti29 := u_ty (hL.1.2 0 _ rfl).2 (hL.1.2 3 _ rfl).2
  subst e9
  have e9 : tf4 = tf30 := u_ty (hL.1.2 1 _ rfl).2 (hL.1.2 4 _ rfl).2
  subst e9
  have hL := u_sub (tys' := [(ti3, .int), (tf4, .object RX0), (t12, .object RX3)]) hL [0, 1, 2] rfl
  have hL : LX D [(ti3, .int), (tf4, .object RX0), (t12, .object RX3)] ([(q11, .inl (t12, 6, .inr (.inr (.inr (.inr (va_up (va_up (fun _ => none) 0 (some (ad18 0))) 1 (some (ad23 0)))))))), (q0, .inr (4, [.ref (ad2 0), .ref (ad7 0), .ref q11, .int (0 : Int32), .ref q13]))] ++ T31) s H locs (va_A [(q0, .inr (4, [.null, .null, .null, .int 0, .null]))] sz) := hL
  refine u_astq (r := (RX3, TX3, 10)) C0 hL 0 2 (2 + List.length T26) 3 rfl rfl (by rw [eT31]; exact u_tl _ _ _ _ _ _) rfl (by decide) dX4_init_74 (fun H locs hL => ?_)
  have hL : LX D [(ti3, .int), (tf4, .object RX0), (t12, .object RX3)] ([(q11, .inl (t12, 6, .inr (.inr (.inr (.inr (va_up (va_up (va_up (fun _ => none) 0 (some (ad18 0))) 1 (some (ad23 0))) 2 (some (ad28 0)))))))), (q0, .inr (4, [.ref (ad2 0), .ref (ad7 0), .ref q11, .int (0 : Int32), .ref q13]))] ++ T31) s H locs (va_A [(q0, .inr (4, [.null, .null, .null, .int 0, .null]))] sz) := hL
  refine lv_iinc (v := (3 : Int32)) (lv' := [(1, .int (3 : Int32)), (0, .ref q0)]) C0.1 C0.2.1 dX4_init_75 hl (k := 0) rfl (by decide) (by decide) rfl (fun ls hl => ?_)
  refine lv_goto (tgt := 53) C0.1 C0.2.1 dX4_init_78 (by decide) ?_
  refine lv_iload_n C0.1 C0.2.1 dX4_init_53 rfl (lv_at hl 0 rfl) ?_
  refine lv_aload_n C0.1 C0.2.1 dX4_init_54 rfl (lv_at hl 1 rfl) ?_
  refine u_get (val := .ref q11) C0 hL 1 rfl rfl fX4 2 (by decide) (tb1 161 (by decide +kernel) (by decide +kernel)) rfl dX4_init_55 ?_
  refine u_alenq (v := (6 : Int32)) C0 hL 0 2 rfl rfl rfl dX4_init_58 ?_
  refine lv_icmp_ge (tgt := 81) C0.1 C0.2.1 dX4_init_59 (by decide) (fun c9 => absurd c9 (by decide)) (fun c9 => ?_)
  refine lv_aload_n C0.1 C0.2.1 dX4_init_62 rfl (lv_at hl 1 rfl) ?_
  refine u_get (val := .ref q11) C0 hL 1 rfl rfl fX4 2 (by decide) (tb1 161 (by decide +kernel) (by decide +kernel)) rfl dX4_init_63 ?_
  refine lv_iload_n C0.1 C0.2.1 dX4_init_66 rfl (lv_at hl 0 rfl) ?_
  refine u_new (C := RX3) (T := TX3) (N := 10) (ci := 3) (fs := [.null, .null, .null, .null, .int 0, .int 0, .int 0, .int 0, .int 0, .int 0]) C0 hL fX3 tyX3 tyX3_ok (tbx [27, 28, 7] (by decide +kernel) (by decide +kernel)) rfl (fun j hj => by rcases (show j = 0 ∨ j = 1 ∨ j = 2 ∨ j = 3 ∨ j = 4 ∨ j = 5 ∨ j = 6 ∨ j = 7 ∨ j = 8 ∨ j = 9 by omega) with rfl | rfl | rfl | rfl | rfl | rfl | rfl | rfl | rfl | rfl <;> rfl) (Nat.le_of_ble_eq_true rfl) (Nat.le_of_ble_eq_true rfl) dX4_init_67 (fun q32 H hL => ?_)
  have hL : LX D [(ti3, .int), (tf4, .object RX0), (t12, .object RX3)] ([(q32, .inr (3, [.null, .null, .null, .null, .int 0, .int 0, .int 0, .int 0, .int 0, .int 0])), (q11, .inl (t12, 6, .inr (.inr (.inr (.inr (va_up (va_up (va_up (fun _ => none) 0 (some (ad18 0))) 1 (some (ad23 0))) 2 (some (ad28 0)))))))), (q0, .inr (4, [.ref (ad2 0), .ref (ad7 0), .ref q11, .int (0 : Int32), .ref q13]))] ++ T31) s H locs (va_A [(q0, .inr (4, [.null, .null, .null, .int 0, .null]))] sz) := hL
  refine lv_dup C0.1 C0.2.1 dX4_init_70 rfl ?_
  refine u_init (rest := [.ref q32, .int (3 : Int32), .ref q11]) C0 hL hN hl.1 0 rfl (k_X3_init l D q32) ⟨tbx [29, 30, 7, 31] (by decide +kernel) (by decide +kernel), by decide +kernel, by decide +kernel, by decide +kernel⟩ rfl rfl rfl ⟨Nat.le_of_ble_eq_true rfl, Nat.le_of_ble_eq_true rfl⟩ (Nat.le_of_ble_eq_true rfl) ⟨Nat.le_of_ble_eq_true rfl, Nat.le_of_ble_eq_true rfl⟩ dX4_init_71 (fun u H locs hu hL => ?_)
  obtain ⟨ad33, ti34, tf35⟩ := u
  dsimp only at hu
  subst hu
  have hL : LX D [(ti3, .int), (tf4, .object RX0), (t12, .object RX3), (ti34, .int), (tf35, .object RX0)] ([(q11, .inl (t12, 6, .inr (.inr (.inr (.inr (va_up (va_up (va_up (fun _ => none) 0 (some (ad18 0))) 1 (some (ad23 0))) 2 (some (ad28 0)))))))), (q0, .inr (4, [.ref (ad2 0), .ref (ad7 0), .ref q11, .int (0 : Int32), .ref q13]))] ++ (T31 ++ blkW ad33 ti34 tf35)) s H locs (va_A [(q0, .inr (4, [.null, .null, .null, .int 0, .null]))] sz) := hL
  obtain ⟨T36, eT36⟩ : ∃ T, T = (T31 ++ blkW ad33 ti34 tf35) := ⟨_, rfl⟩
  rw [← eT36] at hL
  have e9 : ti3 = ti34 := u_ty (hL.1.2 0 _ rfl).2 (hL.1.2 3 _ rfl).2
  subst e9
  have e9 : tf4 = tf35 := u_ty (hL.1.2 1 _ rfl).2 (hL.1.2 4 _ rfl).2
  subst e9
  have hL := u_sub (tys' := [(ti3, .int), (tf4, .object RX0), (t12, .object RX3)]) hL [0, 1, 2] rfl
  have hL : LX D [(ti3, .int), (tf4, .object RX0), (t12, .object RX3)] ([(q11, .inl (t12, 6, .inr (.inr (.inr (.inr (va_up (va_up (va_up (fun _ => none) 0 (some (ad18 0))) 1 (some (ad23 0))) 2 (some (ad28 0)))))))), (q0, .inr (4, [.ref (ad2 0), .ref (ad7 0), .ref q11, .int (0 : Int32), .ref q13]))] ++ T36) s H locs (va_A [(q0, .inr (4, [.null, .null, .null, .int 0, .null]))] sz) := hL
  refine u_astq (r := (RX3, TX3, 10)) C0 hL 0 2 (2 + List.length T31) 3 rfl rfl (by rw [eT36]; exact u_tl _ _ _ _ _ _) rfl (by decide) dX4_init_74 (fun H locs hL => ?_)
  have hL : LX D [(ti3, .int), (tf4, .object RX0), (t12, .object RX3)] ([(q11, .inl (t12, 6, .inr (.inr (.inr (.inr (va_up (va_up (va_up (va_up (fun _ => none) 0 (some (ad18 0))) 1 (some (ad23 0))) 2 (some (ad28 0))) 3 (some (ad33 0)))))))), (q0, .inr (4, [.ref (ad2 0), .ref (ad7 0), .ref q11, .int (0 : Int32), .ref q13]))] ++ T36) s H locs (va_A [(q0, .inr (4, [.null, .null, .null, .int 0, .null]))] sz) := hL
  refine lv_iinc (v := (4 : Int32)) (lv' := [(1, .int (4 : Int32)), (0, .ref q0)]) C0.1 C0.2.1 dX4_init_75 hl (k := 0) rfl (by decide) (by decide) rfl (fun ls hl => ?_)
  refine lv_goto (tgt := 53) C0.1 C0.2.1 dX4_init_78 (by decide) ?_
  refine lv_iload_n C0.1 C0.2.1 dX4_init_53 rfl (lv_at hl 0 rfl) ?_
  refine lv_aload_n C0.1 C0.2.1 dX4_init_54 rfl (lv_at hl 1 rfl) ?_
  refine u_get (val := .ref q11) C0 hL 1 rfl rfl fX4 2 (by decide) (tb1 161 (by decide +kernel) (by decide +kernel)) rfl dX4_init_55 ?_
  refine u_alenq (v := (6 : Int32)) C0 hL 0 2 rfl rfl rfl dX4_init_58 ?_
  refine lv_icmp_ge (tgt := 81) C0.1 C0.2.1 dX4_init_59 (by decide) (fun c9 => absurd c9 (by decide)) (fun c9 => ?_)
  refine lv_aload_n C0.1 C0.2.1 dX4_init_62 rfl (lv_at hl 1 rfl) ?_
  refine u_get (val := .ref q11) C0 hL 1 rfl rfl fX4 2 (by decide) (tb1 161 (by decide +kernel) (by decide +kernel)) rfl dX4_init_63 ?_
  refine lv_iload_n C0.1 C0.2.1 dX4_init_66 rfl (lv_at hl 0 rfl) ?_
  refine u_new (C := RX3) (T := TX3) (N := 10) (ci := 3) (fs := [.null, .null, .null, .null, .int 0, .int 0, .int 0, .int 0, .int 0, .int 0]) C0 hL fX3 tyX3 tyX3_ok (tbx [27, 28, 7] (by decide +kernel) (by decide +kernel)) rfl (fun j hj => by rcases (show j = 0 ∨ j = 1 ∨ j = 2 ∨ j = 3 ∨ j = 4 ∨ j = 5 ∨ j = 6 ∨ j = 7 ∨ j = 8 ∨ j = 9 by omega) with rfl | rfl | rfl | rfl | rfl | rfl | rfl | rfl | rfl | rfl <;> rfl) (Nat.le_of_ble_eq_true rfl) (Nat.le_of_ble_eq_true rfl) dX4_init_67 (fun q37 H hL => ?_)
  have hL : LX D [(ti3, .int), (tf4, .object RX0), (t12, .object RX3)] ([(q37, .inr (3, [.null, .null, .null, .null, .int 0, .int 0, .int 0, .int 0, .int 0, .int 0])), (q11, .inl (t12, 6, .inr (.inr (.inr (.inr (va_up (va_up (va_up (va_up (fun _ => none) 0 (some (ad18 0))) 1 (some (ad23 0))) 2 (some (ad28 0))) 3 (some (ad33 0)))))))), (q0, .inr (4, [.ref (ad2 0), .ref (ad7 0), .ref q11, .int (0 : Int32), .ref q13]))] ++ T36) s H locs (va_A [(q0, .inr (4, [.null, .null, .null, .int 0, .null]))] sz) := hL
  refine lv_dup C0.1 C0.2.1 dX4_init_70 rfl ?_
  refine u_init (rest := [.ref q37, .int (4 : Int32), .ref q11]) C0 hL hN hl.1 0 rfl (k_X3_init l D q37) ⟨tbx [29, 30, 7, 31] (by decide +kernel) (by decide +kernel), by decide +kernel, by decide +kernel, by decide +kernel⟩ rfl rfl rfl ⟨Nat.le_of_ble_eq_true rfl, Nat.le_of_ble_eq_true rfl⟩ (Nat.le_of_ble_eq_true rfl) ⟨Nat.le_of_ble_eq_true rfl, Nat.le_of_ble_eq_true rfl⟩ dX4_init_71 (fun u H locs hu hL => ?_)
  obtain ⟨ad38, ti39, tf40⟩ := u
  dsimp only at hu
  subst hu
  have hL : LX D [(ti3, .int), (tf4, .object RX0), (t12, .object RX3), (ti39, .int), (tf40, .object RX0)] ([(q11, .inl (t12, 6, .inr (.inr (.inr (.inr (va_up (va_up (va_up (va_up (fun _ => none) 0 (some (ad18 0))) 1 (some (ad23 0))) 2 (some (ad28 0))) 3 (some (ad33 0)))))))), (q0, .inr (4, [.ref (ad2 0), .ref (ad7 0), .ref q11, .int (0 : Int32), .ref q13]))] ++ (T36 ++ blkW ad38 ti39 tf40)) s H locs (va_A [(q0, .inr (4, [.null, .null, .null, .int 0, .null]))] sz) := hL
  obtain ⟨T41, eT41⟩ : ∃ T, T = (T36 ++ blkW ad38 ti39 tf40) := ⟨_, rfl⟩
  rw [← eT41] at hL
  have e9 : ti3 = ti39 := u_ty (hL.1.2 0 _ rfl).2 (hL.1.2 3 _ rfl).2
  subst e9
  have e9 : tf4 = tf40 := u_ty (hL.1.2 1 _ rfl).2 (hL.1.2 4 _ rfl).2
  subst e9
  have hL := u_sub (tys' := [(ti3, .int), (tf4, .object RX0), (t12, .object RX3)]) hL [0, 1, 2] rfl
  have hL : LX D [(ti3, .int), (tf4, .object RX0), (t12, .object RX3)] ([(q11, .inl (t12, 6, .inr (.inr (.inr (.inr (va_up (va_up (va_up (va_up (fun _ => none) 0 (some (ad18 0))) 1 (some (ad23 0))) 2 (some (ad28 0))) 3 (some (ad33 0)))))))), (q0, .inr (4, [.ref (ad2 0), .ref (ad7 0), .ref q11, .int (0 : Int32), .ref q13]))] ++ T41) s H locs (va_A [(q0, .inr (4, [.null, .null, .null, .int 0, .null]))] sz) := hL
  refine u_astq (r := (RX3, TX3, 10)) C0 hL 0 2 (2 + List.length T36) 3 rfl rfl (by rw [eT41]; exact u_tl _ _ _ _ _ _) rfl (by decide) dX4_init_74 (fun H locs hL => ?_)
  have hL : LX D [(ti3, .int), (tf4, .object RX0), (t12, .object RX3)] ([(q11, .inl (t12, 6, .inr (.inr (.inr (.inr (va_up (va_up (va_up (va_up (va_up (fun _ => none) 0 (some (ad18 0))) 1 (some (ad23 0))) 2 (some (ad28 0))) 3 (some (ad33 0))) 4 (some (ad38 0)))))))), (q0, .inr (4, [.ref (ad2 0), .ref (ad7 0), .ref q11, .int (0 : Int32), .ref q13]))] ++ T41) s H locs (va_A [(q0, .inr (4, [.null, .null, .null, .int 0, .null]))] sz) := hL
  refine lv_iinc (v := (5 : Int32)) (lv' := [(1, .int (5 : Int32)), (0, .ref q0)]) C0.1 C0.2.1 dX4_init_75 hl (k := 0) rfl (by decide) (by decide) rfl (fun ls hl => ?_)
  refine lv_goto (tgt := 53) C0.1 C0.2.1 dX4_init_78 (by decide) ?_
  refine lv_iload_n C0.1 C0.2.1 dX4_init_53 rfl (lv_at hl 0 rfl) ?_
  refine lv_aload_n C0.1 C0.2.1 dX4_init_54 rfl (lv_at hl 1 rfl) ?_
  refine u_get (val := .ref q11) C0 hL 1 rfl rfl fX4 2 (by decide) (tb1 161 (by decide +kernel) (by decide +kernel)) rfl dX4_init_55 ?_
  refine u_alenq (v := (6 : Int32)) C0 hL 0 2 rfl rfl rfl dX4_init_58 ?_
  refine lv_icmp_ge (tgt := 81) C0.1 C0.2.1 dX4_init_59 (by decide) (fun c9 => absurd c9 (by decide)) (fun c9 => ?_)
  refine lv_aload_n C0.1 C0.2.1 dX4_init_62 rfl (lv_at hl 1 rfl) ?_
  refine u_get (val := .ref q11) C0 hL 1 rfl rfl fX4 2 (by decide) (tb1 161 (by decide +kernel) (by decide +kernel)) rfl dX4_init_63 ?_
  refine lv_iload_n C0.1 C0.2.1 dX4_init_66 rfl (lv_at hl 0 rfl) ?_
  refine u_new (C := RX3) (T := TX3) (N := 10) (ci := 3) (fs := [.null, .null, .null, .null, .int 0, .int 0, .int 0, .int 0, .int 0, .int 0]) C0 hL fX3 tyX3 tyX3_ok (tbx [27, 28, 7] (by decide +kernel) (by decide +kernel)) rfl (fun j hj => by rcases (show j = 0 ∨ j = 1 ∨ j = 2 ∨ j = 3 ∨ j = 4 ∨ j = 5 ∨ j = 6 ∨ j = 7 ∨ j = 8 ∨ j = 9 by omega) with rfl | rfl | rfl | rfl | rfl | rfl | rfl | rfl | rfl | rfl <;> rfl) (Nat.le_of_ble_eq_true rfl) (Nat.le_of_ble_eq_true rfl) dX4_init_67 (fun q42 H hL => ?_)
  have hL : LX D [(ti3, .int), (tf4, .object RX0), (t12, .object RX3)] ([(q42, .inr (3, [.null, .null, .null, .null, .int 0, .int 0, .int 0, .int 0, .int 0, .int 0])), (q11, .inl (t12, 6, .inr (.inr (.inr (.inr (va_up (va_up (va_up (va_up (va_up (fun _ => none) 0 (some (ad18 0))) 1 (some (ad23 0))) 2 (some (ad28 0))) 3 (some (ad33 0))) 4 (some (ad38 0)))))))), (q0, .inr (4, [.ref (ad2 0), .ref (ad7 0), .ref q11, .int (0 : Int32), .ref q13]))] ++ T41) s H locs (va_A [(q0, .inr (4, [.null, .null, .null, .int 0, .null]))] sz) := hL
  refine lv_dup C0.1 C0.2.1 dX4_init_70 rfl ?_
  refine u_init (rest := [.ref q42, .int (5 : Int32), .ref q11]) C0 hL hN hl.1 0 rfl (k_X3_init l D q42) ⟨tbx [29, 30, 7, 31] (by decide +kernel) (by decide +kernel), by decide +kernel, by decide +kernel, by decide +kernel⟩ rfl rfl rfl ⟨Nat.le_of_ble_eq_true rfl, Nat.le_of_ble_eq_true rfl⟩ (Nat.le_of_ble_eq_true rfl) ⟨Nat.le_of_ble_eq_true rfl, Nat.le_of_ble_eq_true rfl⟩ dX4_init_71 (fun u H locs hu hL => ?_)
  obtain ⟨ad43, ti44, tf45⟩ := u
  dsimp only at hu
  subst hu
  have hL : LX D [(ti3, .int), (tf4, .object RX0), (t12, .object RX3), (ti44, .int), (tf45, .object RX0)] ([(q11, .inl (t12, 6, .inr (.inr (.inr (.inr (va_up (va_up (va_up (va_up (va_up (fun _ => none) 0 (some (ad18 0))) 1 (some (ad23 0))) 2 (some (ad28 0))) 3 (some (ad33 0))) 4 (some (ad38 0)))))))), (q0, .inr (4, [.ref (ad2 0), .ref (ad7 0), .ref q11, .int (0 : Int32), .ref q13]))] ++ (T41 ++ blkW ad43 ti44 tf45)) s H locs (va_A [(q0, .inr (4, [.null, .null, .null, .int 0, .null]))] sz) := hL
  obtain ⟨T46, eT46⟩ : ∃ T, T = (T41 ++ blkW ad43 ti44 tf45) := ⟨_, rfl⟩
  rw [← eT46] at hL
  have e9 : ti3 = ti44 := u_ty (hL.1.2 0 _ rfl).2 (hL.1.2 3 _ rfl).2
  subst e9
  have e9 : tf4 = tf45 := u_ty (hL.1.2 1 _ rfl).2 (hL.1.2 4 _ rfl).2
  subst e9
  have hL := u_sub (tys' := [(ti3, .int), (tf4, .object RX0), (t12, .object RX3)]) hL [0, 1, 2] rfl
  have hL : LX D [(ti3, .int), (tf4, .object RX0), (t12, .object RX3)] ([(q11, .inl (t12, 6, .inr (.inr (.inr (.inr (va_up (va_up (va_up (va_up (va_up (fun _ => none) 0 (some (ad18 0))) 1 (some (ad23 0))) 2 (some (ad28 0))) 3 (some (ad33 0))) 4 (some (ad38 0)))))))), (q0, .inr (4, [.ref (ad2 0), .ref (ad7 0), .ref q11, .int (0 : Int32), .ref q13]))] ++ T46) s H locs (va_A [(q0, .inr (4, [.null, .null, .null, .int 0, .null]))] sz) := hL
  refine u_astq (r := (RX3, TX3, 10)) C0 hL 0 2 (2 + List.length T41) 3 rfl rfl (by rw [eT46]; exact u_tl _ _ _ _ _ _) rfl (by decide) dX4_init_74 (fun H locs hL => ?_)
  have hL : LX D [(ti3, .int), (tf4, .object RX0), (t12, .object RX3)] ([(q11, .inl (t12, 6, .inr (.inr (.inr (.inr (va_up (va_up (va_up (va_up (va_up (va_up (fun _ => none) 0 (some (ad18 0))) 1 (some (ad23 0))) 2 (some (ad28 0))) 3 (some (ad33 0))) 4 (some (ad38 0))) 5 (some (ad43 0)))))))), (q0, .inr (4, [.ref (ad2 0), .ref (ad7 0), .ref q11, .int (0 : Int32), .ref q13]))] ++ T46) s H locs (va_A [(q0, .inr (4, [.null, .null, .null, .int 0, .null]))] sz) := hL
  refine lv_iinc (v := (6 : Int32)) (lv' := [(1, .int (6 : Int32)), (0, .ref q0)]) C0.1 C0.2.1 dX4_init_75 hl (k := 0) rfl (by decide) (by decide) rfl (fun ls hl => ?_)
  refine lv_goto (tgt := 53) C0.1 C0.2.1 dX4_init_78 (by decide) ?_
  refine lv_iload_n C0.1 C0.2.1 dX4_init_53 rfl (lv_at hl 0 rfl) ?_
  refine lv_aload_n C0.1 C0.2.1 dX4_init_54 rfl (lv_at hl 1 rfl) ?_
  refine u_get (val := .ref q11) C0 hL 1 rfl rfl fX4 2 (by decide) (tb1 161 (by decide +kernel) (by decide +kernel)) rfl dX4_init_55 ?_
  refine u_alenq (v := (6 : Int32)) C0 hL 0 2 rfl rfl rfl dX4_init_58 ?_
  refine lv_icmp_ge (tgt := 81) C0.1 C0.2.1 dX4_init_59 (by decide) (fun c9 => ?_) (fun c9 => absurd (by decide) c9)
  have hL := u_arr hL 0 rfl (fun i => some ((fun k => ([ad2, ad7, ad18, ad23, ad28, ad33, ad38, ad43] : List (Nat → Nat)).getD k (fun _ => 0)) (i + 2) 0)) (fun i hi => by rcases (show i = 0 ∨ i = 1 ∨ i = 2 ∨ i = 3 ∨ i = 4 ∨ i = 5 by omega) with rfl | rfl | rfl | rfl | rfl | rfl <;> rfl)
  have hL := u_sub (tys' := [(ti3, .int), (tf4, .object RX0), (t12, .object RX3)]) hL [0, 1, 2] rfl
  subst eT46
  subst eT41
  subst eT36
  subst eT31
  subst eT26
  subst eT21
  subst eT16
  subst eT10
  subst eT5
  exact u_ret ((fun k => ([ad2, ad7, ad18, ad23, ad28, ad33, ad38, ad43] : List (Nat → Nat)).getD k (fun _ => 0)), q11, q13, b14, ti3, tf4, t12) C0 hL trivial hsz dX4_init_81
