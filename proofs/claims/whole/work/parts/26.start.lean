theorem l_st (l : Launch) (h : l.flags = flags0) : l.stackTraces = false := by
  first | (unfold Launch.stackTraces; rw [h]; rfl) | (simp [Launch.stackTraces, h]; done) | (unfold Launch.stackTraces; rw [h]; decide +kernel)
theorem u_newl {p : Program} {l : Launch} {e : Env} {R : Room} {s : State} {m : MethodId} {args : Array Value} {below : List Frame} {meth : Method} {c : Code} {H : Heap} {locs : List Loc} {cells slots : Nat} {Q : State → Prop} {cc : ByteArray} {own : String} {nL : Nat} {ret0 : Option FieldType} {pc : Nat} {ls : Array Slot} {rest : List Value} {D : va_G} {tys : List (ClassId × FieldType)} {ws : va_W} {A : Nat → Prop}
    (C0 : CX p s m meth c args cc own nL ret0) (hL : LX D tys ws s H locs A) {n : Int32} {N' : Nat} (harr : Cond.arrayClass .long ∈ TBg) (hn : ¬ n < 0) (hN : n.toNatClampNeg = N') (hbytes : N' * 8 ≤ 536870912) (hcells : cells + 1 ≤ R.cells) (hslots : slots + N' ≤ R.slots) (hdg : decode cc pc = .ok (.newarray .long, 2))
    (kk : ∀ (q : Nat) (cA : ClassId) (H1 : Heap), LX D (tys ++ [(cA, .long)]) ((q, .inl (cA, N', .inr (.inl (fun _ => 0)))) :: ws) s H1 locs A → W p l e R s m args below meth c H1 locs (cells + 1) (slots + N') Q (F0 m (pc + 2) ls (.ref q :: rest))) : W p l e R s m args below meth c H locs cells slots Q (F0 m pc ls (.int n :: rest)) := by
  obtain ⟨hx, hb, -, hown, hts, -, -⟩ := C0
  obtain ⟨hK, hP, hD, hS, hA⟩ := hL
  exact va_newa (atype := .long) (a0 := (N', .inr (.inl (fun _ => 0)))) hx hb (hts _ harr) (ty := .long) rfl hK hP hD hS hA (fun _ => rfl) hn hN hbytes hcells hslots hdg (fun q cA H1 hK1 hP1 hD1 hS1 => kk q cA H1 ⟨hK1, rot_P hP1, rot_D hD1, hS1, hA⟩)
set_option maxHeartbeats 8000000 in
set_option maxRecDepth 100000 in
/-- from the entry: if the law's function answers 1 on this script, the law does -/
theorem start_of {p : Program} {e : Env} {s : State} {m : MethodId} {below : List Frame} {meth : Method} {c : Code} (l : Launch) (hflags : l.flags = flags0) {b L : Nat} {xs : Nat → Int32} (hF : F_L_loop xs L 6000 0 M0 = some 1) (C0 : lw_At p s m meth c b L xs) : W p l e room_1 s m #[Value.ref b] below meth c s.heap [] 0 0 (lw_Z below #[Value.ref b] s) (entryFrame m ([Value.ref b] : List Value).toArray 9) := by
  obtain ⟨hx, hb, hr, hml, hown, htsA, hX, hbl, hlocks, hgv⟩ := id C0
  have hts : ∀ w ∈ TBg, w.before #[Value.ref b] s = true := fun w hw => htsA w (List.mem_filter.mp hw).1
  have C0 : CX p s m meth c #[.ref b] cL_law RL 9 ret := ⟨hx, hb, hml, hown, hts, hr, hlocks⟩
  have hst := l_st l hflags
  have hgs := flat_of_before _ hgv
  obtain ⟨c0, i0, hk0⟩ := u_known (C := RX0) (T := TX0) (N := 14) (n := 14) hts fX0 (htsA (.instantiable RX0 14) (List.mem_of_getElem? (i := 99) (by decide +kernel)))
  obtain ⟨c1, i1, hk1⟩ := u_known (C := RX1) (T := TX1) (N := 2) (n := 2) hts fX1 (htsA (.instantiable RX1 2) (List.mem_of_getElem? (i := 211) (by decide +kernel)))
  obtain ⟨c2, i2, hk2⟩ := u_known (C := RX2) (T := TX2) (N := 2) (n := 2) hts fX2 (htsA (.instantiable RX2 2) (List.mem_of_getElem? (i := 162) (by decide +kernel)))
  obtain ⟨c3, i3, hk3⟩ := u_known (C := RX3) (T := TX3) (N := 10) (n := 10) hts fX3 (htsA (.instantiable RX3 10) (List.mem_of_getElem? (i := 92) (by decide +kernel)))
  obtain ⟨c4, i4, hk4⟩ := u_known (C := RX4) (T := TX4) (N := 5) (n := 5) hts fX4 (htsA (.instantiable RX4 5) (List.mem_of_getElem? (i := 84) (by decide +kernel)))
  obtain ⟨c5, i5, hk5⟩ := u_known (C := RX5) (T := TX5) (N := 14) (n := 14) hts fX5 (htsA (.instantiable RX5 14) (List.mem_of_getElem? (i := 814) (by decide +kernel)))
  obtain ⟨D, hKc⟩ : ∃ D : va_G, ∀ (k : Nat) (q : vw_C), vwCl[k]? = some q → u_Kn s q.1 q.2.1 q.2.2 (D.1 k) (D.2 k) := by
    refine ⟨(fun k => if k = 0 then c0 else if k = 1 then c1 else if k = 2 then c2 else if k = 3 then c3 else if k = 4 then c4 else c5, fun k => if k = 0 then i0 else if k = 1 then i1 else if k = 2 then i2 else if k = 3 then i3 else if k = 4 then i4 else i5), ?_⟩
    intro k q hq
    match k, hq with
    | 0, hq => cases hq; exact hk0
    | 1, hq => cases hq; exact hk1
    | 2, hq => cases hq; exact hk2
    | 3, hq => cases hq; exact hk3
    | 4, hq => cases hq; exact hk4
    | 5, hq => cases hq; exact hk5
    | k + 6, hq => simp [vwCl] at hq
  have hN : NG2 s := ⟨va_Nw.of rfl (htsA _ (List.mem_of_getElem? (i := 100) (by decide +kernel))), va_Nw.of rfl (htsA _ (List.mem_of_getElem? (i := 163) (by decide +kernel))), va_Nw.of rfl (htsA _ (List.mem_of_getElem? (i := 212) (by decide +kernel))), va_AO.of (A := #[Value.ref b]) (htsA _ (List.mem_of_getElem? (i := 98) (by decide +kernel))), va_AO.of (A := #[Value.ref b]) (htsA _ (List.mem_of_getElem? (i := 209) (by decide +kernel)))⟩
  have hU : vx_Zq Bundle.tN "UNASSIGNED_STACK" Bundle.steD (fun q => s.heap.size ≤ q) s s.heap := vx_Zqof (args := #[Value.ref b]) (htsA _ (List.mem_of_getElem? (i := 553) (by decide +kernel))) (htsA _ (List.mem_of_getElem? (i := 75) (by decide +kernel))) (hgs _ (by decide +kernel)) (fun a h => Nat.not_le.mpr h)
  have hV : vx_Zq Bundle.tN "SUPPRESSED_SENTINEL" Bundle.listD (fun q => s.heap.size ≤ q) s s.heap := vx_Zqof (args := #[Value.ref b]) (htsA _ (List.mem_of_getElem? (i := 555) (by decide +kernel))) (htsA _ (List.mem_of_getElem? (i := 75) (by decide +kernel))) (hgs _ (by decide +kernel)) (fun a h => Nat.not_le.mpr h)
  obtain ⟨sa0, -, -, -, ha0, -⟩ := Cond.exactly_spec (hgs (.exactly (.string RX4 204) "java/lang/String") (by decide +kernel))
  have hs0 : vk_R RX4 204 "an argument is not as the document allows it" sa0 s := vk_R.of (A := #[Value.ref b]) (htsA _ (List.mem_of_getElem? (i := 567) (by decide +kernel))) ha0
  obtain ⟨sa1, -, -, -, ha1, -⟩ := Cond.exactly_spec (hgs (.exactly (.string RX4 209) "java/lang/String") (by decide +kernel))
  have hs1 : vk_R RX4 209 "this is not possible now" sa1 s := vk_R.of (A := #[Value.ref b]) (htsA _ (List.mem_of_getElem? (i := 606) (by decide +kernel))) ha1
  obtain ⟨sa2, -, -, -, ha2, -⟩ := Cond.exactly_spec (hgs (.exactly (.string RX4 197) "java/lang/String") (by decide +kernel))
  have hs2 : vk_R RX4 197 "there is no such fighter" sa2 s := vk_R.of (A := #[Value.ref b]) (htsA _ (List.mem_of_getElem? (i := 647) (by decide +kernel))) ha2
  have hNc : ∀ i j, 1 ≤ i → i ≤ 3 → 1 ≤ j → j ≤ 3 → i ≠ j → va_Nc (EC i) (EC j) s := by
    intro i j h1 h2 h3 h4 h5
    rcases (show i = 1 ∨ i = 2 ∨ i = 3 by omega) with rfl | rfl | rfl <;> rcases (show j = 1 ∨ j = 2 ∨ j = 3 by omega) with rfl | rfl | rfl
    all_goals first | exact absurd rfl h5 | exact va_Nc.of (hgs _ (by decide +kernel))
  have hNG : ∀ w ∈ NGW, va_Nw w s := fun w hw => va_Nw.of ((by decide +kernel : ∀ w ∈ NGW, w.onTables = true) w hw) (htsA w ((by decide +kernel : ∀ w ∈ NGW, w ∈ lw_tbl) w hw))
  have hA : ∀ q : Nat, s.heap.size ≤ q → (fun q : Nat => s.heap.size ≤ q) q := fun _ h => h
  have hL : LX D [] [] s s.heap [] (fun q => s.heap.size ≤ q) := ⟨⟨hKc, fun k q h => by simp at h⟩, fun k q h => by simp at h, ⟨fun i j p q h => by simp at h, fun k q h => by simp at h⟩, va_S.rf, hA⟩
  have hl := lv_entry ([.ref b]) (n := 9) (Nat.le_of_ble_eq_true rfl)
  rw [lg_entry_eq]
  generalize (lg_sl ([.ref b]) ++ List.replicate (9 - (lg_sl ([.ref b])).length) Slot.unset).toArray = ls at hl ⊢
  have hl : lv_has ls 9 [(0, .ref b)] := hl
  refine u_new (C := RX4) (T := TX4) (N := 5) (ci := 4) (fs := [.null, .null, .null, .int 0, .null]) C0 hL fX4 tyX4 tyX4_ok (tbx [83, 84, 69] (by decide +kernel) (by decide +kernel)) rfl (fun j hj => by rcases (show j = 0 ∨ j = 1 ∨ j = 2 ∨ j = 3 ∨ j = 4 by omega) with rfl | rfl | rfl | rfl | rfl <;> rfl) (Nat.le_of_ble_eq_true rfl) (Nat.le_of_ble_eq_true rfl) dL_law_0 (fun q1 H hL => ?_)
  refine lv_dup C0.1 C0.2.1 dL_law_3 rfl ?_
  refine u_init (rest := [.ref q1]) C0 hL hN hl.1 0 rfl (k_X4_init l D q1) ⟨tbx [85, 86, 69, 87] (by decide +kernel) (by decide +kernel), by decide +kernel, by decide +kernel, by decide +kernel⟩ rfl rfl rfl ⟨Nat.le_of_ble_eq_true rfl, Nat.le_of_ble_eq_true rfl⟩ (Nat.le_of_ble_eq_true rfl) ⟨Nat.le_of_ble_eq_true rfl, Nat.le_of_ble_eq_true rfl⟩ dL_law_4 (fun uq1 H locs hu hL => ?_)
  refine lv_astore_n (lv' := [(1, .ref q1), (0, .ref b)]) C0.1 C0.2.1 dL_law_7 rfl hl (by decide) rfl (fun ls hl => ?_)
  refine u_new (C := RX5) (T := TX5) (N := 14) (ci := 5) (fs := [.int 0, .null, .null, .int 0, .null, .null, .int 0, .null, .int 0, .null, .int 0, .int 0, .int 0, .long 0]) C0 hL fX5 tyX5 tyX5_ok (tbx [813, 814, 74] (by decide +kernel) (by decide +kernel)) rfl (fun j hj => by rcases (show j = 0 ∨ j = 1 ∨ j = 2 ∨ j = 3 ∨ j = 4 ∨ j = 5 ∨ j = 6 ∨ j = 7 ∨ j = 8 ∨ j = 9 ∨ j = 10 ∨ j = 11 ∨ j = 12 ∨ j = 13 by omega) with rfl | rfl | rfl | rfl | rfl | rfl | rfl | rfl | rfl | rfl | rfl | rfl | rfl | rfl <;> rfl) (Nat.le_of_ble_eq_true rfl) (Nat.le_of_ble_eq_true rfl) dL_law_8 (fun q2 H hL => ?_)
  refine lv_dup C0.1 C0.2.1 dL_law_11 rfl ?_
  refine u_init (rest := [.ref q2]) C0 hL hN hl.1 0 rfl (k_X5_init l D q2) ⟨tbx [815, 816, 74, 817] (by decide +kernel) (by decide +kernel), by decide +kernel, by decide +kernel, by decide +kernel⟩ rfl rfl rfl ⟨Nat.le_of_ble_eq_true rfl, Nat.le_of_ble_eq_true rfl⟩ (Nat.le_of_ble_eq_true rfl) ⟨Nat.le_of_ble_eq_true rfl, Nat.le_of_ble_eq_true rfl⟩ dL_law_12 (fun uq2 H locs hu hL => ?_)
  refine lv_astore_n (lv' := [(2, .ref q2), (1, .ref q1), (0, .ref b)]) C0.1 C0.2.1 dL_law_15 rfl hl (by decide) rfl (fun ls hl => ?_)
  refine lv_iconst (v := (1 : Int32)) C0.1 C0.2.1 dL_law_16 (by decide) ?_
  refine u_newl (N' := 1) C0 hL (tb1 1213 (by decide +kernel) (by decide +kernel)) (by decide) (by decide) (by decide) (Nat.le_of_ble_eq_true rfl) (Nat.le_of_ble_eq_true rfl) dL_law_17 (fun q3 tL H hL => ?_)
  refine lv_astore_n (lv' := [(3, .ref q3), (2, .ref q2), (1, .ref q1), (0, .ref b)]) C0.1 C0.2.1 dL_law_19 rfl hl (by decide) rfl (fun ls hl => ?_)
  refine lv_iconst (v := (0 : Int32)) C0.1 C0.2.1 dL_law_20 (by decide) ?_
  refine lv_istore (lv' := [(4, .int (0 : Int32)), (3, .ref q3), (2, .ref q2), (1, .ref q1), (0, .ref b)]) C0.1 C0.2.1 dL_law_21 hl (by decide) rfl (fun ls hl => ?_)
  have hL : LX D [(uq1.2.2.2.2.1, .int), (uq1.2.2.2.2.2.1, .object RX0), (uq1.2.2.2.2.2.2, .object RX3), (uq2.2, .int), (tL, .long)] (allW q1 q2 q3 uq1 uq2 tL) s H locs (fun q => s.heap.size ≤ q) := hL
  have hw : uq2.2 = uq1.2.2.2.2.1 := u_ty (hL.1.2 3 _ rfl).2 (hL.1.2 0 _ rfl).2
  have hL := u_sub (tys' := [(uq1.2.2.2.2.1, .int), (uq1.2.2.2.2.2.1, .object RX0), (uq1.2.2.2.2.2.2, .object RX3), (tL, .long)]) hL [0, 1, 2, 4] rfl
  obtain ⟨hM, hge⟩ := start_MX hw hL
  have hT : TX (GS2 D tL q1 q2 q3 uq1 uq2) s.heap.size (sa0, sa1, sa2) s s.heap := ⟨⟨hge, Nat.le_refl _⟩, ⟨hU, hV⟩, ⟨hs0, hs1, hs2⟩, hNc, hNG⟩
  have hAf : ∀ q, Af (GS2 D tL q1 q2 q3 uq1 uq2) s.heap.size q → s.heap.size ≤ q := TX_nar hT
  exact law_loop hst C0 hX hbl (fun h => absurd (hAf b h) (Nat.not_le.mpr hbl)) hT hAf 6000 0 0 M0 H locs ls (by omega) hM (lv_sub hl [4, 3, 2, 1, 0] rfl) hF
