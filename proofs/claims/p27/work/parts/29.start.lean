theorem l_st (l : Launch) (h : l.flags = flags0) : l.stackTraces = false := by
  first | (unfold Launch.stackTraces; rw [h]; rfl) | (simp [Launch.stackTraces, h]; done) | (unfold Launch.stackTraces; rw [h]; decide +kernel)
set_option maxHeartbeats 8000000 in
set_option maxRecDepth 100000 in
/-- from the entry: if the law's function answers 1 on this script, the law does -/
theorem start_of {p : Program} {e : Env} {s : State} {m : MethodId} {below : List Frame} {meth : Method} {c : Code} (l : Launch) (hflags : l.flags = flags0) {b L : Nat} {xs : Nat → Int32} (hF : F_L_main xs L M0 = some 1) (C0 : lw_At p s m meth c b L xs) : W p l e room_1 s m #[Value.ref b] below meth c s.heap [] 0 0 (lw_Z below #[Value.ref b] s) (entryFrame m ([Value.ref b] : List Value).toArray 19) := by
  obtain ⟨hx, hb, hr, hml, hown, htsA, hX, hbl, hlocks, hgv⟩ := id C0
  have hts : ∀ w ∈ TBg, w.before #[Value.ref b] s = true := fun w hw => htsA w (List.mem_filter.mp hw).1
  have C0 : CX p s m meth c #[.ref b] cL_law RL 19 ret := ⟨hx, hb, hml, hown, hts, hr, hlocks⟩
  have hst := l_st l hflags
  have hgs := flat_of_before _ hgv
  obtain ⟨c0, i0, hk0⟩ := u_known (C := RX0) (T := TX0) (N := 14) (n := 14) hts fX0 (htsA (.instantiable RX0 14) (List.mem_of_getElem? (i := 35) (by decide +kernel)))
  obtain ⟨c1, i1, hk1⟩ := u_known (C := RX1) (T := TX1) (N := 2) (n := 2) hts fX1 (htsA (.instantiable RX1 2) (List.mem_of_getElem? (i := 147) (by decide +kernel)))
  obtain ⟨c2, i2, hk2⟩ := u_known (C := RX2) (T := TX2) (N := 2) (n := 2) hts fX2 (htsA (.instantiable RX2 2) (List.mem_of_getElem? (i := 98) (by decide +kernel)))
  obtain ⟨c3, i3, hk3⟩ := u_known (C := RX3) (T := TX3) (N := 10) (n := 10) hts fX3 (htsA (.instantiable RX3 10) (List.mem_of_getElem? (i := 28) (by decide +kernel)))
  obtain ⟨c4, i4, hk4⟩ := u_known (C := RX4) (T := TX4) (N := 5) (n := 5) hts fX4 (htsA (.instantiable RX4 5) (List.mem_of_getElem? (i := 20) (by decide +kernel)))
  obtain ⟨D, hKc⟩ : ∃ D : va_G, ∀ (k : Nat) (q : vw_C), vwCl[k]? = some q → u_Kn s q.1 q.2.1 q.2.2 (D.1 k) (D.2 k) := by
    refine ⟨(fun k => if k = 0 then c0 else if k = 1 then c1 else if k = 2 then c2 else if k = 3 then c3 else c4, fun k => if k = 0 then i0 else if k = 1 then i1 else if k = 2 then i2 else if k = 3 then i3 else i4), ?_⟩
    intro k q hq
    match k, hq with
    | 0, hq => cases hq; exact hk0
    | 1, hq => cases hq; exact hk1
    | 2, hq => cases hq; exact hk2
    | 3, hq => cases hq; exact hk3
    | 4, hq => cases hq; exact hk4
    | k + 5, hq => simp [vwCl] at hq
  have hN : NG2 s := ⟨va_Nw.of rfl (htsA _ (List.mem_of_getElem? (i := 36) (by decide +kernel))), va_Nw.of rfl (htsA _ (List.mem_of_getElem? (i := 99) (by decide +kernel))), va_Nw.of rfl (htsA _ (List.mem_of_getElem? (i := 148) (by decide +kernel))), va_AO.of (A := #[Value.ref b]) (htsA _ (List.mem_of_getElem? (i := 34) (by decide +kernel))), va_AO.of (A := #[Value.ref b]) (htsA _ (List.mem_of_getElem? (i := 145) (by decide +kernel)))⟩
  have hU : vx_Zq Bundle.tN "UNASSIGNED_STACK" Bundle.steD (fun q => s.heap.size ≤ q) s s.heap := vx_Zqof (args := #[Value.ref b]) (htsA _ (List.mem_of_getElem? (i := 315) (by decide +kernel))) (htsA _ (List.mem_of_getElem? (i := 13) (by decide +kernel))) (hgs _ (by decide +kernel)) (fun a h => Nat.not_le.mpr h)
  have hV : vx_Zq Bundle.tN "SUPPRESSED_SENTINEL" Bundle.listD (fun q => s.heap.size ≤ q) s s.heap := vx_Zqof (args := #[Value.ref b]) (htsA _ (List.mem_of_getElem? (i := 317) (by decide +kernel))) (htsA _ (List.mem_of_getElem? (i := 13) (by decide +kernel))) (hgs _ (by decide +kernel)) (fun a h => Nat.not_le.mpr h)
  obtain ⟨sa0, -, -, -, ha0, -⟩ := Cond.exactly_spec (hgs (.exactly (.string RX4 204) "java/lang/String") (by decide +kernel))
  have hs0 : vk_R RX4 204 "an argument is not as the document allows it" sa0 s := vk_R.of (A := #[Value.ref b]) (htsA _ (List.mem_of_getElem? (i := 451) (by decide +kernel))) ha0
  obtain ⟨sa1, -, -, -, ha1, -⟩ := Cond.exactly_spec (hgs (.exactly (.string RX4 209) "java/lang/String") (by decide +kernel))
  have hs1 : vk_R RX4 209 "this is not possible now" sa1 s := vk_R.of (A := #[Value.ref b]) (htsA _ (List.mem_of_getElem? (i := 375) (by decide +kernel))) ha1
  obtain ⟨sa2, -, -, -, ha2, -⟩ := Cond.exactly_spec (hgs (.exactly (.string RX4 197) "java/lang/String") (by decide +kernel))
  have hs2 : vk_R RX4 197 "there is no such fighter" sa2 s := vk_R.of (A := #[Value.ref b]) (htsA _ (List.mem_of_getElem? (i := 329) (by decide +kernel))) ha2
  have hNG : ∀ w ∈ NGW, va_Nw w s := fun w hw => va_Nw.of ((by decide +kernel : ∀ w ∈ NGW, w.onTables = true) w hw) (htsA w ((by decide +kernel : ∀ w ∈ NGW, w ∈ lw_tbl) w hw))
  have hA : ∀ q : Nat, s.heap.size ≤ q → (fun q : Nat => s.heap.size ≤ q) q := fun _ h => h
  have hL : LX D [] [] s s.heap [] (fun q => s.heap.size ≤ q) := ⟨⟨hKc, fun k q h => by simp at h⟩, fun k q h => by simp at h, ⟨fun i j p q h => by simp at h, fun k q h => by simp at h⟩, va_S.rf, hA⟩
  have hl := lv_entry ([.ref b]) (n := 19) (Nat.le_of_ble_eq_true rfl)
  rw [lg_entry_eq]
  generalize (lg_sl ([.ref b]) ++ List.replicate (19 - (lg_sl ([.ref b])).length) Slot.unset).toArray = ls at hl ⊢
  have hl : lv_has ls 19 [(0, .ref b)] := hl
  refine u_new (C := RX4) (T := TX4) (N := 5) (ci := 4) (fs := [.null, .null, .null, .int 0, .null]) C0 hL fX4 tyX4 tyX4_ok (tbx [19, 20, 6] (by decide +kernel) (by decide +kernel)) rfl (fun j hj => by rcases (show j = 0 ∨ j = 1 ∨ j = 2 ∨ j = 3 ∨ j = 4 by omega) with rfl | rfl | rfl | rfl | rfl <;> rfl) (Nat.le_of_ble_eq_true rfl) (Nat.le_of_ble_eq_true rfl) dL_law_0 (fun q1 H hL => ?_)
  refine lv_dup C0.1 C0.2.1 dL_law_3 rfl ?_
  refine u_init (rest := [.ref q1]) C0 hL hN hl.1 0 rfl (k_X4_init l D q1) ⟨tbx [21, 22, 6, 23] (by decide +kernel) (by decide +kernel), by decide +kernel, by decide +kernel, by decide +kernel⟩ rfl rfl rfl ⟨Nat.le_of_ble_eq_true rfl, Nat.le_of_ble_eq_true rfl⟩ (Nat.le_of_ble_eq_true rfl) ⟨Nat.le_of_ble_eq_true rfl, Nat.le_of_ble_eq_true rfl⟩ dL_law_4 (fun uq1 H locs hu hL => ?_)
  refine lv_astore_n (lv' := [(1, .ref q1), (0, .ref b)]) C0.1 C0.2.1 dL_law_7 rfl hl (by decide) rfl (fun ls hl => ?_)
  refine lv_bipush (v := (48 : Int32)) C0.1 C0.2.1 dL_law_8 (by decide) ?_
  refine u_newa (N' := 48) C0 hL (tb1 96 (by decide +kernel) (by decide +kernel)) (by decide) (by decide) (by decide) (Nat.le_of_ble_eq_true rfl) (Nat.le_of_ble_eq_true rfl) dL_law_10 (fun qa tqa H hL => ?_)
  refine lv_astore_n (lv' := [(2, .ref qa), (1, .ref q1), (0, .ref b)]) C0.1 C0.2.1 dL_law_12 rfl hl (by decide) rfl (fun ls hl => ?_)
  refine lv_bipush (v := (24 : Int32)) C0.1 C0.2.1 dL_law_13 (by decide) ?_
  refine u_newa (N' := 24) C0 hL (tb1 96 (by decide +kernel) (by decide +kernel)) (by decide) (by decide) (by decide) (Nat.le_of_ble_eq_true rfl) (Nat.le_of_ble_eq_true rfl) dL_law_15 (fun qc tqc H hL => ?_)
  refine lv_astore_n (lv' := [(3, .ref qc), (2, .ref qa), (1, .ref q1), (0, .ref b)]) C0.1 C0.2.1 dL_law_17 rfl hl (by decide) rfl (fun ls hl => ?_)
  refine lv_bipush (v := (6 : Int32)) C0.1 C0.2.1 dL_law_18 (by decide) ?_
  refine u_newa (N' := 6) C0 hL (tb1 96 (by decide +kernel) (by decide +kernel)) (by decide) (by decide) (by decide) (Nat.le_of_ble_eq_true rfl) (Nat.le_of_ble_eq_true rfl) dL_law_20 (fun qr tqr H hL => ?_)
  refine lv_astore (lv' := [(4, .ref qr), (3, .ref qc), (2, .ref qa), (1, .ref q1), (0, .ref b)]) C0.1 C0.2.1 dL_law_22 hl (by decide) rfl (fun ls hl => ?_)
  refine lv_bipush (v := (7 : Int32)) C0.1 C0.2.1 dL_law_24 (by decide) ?_
  refine u_newa (N' := 7) C0 hL (tb1 96 (by decide +kernel) (by decide +kernel)) (by decide) (by decide) (by decide) (Nat.le_of_ble_eq_true rfl) (Nat.le_of_ble_eq_true rfl) dL_law_26 (fun qt tqt H hL => ?_)
  refine lv_astore (lv' := [(5, .ref qt), (4, .ref qr), (3, .ref qc), (2, .ref qa), (1, .ref q1), (0, .ref b)]) C0.1 C0.2.1 dL_law_28 hl (by decide) rfl (fun ls hl => ?_)
  have hw1 : tqa = uq1.2.2.2.2.1 := u_ty (hL.1.2 3 _ rfl).2 (hL.1.2 0 _ rfl).2
  have hw2 : tqc = uq1.2.2.2.2.1 := u_ty (hL.1.2 4 _ rfl).2 (hL.1.2 0 _ rfl).2
  have hw3 : tqr = uq1.2.2.2.2.1 := u_ty (hL.1.2 5 _ rfl).2 (hL.1.2 0 _ rfl).2
  have hw4 : tqt = uq1.2.2.2.2.1 := u_ty (hL.1.2 6 _ rfl).2 (hL.1.2 0 _ rfl).2
  rw [hw1, hw2, hw3, hw4] at hL
  have hL : LX D [(uq1.2.2.2.2.1, .int), (uq1.2.2.2.2.2.1, .object RX0), (uq1.2.2.2.2.2.2, .object RX3), (uq1.2.2.2.2.1, .int), (uq1.2.2.2.2.1, .int), (uq1.2.2.2.2.1, .int), (uq1.2.2.2.2.1, .int)] (allW q1 uq1 (qa, qc, qr, qt) uq1.2.2.2.2.1) s H locs (fun q => s.heap.size ≤ q) := hL
  have hL := u_sub (tys' := [(uq1.2.2.2.2.1, .int), (uq1.2.2.2.2.2.1, .object RX0), (uq1.2.2.2.2.2.2, .object RX3)]) hL [0, 1, 2] rfl
  obtain ⟨hM, hge⟩ := start_MX rfl hL
  have hT : TX (GS2 D q1 uq1 (qa, qc, qr, qt)) s.heap.size (sa0, sa1, sa2) s s.heap := ⟨⟨⟨hge, fun x hx => by simp [tr, GS] at hx⟩, Nat.le_refl _⟩, ⟨hU, hV⟩, ⟨hs0, hs1, hs2⟩, hNG⟩
  have hAf : ∀ q, Af (GS2 D q1 uq1 (qa, qc, qr, qt)) s.heap.size q → s.heap.size ≤ q := TX_nar hT
  have hfr : ∀ v, fr (GS2 D q1 uq1 (qa, qc, qr, qt)) v := fun v x hx => by simp [tr, GS] at hx
  refine W.widen (k := 400 + 0) (n := 6 * (400 + 0)) (by decide) (by decide) ?_
  exact law_main hst C0 hX hbl (fun h => absurd (hAf b h) (Nat.not_le.mpr hbl)) hT hAf (hfr 224) (hfr 225) (hfr 226) hM hl hF
