theorem nx_1 : Cond.methodLinkNest RX5 11 yX1_init "MinuteSignal" ∈ lw_tbl := List.mem_of_getElem? (i := 43) (by decide +kernel)
theorem nx_2 : Cond.methodLinkNest RX2 17 yX1_init "MinuteSignal" ∈ lw_tbl := List.mem_of_getElem? (i := 83) (by decide +kernel)
theorem nx_3 : Cond.methodLinkNest RX5 33 yX0_init "MinuteSignal" ∈ lw_tbl := List.mem_of_getElem? (i := 97) (by decide +kernel)
theorem nx_4 : Cond.methodLinkNest RX5 40 yX4_init "MinuteSignal" ∈ lw_tbl := List.mem_of_getElem? (i := 124) (by decide +kernel)
theorem nx_5 : Cond.arrayOver (.object "MinuteSignal$Held") ∈ lw_tbl := List.mem_of_getElem? (i := 82) (by decide +kernel)
theorem nx_6 : Cond.arrayOver (.array .int) ∈ lw_tbl := List.mem_of_getElem? (i := 129) (by decide +kernel)
theorem nx_all {args : Array Value} {s : State} (hts : ∀ w ∈ lw_tbl, w.before args s = true) : NX s := ⟨va_Nw.of rfl (hts _ nx_1), va_Nw.of rfl (hts _ nx_2), va_Nw.of rfl (hts _ nx_3), va_Nw.of rfl (hts _ nx_4), va_AO.of (hts _ nx_5), hts _ nx_6⟩
theorem arr_prim {args : Array Value} {s : State} {ty : FieldType} (h : (Cond.arrayClass ty).before args s = true) : ∃ cA : ClassId, ArrOfT s cA ty ∧ s.vm.findClass ("[" ++ ty.toString) = some cA := by
  obtain ⟨cA, kA, comp, h1, h2, h3⟩ := Cond.arrayClass_spec h
  exact ⟨cA, fun n z => ⟨fun k h => (by cases h), kA, h2, comp, h3⟩, h1⟩
theorem arr_held {s : State} (h : NX s) : ∃ cA : ClassId, ArrOfT s cA (.object "MinuteSignal$Held") ∧ va_RA s cA (.object "MinuteSignal$Held") := by
  obtain ⟨comp, cA, kA, h1, h2, h3, h4, h5⟩ := Cond.arrayOver_spec h.2.2.2.2.1
  exact ⟨cA, fun n z => ⟨fun k h => (by cases h), kA, h3, comp, h4⟩, kA, comp, h3, h4, h1, h5⟩
theorem arr_grid {s : State} (h : NX s) : ∃ cA : ClassId, ArrOfT s cA (.array .int) ∧ va_RA s cA (.array .int) := by
  obtain ⟨comp, cA, kA, h1, h2, h3, h4, h5⟩ := arrayOverA_spec h.2.2.2.2.2
  exact ⟨cA, fun n z => ⟨fun k h => (by cases h), kA, h3, comp, h4⟩, h5⟩
set_option maxRecDepth 100000 in
set_option maxHeartbeats 4000000 in
theorem start_of {Inv : SG → SG → Prop} (hsim : SimAll Inv) (hI : Inv g0C g0M) {p : Program} {e : Env} {s : State} {m : MethodId} {below : List Frame} {meth : Method} {c : Code} (l : Launch) {b L : Nat} {xs : Nat → Int32} (hL : L ≤ 2560) (C0 : lw_At p s m meth c b L xs) : W p l e room_1 s m #[Value.ref b] below meth c s.heap [] 0 0 (lw_Z below #[Value.ref b] s) (entryFrame m ([Value.ref b] : List Value).toArray 4) := by
  obtain ⟨hx, hb, hr, hml, hown, hts0, hX, hbl, hlocks, hgv⟩ := C0
  have hts : ∀ w ∈ gT, w.before #[Value.ref b] s = true := fun w hw => hts0 w (gT_tbl hw)
  have hN : NX s := nx_all hts0
  obtain ⟨c0, iS0, hKn0⟩ := u_known (C := RX0) (T := TX0) (N := 5) (n := 5) hts inX0 (hts (.instantiable RX0 5) q_96)
  obtain ⟨c1, iS1, hKn1⟩ := u_known (C := RX1) (T := TX1) (N := 6) (n := 6) hts inX1 (hts (.instantiable RX1 6) q_42)
  obtain ⟨c2, iS2, hKn2⟩ := u_known (C := RX2) (T := TX2) (N := 3) (n := 3) hts inX2 (hts (.instantiable RX2 3) q_76)
  obtain ⟨c3, iS3, hKn3⟩ := u_known (C := RX4) (T := TX4) (N := 7) (n := 7) hts inX4 (hts (.instantiable RX4 7) q_123)
  obtain ⟨c4, iS4, hKn4⟩ := u_known (C := RX5) (T := TX5) (N := 8) (n := 8) hts inX5 (hts (.instantiable RX5 8) q_34)
  obtain ⟨c5, iS5, hKn5⟩ := u_known (C := RX6) (T := TX6) (N := 14) (n := 14) hts inX6 (hts (.instantiable RX6 14) q_449)
  obtain ⟨dC, dI, hKc⟩ : ∃ (dC : Nat → ClassId) (dI : Nat → Nat → Nat), ∀ (k : Nat) (q : vw_C), vwCl[k]? = some q → u_Kn s q.1 q.2.1 q.2.2 (dC k) (dI k) := by
    refine ⟨fun k => if k = 0 then c0 else if k = 1 then c1 else if k = 2 then c2 else if k = 3 then c3 else if k = 4 then c4 else c5, fun k => if k = 0 then iS0 else if k = 1 then iS1 else if k = 2 then iS2 else if k = 3 then iS3 else if k = 4 then iS4 else iS5, ?_⟩
    intro k q hq
    match k, hq with
    | 0, hq => cases hq; exact hKn0
    | 1, hq => cases hq; exact hKn1
    | 2, hq => cases hq; exact hKn2
    | 3, hq => cases hq; exact hKn3
    | 4, hq => cases hq; exact hKn4
    | 5, hq => cases hq; exact hKn5
    | k + 6, hq => simp [vwCl] at hq
  obtain ⟨cB, hB1, hB2⟩ := arr_prim (hts _ qa_byte)
  obtain ⟨cI, hI1, hI2⟩ := arr_prim (hts _ qa_int)
  obtain ⟨cZ, hZ1, hZ2⟩ := arr_prim (hts _ qa_boolean)
  obtain ⟨cH, hH1, hH2⟩ := arr_held hN
  obtain ⟨cO, hO1, hO2⟩ := arr_grid hN
  obtain ⟨cy, hK⟩ : ∃ cy : Nat → ClassId, va_K (dC, dI) vwCl (tyG cy) s := by
    refine ⟨fun k => if k = 0 then cB else if k = 1 then cI else if k = 2 then cZ else if k = 3 then cH else cO, hKc, ?_⟩
    intro k q hq
    match k, hq with
    | 0, hq => cases hq; exact ⟨hB1, hB2⟩
    | 1, hq => cases hq; exact ⟨hI1, hI2⟩
    | 2, hq => cases hq; exact ⟨hZ1, hZ2⟩
    | 3, hq => cases hq; exact ⟨hH1, hH2⟩
    | 4, hq => cases hq; exact ⟨hO1, hO2⟩
    | k + 5, hq => simp [tyG] at hq
  have hD0 : va_D (fun q : Nat => s.heap.size ≤ q) [] := ⟨fun i j p q h => by simp at h, fun k q h => by simp at h⟩
  have hP0 : va_P (dC, dI) vwCl [] s.heap := fun k q h => by simp at h
  have hl := lv_entry ([.ref b]) (n := 4) (Nat.le_of_ble_eq_true rfl)
  rw [lg_entry_eq]
  obtain ⟨B0, hB0⟩ : ∃ B0 : BX, B0 = (p, l, e, room_1, s, m, #[Value.ref b], below, meth, c, lw_Z below #[Value.ref b] s) := ⟨_, rfl⟩
  have X : Cx (kU (p, l, e, room_1, s, m, #[Value.ref b], below, meth, c, lw_Z below #[Value.ref b] s) (dC, dI) (fun q : Nat => s.heap.size ≤ q) cy [] 0 0) code R_law 4 9 314 := ⟨hx, hb, hml, hown, hts, hK, fun _ => hD0, ⟨Nat.le_refl _, Nat.le_refl _⟩, Nat.zero_le _, Nat.zero_le _⟩
  have N : Nx (p, l, e, room_1, s, m, #[Value.ref b], below, meth, c, lw_Z below #[Value.ref b] s) (fun q : Nat => s.heap.size ≤ q) 600000 7302250 := ⟨Nat.le_refl _, Nat.le_refl _, fun _ h => h, hN⟩
  suffices G : Gd (kU (p, l, e, room_1, s, m, #[Value.ref b], below, meth, c, lw_Z below #[Value.ref b] s) (dC, dI) (fun q : Nat => s.heap.size ≤ q) cy [] 0 0) 4 0 [(0, .ref b)] [] () from G s.heap [] _ hP0 va_S.rf hl
  refine gw_new (C := RX5) (T := TX5) (Nn := 8) (ci := 4) (fs := [.null, .null, .null, .null, .null, .null, .int 0, .int 0]) X N inX5 tyX5 tyX5_ok q_33 q_34 q_24 rfl (fun j hj => by rcases (show j = 0 ∨ j = 1 ∨ j = 2 ∨ j = 3 ∨ j = 4 ∨ j = 5 ∨ j = 6 ∨ j = 7 by omega) with rfl | rfl | rfl | rfl | rfl | rfl | rfl | rfl <;> rfl) (Nat.le_of_ble_eq_true rfl) (Nat.le_of_ble_eq_true rfl) dL_law_0 (fun o1 X => ?_)
  refine gd_dup X dL_law_3 rfl ?_
  refine gw_call (rest := [.ref o1]) X N (fun U hU => ⟨Or.inl q_35, q_36, q_24, q_37, rfl, by decide +kernel, by decide +kernel, by decide +kernel⟩) (c_X5_init _ (dC, dI) cy o1) 0 [] [] rfl rfl (by decide) (by decide) ⟨by decide, by decide⟩ (Nat.le_of_ble_eq_true rfl) (Nat.le_of_ble_eq_true rfl) (Nat.le_of_ble_eq_true rfl) dL_law_4 (fun q1 X => ?_)
  obtain ⟨ad, hd1⟩ : ∃ z : Nat → Nat, z = (fun k => if k = 0 then o1 else q1 k) := ⟨_, rfl⟩
  have e1 : o1 = ad 0 := by rw [hd1]; rfl
  refine gw_eq (ws' := WC cy ad g0C) (by rw [hd1]; rfl) X (fun X => ?_)
  refine gd_astore_n (lv' := [(1, .ref o1), (0, .ref b)]) X dL_law_7 (by decide) rfl ?_
  refine gw_new (C := RX6) (T := TX6) (Nn := 14) (ci := 5) (fs := [.null, .int 0, .int 0, .null, .null, .null, .int 0, .int 0, .int 0, .null, .null, .null, .int 0, .int 0]) X N inX6 tyX6 tyX6_ok q_448 q_449 q_29 rfl (fun j hj => by rcases (show j = 0 ∨ j = 1 ∨ j = 2 ∨ j = 3 ∨ j = 4 ∨ j = 5 ∨ j = 6 ∨ j = 7 ∨ j = 8 ∨ j = 9 ∨ j = 10 ∨ j = 11 ∨ j = 12 ∨ j = 13 by omega) with rfl | rfl | rfl | rfl | rfl | rfl | rfl | rfl | rfl | rfl | rfl | rfl | rfl | rfl <;> rfl) (Nat.le_of_ble_eq_true rfl) (Nat.le_of_ble_eq_true rfl) dL_law_8 (fun o2 X => ?_)
  refine gd_dup X dL_law_11 rfl ?_
  refine gw_call (rest := [.ref o2]) X N (fun U hU => ⟨Or.inl q_450, q_451, q_29, q_452, rfl, by decide +kernel, by decide +kernel, by decide +kernel⟩) (c_X6_init _ (dC, dI) cy o2) 45 (List.range 45) (WC cy ad g0C) rfl rfl (by decide) (by decide) ⟨by decide, by decide⟩ (Nat.le_of_ble_eq_true rfl) (Nat.le_of_ble_eq_true rfl) (Nat.le_of_ble_eq_true rfl) dL_law_12 (fun q2 X => ?_)
  obtain ⟨am, hm1⟩ : ∃ z : Nat → Nat, z = (fun k => if k = 0 then o2 else q2 k) := ⟨_, rfl⟩
  have e2 : o2 = am 0 := by rw [hm1]; rfl
  refine gw_eq (ws' := WL cy ad am (g0C, g0M)) (by rw [hm1]; rfl) X (fun X => ?_)
  refine gd_astore_n (lv' := [(2, .ref o2), (1, .ref o1), (0, .ref b)]) X dL_law_15 (by decide) rfl ?_
  refine gd_iconst (v := nI 0) X dL_law_16 (by decide) ?_
  refine gd_istore_n (lv' := [(3, .int (nI 0)), (2, .ref o2), (1, .ref o1), (0, .ref b)]) X dL_law_17 (by decide) rfl ?_
  refine gd_sub [3, 2, 1, 0] rfl ?_
  rw [e1, e2]
  have hD1 : ∀ g : SG × SG, va_D (fun q : Nat => s.heap.size ≤ q) (WL cy ad am g) := fun g => va_D_ad (WL_ad cy ad am (g0C, g0M) g) (X.2.2.2.2.2.2.1 ())
  have X2 : Cx (kW (p, l, e, room_1, s, m, #[Value.ref b], below, meth, c, lw_Z below #[Value.ref b] s) (dC, dI) (fun q : Nat => s.heap.size ≤ q) cy ad am (0 + 1 + 44 + 1 + 7) (0 + 8 + 3110 + 14 + 13172)) code R_law 4 9 314 := ⟨hx, hb, hml, hown, hts, hK, hD1, ⟨Nat.le_refl _, Nat.le_refl _⟩, Nat.le_of_ble_eq_true rfl, Nat.le_of_ble_eq_true rfl⟩
  have G := law_loop hsim X2 hr hlocks (Nat.le_of_ble_eq_true rfl) (Nat.le_of_ble_eq_true rfl) hX hbl hL (L + 1) 0 g0C g0M (Nat.zero_le L) (by omega) hI
  exact G
