def lw_P (b : Addr) (xs : List Int32) (args : Array Value) (s : State) : Prop := args = #[.ref b] ∧ s.IntsAt b xs ∧ xs.length ≤ 2560 ∧ (Jvm.Cond.and given_1 narrow_1).before args s = true
def lw_Q (_ : Array Value) (s : State) (o : Outcome) (t : State) : Prop := o = .returned (some (.int 1)) ∧ Framed s o t [] 600000 7302250
def lw_Z (below : List Frame) (a : Array Value) (s : State) : State → Prop := fun t => ∃ o, t.status = .running ∧ Ended t below o ∧ lw_Q a s o t
/-- the law's own end, with 1 on the stack, nothing written that was there before, its room as the claim has it -/
theorem lw_ret {p : Program} {l : Launch} {e : Env} {s : State} {m : MethodId} {below : List Frame} {meth : Method} {c : Code} {b : Nat} (hx : p.tables.exec = Jvm.exec) (hb : c.code = code) (hr : meth.sig.returnType = ret) (hlocks : meth.locks = false) {pc : Nat} {H : Heap} {ls : Array Slot} (hdg : decode code pc = .ok (.ireturn, 1)) : W p l e room_1 s m #[Value.ref b] below meth c H [] 600000 7302250 (lw_Z below #[Value.ref b] s) (F0 m pc ls [.int 1]) := by
  intro T hT X
  obtain ⟨fs, hret, hrun, hended, hW, hframe⟩ := X.leave (v := some (.int 1)) (hlocks := hlocks) (fun h => by rw [hr] at h; cases h)
  have hmeth' : T.vm.method? m = some meth := X.method'
  refine ⟨T.setFrames fs, ?_, .returned (some (.int 1)), hrun, hended, rfl, ⟨_, rfl⟩, hW, hframe⟩
  jvm_step X.here [X.here.top, hx, hb, hdg, hmeth', hr, ret, narrow_b1]
  (try refine ⟨rfl, ?_⟩); (try refine ⟨rfl, ?_⟩)
  first | (intro acts; rw [hret _ acts rfl rfl rfl]) | rw [hret _ _ rfl rfl rfl]
  exact Steps.refl _
/-- what holds at the law's entry: the machine, the code, the tables' words (any of lw_tbl by 'hts w (by decide +kernel)'), the script of L ints xs at the cell b, what the Statement gives of the start (any of its parts by flat_of_before) -/
def lw_At (p : Program) (s : State) (m : MethodId) (meth : Method) (c : Code) (b L : Nat) (xs : Nat → Int32) : Prop :=
  p.tables.exec = Jvm.exec ∧ c.code = code ∧ meth.sig.returnType = ret ∧ c.maxLocals = 4 ∧ s.vm.findClass R_law = some m.cls ∧ (∀ w ∈ lw_tbl, w.before #[Value.ref b] s = true) ∧ va_X b L xs s s.heap ∧ b < s.heap.size ∧ meth.locks = false ∧ (Jvm.Cond.and given_1 narrow_1).before #[Value.ref b] s = true
theorem va_D_ad {A : Nat → Prop} {ws ws' : va_W} (h : ws.map (fun q => q.1) = ws'.map (fun q => q.1)) (hD : va_D A ws) : va_D A ws' := by
  have key : ∀ (k : Nat) (q : Nat × va_E), ws'[k]? = some q → ∃ q0, ws[k]? = some q0 ∧ q0.1 = q.1 := by
    intro k q hq
    have h1 : (ws'.map (fun q => q.1))[k]? = some q.1 := by rw [List.getElem?_map, hq]; rfl
    rw [← h, List.getElem?_map] at h1
    cases h2 : ws[k]? with
    | none => rw [h2] at h1; cases h1
    | some q0 => rw [h2] at h1; exact ⟨q0, rfl, Option.some.inj h1⟩
  refine ⟨fun i j x y hi hj hxy => ?_, fun k q hk => ?_⟩
  · obtain ⟨x0, a1, a2⟩ := key i x hi
    obtain ⟨y0, b1, b2⟩ := key j y hj
    exact hD.1 i j x0 y0 a1 b1 (a2.trans (hxy.trans b2.symm))
  · obtain ⟨q0, a1, a2⟩ := key k q hk
    exact a2 ▸ hD.2 k q0 a1
theorem va_P_left {D : va_G} {cl : List vw_C} {w1 w2 : va_W} {H : Heap} (h : va_P D cl (w1 ++ w2) H) : va_P D cl w1 H := fun k q hk => h k q (by
  rw [List.getElem?_append_left (List.getElem?_eq_some_iff.mp hk).1]; exact hk)
theorem va_P_right {D : va_G} {cl : List vw_C} {w1 w2 : va_W} {H : Heap} (h : va_P D cl (w1 ++ w2) H) : va_P D cl w2 H := fun k q hk => h (w1.length + k) q (by
  rw [List.getElem?_append_right (Nat.le_add_right _ _), Nat.add_sub_cancel_left]; exact hk)
theorem va_D_apart {A : Nat → Prop} {w1 w2 : va_W} (h : va_D A (w1 ++ w2)) {i j : Nat} {x y : Nat × va_E} (hx : w1[i]? = some x) (hy : w2[j]? = some y) : x.1 ≠ y.1 := fun e => by
  have hi := (List.getElem?_eq_some_iff.mp hx).1
  have := h.1 i (w1.length + j) x y (by rw [List.getElem?_append_left hi]; exact hx) (by rw [List.getElem?_append_right (Nat.le_add_right _ _), Nat.add_sub_cancel_left]; exact hy) e
  omega
theorem va_D_left {A : Nat → Prop} {w1 w2 : va_W} (h : va_D A (w1 ++ w2)) : va_D A w1 := by
  have e : ∀ (k : Nat) (q : Nat × va_E), w1[k]? = some q → (w1 ++ w2)[k]? = some q := fun k q hk => by
    rw [List.getElem?_append_left (List.getElem?_eq_some_iff.mp hk).1]; exact hk
  exact ⟨fun i j x y hi hj hxy => h.1 i j x y (e i x hi) (e j y hj) hxy, fun k q hk => h.2 k q (e k q hk)⟩
theorem va_D_right {A : Nat → Prop} {w1 w2 : va_W} (h : va_D A (w1 ++ w2)) : va_D A w2 := by
  have e : ∀ (k : Nat) (q : Nat × va_E), w2[k]? = some q → (w1 ++ w2)[w1.length + k]? = some q := fun k q hk => by
    rw [List.getElem?_append_right (Nat.le_add_right _ _), Nat.add_sub_cancel_left]; exact hk
  exact ⟨fun i j x y hi hj hxy => by have := h.1 _ _ x y (e i x hi) (e j y hj) hxy; omega, fun k q hk => h.2 _ q (e k q hk)⟩
/-- the addresses of a world, as a set -/
def adS (ws : va_W) : Nat → Prop := fun q => ∃ (k : Nat) (x : Nat × va_E), ws[k]? = some x ∧ x.1 = q
theorem va_D_self {A : Nat → Prop} {ws : va_W} (h : va_D A ws) : va_D (adS ws) ws := ⟨h.1, fun k q hk => ⟨k, q, hk, rfl⟩⟩
section GF
variable {Sg Sg1 : Type} {κ : KX Sg} {cc : ByteArray} {own : String} {nL fr lo pc : Nat} {lv : List (Nat × Value)} {rest st : List Value}
/-- a call whose callee knows a part of the world alone -/
theorem gd_callF (X : Cx κ cc own nL fr lo) {A1 : Nat → Prop} {wld1 : Sg1 → va_W} (sg1 : Sg1) (wrap : Sg1 → Sg) (hA : ∀ q, A1 q → (kE κ).2.1 q) (hsub : ∀ H, va_P (kE κ).1 vwCl ((kE κ).2.2.2 (wrap sg1)) H → va_P (kE κ).1 vwCl (wld1 sg1) H) (hD1 : ∀ g, va_D A1 (wld1 g)) (hback : ∀ (g : Sg1) (H H1 : Heap), va_P (kE κ).1 vwCl ((kE κ).2.2.2 (wrap sg1)) H → va_P (kE κ).1 vwCl (wld1 g) H1 → (∀ q : Nat, q < H.size → ¬ A1 q → H1[q]? = H[q]?) → va_P (kE κ).1 vwCl ((kE κ).2.2.2 (wrap g)) H1)
    {y : MethodName} {cb : ByteArray} {n na index : Nat} {ret : Option FieldType} {fr' lo' : Nat} {b : Nat} {As : List Value} {post : Option Value → Sg1 → Prop} (hk : LkV own index y cb n ret na) (hM : Mt (kL κ) ((kE κ).1, A1, (kE κ).2.2.1, wld1) y cb n ret fr' lo' (.ref b :: As) sg1 post) (q0 : Nat) {ci N : Nat} {T : u_T} {fs : List Value} (hc : vwCl[ci]? = some (y.cls, T, N)) (he : (wld1 sg1)[q0]? = some (b, .inr (ci, fs))) (hroom : fr' + 1 ≤ fr ∧ 8 + (n + 11) + lo' ≤ lo) (hlen : As.length = na) (hst : st = As.reverse ++ .ref b :: rest) (hcat : (rest.map fun v => v.category).sum ≤ 8) (hdg : decode cc pc = .ok (.invokevirtual index, 3))
    (kk : ∀ (v : Option Value) (g : Sg1), post v g → Gd κ nL (pc + 3) lv (v.toList ++ rest) (wrap g)) : Gd κ nL pc lv st (wrap sg1) := by
  obtain ⟨⟨p, l, e, R, s, m, args, below, meth, c, Q⟩, ⟨D, A, tys, wld⟩, kc, ks⟩ := κ
  intro H locs ls hP hS hl
  obtain ⟨hx, hb, hml, hown, hts, hK, hD, hrm, hkc, hks⟩ := X
  obtain ⟨k1, k2, k3, k4, k5, k6, k7, k8⟩ := hk
  have hr := va_runV (p := p) (e := e) (R := R) (below := below) (meth := meth) (locs := locs) (cells := kc) (slots := ks) (g := F0 m pc ls st) (As := As) (rest := rest) (Ts := gT) ⟨hx, hb, hml, hown, hts⟩ hM ⟨callB_of na hts (lw_good2 _ _ _ _ k5) rfl rfl rfl (hts _ k4) (hts _ k1) ⟨k6, k7, k8⟩ ⟨Nat.le_trans hroom.1 hrm.1, Nat.le_trans hroom.2 hrm.2⟩, hts _ k2, hts _ k3⟩ ⟨fun a U g mk q => by
    obtain ⟨q0, qP, qK, qD⟩ := q
    exact ⟨q0, qP, va_K.moved (u := U) (U := U.calling g mk a) (Vm.Alike.refl U.vm) qK, qD⟩, va_recv hK (hsub H hP) hc he, fun U hU hW => ⟨rfl, by rw [hU]; exact hsub H hP, va_K.moved hW.alike hK, hD1⟩⟩ rfl hlen hl.1 hst (lv_room hcat) hdg ⟨hkc, hks⟩
  intro T hT X
  obtain ⟨v, st₀, t, T', L, h0, X', hL, e1, e2, ⟨⟨v2, g, hv, hp, hb2⟩, hz, hk9⟩, stp⟩ := hr T hT X
  cases hv
  rw [h0] at hz hk9
  obtain ⟨t2, a1, b1⟩ := kk v g hp T'.heap (locs ++ L) ls (by rw [e1]; exact hback g H t.heap hP hb2 hk9) ⟨Nat.le_trans hS.1 (by rw [e1]; exact hz), fun q h1 h2 => by rw [e1, hk9 q (Nat.lt_of_lt_of_le h1 hS.1) (fun z => h2 (hA q z))]; exact hS.2.1 q h1 h2, fun q hq => by
      rcases List.mem_append.mp hq with h | h
      · exact hS.2.2 q h
      · exact hA _ (hL q h)⟩ hl T' rfl X'
  exact ⟨t2, stp t2 a1, b1⟩
end GF
/-- the two worlds side by side -/
def WL (cy : Nat → ClassId) (ad am : Nat → Nat) (g : SG × SG) : va_W := WC cy ad g.1 ++ WM cy am g.2
section GL
variable {p : Program} {l : Launch} {e : Env} {R : Room} {s : State} {m : MethodId} {args : Array Value} {below : List Frame} {meth : Method} {c : Code} {Q : State → Prop} {D : va_G} {A : Nat → Prop} {cy : Nat → ClassId} {ad am : Nat → Nat} {kc ks : Nat}
variable {cc : ByteArray} {own : String} {nL fr lo pc : Nat} {lv : List (Nat × Value)} {rest st : List Value}
abbrev kW (b : BX) (D : va_G) (A : Nat → Prop) (cy : Nat → ClassId) (ad am : Nat → Nat) (kc ks : Nat) : KX (SG × SG) := (b, (D, A, tyG cy, WL cy ad am), kc, ks)
theorem WC_ad (cy : Nat → ClassId) (ad : Nat → Nat) (g g' : SG) : (WC cy ad g).map (fun q => q.1) = (WC cy ad g').map (fun q => q.1) := rfl
theorem WM_ad (cy : Nat → ClassId) (ad : Nat → Nat) (g g' : SG) : (WM cy ad g).map (fun q => q.1) = (WM cy ad g').map (fun q => q.1) := rfl
theorem WL_ad (cy : Nat → ClassId) (ad am : Nat → Nat) (g g' : SG × SG) : (WL cy ad am g).map (fun q => q.1) = (WL cy ad am g').map (fun q => q.1) := rfl
def z0 : SG := fun _ _ => 0
def AC (cy : Nat → ClassId) (ad : Nat → Nat) : Nat → Prop := adS (WC cy ad z0)
def AM (cy : Nat → ClassId) (ad : Nat → Nat) : Nat → Prop := adS (WM cy ad z0)
theorem adS_of {ws ws' : va_W} (h : ws.map (fun q => q.1) = ws'.map (fun q => q.1)) {q : Nat} (hq : adS ws q) : adS ws' q := by
  obtain ⟨k, x, hk, hx⟩ := hq
  have h1 : (ws.map (fun q => q.1))[k]? = some x.1 := by rw [List.getElem?_map, hk]; rfl
  rw [h, List.getElem?_map] at h1
  cases h2 : ws'[k]? with
  | none => rw [h2] at h1; cases h1
  | some q0 => rw [h2] at h1; exact ⟨k, q0, h2, (Option.some.inj h1).trans hx⟩
theorem gd_left (X : Cx (kW (p, l, e, R, s, m, args, below, meth, c, Q) D A cy ad am kc ks) cc own nL fr lo) {g1 g2 : SG} {y : MethodName} {cb : ByteArray} {n na index : Nat} {ret : Option FieldType} {fr' lo' : Nat} {As : List Value} {post : Option Value → SG → Prop} (hk : LkV own index y cb n ret na) (hM : Mt l (eC D (AC cy ad) cy ad) y cb n ret fr' lo' (.ref (ad 0) :: As) g1 post) (hc : vwCl[4]? = some (y.cls, TX5, 8)) (hroom : fr' + 1 ≤ fr ∧ 8 + (n + 11) + lo' ≤ lo) (hlen : As.length = na) (hst : st = As.reverse ++ .ref (ad 0) :: rest) (hcat : (rest.map fun v => v.category).sum ≤ 8) (hdg : decode cc pc = .ok (.invokevirtual index, 3))
    (kk : ∀ (v : Option Value) (g : SG), post v g → Gd (kW (p, l, e, R, s, m, args, below, meth, c, Q) D A cy ad am kc ks) nL (pc + 3) lv (v.toList ++ rest) (g, g2)) : Gd (kW (p, l, e, R, s, m, args, below, meth, c, Q) D A cy ad am kc ks) nL pc lv st (g1, g2) := by
  have hD : ∀ g : SG × SG, va_D A (WL cy ad am g) := X.2.2.2.2.2.2.1
  have hD1 : ∀ g, va_D (AC cy ad) (WC cy ad g) := fun g => va_D_ad (WC_ad cy ad z0 g) (va_D_self (va_D_left (hD (z0, z0))))
  refine gd_callF X (A1 := AC cy ad) (wld1 := WC cy ad) g1 (fun g => (g, g2)) (fun q hq => ?_) (fun H h => va_P_left h) hD1 (fun g H H1 h h1 hk => ?_) hk hM 0 hc rfl hroom hlen hst hcat hdg kk
  · obtain ⟨k, x, hk, rfl⟩ := hq
    exact (va_D_left (hD (z0, z0))).2 k x hk
  · refine va_P.app h1 (va_P.kept (va_P_right h) fun k q hq => hk q.1 ((va_P_right h) k q hq).lt fun z => ?_)
    obtain ⟨j, x, hj, hx⟩ := adS_of (WC_ad cy ad z0 g1) z
    exact va_D_apart (hD (g1, g2)) hj hq hx
theorem gd_right (X : Cx (kW (p, l, e, R, s, m, args, below, meth, c, Q) D A cy ad am kc ks) cc own nL fr lo) {g1 g2 : SG} {y : MethodName} {cb : ByteArray} {n na index : Nat} {ret : Option FieldType} {fr' lo' : Nat} {As : List Value} {post : Option Value → SG → Prop} (hk : LkV own index y cb n ret na) (hM : Mt l (eM D (AM cy am) cy am) y cb n ret fr' lo' (.ref (am 0) :: As) g2 post) (hc : vwCl[5]? = some (y.cls, TX6, 14)) (hroom : fr' + 1 ≤ fr ∧ 8 + (n + 11) + lo' ≤ lo) (hlen : As.length = na) (hst : st = As.reverse ++ .ref (am 0) :: rest) (hcat : (rest.map fun v => v.category).sum ≤ 8) (hdg : decode cc pc = .ok (.invokevirtual index, 3))
    (kk : ∀ (v : Option Value) (g : SG), post v g → Gd (kW (p, l, e, R, s, m, args, below, meth, c, Q) D A cy ad am kc ks) nL (pc + 3) lv (v.toList ++ rest) (g1, g)) : Gd (kW (p, l, e, R, s, m, args, below, meth, c, Q) D A cy ad am kc ks) nL pc lv st (g1, g2) := by
  have hD : ∀ g : SG × SG, va_D A (WL cy ad am g) := X.2.2.2.2.2.2.1
  have hD1 : ∀ g, va_D (AM cy am) (WM cy am g) := fun g => va_D_ad (WM_ad cy am z0 g) (va_D_self (va_D_right (hD (z0, z0))))
  refine gd_callF X (A1 := AM cy am) (wld1 := WM cy am) g2 (fun g => (g1, g)) (fun q hq => ?_) (fun H h => va_P_right h) hD1 (fun g H H1 h h1 hk => ?_) hk hM 0 hc rfl hroom hlen hst hcat hdg kk
  · obtain ⟨k, x, hk, rfl⟩ := hq
    exact (va_D_right (hD (z0, z0))).2 k x hk
  · refine va_P.app (va_P.kept (va_P_left h) fun k q hq => hk q.1 ((va_P_left h) k q hq).lt fun z => ?_) h1
    obtain ⟨j, x, hj, hx⟩ := adS_of (WM_ad cy am z0 g2) z
    exact va_D_apart (hD (g1, g2)) hq hj hx.symm
theorem gd_sld {Sg : Type} {tys : List (ClassId × FieldType)} {wld : Sg → va_W} {sg : Sg} (X : Cx ((p, l, e, R, s, m, args, below, meth, c, Q), (D, A, tys, wld), kc, ks) cc own nL fr lo) {b L : Nat} {xs : Nat → Int32} (hX : va_X b L xs s s.heap) (hbl : b < s.heap.size) (hbA : ¬ A b) {i : Int32} (hin : vp_in i L) (hdg : decode cc pc = .ok (.iaload, 1))
    (kk : Gd ((p, l, e, R, s, m, args, below, meth, c, Q), (D, A, tys, wld), kc, ks) nL (pc + 1) lv (.int (xs i.toNatClampNeg) :: rest) sg) : Gd ((p, l, e, R, s, m, args, below, meth, c, Q), (D, A, tys, wld), kc, ks) nL pc lv (.int i :: .ref b :: rest) sg := by
  intro H locs ls hP hS hl
  exact va_sld X.1 X.2.1 hX hbl hbA hS hin hdg (kk H locs ls hP hS hl)
theorem gd_slen {Sg : Type} {tys : List (ClassId × FieldType)} {wld : Sg → va_W} {sg : Sg} (X : Cx ((p, l, e, R, s, m, args, below, meth, c, Q), (D, A, tys, wld), kc, ks) cc own nL fr lo) {b L : Nat} {xs : Nat → Int32} (hX : va_X b L xs s s.heap) (hbl : b < s.heap.size) (hbA : ¬ A b) (hdg : decode cc pc = .ok (.arraylength, 1))
    (kk : Gd ((p, l, e, R, s, m, args, below, meth, c, Q), (D, A, tys, wld), kc, ks) nL (pc + 1) lv (.int (Int32.ofNat L) :: rest) sg) : Gd ((p, l, e, R, s, m, args, below, meth, c, Q), (D, A, tys, wld), kc, ks) nL pc lv (.ref b :: rest) sg := by
  intro H locs ls hP hS hl
  exact va_slen X.1 X.2.1 hX hbl hbA hS hdg (kk H locs ls hP hS hl)
theorem gd_lret {Sg : Type} {tys : List (ClassId × FieldType)} {wld : Sg → va_W} {sg : Sg} {b : Nat} (hx : p.tables.exec = Jvm.exec) (hb : c.code = code) (hr : meth.sig.returnType = ret) (hlocks : meth.locks = false) (hkc : kc ≤ 600000) (hks : ks ≤ 7302250) (hdg : decode code pc = .ok (.ireturn, 1)) : Gd ((p, l, e, room_1, s, m, #[Value.ref b], below, meth, c, lw_Z below #[Value.ref b] s), (D, (fun q : Nat => s.heap.size ≤ q), tys, wld), kc, ks) nL pc lv [.int 1] sg := by
  intro H locs ls hP hS hl
  refine va_forget (fun q hq => hS.2.2 q hq) ?_
  refine W.widen (k := 600000) (n := 7302250) hkc hks ?_
  exact lw_ret hx hb hr hlocks hdg
end GL
/-- what each call owes: both answer alike, and the invariant holds behind it -/
def SimAll (Inv : SG → SG → Prop) : Prop :=
  (∀ (g h : SG) (x1 : Int32), Inv g h → B_X5_hears_0 (fun r g3 => B_X6_hears_0 (fun r2 h3 => r = r2 ∧ Inv g3 h3) x1 h) x1 g) ∧
  (∀ (g h : SG) (x1 x2 : Int32), Inv g h → B_X5_frames_0 (fun r g3 => B_X6_frames_0 (fun r2 h3 => r = r2 ∧ Inv g3 h3) x1 x2 h) x1 x2 g) ∧
  (∀ (g h : SG) (x1 : Int32), Inv g h → B_X5_loses_0 (fun r g3 => B_X6_loses_0 (fun r2 h3 => r = r2 ∧ Inv g3 h3) x1 h) x1 g) ∧
  (∀ (g h : SG) (x1 : Int32), Inv g h → B_X5_needs_0 (fun r g3 => B_X6_needs_0 (fun r2 h3 => r = r2 ∧ Inv g3 h3) x1 h) x1 g) ∧
  (∀ (g h : SG) (x1 : Int32), Inv g h → B_X5_drifts_0 (fun r g3 => B_X6_drifts_0 (fun r2 h3 => r = r2 ∧ Inv g3 h3) x1 h) x1 g) ∧
  (∀ (g h : SG), Inv g h → B_X5_sets_0 (fun r g3 => B_X6_sets_0 (fun r2 h3 => r = r2 ∧ Inv g3 h3)  h)  g) ∧
  (∀ (g h : SG) (x1 : Int32), Inv g h → B_X5_goes_0 (fun r g3 => B_X6_goes_0 (fun r2 h3 => r = r2 ∧ Inv g3 h3) x1 h) x1 g) ∧
  (∀ (g h : SG), Inv g h → B_X5_undo_0 (fun r g3 => B_X6_undo_0 (fun r2 h3 => r = r2 ∧ Inv g3 h3)  h)  g) ∧
  (∀ (g h : SG) (x1 : Int32), Inv g h → B_X5_symbol_0 (fun r => B_X6_symbol_0 (fun r2 => r = r2 ∧ Inv g h) x1 h) x1 g) ∧
  (∀ (g h : SG) (x1 x2 : Int32), Inv g h → B_X5_read_0 (fun r g3 => B_X6_read_0 (fun r2 h3 => r = r2 ∧ Inv g3 h3) x1 x2 h) x1 x2 g) ∧
  (∀ (g h : SG) (x1 : Int32), Inv g h → B_X5_vote_0 (fun r g3 => B_X6_vote_0 (fun r2 h3 => r = r2 ∧ Inv g3 h3) x1 h) x1 g) ∧
  (∀ (g h : SG) (x1 x2 x3 x4 : Int32), Inv g h → B_X5_misses_0 (fun r g3 => B_X6_misses_0 (fun r2 h3 => r = r2 ∧ Inv g3 h3) x1 x2 x3 x4 h) x1 x2 x3 x4 g) ∧
  (∀ (g h : SG) (x1 x2 : Int32), Inv g h → B_X5_close_0 (fun r g3 => B_X6_close_0 (fun r2 h3 => r = r2 ∧ Inv g3 h3) x1 x2 h) x1 x2 g) ∧
  (∀ (g h : SG) (x1 x2 x3 x4 : Int32), Inv g h → B_X5_bits_0 (fun r => B_X6_bits_0 (fun r2 => r = r2 ∧ Inv g h) x1 x2 x3 x4 h) x1 x2 x3 x4 g) ∧
  (∀ (g h : SG) (x1 : Int32), Inv g h → B_X5_clock_0 (fun r g3 => B_X6_clock_0 (fun r2 h3 => r = r2 ∧ Inv g3 h3) x1 h) x1 g) ∧
  (∀ (g h : SG) (x1 : Int32), Inv g h → B_X5_keep_0 (fun r g3 => B_X6_keep_0 (fun r2 h3 => r = r2 ∧ Inv g3 h3) x1 h) x1 g) ∧
  (∀ (g h : SG) (x1 : Int32), Inv g h → B_X5_back_0 (fun r g3 => B_X6_back_0 (fun r2 h3 => r = r2 ∧ Inv g3 h3) x1 h) x1 g) ∧
  (∀ (g h : SG) (x1 : Int32), Inv g h → B_X5_count_0 (fun r g3 => B_X6_count_0 (fun r2 h3 => r = r2 ∧ Inv g3 h3) x1 h) x1 g)
section GLL
variable {p : Program} {l : Launch} {e : Env} {s : State} {m : MethodId} {below : List Frame} {meth : Method} {c : Code} {D : va_G} {cy : Nat → ClassId} {ad am : Nat → Nat} {kc ks b L : Nat} {xs : Nat → Int32}
set_option maxRecDepth 100000 in
set_option maxHeartbeats 4000000 in
theorem law_loop {Inv : SG → SG → Prop} (hsim : SimAll Inv) (X : Cx (kW (p, l, e, room_1, s, m, #[Value.ref b], below, meth, c, lw_Z below #[Value.ref b] s) D (fun q : Nat => s.heap.size ≤ q) cy ad am kc ks) code R_law 4 9 314) (hr : meth.sig.returnType = ret) (hlocks : meth.locks = false) (hkc : kc ≤ 600000) (hks : ks ≤ 7302250) (hX : va_X b L xs s s.heap) (hbl : b < s.heap.size) (hL : L ≤ 2560) : ∀ (n i : Nat) (g h : SG), i ≤ L → L + 1 ≤ i + n → Inv g h → Gd (kW (p, l, e, room_1, s, m, #[Value.ref b], below, meth, c, lw_Z below #[Value.ref b] s) D (fun q : Nat => s.heap.size ≤ q) cy ad am kc ks) 4 18 [(0, .ref b), (1, .ref (ad 0)), (2, .ref (am 0)), (3, .int (nI i))] [] (g, h) := by
  have hbA : ¬ (fun q : Nat => s.heap.size ≤ q) b := Nat.not_le.mpr hbl
  intro n
  induction n with
  | zero => intro i g h h1 h2; exact absurd h2 (by omega)
  | succ n ih =>
    intro i g h hi hin hI
    refine gd_iload_n X dL_law_18 3 rfl ?_
    refine gd_aload_n X dL_law_19 0 rfl ?_
    refine gd_slen X hX hbl hbA dL_law_20 ?_
    refine gd_iconst (v := 5) X dL_law_21 (by decide) ?_
    refine gd_isub X dL_law_22 ?_
    refine gd_icmp_gt (tgt := 610) X dL_law_23 (by decide) (fun c1 => ?_) (fun c1 => ?_)
    · refine gd_iconst (v := 1) X dL_law_610 (by decide) ?_
      exact gd_lret X.1 X.2.1 hr hlocks hkc hks dL_law_611
    · have hlt : i + 5 ≤ L := by
        have e1 : (Int32.ofNat L - 5).toInt = (L : Int) - 5 := pk_sub_toInt (a := L) (b := 5) (by omega) (by omega)
        have e2 : (nI i).toInt = (i : Int) := nI_toInt (by omega)
        have c2 : ¬ (Int32.ofNat L - 5).toInt < (nI i).toInt := fun z => c1 (Int32.lt_iff_toInt_lt.mpr z)
        rw [e1, e2] at c2
        omega
      have iv0 : vp_in (nI i) L := vp_in_nI (by omega) (by omega)
      have iv1 : vp_in (nI i + 1) L := by rw [show nI i + 1 = nI (i + 1) from nI_add i 1]; exact vp_in_nI (by omega) (by omega)
      have iv2 : vp_in (nI i + 2) L := by rw [show nI i + 2 = nI (i + 2) from nI_add i 2]; exact vp_in_nI (by omega) (by omega)
      have iv3 : vp_in (nI i + 3) L := by rw [show nI i + 3 = nI (i + 3) from nI_add i 3]; exact vp_in_nI (by omega) (by omega)
      have iv4 : vp_in (nI i + 4) L := by rw [show nI i + 4 = nI (i + 4) from nI_add i 4]; exact vp_in_nI (by omega) (by omega)
      have back : ∀ (g3 h3 : SG), Inv g3 h3 → Gd (kW (p, l, e, room_1, s, m, #[Value.ref b], below, meth, c, lw_Z below #[Value.ref b] s) D (fun q : Nat => s.heap.size ≤ q) cy ad am kc ks) 4 604 [(0, .ref b), (1, .ref (ad 0)), (2, .ref (am 0)), (3, .int (nI i))] [] (g3, h3) := by
        intro g3 h3 hI3
        refine gd_incn X 3 5 dL_law_604 rfl (by decide) (by decide) (fun z1 => [(3, .int z1), (0, .ref b), (1, .ref (ad 0)), (2, .ref (am 0))]) (fun _ => rfl) (fun z1 ez1 => ?_)
        have ez1 : z1 = nI (i + 5) := by rw [ez1]; exact nI_add i 5
        subst ez1
        refine gd_goto (tgt := 18) X dL_law_607 (by decide) ?_
        refine gd_sub [1, 2, 3, 0] rfl ?_
        exact ih (i + 5) g3 h3 hlt (by omega) hI3
      refine gd_aload_n X dL_law_26 0 rfl ?_
      refine gd_iload_n X dL_law_27 3 rfl ?_
      refine gd_sld X hX hbl hbA iv0 dL_law_28 ?_
      refine gd_bipush (v := 31) X dL_law_29 (by decide) ?_
      refine gd_iand X dL_law_31 ?_
      obtain ⟨q1, q2, q3, q4, q5, q6, q7, q8, q9, q10, q11, q12, q13, q14, q15, q16, q17, q18⟩ := hsim
      refine gd_table (tgt := 604) X dL_law_32 (by decide) [120, 143, 176, 199, 222, 245, 258, 281, 294, 317, 350, 373, 426, 459, 512, 535, 558, 581] (by decide) (by decide) (fun _ => back g h hI) ⟨fun _ => ?_, fun _ => ?_, fun _ => ?_, fun _ => ?_, fun _ => ?_, fun _ => ?_, fun _ => ?_, fun _ => ?_, fun _ => ?_, fun _ => ?_, fun _ => ?_, fun _ => ?_, fun _ => ?_, fun _ => ?_, fun _ => ?_, fun _ => ?_, fun _ => ?_, fun _ => ?_, trivial⟩
      · have hq := q1 g h (xs (nI i + 1).toNatClampNeg) hI
        refine gd_aload_n X dL_law_120 1 rfl ?_
        refine gd_aload_n X dL_law_121 0 rfl ?_
        refine gd_iload_n X dL_law_122 3 rfl ?_
        refine gd_iconst (v := 1) X dL_law_123 (by decide) ?_
        refine gd_iadd X dL_law_124 ?_
        refine gd_sld X hX hbl hbA iv1 dL_law_125 ?_
        refine gd_left (As := [.int (xs (nI i + 1).toNatClampNeg)]) (rest := []) X lk_L_13 (c_X5_hears _ _ _ _ _ _ _ _ hq) rfl ⟨by decide, by decide⟩ rfl rfl (Nat.le_of_ble_eq_true rfl) dL_law_126 (fun v g3 hp => ?_)
        obtain ⟨r, rfl, hq⟩ := hp
        refine gd_aload_n X dL_law_129 2 rfl ?_
        refine gd_aload_n X dL_law_130 0 rfl ?_
        refine gd_iload_n X dL_law_131 3 rfl ?_
        refine gd_iconst (v := 1) X dL_law_132 (by decide) ?_
        refine gd_iadd X dL_law_133 ?_
        refine gd_sld X hX hbl hbA iv1 dL_law_134 ?_
        refine gd_right (As := [.int (xs (nI i + 1).toNatClampNeg)]) (rest := [.int r]) X lk_L_17 (c_X6_hears _ _ _ _ _ _ _ _ hq) rfl ⟨by decide, by decide⟩ rfl rfl (Nat.le_of_ble_eq_true rfl) dL_law_135 (fun v h3 hp => ?_)
        obtain ⟨r2, rfl, hq⟩ := hp
        refine gd_icmp_eq (tgt := 604) X dL_law_138 (by decide) (fun c1 => ?_) (fun c1 => ?_)
        · exact back _ _ hq.2
        · exact absurd hq.1 c1
      · have hq := q2 g h (xs (nI i + 1).toNatClampNeg) (xs (nI i + 2).toNatClampNeg) hI
        refine gd_aload_n X dL_law_143 1 rfl ?_
        refine gd_aload_n X dL_law_144 0 rfl ?_
        refine gd_iload_n X dL_law_145 3 rfl ?_
        refine gd_iconst (v := 1) X dL_law_146 (by decide) ?_
        refine gd_iadd X dL_law_147 ?_
        refine gd_sld X hX hbl hbA iv1 dL_law_148 ?_
        refine gd_aload_n X dL_law_149 0 rfl ?_
        refine gd_iload_n X dL_law_150 3 rfl ?_
        refine gd_iconst (v := 2) X dL_law_151 (by decide) ?_
        refine gd_iadd X dL_law_152 ?_
        refine gd_sld X hX hbl hbA iv2 dL_law_153 ?_
        refine gd_left (As := [.int (xs (nI i + 1).toNatClampNeg), .int (xs (nI i + 2).toNatClampNeg)]) (rest := []) X lk_L_18 (c_X5_frames _ _ _ _ _ _ _ _ _ hq) rfl ⟨by decide, by decide⟩ rfl rfl (Nat.le_of_ble_eq_true rfl) dL_law_154 (fun v g3 hp => ?_)
        obtain ⟨r, rfl, hq⟩ := hp
        refine gd_aload_n X dL_law_157 2 rfl ?_
        refine gd_aload_n X dL_law_158 0 rfl ?_
        refine gd_iload_n X dL_law_159 3 rfl ?_
        refine gd_iconst (v := 1) X dL_law_160 (by decide) ?_
        refine gd_iadd X dL_law_161 ?_
        refine gd_sld X hX hbl hbA iv1 dL_law_162 ?_
        refine gd_aload_n X dL_law_163 0 rfl ?_
        refine gd_iload_n X dL_law_164 3 rfl ?_
        refine gd_iconst (v := 2) X dL_law_165 (by decide) ?_
        refine gd_iadd X dL_law_166 ?_
        refine gd_sld X hX hbl hbA iv2 dL_law_167 ?_
        refine gd_right (As := [.int (xs (nI i + 1).toNatClampNeg), .int (xs (nI i + 2).toNatClampNeg)]) (rest := [.int r]) X lk_L_22 (c_X6_frames _ _ _ _ _ _ _ _ _ hq) rfl ⟨by decide, by decide⟩ rfl rfl (Nat.le_of_ble_eq_true rfl) dL_law_168 (fun v h3 hp => ?_)
        obtain ⟨r2, rfl, hq⟩ := hp
        refine gd_icmp_eq (tgt := 604) X dL_law_171 (by decide) (fun c1 => ?_) (fun c1 => ?_)
        · exact back _ _ hq.2
        · exact absurd hq.1 c1
      · have hq := q3 g h (xs (nI i + 1).toNatClampNeg) hI
        refine gd_aload_n X dL_law_176 1 rfl ?_
        refine gd_aload_n X dL_law_177 0 rfl ?_
        refine gd_iload_n X dL_law_178 3 rfl ?_
        refine gd_iconst (v := 1) X dL_law_179 (by decide) ?_
        refine gd_iadd X dL_law_180 ?_
        refine gd_sld X hX hbl hbA iv1 dL_law_181 ?_
        refine gd_left (As := [.int (xs (nI i + 1).toNatClampNeg)]) (rest := []) X lk_L_23 (c_X5_loses _ _ _ _ _ _ _ _ hq) rfl ⟨by decide, by decide⟩ rfl rfl (Nat.le_of_ble_eq_true rfl) dL_law_182 (fun v g3 hp => ?_)
        obtain ⟨r, rfl, hq⟩ := hp
        refine gd_aload_n X dL_law_185 2 rfl ?_
        refine gd_aload_n X dL_law_186 0 rfl ?_
        refine gd_iload_n X dL_law_187 3 rfl ?_
        refine gd_iconst (v := 1) X dL_law_188 (by decide) ?_
        refine gd_iadd X dL_law_189 ?_
        refine gd_sld X hX hbl hbA iv1 dL_law_190 ?_
        refine gd_right (As := [.int (xs (nI i + 1).toNatClampNeg)]) (rest := [.int r]) X lk_L_26 (c_X6_loses _ _ _ _ _ _ _ _ hq) rfl ⟨by decide, by decide⟩ rfl rfl (Nat.le_of_ble_eq_true rfl) dL_law_191 (fun v h3 hp => ?_)
        obtain ⟨r2, rfl, hq⟩ := hp
        refine gd_icmp_eq (tgt := 604) X dL_law_194 (by decide) (fun c1 => ?_) (fun c1 => ?_)
        · exact back _ _ hq.2
        · exact absurd hq.1 c1
      · have hq := q4 g h (xs (nI i + 1).toNatClampNeg) hI
        refine gd_aload_n X dL_law_199 1 rfl ?_
        refine gd_aload_n X dL_law_200 0 rfl ?_
        refine gd_iload_n X dL_law_201 3 rfl ?_
        refine gd_iconst (v := 1) X dL_law_202 (by decide) ?_
        refine gd_iadd X dL_law_203 ?_
        refine gd_sld X hX hbl hbA iv1 dL_law_204 ?_
        refine gd_left (As := [.int (xs (nI i + 1).toNatClampNeg)]) (rest := []) X lk_L_27 (c_X5_needs _ _ _ _ _ _ _ _ hq) rfl ⟨by decide, by decide⟩ rfl rfl (Nat.le_of_ble_eq_true rfl) dL_law_205 (fun v g3 hp => ?_)
        obtain ⟨r, rfl, hq⟩ := hp
        refine gd_aload_n X dL_law_208 2 rfl ?_
        refine gd_aload_n X dL_law_209 0 rfl ?_
        refine gd_iload_n X dL_law_210 3 rfl ?_
        refine gd_iconst (v := 1) X dL_law_211 (by decide) ?_
        refine gd_iadd X dL_law_212 ?_
        refine gd_sld X hX hbl hbA iv1 dL_law_213 ?_
        refine gd_right (As := [.int (xs (nI i + 1).toNatClampNeg)]) (rest := [.int r]) X lk_L_30 (c_X6_needs _ _ _ _ _ _ _ _ hq) rfl ⟨by decide, by decide⟩ rfl rfl (Nat.le_of_ble_eq_true rfl) dL_law_214 (fun v h3 hp => ?_)
        obtain ⟨r2, rfl, hq⟩ := hp
        refine gd_icmp_eq (tgt := 604) X dL_law_217 (by decide) (fun c1 => ?_) (fun c1 => ?_)
        · exact back _ _ hq.2
        · exact absurd hq.1 c1
      · have hq := q5 g h (xs (nI i + 1).toNatClampNeg) hI
        refine gd_aload_n X dL_law_222 1 rfl ?_
        refine gd_aload_n X dL_law_223 0 rfl ?_
        refine gd_iload_n X dL_law_224 3 rfl ?_
        refine gd_iconst (v := 1) X dL_law_225 (by decide) ?_
        refine gd_iadd X dL_law_226 ?_
        refine gd_sld X hX hbl hbA iv1 dL_law_227 ?_
        refine gd_left (As := [.int (xs (nI i + 1).toNatClampNeg)]) (rest := []) X lk_L_31 (c_X5_drifts _ _ _ _ _ _ _ _ hq) rfl ⟨by decide, by decide⟩ rfl rfl (Nat.le_of_ble_eq_true rfl) dL_law_228 (fun v g3 hp => ?_)
        obtain ⟨r, rfl, hq⟩ := hp
        refine gd_aload_n X dL_law_231 2 rfl ?_
        refine gd_aload_n X dL_law_232 0 rfl ?_
        refine gd_iload_n X dL_law_233 3 rfl ?_
        refine gd_iconst (v := 1) X dL_law_234 (by decide) ?_
        refine gd_iadd X dL_law_235 ?_
        refine gd_sld X hX hbl hbA iv1 dL_law_236 ?_
        refine gd_right (As := [.int (xs (nI i + 1).toNatClampNeg)]) (rest := [.int r]) X lk_L_34 (c_X6_drifts _ _ _ _ _ _ _ _ hq) rfl ⟨by decide, by decide⟩ rfl rfl (Nat.le_of_ble_eq_true rfl) dL_law_237 (fun v h3 hp => ?_)
        obtain ⟨r2, rfl, hq⟩ := hp
        refine gd_icmp_eq (tgt := 604) X dL_law_240 (by decide) (fun c1 => ?_) (fun c1 => ?_)
        · exact back _ _ hq.2
        · exact absurd hq.1 c1
      · have hq := q6 g h  hI
        refine gd_aload_n X dL_law_245 1 rfl ?_
        refine gd_left (As := []) (rest := []) X lk_L_35 (c_X5_sets _ _ _ _ _ _  _ hq) rfl ⟨by decide, by decide⟩ rfl rfl (Nat.le_of_ble_eq_true rfl) dL_law_246 (fun v g3 hp => ?_)
        obtain ⟨r, rfl, hq⟩ := hp
        refine gd_aload_n X dL_law_249 2 rfl ?_
        refine gd_right (As := []) (rest := [.int r]) X lk_L_39 (c_X6_sets _ _ _ _ _ _  _ hq) rfl ⟨by decide, by decide⟩ rfl rfl (Nat.le_of_ble_eq_true rfl) dL_law_250 (fun v h3 hp => ?_)
        obtain ⟨r2, rfl, hq⟩ := hp
        refine gd_icmp_eq (tgt := 604) X dL_law_253 (by decide) (fun c1 => ?_) (fun c1 => ?_)
        · exact back _ _ hq.2
        · exact absurd hq.1 c1
      · have hq := q7 g h (xs (nI i + 1).toNatClampNeg) hI
        refine gd_aload_n X dL_law_258 1 rfl ?_
        refine gd_aload_n X dL_law_259 0 rfl ?_
        refine gd_iload_n X dL_law_260 3 rfl ?_
        refine gd_iconst (v := 1) X dL_law_261 (by decide) ?_
        refine gd_iadd X dL_law_262 ?_
        refine gd_sld X hX hbl hbA iv1 dL_law_263 ?_
        refine gd_left (As := [.int (xs (nI i + 1).toNatClampNeg)]) (rest := []) X lk_L_40 (c_X5_goes _ _ _ _ _ _ _ _ hq) rfl ⟨by decide, by decide⟩ rfl rfl (Nat.le_of_ble_eq_true rfl) dL_law_264 (fun v g3 hp => ?_)
        obtain ⟨r, rfl, hq⟩ := hp
        refine gd_aload_n X dL_law_267 2 rfl ?_
        refine gd_aload_n X dL_law_268 0 rfl ?_
        refine gd_iload_n X dL_law_269 3 rfl ?_
        refine gd_iconst (v := 1) X dL_law_270 (by decide) ?_
        refine gd_iadd X dL_law_271 ?_
        refine gd_sld X hX hbl hbA iv1 dL_law_272 ?_
        refine gd_right (As := [.int (xs (nI i + 1).toNatClampNeg)]) (rest := [.int r]) X lk_L_43 (c_X6_goes _ _ _ _ _ _ _ _ hq) rfl ⟨by decide, by decide⟩ rfl rfl (Nat.le_of_ble_eq_true rfl) dL_law_273 (fun v h3 hp => ?_)
        obtain ⟨r2, rfl, hq⟩ := hp
        refine gd_icmp_eq (tgt := 604) X dL_law_276 (by decide) (fun c1 => ?_) (fun c1 => ?_)
        · exact back _ _ hq.2
        · exact absurd hq.1 c1
      · have hq := q8 g h  hI
        refine gd_aload_n X dL_law_281 1 rfl ?_
        refine gd_left (As := []) (rest := []) X lk_L_44 (c_X5_undo _ _ _ _ _ _  _ hq) rfl ⟨by decide, by decide⟩ rfl rfl (Nat.le_of_ble_eq_true rfl) dL_law_282 (fun v g3 hp => ?_)
        obtain ⟨r, rfl, hq⟩ := hp
        refine gd_aload_n X dL_law_285 2 rfl ?_
        refine gd_right (As := []) (rest := [.int r]) X lk_L_47 (c_X6_undo _ _ _ _ _ _  _ hq) rfl ⟨by decide, by decide⟩ rfl rfl (Nat.le_of_ble_eq_true rfl) dL_law_286 (fun v h3 hp => ?_)
        obtain ⟨r2, rfl, hq⟩ := hp
        refine gd_icmp_eq (tgt := 604) X dL_law_289 (by decide) (fun c1 => ?_) (fun c1 => ?_)
        · exact back _ _ hq.2
        · exact absurd hq.1 c1
      · have hq := q9 g h (xs (nI i + 1).toNatClampNeg) hI
        refine gd_aload_n X dL_law_294 1 rfl ?_
        refine gd_aload_n X dL_law_295 0 rfl ?_
        refine gd_iload_n X dL_law_296 3 rfl ?_
        refine gd_iconst (v := 1) X dL_law_297 (by decide) ?_
        refine gd_iadd X dL_law_298 ?_
        refine gd_sld X hX hbl hbA iv1 dL_law_299 ?_
        refine gd_left (As := [.int (xs (nI i + 1).toNatClampNeg)]) (rest := []) X lk_L_48 (c_X5_symbol _ _ _ _ _ _ _ _ hq) rfl ⟨by decide, by decide⟩ rfl rfl (Nat.le_of_ble_eq_true rfl) dL_law_300 (fun v g3 hp => ?_)
        obtain ⟨r, rfl, rfl, hq⟩ := hp
        refine gd_aload_n X dL_law_303 2 rfl ?_
        refine gd_aload_n X dL_law_304 0 rfl ?_
        refine gd_iload_n X dL_law_305 3 rfl ?_
        refine gd_iconst (v := 1) X dL_law_306 (by decide) ?_
        refine gd_iadd X dL_law_307 ?_
        refine gd_sld X hX hbl hbA iv1 dL_law_308 ?_
        refine gd_right (As := [.int (xs (nI i + 1).toNatClampNeg)]) (rest := [.int r]) X lk_L_51 (c_X6_symbol _ _ _ _ _ _ _ _ hq) rfl ⟨by decide, by decide⟩ rfl rfl (Nat.le_of_ble_eq_true rfl) dL_law_309 (fun v h3 hp => ?_)
        obtain ⟨r2, rfl, rfl, hq⟩ := hp
        refine gd_icmp_eq (tgt := 604) X dL_law_312 (by decide) (fun c1 => ?_) (fun c1 => ?_)
        · exact back _ _ hq.2
        · exact absurd hq.1 c1
      · have hq := q10 g h (xs (nI i + 1).toNatClampNeg) (xs (nI i + 2).toNatClampNeg) hI
        refine gd_aload_n X dL_law_317 1 rfl ?_
        refine gd_aload_n X dL_law_318 0 rfl ?_
        refine gd_iload_n X dL_law_319 3 rfl ?_
        refine gd_iconst (v := 1) X dL_law_320 (by decide) ?_
        refine gd_iadd X dL_law_321 ?_
        refine gd_sld X hX hbl hbA iv1 dL_law_322 ?_
        refine gd_aload_n X dL_law_323 0 rfl ?_
        refine gd_iload_n X dL_law_324 3 rfl ?_
        refine gd_iconst (v := 2) X dL_law_325 (by decide) ?_
        refine gd_iadd X dL_law_326 ?_
        refine gd_sld X hX hbl hbA iv2 dL_law_327 ?_
        refine gd_left (As := [.int (xs (nI i + 1).toNatClampNeg), .int (xs (nI i + 2).toNatClampNeg)]) (rest := []) X lk_L_52 (c_X5_read _ _ _ _ _ _ _ _ _ hq) rfl ⟨by decide, by decide⟩ rfl rfl (Nat.le_of_ble_eq_true rfl) dL_law_328 (fun v g3 hp => ?_)
        obtain ⟨r, rfl, hq⟩ := hp
        refine gd_aload_n X dL_law_331 2 rfl ?_
        refine gd_aload_n X dL_law_332 0 rfl ?_
        refine gd_iload_n X dL_law_333 3 rfl ?_
        refine gd_iconst (v := 1) X dL_law_334 (by decide) ?_
        refine gd_iadd X dL_law_335 ?_
        refine gd_sld X hX hbl hbA iv1 dL_law_336 ?_
        refine gd_aload_n X dL_law_337 0 rfl ?_
        refine gd_iload_n X dL_law_338 3 rfl ?_
        refine gd_iconst (v := 2) X dL_law_339 (by decide) ?_
        refine gd_iadd X dL_law_340 ?_
        refine gd_sld X hX hbl hbA iv2 dL_law_341 ?_
        refine gd_right (As := [.int (xs (nI i + 1).toNatClampNeg), .int (xs (nI i + 2).toNatClampNeg)]) (rest := [.int r]) X lk_L_55 (c_X6_read _ _ _ _ _ _ _ _ _ hq) rfl ⟨by decide, by decide⟩ rfl rfl (Nat.le_of_ble_eq_true rfl) dL_law_342 (fun v h3 hp => ?_)
        obtain ⟨r2, rfl, hq⟩ := hp
        refine gd_icmp_eq (tgt := 604) X dL_law_345 (by decide) (fun c1 => ?_) (fun c1 => ?_)
        · exact back _ _ hq.2
        · exact absurd hq.1 c1
      · have hq := q11 g h (xs (nI i + 1).toNatClampNeg) hI
        refine gd_aload_n X dL_law_350 1 rfl ?_
        refine gd_aload_n X dL_law_351 0 rfl ?_
        refine gd_iload_n X dL_law_352 3 rfl ?_
        refine gd_iconst (v := 1) X dL_law_353 (by decide) ?_
        refine gd_iadd X dL_law_354 ?_
        refine gd_sld X hX hbl hbA iv1 dL_law_355 ?_
        refine gd_left (As := [.int (xs (nI i + 1).toNatClampNeg)]) (rest := []) X lk_L_56 (c_X5_vote _ _ _ _ _ _ _ _ hq) rfl ⟨by decide, by decide⟩ rfl rfl (Nat.le_of_ble_eq_true rfl) dL_law_356 (fun v g3 hp => ?_)
        obtain ⟨r, rfl, hq⟩ := hp
        refine gd_aload_n X dL_law_359 2 rfl ?_
        refine gd_aload_n X dL_law_360 0 rfl ?_
        refine gd_iload_n X dL_law_361 3 rfl ?_
        refine gd_iconst (v := 1) X dL_law_362 (by decide) ?_
        refine gd_iadd X dL_law_363 ?_
        refine gd_sld X hX hbl hbA iv1 dL_law_364 ?_
        refine gd_right (As := [.int (xs (nI i + 1).toNatClampNeg)]) (rest := [.int r]) X lk_L_59 (c_X6_vote _ _ _ _ _ _ _ _ hq) rfl ⟨by decide, by decide⟩ rfl rfl (Nat.le_of_ble_eq_true rfl) dL_law_365 (fun v h3 hp => ?_)
        obtain ⟨r2, rfl, hq⟩ := hp
        refine gd_icmp_eq (tgt := 604) X dL_law_368 (by decide) (fun c1 => ?_) (fun c1 => ?_)
        · exact back _ _ hq.2
        · exact absurd hq.1 c1
      · have hq := q12 g h (xs (nI i + 1).toNatClampNeg) (xs (nI i + 2).toNatClampNeg) (xs (nI i + 3).toNatClampNeg) (xs (nI i + 4).toNatClampNeg) hI
        refine gd_aload_n X dL_law_373 1 rfl ?_
        refine gd_aload_n X dL_law_374 0 rfl ?_
        refine gd_iload_n X dL_law_375 3 rfl ?_
        refine gd_iconst (v := 1) X dL_law_376 (by decide) ?_
        refine gd_iadd X dL_law_377 ?_
        refine gd_sld X hX hbl hbA iv1 dL_law_378 ?_
        refine gd_aload_n X dL_law_379 0 rfl ?_
        refine gd_iload_n X dL_law_380 3 rfl ?_
        refine gd_iconst (v := 2) X dL_law_381 (by decide) ?_
        refine gd_iadd X dL_law_382 ?_
        refine gd_sld X hX hbl hbA iv2 dL_law_383 ?_
        refine gd_aload_n X dL_law_384 0 rfl ?_
        refine gd_iload_n X dL_law_385 3 rfl ?_
        refine gd_iconst (v := 3) X dL_law_386 (by decide) ?_
        refine gd_iadd X dL_law_387 ?_
        refine gd_sld X hX hbl hbA iv3 dL_law_388 ?_
        refine gd_aload_n X dL_law_389 0 rfl ?_
        refine gd_iload_n X dL_law_390 3 rfl ?_
        refine gd_iconst (v := 4) X dL_law_391 (by decide) ?_
        refine gd_iadd X dL_law_392 ?_
        refine gd_sld X hX hbl hbA iv4 dL_law_393 ?_
        refine gd_left (As := [.int (xs (nI i + 1).toNatClampNeg), .int (xs (nI i + 2).toNatClampNeg), .int (xs (nI i + 3).toNatClampNeg), .int (xs (nI i + 4).toNatClampNeg)]) (rest := []) X lk_L_60 (c_X5_misses _ _ _ _ _ _ _ _ _ _ _ hq) rfl ⟨by decide, by decide⟩ rfl rfl (Nat.le_of_ble_eq_true rfl) dL_law_394 (fun v g3 hp => ?_)
        obtain ⟨r, rfl, hq⟩ := hp
        refine gd_aload_n X dL_law_397 2 rfl ?_
        refine gd_aload_n X dL_law_398 0 rfl ?_
        refine gd_iload_n X dL_law_399 3 rfl ?_
        refine gd_iconst (v := 1) X dL_law_400 (by decide) ?_
        refine gd_iadd X dL_law_401 ?_
        refine gd_sld X hX hbl hbA iv1 dL_law_402 ?_
        refine gd_aload_n X dL_law_403 0 rfl ?_
        refine gd_iload_n X dL_law_404 3 rfl ?_
        refine gd_iconst (v := 2) X dL_law_405 (by decide) ?_
        refine gd_iadd X dL_law_406 ?_
        refine gd_sld X hX hbl hbA iv2 dL_law_407 ?_
        refine gd_aload_n X dL_law_408 0 rfl ?_
        refine gd_iload_n X dL_law_409 3 rfl ?_
        refine gd_iconst (v := 3) X dL_law_410 (by decide) ?_
        refine gd_iadd X dL_law_411 ?_
        refine gd_sld X hX hbl hbA iv3 dL_law_412 ?_
        refine gd_aload_n X dL_law_413 0 rfl ?_
        refine gd_iload_n X dL_law_414 3 rfl ?_
        refine gd_iconst (v := 4) X dL_law_415 (by decide) ?_
        refine gd_iadd X dL_law_416 ?_
        refine gd_sld X hX hbl hbA iv4 dL_law_417 ?_
        refine gd_right (As := [.int (xs (nI i + 1).toNatClampNeg), .int (xs (nI i + 2).toNatClampNeg), .int (xs (nI i + 3).toNatClampNeg), .int (xs (nI i + 4).toNatClampNeg)]) (rest := [.int r]) X lk_L_64 (c_X6_misses _ _ _ _ _ _ _ _ _ _ _ hq) rfl ⟨by decide, by decide⟩ rfl rfl (Nat.le_of_ble_eq_true rfl) dL_law_418 (fun v h3 hp => ?_)
        obtain ⟨r2, rfl, hq⟩ := hp
        refine gd_icmp_eq (tgt := 604) X dL_law_421 (by decide) (fun c1 => ?_) (fun c1 => ?_)
        · exact back _ _ hq.2
        · exact absurd hq.1 c1
      · have hq := q13 g h (xs (nI i + 1).toNatClampNeg) (xs (nI i + 2).toNatClampNeg) hI
        refine gd_aload_n X dL_law_426 1 rfl ?_
        refine gd_aload_n X dL_law_427 0 rfl ?_
        refine gd_iload_n X dL_law_428 3 rfl ?_
        refine gd_iconst (v := 1) X dL_law_429 (by decide) ?_
        refine gd_iadd X dL_law_430 ?_
        refine gd_sld X hX hbl hbA iv1 dL_law_431 ?_
        refine gd_aload_n X dL_law_432 0 rfl ?_
        refine gd_iload_n X dL_law_433 3 rfl ?_
        refine gd_iconst (v := 2) X dL_law_434 (by decide) ?_
        refine gd_iadd X dL_law_435 ?_
        refine gd_sld X hX hbl hbA iv2 dL_law_436 ?_
        refine gd_left (As := [.int (xs (nI i + 1).toNatClampNeg), .int (xs (nI i + 2).toNatClampNeg)]) (rest := []) X lk_L_65 (c_X5_close _ _ _ _ _ _ _ _ _ hq) rfl ⟨by decide, by decide⟩ rfl rfl (Nat.le_of_ble_eq_true rfl) dL_law_437 (fun v g3 hp => ?_)
        obtain ⟨r, rfl, hq⟩ := hp
        refine gd_aload_n X dL_law_440 2 rfl ?_
        refine gd_aload_n X dL_law_441 0 rfl ?_
        refine gd_iload_n X dL_law_442 3 rfl ?_
        refine gd_iconst (v := 1) X dL_law_443 (by decide) ?_
        refine gd_iadd X dL_law_444 ?_
        refine gd_sld X hX hbl hbA iv1 dL_law_445 ?_
        refine gd_aload_n X dL_law_446 0 rfl ?_
        refine gd_iload_n X dL_law_447 3 rfl ?_
        refine gd_iconst (v := 2) X dL_law_448 (by decide) ?_
        refine gd_iadd X dL_law_449 ?_
        refine gd_sld X hX hbl hbA iv2 dL_law_450 ?_
        refine gd_right (As := [.int (xs (nI i + 1).toNatClampNeg), .int (xs (nI i + 2).toNatClampNeg)]) (rest := [.int r]) X lk_L_68 (c_X6_close _ _ _ _ _ _ _ _ _ hq) rfl ⟨by decide, by decide⟩ rfl rfl (Nat.le_of_ble_eq_true rfl) dL_law_451 (fun v h3 hp => ?_)
        obtain ⟨r2, rfl, hq⟩ := hp
        refine gd_icmp_eq (tgt := 604) X dL_law_454 (by decide) (fun c1 => ?_) (fun c1 => ?_)
        · exact back _ _ hq.2
        · exact absurd hq.1 c1
      · have hq := q14 g h (xs (nI i + 1).toNatClampNeg) (xs (nI i + 2).toNatClampNeg) (xs (nI i + 3).toNatClampNeg) (xs (nI i + 4).toNatClampNeg) hI
        refine gd_aload_n X dL_law_459 1 rfl ?_
        refine gd_aload_n X dL_law_460 0 rfl ?_
        refine gd_iload_n X dL_law_461 3 rfl ?_
        refine gd_iconst (v := 1) X dL_law_462 (by decide) ?_
        refine gd_iadd X dL_law_463 ?_
        refine gd_sld X hX hbl hbA iv1 dL_law_464 ?_
        refine gd_aload_n X dL_law_465 0 rfl ?_
        refine gd_iload_n X dL_law_466 3 rfl ?_
        refine gd_iconst (v := 2) X dL_law_467 (by decide) ?_
        refine gd_iadd X dL_law_468 ?_
        refine gd_sld X hX hbl hbA iv2 dL_law_469 ?_
        refine gd_aload_n X dL_law_470 0 rfl ?_
        refine gd_iload_n X dL_law_471 3 rfl ?_
        refine gd_iconst (v := 3) X dL_law_472 (by decide) ?_
        refine gd_iadd X dL_law_473 ?_
        refine gd_sld X hX hbl hbA iv3 dL_law_474 ?_
        refine gd_aload_n X dL_law_475 0 rfl ?_
        refine gd_iload_n X dL_law_476 3 rfl ?_
        refine gd_iconst (v := 4) X dL_law_477 (by decide) ?_
        refine gd_iadd X dL_law_478 ?_
        refine gd_sld X hX hbl hbA iv4 dL_law_479 ?_
        refine gd_left (As := [.int (xs (nI i + 1).toNatClampNeg), .int (xs (nI i + 2).toNatClampNeg), .int (xs (nI i + 3).toNatClampNeg), .int (xs (nI i + 4).toNatClampNeg)]) (rest := []) X lk_L_69 (c_X5_bits _ _ _ _ _ _ _ _ _ _ _ hq) rfl ⟨by decide, by decide⟩ rfl rfl (Nat.le_of_ble_eq_true rfl) dL_law_480 (fun v g3 hp => ?_)
        obtain ⟨r, rfl, rfl, hq⟩ := hp
        refine gd_aload_n X dL_law_483 2 rfl ?_
        refine gd_aload_n X dL_law_484 0 rfl ?_
        refine gd_iload_n X dL_law_485 3 rfl ?_
        refine gd_iconst (v := 1) X dL_law_486 (by decide) ?_
        refine gd_iadd X dL_law_487 ?_
        refine gd_sld X hX hbl hbA iv1 dL_law_488 ?_
        refine gd_aload_n X dL_law_489 0 rfl ?_
        refine gd_iload_n X dL_law_490 3 rfl ?_
        refine gd_iconst (v := 2) X dL_law_491 (by decide) ?_
        refine gd_iadd X dL_law_492 ?_
        refine gd_sld X hX hbl hbA iv2 dL_law_493 ?_
        refine gd_aload_n X dL_law_494 0 rfl ?_
        refine gd_iload_n X dL_law_495 3 rfl ?_
        refine gd_iconst (v := 3) X dL_law_496 (by decide) ?_
        refine gd_iadd X dL_law_497 ?_
        refine gd_sld X hX hbl hbA iv3 dL_law_498 ?_
        refine gd_aload_n X dL_law_499 0 rfl ?_
        refine gd_iload_n X dL_law_500 3 rfl ?_
        refine gd_iconst (v := 4) X dL_law_501 (by decide) ?_
        refine gd_iadd X dL_law_502 ?_
        refine gd_sld X hX hbl hbA iv4 dL_law_503 ?_
        refine gd_right (As := [.int (xs (nI i + 1).toNatClampNeg), .int (xs (nI i + 2).toNatClampNeg), .int (xs (nI i + 3).toNatClampNeg), .int (xs (nI i + 4).toNatClampNeg)]) (rest := [.int r]) X lk_L_72 (c_X6_bits _ _ _ _ _ _ _ _ _ _ _ hq) rfl ⟨by decide, by decide⟩ rfl rfl (Nat.le_of_ble_eq_true rfl) dL_law_504 (fun v h3 hp => ?_)
        obtain ⟨r2, rfl, rfl, hq⟩ := hp
        refine gd_icmp_eq (tgt := 604) X dL_law_507 (by decide) (fun c1 => ?_) (fun c1 => ?_)
        · exact back _ _ hq.2
        · exact absurd hq.1 c1
      · have hq := q15 g h (xs (nI i + 1).toNatClampNeg) hI
        refine gd_aload_n X dL_law_512 1 rfl ?_
        refine gd_aload_n X dL_law_513 0 rfl ?_
        refine gd_iload_n X dL_law_514 3 rfl ?_
        refine gd_iconst (v := 1) X dL_law_515 (by decide) ?_
        refine gd_iadd X dL_law_516 ?_
        refine gd_sld X hX hbl hbA iv1 dL_law_517 ?_
        refine gd_left (As := [.int (xs (nI i + 1).toNatClampNeg)]) (rest := []) X lk_L_73 (c_X5_clock _ _ _ _ _ _ _ _ hq) rfl ⟨by decide, by decide⟩ rfl rfl (Nat.le_of_ble_eq_true rfl) dL_law_518 (fun v g3 hp => ?_)
        obtain ⟨r, rfl, hq⟩ := hp
        refine gd_aload_n X dL_law_521 2 rfl ?_
        refine gd_aload_n X dL_law_522 0 rfl ?_
        refine gd_iload_n X dL_law_523 3 rfl ?_
        refine gd_iconst (v := 1) X dL_law_524 (by decide) ?_
        refine gd_iadd X dL_law_525 ?_
        refine gd_sld X hX hbl hbA iv1 dL_law_526 ?_
        refine gd_right (As := [.int (xs (nI i + 1).toNatClampNeg)]) (rest := [.int r]) X lk_L_76 (c_X6_clock _ _ _ _ _ _ _ _ hq) rfl ⟨by decide, by decide⟩ rfl rfl (Nat.le_of_ble_eq_true rfl) dL_law_527 (fun v h3 hp => ?_)
        obtain ⟨r2, rfl, hq⟩ := hp
        refine gd_icmp_eq (tgt := 604) X dL_law_530 (by decide) (fun c1 => ?_) (fun c1 => ?_)
        · exact back _ _ hq.2
        · exact absurd hq.1 c1
      · have hq := q16 g h (xs (nI i + 1).toNatClampNeg) hI
        refine gd_aload_n X dL_law_535 1 rfl ?_
        refine gd_aload_n X dL_law_536 0 rfl ?_
        refine gd_iload_n X dL_law_537 3 rfl ?_
        refine gd_iconst (v := 1) X dL_law_538 (by decide) ?_
        refine gd_iadd X dL_law_539 ?_
        refine gd_sld X hX hbl hbA iv1 dL_law_540 ?_
        refine gd_left (As := [.int (xs (nI i + 1).toNatClampNeg)]) (rest := []) X lk_L_77 (c_X5_keep _ _ _ _ _ _ _ _ hq) rfl ⟨by decide, by decide⟩ rfl rfl (Nat.le_of_ble_eq_true rfl) dL_law_541 (fun v g3 hp => ?_)
        obtain ⟨r, rfl, hq⟩ := hp
        refine gd_aload_n X dL_law_544 2 rfl ?_
        refine gd_aload_n X dL_law_545 0 rfl ?_
        refine gd_iload_n X dL_law_546 3 rfl ?_
        refine gd_iconst (v := 1) X dL_law_547 (by decide) ?_
        refine gd_iadd X dL_law_548 ?_
        refine gd_sld X hX hbl hbA iv1 dL_law_549 ?_
        refine gd_right (As := [.int (xs (nI i + 1).toNatClampNeg)]) (rest := [.int r]) X lk_L_80 (c_X6_keep _ _ _ _ _ _ _ _ hq) rfl ⟨by decide, by decide⟩ rfl rfl (Nat.le_of_ble_eq_true rfl) dL_law_550 (fun v h3 hp => ?_)
        obtain ⟨r2, rfl, hq⟩ := hp
        refine gd_icmp_eq (tgt := 604) X dL_law_553 (by decide) (fun c1 => ?_) (fun c1 => ?_)
        · exact back _ _ hq.2
        · exact absurd hq.1 c1
      · have hq := q17 g h (xs (nI i + 1).toNatClampNeg) hI
        refine gd_aload_n X dL_law_558 1 rfl ?_
        refine gd_aload_n X dL_law_559 0 rfl ?_
        refine gd_iload_n X dL_law_560 3 rfl ?_
        refine gd_iconst (v := 1) X dL_law_561 (by decide) ?_
        refine gd_iadd X dL_law_562 ?_
        refine gd_sld X hX hbl hbA iv1 dL_law_563 ?_
        refine gd_left (As := [.int (xs (nI i + 1).toNatClampNeg)]) (rest := []) X lk_L_81 (c_X5_back _ _ _ _ _ _ _ _ hq) rfl ⟨by decide, by decide⟩ rfl rfl (Nat.le_of_ble_eq_true rfl) dL_law_564 (fun v g3 hp => ?_)
        obtain ⟨r, rfl, hq⟩ := hp
        refine gd_aload_n X dL_law_567 2 rfl ?_
        refine gd_aload_n X dL_law_568 0 rfl ?_
        refine gd_iload_n X dL_law_569 3 rfl ?_
        refine gd_iconst (v := 1) X dL_law_570 (by decide) ?_
        refine gd_iadd X dL_law_571 ?_
        refine gd_sld X hX hbl hbA iv1 dL_law_572 ?_
        refine gd_right (As := [.int (xs (nI i + 1).toNatClampNeg)]) (rest := [.int r]) X lk_L_84 (c_X6_back _ _ _ _ _ _ _ _ hq) rfl ⟨by decide, by decide⟩ rfl rfl (Nat.le_of_ble_eq_true rfl) dL_law_573 (fun v h3 hp => ?_)
        obtain ⟨r2, rfl, hq⟩ := hp
        refine gd_icmp_eq (tgt := 604) X dL_law_576 (by decide) (fun c1 => ?_) (fun c1 => ?_)
        · exact back _ _ hq.2
        · exact absurd hq.1 c1
      · have hq := q18 g h (xs (nI i + 1).toNatClampNeg) hI
        refine gd_aload_n X dL_law_581 1 rfl ?_
        refine gd_aload_n X dL_law_582 0 rfl ?_
        refine gd_iload_n X dL_law_583 3 rfl ?_
        refine gd_iconst (v := 1) X dL_law_584 (by decide) ?_
        refine gd_iadd X dL_law_585 ?_
        refine gd_sld X hX hbl hbA iv1 dL_law_586 ?_
        refine gd_left (As := [.int (xs (nI i + 1).toNatClampNeg)]) (rest := []) X lk_L_85 (c_X5_count _ _ _ _ _ _ _ _ hq) rfl ⟨by decide, by decide⟩ rfl rfl (Nat.le_of_ble_eq_true rfl) dL_law_587 (fun v g3 hp => ?_)
        obtain ⟨r, rfl, hq⟩ := hp
        refine gd_aload_n X dL_law_590 2 rfl ?_
        refine gd_aload_n X dL_law_591 0 rfl ?_
        refine gd_iload_n X dL_law_592 3 rfl ?_
        refine gd_iconst (v := 1) X dL_law_593 (by decide) ?_
        refine gd_iadd X dL_law_594 ?_
        refine gd_sld X hX hbl hbA iv1 dL_law_595 ?_
        refine gd_right (As := [.int (xs (nI i + 1).toNatClampNeg)]) (rest := [.int r]) X lk_L_88 (c_X6_count _ _ _ _ _ _ _ _ hq) rfl ⟨by decide, by decide⟩ rfl rfl (Nat.le_of_ble_eq_true rfl) dL_law_596 (fun v h3 hp => ?_)
        obtain ⟨r2, rfl, hq⟩ := hp
        refine gd_icmp_eq (tgt := 604) X dL_law_599 (by decide) (fun c1 => ?_) (fun c1 => ?_)
        · exact back _ _ hq.2
        · exact absurd hq.1 c1
end GLL
