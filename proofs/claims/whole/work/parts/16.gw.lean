theorem qa_byte : Cond.arrayClass .byte ∈ gT := gT_in (List.mem_of_getElem? (i := 74) (by decide +kernel)) (by decide +kernel)
theorem qa_boolean : Cond.arrayClass .boolean ∈ gT := gT_in (List.mem_of_getElem? (i := 120) (by decide +kernel)) (by decide +kernel)
theorem qa_int : Cond.arrayClass .int ∈ gT := gT_in (List.mem_of_getElem? (i := 121) (by decide +kernel)) (by decide +kernel)
theorem q_33 : Cond.classLink R_law 7 "MinuteSignal" ∈ gT := gT_in (List.mem_of_getElem? (i := 33) (by decide +kernel)) (by decide +kernel)
theorem q_34 : Cond.instantiable "MinuteSignal" 8 ∈ gT := gT_in (List.mem_of_getElem? (i := 34) (by decide +kernel)) (by decide +kernel)
theorem q_38 : Cond.methodLink RX5 3 Lib.objectInit ∈ gT := gT_in (List.mem_of_getElem? (i := 38) (by decide +kernel)) (by decide +kernel)
theorem q_41 : Cond.classLink RX5 9 "MinuteSignal$Held" ∈ gT := gT_in (List.mem_of_getElem? (i := 41) (by decide +kernel)) (by decide +kernel)
theorem q_42 : Cond.instantiable "MinuteSignal$Held" 6 ∈ gT := gT_in (List.mem_of_getElem? (i := 42) (by decide +kernel)) (by decide +kernel)
theorem q_46 : Cond.methodLink RX1 3 Lib.objectInit ∈ gT := gT_in (List.mem_of_getElem? (i := 46) (by decide +kernel)) (by decide +kernel)
theorem q_75 : Cond.classLink RX5 16 "MinuteSignal$History" ∈ gT := gT_in (List.mem_of_getElem? (i := 75) (by decide +kernel)) (by decide +kernel)
theorem q_76 : Cond.instantiable "MinuteSignal$History" 3 ∈ gT := gT_in (List.mem_of_getElem? (i := 76) (by decide +kernel)) (by decide +kernel)
theorem q_80 : Cond.methodLink RX2 3 Lib.objectInit ∈ gT := gT_in (List.mem_of_getElem? (i := 80) (by decide +kernel)) (by decide +kernel)
theorem q_81 : Cond.classLink RX2 9 "MinuteSignal$Held" ∈ gT := gT_in (List.mem_of_getElem? (i := 81) (by decide +kernel)) (by decide +kernel)
theorem q_95 : Cond.classLink RX5 31 "MinuteSignal$Frames" ∈ gT := gT_in (List.mem_of_getElem? (i := 95) (by decide +kernel)) (by decide +kernel)
theorem q_96 : Cond.instantiable "MinuteSignal$Frames" 5 ∈ gT := gT_in (List.mem_of_getElem? (i := 96) (by decide +kernel)) (by decide +kernel)
theorem q_100 : Cond.methodLink RX0 3 Lib.objectInit ∈ gT := gT_in (List.mem_of_getElem? (i := 100) (by decide +kernel)) (by decide +kernel)
theorem q_122 : Cond.classLink RX5 38 "MinuteSignal$Vote" ∈ gT := gT_in (List.mem_of_getElem? (i := 122) (by decide +kernel)) (by decide +kernel)
theorem q_123 : Cond.instantiable "MinuteSignal$Vote" 7 ∈ gT := gT_in (List.mem_of_getElem? (i := 123) (by decide +kernel)) (by decide +kernel)
theorem q_127 : Cond.methodLink RX4 3 Lib.objectInit ∈ gT := gT_in (List.mem_of_getElem? (i := 127) (by decide +kernel)) (by decide +kernel)
theorem q_128 : Cond.classLink RX4 15 "[[I" ∈ gT := gT_in (List.mem_of_getElem? (i := 128) (by decide +kernel)) (by decide +kernel)
theorem q_448 : Cond.classLink R_law 10 "MinuteSignalModel" ∈ gT := gT_in (List.mem_of_getElem? (i := 448) (by decide +kernel)) (by decide +kernel)
theorem q_449 : Cond.instantiable "MinuteSignalModel" 14 ∈ gT := gT_in (List.mem_of_getElem? (i := 449) (by decide +kernel)) (by decide +kernel)
theorem q_453 : Cond.methodLink RX6 1 Lib.objectInit ∈ gT := gT_in (List.mem_of_getElem? (i := 453) (by decide +kernel)) (by decide +kernel)
theorem q_39 : Cond.instanceMethod Lib.objectInit ∈ gT := gT_in (List.mem_of_getElem? (i := 39) (by decide +kernel)) (by decide +kernel)
theorem q_40 : Cond.code Lib.objectInit ⟨#[0xb1]⟩ 1 none ∈ gT := gT_in (List.mem_of_getElem? (i := 40) (by decide +kernel)) (by decide +kernel)
/-- f, but v at every address of l -/
def vr_up {α : Type} (f : Nat → α) (l : List Nat) (v : α) : Nat → α := fun a => if a ∈ l then v else f a
theorem vr_up_in {α : Type} {f : Nat → α} {l : List Nat} {v : α} {a : Nat} (h : a ∈ l) : vr_up f l v a = v := if_pos h
theorem vr_up_ne {α : Type} {f : Nat → α} {l : List Nat} {v : α} {a : Nat} (h : a ∉ l) : vr_up f l v a = f a := if_neg h
theorem vr_rows {L l : List Nat} {f : Nat → va_E} {e : va_E} (h : ∀ a, a ∈ l → a ∉ L) : va_pl L f ++ l.map (fun a => (a, e)) = va_pl (L ++ l) (vr_up f l e) := by
  unfold va_pl
  rw [List.map_append]
  congr 1
  · apply List.map_congr_left
    intro a ha
    rw [vr_up_ne (fun q => h a q ha)]
  · apply List.map_congr_left
    intro a ha
    rw [vr_up_in ha]
theorem vr_lay {X rows : va_W} {x : Nat × va_E} {pl : va_W} {D : va_G} {cl : List vw_C} {H : Heap} (hP : va_P D cl (((X ++ pl) ++ [x]) ++ rows) H) : va_P D cl ((X ++ [x]) ++ (pl ++ rows)) H := by
  rw [List.append_assoc (X ++ pl)] at hP
  have h := va_P.swap hP
  rw [← List.append_assoc X] at h
  have h2 := va_P.swap h
  rw [List.append_assoc (X ++ [x])] at h2
  exact h2
theorem vr_layD {X rows : va_W} {x : Nat × va_E} {pl : va_W} {A : Nat → Prop} (hD : va_D A (((X ++ pl) ++ [x]) ++ rows)) : va_D A ((X ++ [x]) ++ (pl ++ rows)) := by
  rw [List.append_assoc (X ++ pl)] at hD
  have h := va_D.swap hD
  rw [← List.append_assoc X] at h
  have h2 := va_D.swap h
  rw [List.append_assoc (X ++ [x])] at h2
  exact h2
theorem vr_outer (c : ClassId) (N h0 : Nat) : ∀ i : Nat, Jvm.Free.Multi.outerC c N h0 i = arrV c N (fun j => va_rf (if j < i then some (h0 + 1 + j) else none))
  | 0 => by
    show ({ cls := c, slots := Array.replicate N .null, vm := .none } : Cell) = _
    rw [arrV_new]
    refine congrArg (arrV c N) (funext fun j => ?_)
    simp [va_rf]
  | i + 1 => by
    show (Jvm.Free.Multi.outerC c N h0 i).setSlot i (.ref (h0 + 1 + i)) = _
    rw [vr_outer c N h0 i, arrV_store]
    refine congrArg (arrV c N) (funext fun j => ?_)
    by_cases e : j = i
    · subst e
      simp [updV, va_rf]
    · by_cases h : j < i
      · simp [updV, e, h, Nat.lt_succ_of_lt h]
      · simp [updV, e, h, show ¬ j < i + 1 by omega]
section VGM
variable {p : Program} {l : Launch} {e : Env} {R : Room} {s : State} {m : MethodId} {args : Array Value} {below : List Frame} {meth : Method} {c : Code} {H : Heap} {locs : List Loc} {cells slots : Nat} {Q : State → Prop}
variable {cc : ByteArray} {pc : Nat} {ls : Array Slot} {rest : List Value} {D : va_G} {cl : List vw_C} {A : Nat → Prop} {a : Nat} {tys : List (ClassId × FieldType)} {ws : va_W} {H0 : Heap}
theorem va_mna {X : va_W} {L : List Nat} {f : Nat → va_E} {cc : ByteArray} (hexec : p.tables.exec = Jvm.exec) (hb : c.code = cc) {own : String} {index : Nat} {ty : FieldType} {cy : ClassId} (hown : s.vm.findClass own = some m.cls) (hclink : (Cond.classLink own index ("[" ++ (FieldType.array ty).toString)).before args s = true) (hover : (Cond.arrayOver (.array ty)).before args s = true) (harr : (Cond.arrayClass ty).before args s = true) (hcy : s.vm.findClass (FieldType.array ty).toString = some cy)
    (hK : va_K D cl tys s) (hP : va_P D cl (X ++ va_pl L f) H) (hD : va_D A (X ++ va_pl L f)) (hS : va_S A H0 H locs) (hA : ∀ q, H0.size ≤ q → A q) {n k : Int32} {N' K' : Nat} {z : vp_A} (hn : ¬ n < 0) (hk : ¬ k < 0) (hN : n.toNatClampNeg = N') (hM : k.toNatClampNeg = K')
    (hb1 : N' * 4 ≤ 536870912) (hb2 : K' * componentBytes ty ≤ 536870912) (hb3 : K' ≤ 536870912) (hdf : fits ty (defaultValue ty) = true) (hdd : (defaultValue ty).isDefault = true) (hcells : cells + (1 + N') ≤ R.cells) (hslots : slots + (N' + N' * K') ≤ R.slots) (hz : ∀ c : ClassId, Jvm.Free.Multi.innerC c K' (defaultValue ty) = vp_cell c z) (hdg : decode cc pc = .ok (.multianewarray index 2, 4))
    (kk : ∀ (q : Nat) (r : Nat → Nat) (cA : ClassId) (H1 : Heap), (∀ i j : Nat, i < N' → j < N' → r i = r j → i = j) → (∀ i : Nat, i < N' → r i ∉ L) → va_K D cl (tys ++ [(cA, .array ty)]) s →
      va_P D cl ((X ++ [(q, .inl (cA, N', .inr (.inr (.inr (.inr (fun i => if i < N' then some (r i) else none))))))]) ++ va_pl (L ++ (List.range N').map r) (vr_up f ((List.range N').map r) (.inl (cy, z)))) H1 → va_D A ((X ++ [(q, .inl (cA, N', .inr (.inr (.inr (.inr (fun i => if i < N' then some (r i) else none))))))]) ++ va_pl (L ++ (List.range N').map r) (vr_up f ((List.range N').map r) (.inl (cy, z)))) → va_S A H0 H1 locs →
      W p l e R s m args below meth c H1 locs (cells + 1 + N') (slots + N' + N' * K') Q (F0 m (pc + 4) ls (.ref q :: rest))) : W p l e R s m args below meth c H locs cells slots Q (F0 m pc ls (.int k :: .int n :: rest)) := by
  subst hN
  subst hM
  intro T hT Xs
  obtain ⟨vm₁, cA, comp, -, fA, fC, hO, -, X', step⟩ := Xs.multianewarray2F hexec hown hclink hover harr (g := F0 m pc ls (.int k :: .int n :: rest)) rfl (by rw [hb]; exact hdg) rfl hn hk hb1 hb2 hb3 hdf hdd hcells hslots
  have ec : some cy = some comp := hcy.symm.trans fC
  cases ec
  generalize hF : Jvm.Free.Multi.fill (T.setVm vm₁) cA cy n.toNatClampNeg k.toNatClampNeg (defaultValue ty) n.toNatClampNeg = F at X' step
  have hTh : (T.setVm vm₁).heap = H := hT
  obtain ⟨f1, f2, -, -⟩ := Jvm.Free.Multi.fill_facts (T.setVm vm₁) cA cy n.toNatClampNeg k.toNatClampNeg (defaultValue ty) n.toNatClampNeg
  rw [hF, hTh] at f1 f2
  have hold : ∀ x : Nat, x < H.size → F.heap[x]? = H[x]? := fun x hx => by
    have := Jvm.Free.Multi.fill_old (T.setVm vm₁) cA cy n.toNatClampNeg k.toNatClampNeg (defaultValue ty) (a := x) (by rw [hTh]; exact hx) n.toNatClampNeg
    rw [hF, hTh] at this
    exact this
  have hrow : ∀ j : Nat, j < n.toNatClampNeg → F.heap[H.size + 1 + j]? = some (vp_cell cy z) := fun j hj => by
    have := Jvm.Free.Multi.fill_inner (T.setVm vm₁) cA cy n.toNatClampNeg k.toNatClampNeg (defaultValue ty) n.toNatClampNeg j hj
    rw [hF, hTh, hz] at this
    exact this
  have hout : Jvm.Free.Multi.outerC cA n.toNatClampNeg H.size n.toNatClampNeg = vp_cell cA (n.toNatClampNeg, .inr (.inr (.inr (.inr (fun i => if i < n.toNatClampNeg then some (H.size + 1 + i) else none))))) := by
    rw [vp_cell_q]
    exact vr_outer cA n.toNatClampNeg H.size n.toNatClampNeg
  rw [hout] at f2
  have hlt : ∀ a, a ∈ L → a < H.size := fun a ha => by
    obtain ⟨k9, hk9⟩ := va_pl_get (X := X) (f := f) ha
    exact (hP k9 _ hk9).lt
  have hnl : ∀ i : Nat, i < n.toNatClampNeg → H.size + 1 + i ∉ L := fun i _ h => by
    have := hlt _ h
    omega
  have hnm : ∀ a, a ∈ (List.range n.toNatClampNeg).map (fun i => H.size + 1 + i) → a ∉ L := fun a ha h => by
    obtain ⟨i, -, rfl⟩ := List.mem_map.mp ha
    have := hlt _ h
    omega
  have hP0 : va_P D cl (X ++ va_pl L f) F.heap := hP.kept (fun k9 x hx => hold x.1 ((hP k9 x hx).lt))
  have hP1 : va_P D cl ((X ++ va_pl L f) ++ [(H.size, .inl (cA, n.toNatClampNeg, .inr (.inr (.inr (.inr (fun i => if i < n.toNatClampNeg then some (H.size + 1 + i) else none))))))]) F.heap := hP0.app (fun k9 x hx => by
    have h0 : k9 < 1 := (List.getElem?_eq_some_iff.mp hx).1
    rw [show k9 = 0 by omega] at hx
    cases hx
    exact f2)
  have hP2 : va_P D cl (((X ++ va_pl L f) ++ [(H.size, .inl (cA, n.toNatClampNeg, .inr (.inr (.inr (.inr (fun i => if i < n.toNatClampNeg then some (H.size + 1 + i) else none))))))]) ++ ((List.range n.toNatClampNeg).map (fun i => H.size + 1 + i)).map (fun a => (a, .inl (cy, z)))) F.heap := hP1.app (fun k9 x hx => by
    obtain ⟨a, ha, rfl⟩ := List.mem_map.mp (List.mem_of_getElem? hx)
    obtain ⟨i, hi, rfl⟩ := List.mem_map.mp ha
    exact hrow i (List.mem_range.mp hi))
  have hD2 : va_D A (((X ++ va_pl L f) ++ [(H.size, .inl (cA, n.toNatClampNeg, .inr (.inr (.inr (.inr (fun i => if i < n.toNatClampNeg then some (H.size + 1 + i) else none))))))]) ++ ((List.range n.toNatClampNeg).map (fun i => H.size + 1 + i)).map (fun a => (a, .inl (cy, z)))) := by
    have hD1 := hD.push (e := .inl (cA, n.toNatClampNeg, .inr (.inr (.inr (.inr (fun i => if i < n.toNatClampNeg then some (H.size + 1 + i) else none)))))) hP rfl (hA _ hS.1)
    generalize hW1 : (X ++ va_pl L f) ++ [(H.size, .inl (cA, n.toNatClampNeg, .inr (.inr (.inr (.inr (fun i => if i < n.toNatClampNeg then some (H.size + 1 + i) else none))))))] = W1 at hD1 hP1 ⊢
    have hle : ∀ (k9 : Nat) (x : Nat × va_E), W1[k9]? = some x → x.1 ≤ H.size := fun k9 x hx => by
      rw [← hW1] at hx
      by_cases hl : k9 < (X ++ va_pl L f).length
      · rw [List.getElem?_append_left hl] at hx
        exact Nat.le_of_lt ((hP k9 x hx).lt)
      · rw [List.getElem?_append_right (by omega)] at hx
        have h0 : k9 - (X ++ va_pl L f).length < 1 := (List.getElem?_eq_some_iff.mp hx).1
        rw [show k9 - (X ++ va_pl L f).length = 0 by omega] at hx
        cases hx
        exact Nat.le_refl _
    have hr : ∀ (k9 : Nat) (x : Nat × va_E), (((List.range n.toNatClampNeg).map (fun i => H.size + 1 + i)).map (fun a => ((a, .inl (cy, z)) : Nat × va_E)))[k9]? = some x → x.1 = H.size + 1 + k9 := fun k9 x hx => by
      rw [List.getElem?_map, List.getElem?_map] at hx
      by_cases h9 : k9 < n.toNatClampNeg
      · rw [List.getElem?_range h9] at hx
        cases hx
        rfl
      · have hn0 : (List.range n.toNatClampNeg)[k9]? = none := List.getElem?_eq_none (by rw [List.length_range]; omega)
        rw [hn0] at hx
        cases hx
    refine ⟨fun i j x y hi hj hxy => ?_, fun k9 x hx => ?_⟩
    · by_cases h1 : i < W1.length <;> by_cases h2 : j < W1.length
      · rw [List.getElem?_append_left h1] at hi
        rw [List.getElem?_append_left h2] at hj
        exact hD1.1 i j x y hi hj hxy
      · rw [List.getElem?_append_left h1] at hi
        rw [List.getElem?_append_right (by omega)] at hj
        have := hle _ _ hi
        have := hr _ _ hj
        omega
      · rw [List.getElem?_append_right (by omega)] at hi
        rw [List.getElem?_append_left h2] at hj
        have := hle _ _ hj
        have := hr _ _ hi
        omega
      · rw [List.getElem?_append_right (by omega)] at hi hj
        have := hr _ _ hi
        have := hr _ _ hj
        omega
    · by_cases h1 : k9 < W1.length
      · rw [List.getElem?_append_left h1] at hx
        exact hD1.2 k9 x hx
      · rw [List.getElem?_append_right (by omega)] at hx
        have := hr _ _ hx
        exact hA _ (by have := hS.1; omega)
  have hAr : ArrOfT s cA (.array ty) := fun N9 z9 => by
    obtain ⟨-, k9, hk9, cm9, hkk9⟩ := (hO 0 0 0).1
    exact ⟨(fun q hq => by cases hq), k9, hk9, cm9, hkk9⟩
  have hK2 : va_K D cl (tys ++ [(cA, .array ty)]) s := ⟨hK.1, fun k9 x hx => by
    by_cases hl : k9 < tys.length
    · rw [List.getElem?_append_left hl] at hx
      exact hK.2 k9 x hx
    · rw [List.getElem?_append_right (by omega)] at hx
      have h0 : k9 - tys.length < 1 := (List.getElem?_eq_some_iff.mp hx).1
      rw [show k9 - tys.length = 0 by omega] at hx
      cases hx
      exact ⟨hAr, fA⟩⟩
  obtain ⟨t, a1, b1⟩ := kk H.size (fun i => H.size + 1 + i) cA F.heap (fun i j _ _ h => by have h9 : H.size + 1 + i = H.size + 1 + j := h; omega) hnl hK2 (by rw [← vr_rows hnm]; exact vr_lay hP2) (by rw [← vr_rows hnm]; exact vr_layD hD2) ⟨by rw [f1]; have := hS.1; omega, fun x h1 h2 => (hold x (Nat.lt_of_lt_of_le h1 hS.1)).trans (hS.2.1 x h1 h2), hS.2.2⟩ F rfl X'
  refine ⟨t, step t ?_, b1⟩
  have e : T.heap.size = H.size := by rw [hT]
  rw [e]
  exact a1
end VGM
/-- the words that no kept list may hold, said of a state -/
def NX (U : State) : Prop := va_Nw (.methodLinkNest RX5 11 yX1_init "MinuteSignal") U ∧ va_Nw (.methodLinkNest RX2 17 yX1_init "MinuteSignal") U ∧ va_Nw (.methodLinkNest RX5 33 yX0_init "MinuteSignal") U ∧ va_Nw (.methodLinkNest RX5 40 yX4_init "MinuteSignal") U ∧ va_AO "MinuteSignal$Held" U ∧ (Cond.arrayOver (.array .int)).before #[] U = true
theorem aoa_moved {t : FieldType} {u U : State} (hvm : u.vm.Alike U.vm) (h : (Cond.arrayOver (.array t)).before #[] u = true) : (Cond.arrayOver (.array t)).before #[] U = true := by
  obtain ⟨comp, c, k, h1, h2, h3, h4, h5⟩ := arrayOverA_spec h
  obtain ⟨k', hk', he⟩ := hvm.2.2 _ _ h3
  have hi : (U.vm.classes.findIdx? fun (x : Class) => match x.kind with | .array component _ => component == comp | _ => false) = some c := by
    have e1 := va_idx_bare U.vm comp
    have e2 := va_idx_bare u.vm comp
    have e3 := hvm.bare_eq
    first | rw [← e3, e2] at e1 | rw [e3, e2] at e1
    exact e1.symm.trans h2
  have hkind : k'.kind = .array comp (.array t) := by rw [he]; exact h4
  have f1 : U.vm.findClass (FieldType.array t).toString = some comp := by rw [hvm.findClass]; exact h1
  have f2 : U.vm.findClass ("[" ++ (FieldType.array t).toString) = some c := by rw [hvm.findClass]; exact h5
  unfold Cond.before Cond.holds
  simp only [Cond.value]
  rw [f1, Option.bind_some]
  refine (congrArg (fun o : Option Nat => (o.bind (fun c => (U.vm.classes[c]?).map fun (k : Class) => match k.kind with | .array _ ty => decide (ty = FieldType.array t) && decide (U.vm.findClass ("[" ++ (FieldType.array t).toString) = some c) | _ => false) == some true)) hi).trans ?_
  simp [hk', hkind, f2]
theorem NX.warm {s U : State} (hW : s.WarmedH U.vm) (h : NX s) : NX U := ⟨va_Nw.warmM hW h.1, va_Nw.warmM hW h.2.1, va_Nw.warmM hW h.2.2.1, va_Nw.warmM hW h.2.2.2.1, va_AO.moved hW.alike h.2.2.2.2.1, aoa_moved hW.alike h.2.2.2.2.2⟩
theorem NX.calling {U : State} (g : JFrame) (mk : MethodId) (a : Array Value) (h : NX U) : NX (U.calling g mk a) := ⟨va_Nw.same rfl rfl h.1, va_Nw.same rfl rfl h.2.1, va_Nw.same rfl rfl h.2.2.1, va_Nw.same rfl rfl h.2.2.2.1, va_AO.moved (U := U.calling g mk a) (Vm.Alike.refl U.vm) h.2.2.2.2.1, aoa_moved (U := U.calling g mk a) (Vm.Alike.refl U.vm) h.2.2.2.2.2⟩
abbrev kU (b : BX) (D : va_G) (A : Nat → Prop) (cy : Nat → ClassId) (ws : va_W) (kc ks : Nat) : KX Unit := (b, (D, A, tyG cy, fun _ => ws), kc, ks)
def Nx (b : BX) (A : Nat → Prop) (MC MS : Nat) : Prop := match b with
  | (p, l, e, R, s, m, args, below, meth, c, Q) => MC ≤ R.cells ∧ MS ≤ R.slots ∧ (∀ q, s.heap.size ≤ q → A q) ∧ NX s
def InI (b : BX) : Prop := match b with
  | (p, l, e, R, s, m, args, below, meth, c, Q) => meth.name = "<init>"
/-- a constructor's contract: from the one cell at h0 to the world wF of new addresses -/
def MtI (l : Launch) (D : va_G) (cy : Nat → ClassId) (y : MethodName) (cb : ByteArray) (n fr lo mc ms h0 : Nat) (ws0 : va_W) (wF : (Nat → Nat) → va_W) : Prop := ∀ sz : Nat,
  Met l y (.code y cb n none :: gT) { frames := fr, cells := mc, slots := ms, locals := lo } (va_Pc [.ref h0] (fun U => U.heap.size = sz ∧ va_P D vwCl ws0 U.heap ∧ va_K D vwCl (tyG cy) U ∧ va_D (fun _ => True) ws0 ∧ NX U))
    (va_Qv (fun _ : Nat → Nat => True) (fun q t => va_P D vwCl (wF q) t.heap ∧ va_D (va_A ws0 sz) (wF q)) (va_A ws0 sz)) mc ms (va_A ws0 sz)
def RxI (b : BX) (D : va_G) (A : Nat → Prop) (wF : (Nat → Nat) → va_W) (mc ms : Nat) : Prop := match b with
  | (p, l, e, R, s, m, args, below, meth, c, Q) => meth.sig.returnType = none ∧ meth.locks = false ∧ Q = MQ below (va_Qv (fun _ : Nat → Nat => True) (fun q t => va_P D vwCl (wF q) t.heap ∧ va_D A (wF q)) A) args s mc ms A
theorem mti_of {l : Launch} {D : va_G} {cy : Nat → ClassId} {y : MethodName} {cb : ByteArray} {n fr lo mc ms h0 : Nat} {ws0 : va_W} {wF : (Nat → Nat) → va_W} (hy : plainFor y = true) (hi : y.name = "<init>") (hlen : (lg_sl [.ref h0]).length ≤ n)
    (hb : ∀ (b : BX) (A : Nat → Prop), Cx (kU b D A cy ws0 0 0) cb y.cls n fr lo → Nx b A mc ms → InI b → RxI b D A wF mc ms → Gd (kU b D A cy ws0 0 0) n 0 [(0, .ref h0)] [] ()) : MtI l D cy y cb n fr lo mc ms h0 ws0 wF := by
  intro sz
  refine metOfW (cc := cb) (maxL := n) (ret := none) hy rfl ?_
  intro p e s m args below meth c s₁ B hml hv
  obtain ⟨rfl, rfl, hP, hK, hD0, hN⟩ := hv
  have hts := atoms_spec (ws := .code y cb n none :: gT) B.pre
  have hD := hD0.self (sz := s.heap.size)
  have hl := lv_entry [.ref h0] (n := n) hlen
  rw [lg_entry_eq]
  refine hb (p, l, e, _, s, m, _, below, meth, c, _) (va_A ws0 s.heap.size) ⟨B.exec, B.bytes, hml, findClass_of_methodNamed B.named, fun w hw => hts w (List.mem_cons_of_mem _ hw), hK, fun _ => hD, ⟨Nat.le_refl _, Nat.le_refl _⟩, Nat.zero_le _, Nat.zero_le _⟩ ⟨Nat.le_refl _, Nat.le_refl _, fun q h => Or.inr h, hN⟩ ?_ ⟨B.returns, B.notSynchronized, rfl⟩ s.heap [] _ hP va_S.rf hl
  exact (name_of_methodNamed B.named B.method).1.trans hi
section GU
variable {b : BX} {D : va_G} {A : Nat → Prop} {cy : Nat → ClassId} {ws ws' : va_W} {kc ks MC MS : Nat} {cc : ByteArray} {own : String} {nL fr lo pc : Nat} {lv : List (Nat × Value)} {rest st : List Value}
theorem gw_eq (h : ws = ws') (X : Cx (kU b D A cy ws kc ks) cc own nL fr lo) (k : Cx (kU b D A cy ws' kc ks) cc own nL fr lo → Gd (kU b D A cy ws' kc ks) nL pc lv st ()) : Gd (kU b D A cy ws kc ks) nL pc lv st () := by
  subst h; exact k X
theorem gw_objInit (X : Cx (kU b D A cy ws kc ks) cc own nL fr lo) {idx a : Nat} (hw : Cond.methodLink own idx Lib.objectInit ∈ gT) (h1 : 1 ≤ fr) (h2 : (rest.map fun v => v.category).sum + 12 ≤ lo) (hdg : decode cc pc = .ok (.invokespecial idx, 3)) (kk : Gd (kU b D A cy ws kc ks) nL (pc + 3) lv rest ()) : Gd (kU b D A cy ws kc ks) nL pc lv (.ref a :: rest) () := by
  obtain ⟨p, l, e, R, s, m, args, below, meth, c, Q⟩ := b
  intro H locs ls hP hS hl
  exact W.objInit X.1 X.2.1 X.2.2.2.1 (X.2.2.2.2.1 _ hw) (X.2.2.2.2.1 _ q_39) (X.2.2.2.2.1 _ q_40) rfl (by rw [X.2.2.1]; exact hl.1) rfl hdg (Nat.le_trans h1 X.2.2.2.2.2.2.2.1.1) (by show 2 * 0 + _ + 12 ≤ _; have := X.2.2.2.2.2.2.2.1.2; omega) (kk H locs ls hP hS hl)
theorem gw_putF (X : Cx (kU b D A cy ws kc ks) cc own nL fr lo) (hI : InI b) {C : String} {T : u_T} {N ci index a : Nat} (hin : ∀ w ∈ u_ws C T N, w ∈ gT) (ty0 : Nat → FieldType) (hty : ∀ k, k < N → parseFieldDescriptor (T k).2.2.1 = some (ty0 k)) (hnm : ∀ a, a < N → ∀ b, b < N → a ≠ b → (T a).2.1 ≠ (T b).2.1) (q0 : Nat) {fs : List Value} (he : ws[q0]? = some (a, .inr (ci, fs))) (hc : vwCl[ci]? = some (C, T, N)) (k : Nat) (hk : k < N) (hlink : Cond.fieldLink own index (T k).1 (T k).2.1 (T k).2.2.1 ∈ gT) (hfin : (T k).2.2.2 = true) (hdecl : (T k).1 = own) {ty : FieldType} {v : Value} (hd : parseFieldDescriptor (T k).2.2.1 = some ty) (hn : narrow ty v = v) (hfit : fits ty v = true) (hl0 : k < fs.length) (hdg : decode cc pc = .ok (.putfield index, 3))
    (hset : ws.set q0 (a, .inr (ci, fs.set k v)) = ws') (kk : Cx (kU b D A cy ws' kc ks) cc own nL fr lo → Gd (kU b D A cy ws' kc ks) nL (pc + 3) lv rest ()) : Gd (kU b D A cy ws kc ks) nL pc lv (v :: .ref a :: rest) () := by
  subst hset
  obtain ⟨p, l, e, R, s, m, args, below, meth, c, Q⟩ := b
  intro H locs ls hP hS hl
  refine va_putF X.1 X.2.1 X.2.2.2.2.1 hin ty0 hty hnm X.2.2.2.1 X.2.2.2.2.2.1 hP (X.2.2.2.2.2.2.1 ()) hS q0 he hc k hk (X.2.2.2.2.1 _ hlink) (fun _ h9 => h9) hfin hI hdecl hd hn hfit hl0 hdg (fun H1 locs1 hP1 hD1 hS1 => ?_)
  exact kk ⟨X.1, X.2.1, X.2.2.1, X.2.2.2.1, X.2.2.2.2.1, X.2.2.2.2.2.1, fun _ => hD1, X.2.2.2.2.2.2.2⟩ H1 locs1 ls hP1 hS1 hl
theorem gw_put (X : Cx (kU b D A cy ws kc ks) cc own nL fr lo) {C : String} {T : u_T} {N ci index a : Nat} (hin : ∀ w ∈ u_ws C T N, w ∈ gT) (ty0 : Nat → FieldType) (hty : ∀ k, k < N → parseFieldDescriptor (T k).2.2.1 = some (ty0 k)) (hnm : ∀ a, a < N → ∀ b, b < N → a ≠ b → (T a).2.1 ≠ (T b).2.1) (q0 : Nat) {fs : List Value} (he : ws[q0]? = some (a, .inr (ci, fs))) (hc : vwCl[ci]? = some (C, T, N)) (k : Nat) (hk : k < N) (hlink : Cond.fieldLink own index (T k).1 (T k).2.1 (T k).2.2.1 ∈ gT) (hfin : (T k).2.2.2 = false) {ty : FieldType} {v : Value} (hd : parseFieldDescriptor (T k).2.2.1 = some ty) (hn : narrow ty v = v) (hfit : fits ty v = true) (hl0 : k < fs.length) (hdg : decode cc pc = .ok (.putfield index, 3))
    (hset : ws.set q0 (a, .inr (ci, fs.set k v)) = ws') (kk : Cx (kU b D A cy ws' kc ks) cc own nL fr lo → Gd (kU b D A cy ws' kc ks) nL (pc + 3) lv rest ()) : Gd (kU b D A cy ws kc ks) nL pc lv (v :: .ref a :: rest) () := by
  subst hset
  obtain ⟨p, l, e, R, s, m, args, below, meth, c, Q⟩ := b
  intro H locs ls hP hS hl
  refine va_put X.1 X.2.1 X.2.2.2.2.1 hin ty0 hty hnm X.2.2.2.1 X.2.2.2.2.2.1 hP (X.2.2.2.2.2.2.1 ()) hS q0 he hc k hk (X.2.2.2.2.1 _ hlink) (fun _ h9 => h9) hfin hd hn hfit hl0 hdg (fun H1 locs1 hP1 hD1 hS1 => ?_)
  exact kk ⟨X.1, X.2.1, X.2.2.1, X.2.2.2.1, X.2.2.2.2.1, X.2.2.2.2.2.1, fun _ => hD1, X.2.2.2.2.2.2.2⟩ H1 locs1 ls hP1 hS1 hl
theorem gw_iast (X : Cx (kU b D A cy ws kc ks) cc own nL fr lo) {a : Nat} (q0 t0 : Nat) {cA : ClassId} {n : Nat} {f : Nat → Int32} (ha : ws[q0]? = some (a, .inl (cA, n, .inl f))) (ht : (tyG cy)[t0]? = some (cA, .int)) {i x : Int32} (hin : vp_in i n) (hdg : decode cc pc = .ok (.iastore, 1))
    (hset : ws.set q0 (a, .inl (cA, n, .inl (upd f i.toNatClampNeg x))) = ws') (kk : Cx (kU b D A cy ws' kc ks) cc own nL fr lo → Gd (kU b D A cy ws' kc ks) nL (pc + 1) lv rest ()) : Gd (kU b D A cy ws kc ks) nL pc lv (.int x :: .int i :: .ref a :: rest) () := by
  subst hset
  obtain ⟨p, l, e, R, s, m, args, below, meth, c, Q⟩ := b
  intro H locs ls hP hS hl
  refine va_iast X.1 X.2.1 X.2.2.2.2.2.1 hP (X.2.2.2.2.2.2.1 ()) hS q0 t0 ha ht hin hdg (fun H1 locs1 hP1 hD1 hS1 => ?_)
  exact kk ⟨X.1, X.2.1, X.2.2.1, X.2.2.2.1, X.2.2.2.2.1, X.2.2.2.2.2.1, fun _ => hD1, X.2.2.2.2.2.2.2⟩ H1 locs1 ls hP1 hS1 hl
theorem gw_aast (X : Cx (kU b D A cy ws kc ks) cc own nL fr lo) {a : Nat} (q0 t0 qk ci : Nat) {cA : ClassId} {r : vw_C} {n v : Nat} {vs : List Value} {f : Nat → Option Nat} (ha : ws[q0]? = some (a, .inl (cA, n, .inr (.inr (.inr (.inr f)))))) (ht : (tyG cy)[t0]? = some (cA, .object r.1)) (hv : ws[qk]? = some (v, .inr (ci, vs))) (hc : vwCl[ci]? = some r) {i : Int32} (hin : vp_in i n) (hdg : decode cc pc = .ok (.aastore, 1))
    (hset : ws.set q0 (a, .inl (cA, n, .inr (.inr (.inr (.inr (va_up f i.toNatClampNeg (some v))))))) = ws') (kk : Cx (kU b D A cy ws' kc ks) cc own nL fr lo → Gd (kU b D A cy ws' kc ks) nL (pc + 1) lv rest ()) : Gd (kU b D A cy ws kc ks) nL pc lv (.ref v :: .int i :: .ref a :: rest) () := by
  subst hset
  obtain ⟨p, l, e, R, s, m, args, below, meth, c, Q⟩ := b
  intro H locs ls hP hS hl
  refine va_astq X.1 X.2.1 X.2.2.2.2.2.1 hP (X.2.2.2.2.2.2.1 ()) hS q0 t0 qk ci ha ht hv hc hin hdg (fun H1 locs1 hP1 hD1 hS1 => ?_)
  exact kk ⟨X.1, X.2.1, X.2.2.1, X.2.2.2.1, X.2.2.2.2.1, X.2.2.2.2.2.1, fun _ => hD1, X.2.2.2.2.2.2.2⟩ H1 locs1 ls hP1 hS1 hl
theorem gw_new (X : Cx (kU b D A cy ws kc ks) cc own nL fr lo) (N : Nx b A MC MS) {C : String} {T : u_T} {Nn ci index : Nat} (hin : ∀ w ∈ u_ws C T Nn, w ∈ gT) (ty : Nat → FieldType) (hty : ∀ k, k < Nn → parseFieldDescriptor (T k).2.2.1 = some (ty k)) (hcl : Cond.classLink own index C ∈ gT) (hinst : Cond.instantiable C Nn ∈ gT) (hini : Cond.initialized C ∈ gT) (hc : vwCl[ci]? = some (C, T, Nn)) {fs : List Value} (hfs : ∀ j, j < Nn → defaultValue (ty j) = vp_V fs j) (h1 : kc + 1 ≤ MC) (h2 : ks + Nn ≤ MS) (hdg : decode cc pc = .ok (.new index, 3))
    (kk : ∀ q : Nat, Cx (kU b D A cy (ws ++ [(q, .inr (ci, fs))]) (kc + 1) (ks + Nn)) cc own nL fr lo → Gd (kU b D A cy (ws ++ [(q, .inr (ci, fs))]) (kc + 1) (ks + Nn)) nL (pc + 3) lv (.ref q :: rest) ()) : Gd (kU b D A cy ws kc ks) nL pc lv rest () := by
  obtain ⟨p, l, e, R, s, m, args, below, meth, c, Q⟩ := b
  intro H locs ls hP hS hl
  refine va_new X.1 X.2.1 X.2.2.2.2.1 hin ty hty X.2.2.2.1 (X.2.2.2.2.1 _ hcl) (X.2.2.2.2.1 _ hinst) (X.2.2.2.2.1 _ hini) X.2.2.2.2.2.1 hP (X.2.2.2.2.2.2.1 ()) hS N.2.2.1 hc hfs (Nat.le_trans h1 N.1) (Nat.le_trans h2 N.2.1) hdg (fun q H1 hP1 hD1 hS1 => ?_)
  exact kk q ⟨X.1, X.2.1, X.2.2.1, X.2.2.2.1, X.2.2.2.2.1, X.2.2.2.2.2.1, fun _ => hD1, X.2.2.2.2.2.2.2.1, Nat.le_trans h1 N.1, Nat.le_trans h2 N.2.1⟩ H1 locs ls hP1 hS1 hl
theorem gw_newa (X : Cx (kU b D A cy ws kc ks) cc own nL fr lo) (N : Nx b A MC MS) {atype : ArrayType} {ty : FieldType} (hw : Cond.arrayClass (newarray.typeOf atype) ∈ gT) (hty : newarray.typeOf atype = ty) (t0 : Nat) {cA : ClassId} (ht : (tyG cy)[t0]? = some (cA, ty)) (hu : ∀ (U : State) (c1 c2 : ClassId), va_RA U c1 ty → va_RA U c2 ty → c1 = c2)
    {n : Int32} {N' : Nat} {a0 : vp_A} (ha : ∀ cA : ClassId, vp_cell cA a0 = arrV cA N' (fun _ => defaultValue ty)) (hn : ¬ n < 0) (hN : n.toNatClampNeg = N') (hbytes : N' * componentBytes ty ≤ 536870912) (h1 : kc + 1 ≤ MC) (h2 : ks + N' ≤ MS) (hdg : decode cc pc = .ok (.newarray atype, 2))
    (kk : ∀ q : Nat, Cx (kU b D A cy (ws ++ [(q, .inl (cA, a0))]) (kc + 1) (ks + N')) cc own nL fr lo → Gd (kU b D A cy (ws ++ [(q, .inl (cA, a0))]) (kc + 1) (ks + N')) nL (pc + 2) lv (.ref q :: rest) ()) : Gd (kU b D A cy ws kc ks) nL pc lv (.int n :: rest) () := by
  obtain ⟨p, l, e, R, s, m, args, below, meth, c, Q⟩ := b
  intro H locs ls hP hS hl
  have hK : va_K D vwCl (tyG cy) s := X.2.2.2.2.2.1
  refine va_newa X.1 X.2.1 (X.2.2.2.2.1 _ hw) hty hK hP (X.2.2.2.2.2.2.1 ()) hS N.2.2.1 ha hn hN hbytes (Nat.le_trans h1 N.1) (Nat.le_trans h2 N.2.1) hdg (fun q cB H1 hK1 hP1 hD1 hS1 => ?_)
  have hcB : cB = cA := hu s cB cA (hK1.2 (tyG cy).length (cB, ty) (by rw [List.getElem?_append_right (Nat.le_refl _), Nat.sub_self]; rfl)).2 (hK.2 t0 _ ht).2
  subst hcB
  exact kk q ⟨X.1, X.2.1, X.2.2.1, X.2.2.2.1, X.2.2.2.2.1, X.2.2.2.2.2.1, fun _ => hD1, X.2.2.2.2.2.2.2.1, Nat.le_trans h1 N.1, Nat.le_trans h2 N.2.1⟩ H1 locs ls hP1 hS1 hl
theorem gw_newq (X : Cx (kU b D A cy ws kc ks) cc own nL fr lo) (N : Nx b A MC MS) {index : Nat} (hcl : Cond.classLink own index "MinuteSignal$Held" ∈ gT) {n : Int32} {N' : Nat} (hn : ¬ n < 0) (hN : n.toNatClampNeg = N') (hbytes : N' * 4 ≤ 536870912) (h1 : kc + 1 ≤ MC) (h2 : ks + N' ≤ MS) (hdg : decode cc pc = .ok (.anewarray index, 3))
    (kk : ∀ q : Nat, Cx (kU b D A cy (ws ++ [(q, .inl (cy 3, N', .inr (.inr (.inr (.inr (fun _ => none))))))]) (kc + 1) (ks + N')) cc own nL fr lo → Gd (kU b D A cy (ws ++ [(q, .inl (cy 3, N', .inr (.inr (.inr (.inr (fun _ => none))))))]) (kc + 1) (ks + N')) nL (pc + 3) lv (.ref q :: rest) ()) : Gd (kU b D A cy ws kc ks) nL pc lv (.int n :: rest) () := by
  obtain ⟨p, l, e, R, s, m, args, below, meth, c, Q⟩ := b
  intro H locs ls hP hS hl
  have hK : va_K D vwCl (tyG cy) s := X.2.2.2.2.2.1
  refine va_newq X.1 X.2.1 X.2.2.2.1 (X.2.2.2.2.1 _ hcl) N.2.2.2.2.2.2.2.1 hK hP (X.2.2.2.2.2.2.1 ()) hS N.2.2.1 hn hN hbytes (Nat.le_trans h1 N.1) (Nat.le_trans h2 N.2.1) hdg (fun q cB H1 hK1 hP1 hD1 hS1 => ?_)
  have hcB : cB = cy 3 := by
    obtain ⟨kA, comp, f1, f2, f3, f4⟩ := (hK1.2 (tyG cy).length (cB, .object "MinuteSignal$Held") (by rw [List.getElem?_append_right (Nat.le_refl _), Nat.sub_self]; rfl)).2
    obtain ⟨kA2, comp2, g1, g2, g3, g4⟩ := (hK.2 3 (cy 3, .object "MinuteSignal$Held") rfl).2
    exact Option.some.inj (f4.symm.trans g4)
  subst hcB
  exact kk q ⟨X.1, X.2.1, X.2.2.1, X.2.2.2.1, X.2.2.2.2.1, X.2.2.2.2.2.1, fun _ => hD1, X.2.2.2.2.2.2.2.1, Nat.le_trans h1 N.1, Nat.le_trans h2 N.2.1⟩ H1 locs ls hP1 hS1 hl
theorem gw_mna (X : Cx (kU b D A cy ws kc ks) cc own nL fr lo) (N : Nx b A MC MS) {index : Nat} (hcl : Cond.classLink own index "[[I" ∈ gT) (hw : Cond.arrayClass .int ∈ gT) (h1 : kc + 8 ≤ MC) (h2 : ks + 1351 ≤ MS) (hdg : decode cc pc = .ok (.multianewarray index 2, 4))
    (kk : ∀ (q : Nat) (r : Nat → Nat), Cx (kU b D A cy ((ws ++ [(q, .inl (cy 4, 7, .inr (.inr (.inr (.inr (fun i => if i < 7 then some (r i) else none))))))]) ++ (List.range 7).map (fun i => (r i, .inl (cy 1, 192, .inl (fun _ => 0))))) (kc + 1 + 7) (ks + 7 + 7 * 192)) cc own nL fr lo → Gd (kU b D A cy ((ws ++ [(q, .inl (cy 4, 7, .inr (.inr (.inr (.inr (fun i => if i < 7 then some (r i) else none))))))]) ++ (List.range 7).map (fun i => (r i, .inl (cy 1, 192, .inl (fun _ => 0))))) (kc + 1 + 7) (ks + 7 + 7 * 192)) nL (pc + 4) lv (.ref q :: rest) ()) : Gd (kU b D A cy ws kc ks) nL pc lv (.int 192 :: .int 7 :: rest) () := by
  obtain ⟨p, l, e, R, s, m, args, below, meth, c, Q⟩ := b
  intro H locs ls hP hS hl
  have hK : va_K D vwCl (tyG cy) s := X.2.2.2.2.2.1
  have hD : va_D A ws := X.2.2.2.2.2.2.1 ()
  have k1 : kc + 8 ≤ R.cells := Nat.le_trans h1 N.1
  have k2 : ks + 1351 ≤ R.slots := Nat.le_trans h2 N.2.1
  refine va_mna (X := ws) (L := []) (f := fun _ => .inr (0, [])) (ty := .int) (cy := cy 1) (z := (192, .inl (fun _ => 0))) (N' := 7) (K' := 192) X.1 X.2.1 X.2.2.2.1 (X.2.2.2.2.1 _ hcl) N.2.2.2.2.2.2.2.2 (X.2.2.2.2.1 _ hw) (hK.2 1 (cy 1, .int) rfl).2 hK (by rw [show ws ++ va_pl [] (fun _ => Sum.inr (0, [])) = ws from List.append_nil ws]; exact hP) (by rw [show ws ++ va_pl [] (fun _ => Sum.inr (0, [])) = ws from List.append_nil ws]; exact hD) hS N.2.2.1 (by decide) (by decide) (by decide) (by decide) (by decide) (by decide) (by decide) rfl rfl k1 k2 ?_ hdg (fun q r cA H1 hr1 hr2 hK1 hP1 hD1 hS1 => ?_)
  · intro c9
    exact arrV_new c9 192 (.int 0)
  · have hcB : cA = cy 4 := Option.some.inj ((hK1.2 (tyG cy).length (cA, .array .int) (by rw [List.getElem?_append_right (Nat.le_refl _), Nat.sub_self]; rfl)).2.symm.trans (hK.2 4 (cy 4, .array .int) rfl).2)
    subst hcB
    have hrw : va_pl ([] ++ (List.range 7).map r) (vr_up (fun _ => Sum.inr (0, [])) ((List.range 7).map r) (.inl (cy 1, 192, .inl (fun _ => 0)))) = (List.range 7).map (fun i => (r i, (.inl (cy 1, 192, .inl (fun _ => 0)) : va_E))) := by
      rw [← vr_rows (L := []) (l := (List.range 7).map r) (fun a _ h => by cases h)]
      show [] ++ _ = _
      rw [List.nil_append, List.map_map]
      rfl
    rw [hrw] at hP1 hD1
    exact kk q r ⟨X.1, X.2.1, X.2.2.1, X.2.2.2.1, X.2.2.2.2.1, X.2.2.2.2.2.1, fun _ => hD1, X.2.2.2.2.2.2.2.1, by omega, by omega⟩ H1 locs ls hP1 hS1 hl
theorem gw_ret (X : Cx (kU b D A cy ws kc ks) cc own nL fr lo) {wF : (Nat → Nat) → va_W} {mc ms : Nat} (hR : RxI b D A wF mc ms) (h1 : kc ≤ mc) (h2 : ks ≤ ms) (q : Nat → Nat) (hq : ws = wF q) (hdg : decode cc pc = .ok (.return_, 1)) : Gd (kU b D A cy ws kc ks) nL pc lv [] () := by
  subst hq
  obtain ⟨p, l, e, R, s, m, args, below, meth, c, Q⟩ := b
  intro H locs ls hP hS hl
  obtain ⟨hr, hlk, rfl⟩ := hR
  refine W.widen (k := mc) (n := ms) h1 h2 ?_
  exact W.vret X.1 X.2.1 hr (fun t ht hW => ⟨⟨q, rfl, trivial, by rw [ht]; exact hP, X.2.2.2.2.2.2.1 ()⟩, hS.F ht⟩) hS.2.2 hdg hlk
/-- a constructor is called: own link, or a nest mate's -/
def LkI (own : String) (idx : Nat) (y : MethodName) (cb : ByteArray) (n : Nat) (U : State) : Prop := (Cond.methodLink own idx y ∈ gT ∨ va_Nw (.methodLinkNest own idx y "MinuteSignal") U) ∧ Cond.instanceMethod y ∈ gT ∧ Cond.initialized y.cls ∈ gT ∧ Cond.code y cb n none ∈ gT ∧ y.name = "<init>" ∧ y.cls ≠ "java/lang/invoke/MethodHandle" ∧ y.cls ≠ "java/lang/invoke/VarHandle" ∧ (parseMethodDescriptor y.desc).map (fun d => d.parameters.length) = some 0
theorem gw_call (X : Cx (kU b D A cy ws kc ks) cc own nL fr lo) (N : Nx b A MC MS) {y : MethodName} {cb : ByteArray} {n idx fr' lo' mc ms h0 : Nat} {e0 : va_E} {wF : (Nat → Nat) → va_W} (hk : ∀ U, NX U → LkI own idx y cb n U) (hM : MtI (kL (kU b D A cy ws kc ks)) D cy y cb n fr' lo' mc ms h0 [(h0, e0)] wF) (k0 : Nat) (isR : List Nat) (wr : va_W) (hC : [k0].map (fun i => ws[i]?) = ([(h0, e0)] : va_W).map some) (hR : isR.map (fun i => ws[i]?) = wr.map some) (hn : va_nd isR = true) (hdis : ∀ i ∈ isR, i ∉ [k0])
    (hroom : fr' + 1 ≤ fr ∧ 8 + (n + 11) + lo' ≤ lo) (h1 : kc + mc ≤ MC) (h2 : ks + ms ≤ MS) (hcat : (rest.map fun v => v.category).sum ≤ 8) (hdg : decode cc pc = .ok (.invokespecial idx, 3))
    (kk : ∀ q : Nat → Nat, Cx (kU b D A cy (wr ++ wF q) (kc + mc) (ks + ms)) cc own nL fr lo → Gd (kU b D A cy (wr ++ wF q) (kc + mc) (ks + ms)) nL (pc + 3) lv rest ()) : Gd (kU b D A cy ws kc ks) nL pc lv (.ref h0 :: rest) () := by
  obtain ⟨p, l, e, R, s, m, args, below, meth, c, Q⟩ := b
  intro H locs ls hP hS hl
  obtain ⟨hx, hb, hml, hown, hts, hK, hDD, hrm, hkc, hks⟩ := X
  have hD : va_D A ws := hDD ()
  obtain ⟨N1, N2, N3, N4⟩ := N
  obtain ⟨k1, k2, k4, k5, k9, k6, k7, k8⟩ := hk s N4
  have f1 : kc + mc ≤ R.cells := Nat.le_trans h1 N1
  have f2 : ks + ms ≤ R.slots := Nat.le_trans h2 N2
  have hPc : va_P D vwCl [(h0, e0)] H := hP.sub [k0] (by
    have h9 : ws[k0]? = some (h0, e0) := by have h8 := hC; simp at h8; exact h8
    show List.filterMap _ [k0] = _
    simp [h9])
  have hDc : va_D A [(h0, e0)] := hD.sub [k0] rfl hC
  have hFc := va_free (wc := [(h0, e0)]) hD hS N3 [k0] hC
  have hM := hM H.size
  have hpre : PreS s H (va_Pc [.ref h0] (fun U => U.heap.size = H.size ∧ va_P D vwCl [(h0, e0)] U.heap ∧ va_K D vwCl (tyG cy) U ∧ va_D (fun _ => True) [(h0, e0)] ∧ NX U)) (.ref h0 :: []) := ⟨fun a U g mk q => by
    obtain ⟨q0, q1, qP, qK, qD, qN⟩ := q
    exact ⟨q0, q1, qP, va_K.moved (u := U) (U := U.calling g mk a) (Vm.Alike.refl U.vm) qK, qD, qN.calling g mk a⟩, fun U hU hW => ⟨rfl, by rw [hU], by rw [hU]; exact hPc, va_K.moved hW.alike hK, hDc.weaken (fun _ _ _ _ => trivial), N4.warm hW⟩⟩
  have hrun : va_Run p l e R s m args below meth c H locs kc ks mc ms (F0 m pc ls (.ref h0 :: rest)) rest (va_Qv (fun _ : Nat → Nat => True) (fun q t => va_P D vwCl (wF q) t.heap ∧ va_D (va_A [(h0, e0)] H.size) (wF q)) (va_A [(h0, e0)] H.size) (Value.ref h0 :: []).toArray) (va_A [(h0, e0)] H.size) := by
    rcases k1 with k1 | k1
    · exact va_runI (As := []) (rest := rest) (Ts := gT) ⟨hx, hb, hml, hown, hts⟩ hM ⟨callB_of 0 hts (lw_good2 _ _ _ _ k5) rfl rfl rfl (hts _ k4) (hts _ k1) ⟨k6, k7, k8⟩ ⟨Nat.le_trans hroom.1 hrm.1, Nat.le_trans hroom.2 hrm.2⟩, k9, hts _ k2⟩ hpre rfl rfl hl.1 rfl (lv_room hcat) hdg ⟨f1, f2⟩
    · exact va_runIN (As := []) (rest := rest) (Ts := gT) ⟨hx, hb, hml, hown, hts⟩ hM ⟨va_cnB 0 hts (lw_good2 _ _ _ _ k5) rfl rfl rfl k1 (hts _ k4) ⟨k6, k7, k8⟩ ⟨Nat.le_trans hroom.1 hrm.1, Nat.le_trans hroom.2 hrm.2⟩, k9, hts _ k2⟩ hpre rfl rfl hl.1 rfl (lv_room hcat) hdg ⟨f1, f2⟩
  refine va_callv hrun hS (fun q _ h => hFc q h) hFc (fun u t H1 locs1 ht hvm hw hB hz1 hk1 hS1 => ?_)
  obtain ⟨hP1, hD1⟩ := hB
  rw [ht] at hP1
  obtain ⟨hP2, hD2⟩ := va_join (wr := wr) (w1 := wF u) hP hD [k0] isR hC hR hn hdis hk1 hFc hP1 hD1
  exact kk u ⟨hx, hb, hml, hown, hts, hK, fun _ => hD2, hrm, f1, f2⟩ H1 locs1 ls hP2 hS1 hl
theorem gw_perm (is : List Nat) (hs : is.map (fun i => ws[i]?) = ws'.map some) (hn : va_nd is = true) (X : Cx (kU b D A cy ws kc ks) cc own nL fr lo) (k : Cx (kU b D A cy ws' kc ks) cc own nL fr lo → Gd (kU b D A cy ws' kc ks) nL pc lv st ()) : Gd (kU b D A cy ws kc ks) nL pc lv st () := by
  obtain ⟨p, l, e, R, s, m, args, below, meth, c, Q⟩ := b
  intro H locs ls hP hS hl
  have hD : va_D A ws := X.2.2.2.2.2.2.1 ()
  have hP' : va_P D vwCl ws' H := by
    intro j q hq
    have h1 : (is.map (fun i => ws[i]?))[j]? = some (some q) := by rw [hs, List.getElem?_map, hq]; rfl
    rw [List.getElem?_map] at h1
    cases hi : is[j]? with
    | none => rw [hi] at h1; cases h1
    | some i => rw [hi] at h1; exact hP i q (Option.some.inj h1)
  exact k ⟨X.1, X.2.1, X.2.2.1, X.2.2.2.1, X.2.2.2.2.1, X.2.2.2.2.2.1, fun _ => hD.sub is hn hs, X.2.2.2.2.2.2.2⟩ H locs ls hP' hS hl
end GU
theorem ru_int : ∀ (U : State) (c1 c2 : ClassId), va_RA U c1 .int → va_RA U c2 .int → c1 = c2 := fun _ _ _ h1 h2 => Option.some.inj (h1.symm.trans h2)
theorem ru_byte : ∀ (U : State) (c1 c2 : ClassId), va_RA U c1 .byte → va_RA U c2 .byte → c1 = c2 := fun _ _ _ h1 h2 => Option.some.inj (h1.symm.trans h2)
theorem ru_boolean : ∀ (U : State) (c1 c2 : ClassId), va_RA U c1 .boolean → va_RA U c2 .boolean → c1 = c2 := fun _ _ _ h1 h2 => Option.some.inj (h1.symm.trans h2)
