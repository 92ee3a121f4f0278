/-! the layer: states as tables of ints, a judgement over them, one row an instruction -/
abbrev SG : Type := Nat → Nat → Int32
def sput (g : SG) (a i : Nat) (v : Int32) : SG := fun b j => cond (Nat.beq b a && Nat.beq j i) v (g b j)
/-- the words that hold at every later state -/
def gT : List Cond := lw_tbl.filter goodWord
theorem gT_in {w : Cond} (h : w ∈ lw_tbl) (hg : goodWord w = true) : w ∈ gT := List.mem_filter.mpr ⟨h, hg⟩
theorem gT_tbl {w : Cond} (h : w ∈ gT) : w ∈ lw_tbl := (List.mem_filter.mp h).1
theorem lw_good2 (y : MethodName) (cb : ByteArray) (n : Nat) (ret : Option FieldType) (h : Cond.code y cb n ret ∈ gT) : GoodIn gT (.code y cb n ret :: gT) := fun w hw => by
  have hm : w ∈ gT := (List.mem_cons.mp hw).elim (fun e => e ▸ h) id
  exact ⟨hm, good_of_word (List.mem_filter.mp hm).2⟩
abbrev BX : Type := Program × Launch × Env × Room × State × MethodId × Array Value × List Frame × Method × Code × (State → Prop)
abbrev EX (Sg : Type) : Type := va_G × (Nat → Prop) × List (ClassId × FieldType) × (Sg → va_W)
abbrev KX (Sg : Type) : Type := BX × EX Sg × Nat × Nat
def kL {Sg : Type} (κ : KX Sg) : Launch := κ.1.2.1
def kE {Sg : Type} (κ : KX Sg) : EX Sg := κ.2.1
def Gd {Sg : Type} (κ : KX Sg) (nL : Nat) (pc : Nat) (lv : List (Nat × Value)) (st : List Value) (sg : Sg) : Prop := match κ with
  | ((p, l, e, R, s, m, args, below, meth, c, Q), (D, A, tys, wld), kc, ks) => ∀ (H : Heap) (locs : List Loc) (ls : Array Slot), va_P D vwCl (wld sg) H → va_S A s.heap H locs → lv_has ls nL lv → W p l e R s m args below meth c H locs kc ks Q (F0 m pc ls st)
def Cx {Sg : Type} (κ : KX Sg) (cc : ByteArray) (own : String) (nL fr lo : Nat) : Prop := match κ with
  | ((p, l, e, R, s, m, args, below, meth, c, Q), (D, A, tys, wld), kc, ks) => p.tables.exec = Jvm.exec ∧ c.code = cc ∧ c.maxLocals = nL ∧ s.vm.findClass own = some m.cls ∧ (∀ w ∈ gT, w.before args s = true) ∧ va_K D vwCl tys s ∧ (∀ sg : Sg, va_D A (wld sg)) ∧ (fr ≤ R.frames ∧ lo ≤ R.locals) ∧ kc ≤ R.cells ∧ ks ≤ R.slots
/-- the end of a method: what it answers and the state behind it; nothing but A's cells has changed -/
def QU {Sg : Type} (E : EX Sg) (post : Option Value → Sg → Prop) : Array Value → State → Outcome → State → Prop := match E with
  | (D, A, _, wld) => fun _ st oc t => (∃ (v : Option Value) (sg : Sg), oc = .returned v ∧ post v sg ∧ va_P D vwCl (wld sg) t.heap) ∧ va_F A st t
def PU {Sg : Type} (E : EX Sg) (sg : Sg) : State → Prop := match E with
  | (D, A, tys, wld) => fun U => va_P D vwCl (wld sg) U.heap ∧ va_K D vwCl tys U ∧ ∀ g : Sg, va_D A (wld g)
def Mt {Sg : Type} (l : Launch) (E : EX Sg) (y : MethodName) (cb : ByteArray) (n : Nat) (ret : Option FieldType) (fr lo : Nat) (av : List Value) (sg : Sg) (post : Option Value → Sg → Prop) : Prop :=
  Met l y (.code y cb n ret :: gT) { frames := fr, cells := 0, slots := 0, locals := lo } (va_Pc av (PU E sg)) (QU E post) 0 0 E.2.1
def Rx {Sg : Type} (κ : KX Sg) (ret : Option FieldType) (post : Option Value → Sg → Prop) : Prop := match κ with
  | ((p, l, e, R, s, m, args, below, meth, c, Q), E, kc, ks) => meth.sig.returnType = ret ∧ meth.locks = false ∧ Q = MQ below (QU E post) args s kc ks E.2.1
def oI {Sg : Type} (post : Int32 → Sg → Prop) : Option Value → Sg → Prop := fun v g => ∃ r : Int32, v = some (.int r) ∧ post r g
def oR {Sg : Type} (sg : Sg) (post : Int32 → Prop) : Option Value → Sg → Prop := fun v g => ∃ r : Int32, v = some (.int r) ∧ g = sg ∧ post r
def oV {Sg : Type} (post : Sg → Prop) : Option Value → Sg → Prop := fun v g => v = none ∧ post g
def oA {Sg : Type} (a : Nat) (post : Sg → Prop) : Option Value → Sg → Prop := fun v g => v = some (.ref a) ∧ post g
/-- links, by the tables' words -/
def LkV (own : String) (idx : Nat) (y : MethodName) (cb : ByteArray) (n : Nat) (ret : Option FieldType) (na : Nat) : Prop := Cond.methodLink own idx y ∈ gT ∧ Cond.instanceMethod y ∈ gT ∧ Cond.selects y.cls y y ∈ gT ∧ Cond.initialized y.cls ∈ gT ∧ Cond.code y cb n ret ∈ gT ∧ y.cls ≠ "java/lang/invoke/MethodHandle" ∧ y.cls ≠ "java/lang/invoke/VarHandle" ∧ (parseMethodDescriptor y.desc).map (fun d => d.parameters.length) = some na
def LkS (own : String) (idx : Nat) (y : MethodName) (cb : ByteArray) (n : Nat) (ret : Option FieldType) (na : Nat) : Prop := Cond.methodLink own idx y ∈ gT ∧ Cond.static y ∈ gT ∧ Cond.initialized y.cls ∈ gT ∧ Cond.code y cb n ret ∈ gT ∧ y.cls ≠ "java/lang/invoke/MethodHandle" ∧ y.cls ≠ "java/lang/invoke/VarHandle" ∧ (parseMethodDescriptor y.desc).map (fun d => d.parameters.length) = some na
theorem metOfW {l : Launch} {y : MethodName} {ws ws' : List Cond} {rm : Room} {Pc : Array Value → State → Prop} {Qc : Array Value → State → Outcome → State → Prop} {mc ms : Nat} {free : Addr → Prop} {cc : ByteArray} {maxL : Nat} {ret : Option FieldType}
    (hy : plainFor y = true) (hw : ws = Cond.code y cc maxL ret :: ws')
    (body : ∀ p e s m args below meth c s₁, BodyLoose p l y (headSpec ws rm) cc maxL ret e s m args below meth c s₁ → c.maxLocals = maxL → Pc args s →
      W p l e (headSpec ws rm).room s m args below meth c s.heap [] 0 0 (MQ below Qc args s mc ms free) (entryFrame m args maxL)) : Met l y ws rm Pc Qc mc ms free := by
  refine MetFree.of_bodySF (code := cc) (maxLocals := maxL) (ret := ret) hy ?_ ?_
  · intro args s m h hn
    obtain ⟨meth, c, h1, h2, h3, h4, h5, h6, -, -⟩ := Cond.code_spec hn (atoms_spec (ws := ws) h _ (by rw [hw]; exact List.mem_cons_self))
    exact ⟨meth, c, h1, h2, h3, h4, h5, h6⟩
  · intro p e s m args below meth c s₁ B hml hP _
    have hh0 : s₁.heap = s.heap := by rw [B.state]; rfl
    obtain ⟨t, a1, o, b1, b2, b3⟩ := body p e s m args below meth c s₁ B hml hP s₁ hh0 (Stand.of_body B)
    exact ⟨t, o, a1, b1, b2, ⟨b3.1, b3.2⟩⟩
theorem mt_of {Sg : Type} {l : Launch} {E : EX Sg} {y : MethodName} {cb : ByteArray} {n : Nat} {ret : Option FieldType} {fr lo : Nat} {av : List Value} {sg : Sg} {post : Option Value → Sg → Prop} (hy : plainFor y = true) (hlen : (lg_sl av).length ≤ n)
    (hb : ∀ b : BX, Cx (b, E, 0, 0) cb y.cls n fr lo → Rx (b, E, 0, 0) ret post → Gd (b, E, 0, 0) n 0 (lv_args 0 av) [] sg) : Mt l E y cb n ret fr lo av sg post := by
  obtain ⟨D, A, tys, wld⟩ := E
  refine metOfW (cc := cb) (maxL := n) (ret := ret) hy rfl ?_
  intro p e s m args below meth c s₁ B hml hv
  obtain ⟨rfl, hP, hK, hD⟩ := hv
  have hts := atoms_spec (ws := .code y cb n ret :: gT) B.pre
  have X : Cx ((p, l, e, (headSpec (.code y cb n ret :: gT) { frames := fr, cells := 0, slots := 0, locals := lo }).room, s, m, av.toArray, below, meth, c, MQ below (QU (D, A, tys, wld) post) av.toArray s 0 0 A), (D, A, tys, wld), 0, 0) cb y.cls n fr lo :=
    ⟨B.exec, B.bytes, hml, findClass_of_methodNamed B.named, fun w hw => hts w (List.mem_cons_of_mem _ hw), hK, hD, ⟨Nat.le_refl _, Nat.le_refl _⟩, Nat.zero_le _, Nat.zero_le _⟩
  have hl := lv_entry av (n := n) hlen
  rw [lg_entry_eq]
  exact hb _ X ⟨B.returns, B.notSynchronized, rfl⟩ s.heap [] _ hP va_S.rf hl

section GD
variable {Sg : Type} {κ : KX Sg} {cc : ByteArray} {own : String} {nL fr lo pc : Nat} {lv lv' : List (Nat × Value)} {rest st : List Value} {sg sg' : Sg}

theorem gd_iconst (X : Cx κ cc own nL fr lo) {n : Int} {v : Int32} (hdg : decode cc pc = .ok (.iconst n, 1)) (hv : Int32.ofInt n = v) (k : Gd κ nL (pc + 1) lv (.int v :: rest) sg) : Gd κ nL pc lv (rest) sg := by
  obtain ⟨⟨p, l, e, R, s, m, args, below, meth, c, Q⟩, ⟨D, A, tys, wld⟩, kc, ks⟩ := κ
  intro H locs ls hP hS hl
  exact lv_iconst X.1 X.2.1 hdg hv (k H locs ls hP hS hl)
theorem gd_bipush (X : Cx κ cc own nL fr lo) {n : Int} {v : Int32} (hdg : decode cc pc = .ok (.bipush n, 2)) (hv : (Int8.ofInt n).toInt32 = v) (k : Gd κ nL (pc + 2) lv (.int v :: rest) sg) : Gd κ nL pc lv (rest) sg := by
  obtain ⟨⟨p, l, e, R, s, m, args, below, meth, c, Q⟩, ⟨D, A, tys, wld⟩, kc, ks⟩ := κ
  intro H locs ls hP hS hl
  exact lv_bipush X.1 X.2.1 hdg hv (k H locs ls hP hS hl)
theorem gd_sipush (X : Cx κ cc own nL fr lo) {n : Int} {v : Int32} (hdg : decode cc pc = .ok (.sipush n, 3)) (hv : (Int16.ofInt n).toInt32 = v) (k : Gd κ nL (pc + 3) lv (.int v :: rest) sg) : Gd κ nL pc lv (rest) sg := by
  obtain ⟨⟨p, l, e, R, s, m, args, below, meth, c, Q⟩, ⟨D, A, tys, wld⟩, kc, ks⟩ := κ
  intro H locs ls hP hS hl
  exact lv_sipush X.1 X.2.1 hdg hv (k H locs ls hP hS hl)
theorem gd_ldc (X : Cx κ cc own nL fr lo) {index : Nat} {v : Int32} (hw : Cond.constant own index v ∈ gT) (hdg : decode cc pc = .ok (.ldc index, 2)) (k : Gd κ nL (pc + 2) lv (.int v :: rest) sg) : Gd κ nL pc lv (rest) sg := by
  obtain ⟨⟨p, l, e, R, s, m, args, below, meth, c, Q⟩, ⟨D, A, tys, wld⟩, kc, ks⟩ := κ
  intro H locs ls hP hS hl
  exact lv_ldc X.1 X.2.1 X.2.2.2.1 (X.2.2.2.2.1 _ hw) hdg (k H locs ls hP hS hl)
theorem gd_ldcw (X : Cx κ cc own nL fr lo) {index : Nat} {v : Int32} (hw : Cond.constant own index v ∈ gT) (hdg : decode cc pc = .ok (.ldc_w index, 3)) (k : Gd κ nL (pc + 3) lv (.int v :: rest) sg) : Gd κ nL pc lv (rest) sg := by
  obtain ⟨⟨p, l, e, R, s, m, args, below, meth, c, Q⟩, ⟨D, A, tys, wld⟩, kc, ks⟩ := κ
  intro H locs ls hP hS hl
  exact lv_ldcw X.1 X.2.1 X.2.2.2.1 (X.2.2.2.2.1 _ hw) hdg (k H locs ls hP hS hl)
theorem gd_iload_n (X : Cx κ cc own nL fr lo) {k : Fin 4} {x : Int32} (hdg : decode cc pc = .ok (.iload_n k, 1)) (j : Nat) (hj : lv[j]? = some ((k : Nat), .int x)) (kk : Gd κ nL (pc + 1) lv (.int x :: rest) sg) : Gd κ nL pc lv (rest) sg := by
  obtain ⟨⟨p, l, e, R, s, m, args, below, meth, c, Q⟩, ⟨D, A, tys, wld⟩, kc, ks⟩ := κ
  intro H locs ls hP hS hl
  exact lv_iload_n X.1 X.2.1 hdg rfl (lv_at hl j hj) (kk H locs ls hP hS hl)
theorem gd_iload (X : Cx κ cc own nL fr lo) {i : Nat} {x : Int32} (hdg : decode cc pc = .ok (.iload i, 2)) (j : Nat) (hj : lv[j]? = some (i, .int x)) (kk : Gd κ nL (pc + 2) lv (.int x :: rest) sg) : Gd κ nL pc lv (rest) sg := by
  obtain ⟨⟨p, l, e, R, s, m, args, below, meth, c, Q⟩, ⟨D, A, tys, wld⟩, kc, ks⟩ := κ
  intro H locs ls hP hS hl
  exact lv_iload X.1 X.2.1 hdg (lv_at hl j hj) (kk H locs ls hP hS hl)
theorem gd_istore_n (X : Cx κ cc own nL fr lo) {k : Fin 4} {x : Int32} (hdg : decode cc pc = .ok (.istore_n k, 1)) (hn : (k : Nat) < nL) (hl : ((k : Nat), Value.int x) :: lv.filter (fun q => !(q.1 == (k : Nat)) && !(q.1 + 1 == (k : Nat) && q.2.category == 2)) = lv') (kk : Gd κ nL (pc + 1) lv' rest sg) : Gd κ nL pc lv (.int x :: rest) sg := by
  obtain ⟨⟨p, l, e, R, s, m, args, below, meth, c, Q⟩, ⟨D, A, tys, wld⟩, kc, ks⟩ := κ
  intro H locs ls hP hS hls
  exact lv_istore_n X.1 X.2.1 hdg rfl hls hn hl (fun ls2 hl2 => kk H locs ls2 hP hS hl2)
theorem gd_istore (X : Cx κ cc own nL fr lo) {i : Nat} {x : Int32} (hdg : decode cc pc = .ok (.istore i, 2)) (hn : i < nL) (hl : (i, Value.int x) :: lv.filter (fun q => !(q.1 == i) && !(q.1 + 1 == i && q.2.category == 2)) = lv') (kk : Gd κ nL (pc + 2) lv' rest sg) : Gd κ nL pc lv (.int x :: rest) sg := by
  obtain ⟨⟨p, l, e, R, s, m, args, below, meth, c, Q⟩, ⟨D, A, tys, wld⟩, kc, ks⟩ := κ
  intro H locs ls hP hS hls
  exact lv_istore X.1 X.2.1 hdg hls hn hl (fun ls2 hl2 => kk H locs ls2 hP hS hl2)
theorem gd_aload_n (X : Cx κ cc own nL fr lo) {k : Fin 4} {x : Nat} (hdg : decode cc pc = .ok (.aload_n k, 1)) (j : Nat) (hj : lv[j]? = some ((k : Nat), .ref x)) (kk : Gd κ nL (pc + 1) lv (.ref x :: rest) sg) : Gd κ nL pc lv (rest) sg := by
  obtain ⟨⟨p, l, e, R, s, m, args, below, meth, c, Q⟩, ⟨D, A, tys, wld⟩, kc, ks⟩ := κ
  intro H locs ls hP hS hl
  exact lv_aload_n X.1 X.2.1 hdg rfl (lv_at hl j hj) (kk H locs ls hP hS hl)
theorem gd_aload (X : Cx κ cc own nL fr lo) {i : Nat} {x : Nat} (hdg : decode cc pc = .ok (.aload i, 2)) (j : Nat) (hj : lv[j]? = some (i, .ref x)) (kk : Gd κ nL (pc + 2) lv (.ref x :: rest) sg) : Gd κ nL pc lv (rest) sg := by
  obtain ⟨⟨p, l, e, R, s, m, args, below, meth, c, Q⟩, ⟨D, A, tys, wld⟩, kc, ks⟩ := κ
  intro H locs ls hP hS hl
  exact lv_aload X.1 X.2.1 hdg (lv_at hl j hj) (kk H locs ls hP hS hl)
theorem gd_astore_n (X : Cx κ cc own nL fr lo) {k : Fin 4} {x : Nat} (hdg : decode cc pc = .ok (.astore_n k, 1)) (hn : (k : Nat) < nL) (hl : ((k : Nat), Value.ref x) :: lv.filter (fun q => !(q.1 == (k : Nat)) && !(q.1 + 1 == (k : Nat) && q.2.category == 2)) = lv') (kk : Gd κ nL (pc + 1) lv' rest sg) : Gd κ nL pc lv (.ref x :: rest) sg := by
  obtain ⟨⟨p, l, e, R, s, m, args, below, meth, c, Q⟩, ⟨D, A, tys, wld⟩, kc, ks⟩ := κ
  intro H locs ls hP hS hls
  exact lv_astore_n X.1 X.2.1 hdg rfl hls hn hl (fun ls2 hl2 => kk H locs ls2 hP hS hl2)
theorem gd_astore (X : Cx κ cc own nL fr lo) {i : Nat} {x : Nat} (hdg : decode cc pc = .ok (.astore i, 2)) (hn : i < nL) (hl : (i, Value.ref x) :: lv.filter (fun q => !(q.1 == i) && !(q.1 + 1 == i && q.2.category == 2)) = lv') (kk : Gd κ nL (pc + 2) lv' rest sg) : Gd κ nL pc lv (.ref x :: rest) sg := by
  obtain ⟨⟨p, l, e, R, s, m, args, below, meth, c, Q⟩, ⟨D, A, tys, wld⟩, kc, ks⟩ := κ
  intro H locs ls hP hS hls
  exact lv_astore X.1 X.2.1 hdg hls hn hl (fun ls2 hl2 => kk H locs ls2 hP hS hl2)
theorem gd_iinc (X : Cx κ cc own nL fr lo) {i j : Nat} {n : Int} {x v : Int32} (hdg : decode cc pc = .ok (.iinc i n, 3)) (hj : lv[j]? = some (i, .int x)) (hv : x + Int32.ofInt n = v) (hn : i < nL) (hl : (i, Value.int v) :: lv.filter (fun q => !(q.1 == i) && !(q.1 + 1 == i && q.2.category == 2)) = lv') (kk : Gd κ nL (pc + 3) lv' rest sg) : Gd κ nL pc lv (rest) sg := by
  obtain ⟨⟨p, l, e, R, s, m, args, below, meth, c, Q⟩, ⟨D, A, tys, wld⟩, kc, ks⟩ := κ
  intro H locs ls hP hS hls
  exact lv_iinc X.1 X.2.1 hdg hls hj hv hn hl (fun ls2 hl2 => kk H locs ls2 hP hS hl2)
theorem gd_iadd (X : Cx κ cc own nL fr lo) {x y : Int32} (hdg : decode cc pc = .ok (.iadd, 1)) (k : Gd κ nL (pc + 1) lv (.int (x + y) :: rest) sg) : Gd κ nL pc lv (.int y :: .int x :: rest) sg := by
  obtain ⟨⟨p, l, e, R, s, m, args, below, meth, c, Q⟩, ⟨D, A, tys, wld⟩, kc, ks⟩ := κ
  intro H locs ls hP hS hl
  exact lv_iadd X.1 X.2.1 hdg (k H locs ls hP hS hl)
theorem gd_isub (X : Cx κ cc own nL fr lo) {x y : Int32} (hdg : decode cc pc = .ok (.isub, 1)) (k : Gd κ nL (pc + 1) lv (.int (x - y) :: rest) sg) : Gd κ nL pc lv (.int y :: .int x :: rest) sg := by
  obtain ⟨⟨p, l, e, R, s, m, args, below, meth, c, Q⟩, ⟨D, A, tys, wld⟩, kc, ks⟩ := κ
  intro H locs ls hP hS hl
  exact lv_isub X.1 X.2.1 hdg (k H locs ls hP hS hl)
theorem gd_imul (X : Cx κ cc own nL fr lo) {x y : Int32} (hdg : decode cc pc = .ok (.imul, 1)) (k : Gd κ nL (pc + 1) lv (.int (x * y) :: rest) sg) : Gd κ nL pc lv (.int y :: .int x :: rest) sg := by
  obtain ⟨⟨p, l, e, R, s, m, args, below, meth, c, Q⟩, ⟨D, A, tys, wld⟩, kc, ks⟩ := κ
  intro H locs ls hP hS hl
  exact lv_imul X.1 X.2.1 hdg (k H locs ls hP hS hl)
theorem gd_iand (X : Cx κ cc own nL fr lo) {x y : Int32} (hdg : decode cc pc = .ok (.iand, 1)) (k : Gd κ nL (pc + 1) lv (.int (x &&& y) :: rest) sg) : Gd κ nL pc lv (.int y :: .int x :: rest) sg := by
  obtain ⟨⟨p, l, e, R, s, m, args, below, meth, c, Q⟩, ⟨D, A, tys, wld⟩, kc, ks⟩ := κ
  intro H locs ls hP hS hl
  exact lv_iand X.1 X.2.1 hdg (k H locs ls hP hS hl)
theorem gd_ior (X : Cx κ cc own nL fr lo) {x y : Int32} (hdg : decode cc pc = .ok (.ior, 1)) (k : Gd κ nL (pc + 1) lv (.int (x ||| y) :: rest) sg) : Gd κ nL pc lv (.int y :: .int x :: rest) sg := by
  obtain ⟨⟨p, l, e, R, s, m, args, below, meth, c, Q⟩, ⟨D, A, tys, wld⟩, kc, ks⟩ := κ
  intro H locs ls hP hS hl
  exact lv_ior X.1 X.2.1 hdg (k H locs ls hP hS hl)
theorem gd_ixor (X : Cx κ cc own nL fr lo) {x y : Int32} (hdg : decode cc pc = .ok (.ixor, 1)) (k : Gd κ nL (pc + 1) lv (.int (x ^^^ y) :: rest) sg) : Gd κ nL pc lv (.int y :: .int x :: rest) sg := by
  obtain ⟨⟨p, l, e, R, s, m, args, below, meth, c, Q⟩, ⟨D, A, tys, wld⟩, kc, ks⟩ := κ
  intro H locs ls hP hS hl
  exact lv_ixor X.1 X.2.1 hdg (k H locs ls hP hS hl)
theorem gd_ishl (X : Cx κ cc own nL fr lo) {x y : Int32} (hdg : decode cc pc = .ok (.ishl, 1)) (k : Gd κ nL (pc + 1) lv (.int (x <<< (y &&& 31)) :: rest) sg) : Gd κ nL pc lv (.int y :: .int x :: rest) sg := by
  obtain ⟨⟨p, l, e, R, s, m, args, below, meth, c, Q⟩, ⟨D, A, tys, wld⟩, kc, ks⟩ := κ
  intro H locs ls hP hS hl
  exact lv_ishl X.1 X.2.1 hdg (k H locs ls hP hS hl)
theorem gd_ishr (X : Cx κ cc own nL fr lo) {x y : Int32} (hdg : decode cc pc = .ok (.ishr, 1)) (k : Gd κ nL (pc + 1) lv (.int (x >>> (y &&& 31)) :: rest) sg) : Gd κ nL pc lv (.int y :: .int x :: rest) sg := by
  obtain ⟨⟨p, l, e, R, s, m, args, below, meth, c, Q⟩, ⟨D, A, tys, wld⟩, kc, ks⟩ := κ
  intro H locs ls hP hS hl
  exact lv_ishr X.1 X.2.1 hdg (k H locs ls hP hS hl)
theorem gd_idiv (X : Cx κ cc own nL fr lo) {x y : Int32} (hdg : decode cc pc = .ok (.idiv, 1)) (hne : ¬ y = 0) (k : Gd κ nL (pc + 1) lv (.int (x / y) :: rest) sg) : Gd κ nL pc lv (.int y :: .int x :: rest) sg := by
  obtain ⟨⟨p, l, e, R, s, m, args, below, meth, c, Q⟩, ⟨D, A, tys, wld⟩, kc, ks⟩ := κ
  intro H locs ls hP hS hl
  exact lv_idiv X.1 X.2.1 hdg hne (k H locs ls hP hS hl)
theorem gd_irem (X : Cx κ cc own nL fr lo) {x y : Int32} (hdg : decode cc pc = .ok (.irem, 1)) (hne : ¬ y = 0) (k : Gd κ nL (pc + 1) lv (.int (x - x / y * y) :: rest) sg) : Gd κ nL pc lv (.int y :: .int x :: rest) sg := by
  obtain ⟨⟨p, l, e, R, s, m, args, below, meth, c, Q⟩, ⟨D, A, tys, wld⟩, kc, ks⟩ := κ
  intro H locs ls hP hS hl
  exact lv_irem X.1 X.2.1 hdg hne (k H locs ls hP hS hl)
theorem gd_iushr (X : Cx κ cc own nL fr lo) {x y v : Int32} (hdg : decode cc pc = .ok (.iushr, 1)) (hv : (x.toUInt32 >>> (y.toUInt32 &&& Int32.toUInt32 31)).toInt32 = v) (k : Gd κ nL (pc + 1) lv (.int v :: rest) sg) : Gd κ nL pc lv (.int y :: .int x :: rest) sg := by
  obtain ⟨⟨p, l, e, R, s, m, args, below, meth, c, Q⟩, ⟨D, A, tys, wld⟩, kc, ks⟩ := κ
  intro H locs ls hP hS hl
  exact lv_iushr X.1 X.2.1 hdg hv (k H locs ls hP hS hl)
theorem gd_i2b (X : Cx κ cc own nL fr lo) {x v : Int32} (hdg : decode cc pc = .ok (.i2b, 1)) (hv : x.toInt8.toInt32 = v) (k : Gd κ nL (pc + 1) lv (.int v :: rest) sg) : Gd κ nL pc lv (.int x :: rest) sg := by
  obtain ⟨⟨p, l, e, R, s, m, args, below, meth, c, Q⟩, ⟨D, A, tys, wld⟩, kc, ks⟩ := κ
  intro H locs ls hP hS hl
  exact lv_i2b X.1 X.2.1 hdg hv (k H locs ls hP hS hl)
theorem gd_dup (X : Cx κ cc own nL fr lo) {va : Value} (hdg : decode cc pc = .ok (.dup, 1)) (hva : va.category = 1) (k : Gd κ nL (pc + 1) lv (va :: va :: rest) sg) : Gd κ nL pc lv (va :: rest) sg := by
  obtain ⟨⟨p, l, e, R, s, m, args, below, meth, c, Q⟩, ⟨D, A, tys, wld⟩, kc, ks⟩ := κ
  intro H locs ls hP hS hl
  exact lv_dup X.1 X.2.1 hdg hva (k H locs ls hP hS hl)
theorem gd_dup2 (X : Cx κ cc own nL fr lo) {va vb : Value} (hdg : decode cc pc = .ok (.dup2, 1)) (hva : va.category = 1) (hvb : vb.category = 1) (k : Gd κ nL (pc + 1) lv (va :: vb :: va :: vb :: rest) sg) : Gd κ nL pc lv (va :: vb :: rest) sg := by
  obtain ⟨⟨p, l, e, R, s, m, args, below, meth, c, Q⟩, ⟨D, A, tys, wld⟩, kc, ks⟩ := κ
  intro H locs ls hP hS hl
  exact lv_dup2_11 X.1 X.2.1 hdg hva hvb (k H locs ls hP hS hl)
theorem gd_icmp_eq (X : Cx κ cc own nL fr lo) {x y : Int32} {off : Int} {tgt : Nat} (hdg : decode cc pc = .ok (.if_icmp .eq off, 3)) (ht : (pc : Int) + off = (tgt : Int)) (kt : x = y → Gd κ nL tgt lv rest sg) (kf : ¬ x = y → Gd κ nL (pc + 3) lv rest sg) : Gd κ nL pc lv (.int y :: .int x :: rest) sg := by
  obtain ⟨⟨p, l, e, R, s, m, args, below, meth, c, Q⟩, ⟨D, A, tys, wld⟩, kc, ks⟩ := κ
  intro H locs ls hP hS hl
  exact lv_icmp_eq X.1 X.2.1 hdg ht (fun z => kt z H locs ls hP hS hl) (fun z => kf z H locs ls hP hS hl)
theorem gd_if_eq (X : Cx κ cc own nL fr lo) {x : Int32} {off : Int} {tgt : Nat} (hdg : decode cc pc = .ok (.ifCond .eq off, 3)) (ht : (pc : Int) + off = (tgt : Int)) (kt : x = 0 → Gd κ nL tgt lv rest sg) (kf : ¬ x = 0 → Gd κ nL (pc + 3) lv rest sg) : Gd κ nL pc lv (.int x :: rest) sg := by
  obtain ⟨⟨p, l, e, R, s, m, args, below, meth, c, Q⟩, ⟨D, A, tys, wld⟩, kc, ks⟩ := κ
  intro H locs ls hP hS hl
  exact lv_if_eq X.1 X.2.1 hdg ht (fun z => kt z H locs ls hP hS hl) (fun z => kf z H locs ls hP hS hl)
theorem gd_icmp_ne (X : Cx κ cc own nL fr lo) {x y : Int32} {off : Int} {tgt : Nat} (hdg : decode cc pc = .ok (.if_icmp .ne off, 3)) (ht : (pc : Int) + off = (tgt : Int)) (kt : ¬ x = y → Gd κ nL tgt lv rest sg) (kf : x = y → Gd κ nL (pc + 3) lv rest sg) : Gd κ nL pc lv (.int y :: .int x :: rest) sg := by
  obtain ⟨⟨p, l, e, R, s, m, args, below, meth, c, Q⟩, ⟨D, A, tys, wld⟩, kc, ks⟩ := κ
  intro H locs ls hP hS hl
  exact lv_icmp_ne X.1 X.2.1 hdg ht (fun z => kt z H locs ls hP hS hl) (fun z => kf z H locs ls hP hS hl)
theorem gd_if_ne (X : Cx κ cc own nL fr lo) {x : Int32} {off : Int} {tgt : Nat} (hdg : decode cc pc = .ok (.ifCond .ne off, 3)) (ht : (pc : Int) + off = (tgt : Int)) (kt : ¬ x = 0 → Gd κ nL tgt lv rest sg) (kf : x = 0 → Gd κ nL (pc + 3) lv rest sg) : Gd κ nL pc lv (.int x :: rest) sg := by
  obtain ⟨⟨p, l, e, R, s, m, args, below, meth, c, Q⟩, ⟨D, A, tys, wld⟩, kc, ks⟩ := κ
  intro H locs ls hP hS hl
  exact lv_if_ne X.1 X.2.1 hdg ht (fun z => kt z H locs ls hP hS hl) (fun z => kf z H locs ls hP hS hl)
theorem gd_icmp_lt (X : Cx κ cc own nL fr lo) {x y : Int32} {off : Int} {tgt : Nat} (hdg : decode cc pc = .ok (.if_icmp .lt off, 3)) (ht : (pc : Int) + off = (tgt : Int)) (kt : x < y → Gd κ nL tgt lv rest sg) (kf : ¬ x < y → Gd κ nL (pc + 3) lv rest sg) : Gd κ nL pc lv (.int y :: .int x :: rest) sg := by
  obtain ⟨⟨p, l, e, R, s, m, args, below, meth, c, Q⟩, ⟨D, A, tys, wld⟩, kc, ks⟩ := κ
  intro H locs ls hP hS hl
  exact lv_icmp_lt X.1 X.2.1 hdg ht (fun z => kt z H locs ls hP hS hl) (fun z => kf z H locs ls hP hS hl)
theorem gd_if_lt (X : Cx κ cc own nL fr lo) {x : Int32} {off : Int} {tgt : Nat} (hdg : decode cc pc = .ok (.ifCond .lt off, 3)) (ht : (pc : Int) + off = (tgt : Int)) (kt : x < 0 → Gd κ nL tgt lv rest sg) (kf : ¬ x < 0 → Gd κ nL (pc + 3) lv rest sg) : Gd κ nL pc lv (.int x :: rest) sg := by
  obtain ⟨⟨p, l, e, R, s, m, args, below, meth, c, Q⟩, ⟨D, A, tys, wld⟩, kc, ks⟩ := κ
  intro H locs ls hP hS hl
  exact lv_if_lt X.1 X.2.1 hdg ht (fun z => kt z H locs ls hP hS hl) (fun z => kf z H locs ls hP hS hl)
theorem gd_icmp_ge (X : Cx κ cc own nL fr lo) {x y : Int32} {off : Int} {tgt : Nat} (hdg : decode cc pc = .ok (.if_icmp .ge off, 3)) (ht : (pc : Int) + off = (tgt : Int)) (kt : y ≤ x → Gd κ nL tgt lv rest sg) (kf : ¬ y ≤ x → Gd κ nL (pc + 3) lv rest sg) : Gd κ nL pc lv (.int y :: .int x :: rest) sg := by
  obtain ⟨⟨p, l, e, R, s, m, args, below, meth, c, Q⟩, ⟨D, A, tys, wld⟩, kc, ks⟩ := κ
  intro H locs ls hP hS hl
  exact lv_icmp_ge X.1 X.2.1 hdg ht (fun z => kt z H locs ls hP hS hl) (fun z => kf z H locs ls hP hS hl)
theorem gd_if_ge (X : Cx κ cc own nL fr lo) {x : Int32} {off : Int} {tgt : Nat} (hdg : decode cc pc = .ok (.ifCond .ge off, 3)) (ht : (pc : Int) + off = (tgt : Int)) (kt : 0 ≤ x → Gd κ nL tgt lv rest sg) (kf : ¬ 0 ≤ x → Gd κ nL (pc + 3) lv rest sg) : Gd κ nL pc lv (.int x :: rest) sg := by
  obtain ⟨⟨p, l, e, R, s, m, args, below, meth, c, Q⟩, ⟨D, A, tys, wld⟩, kc, ks⟩ := κ
  intro H locs ls hP hS hl
  exact lv_if_ge X.1 X.2.1 hdg ht (fun z => kt z H locs ls hP hS hl) (fun z => kf z H locs ls hP hS hl)
theorem gd_icmp_gt (X : Cx κ cc own nL fr lo) {x y : Int32} {off : Int} {tgt : Nat} (hdg : decode cc pc = .ok (.if_icmp .gt off, 3)) (ht : (pc : Int) + off = (tgt : Int)) (kt : y < x → Gd κ nL tgt lv rest sg) (kf : ¬ y < x → Gd κ nL (pc + 3) lv rest sg) : Gd κ nL pc lv (.int y :: .int x :: rest) sg := by
  obtain ⟨⟨p, l, e, R, s, m, args, below, meth, c, Q⟩, ⟨D, A, tys, wld⟩, kc, ks⟩ := κ
  intro H locs ls hP hS hl
  exact lv_icmp_gt X.1 X.2.1 hdg ht (fun z => kt z H locs ls hP hS hl) (fun z => kf z H locs ls hP hS hl)
theorem gd_if_gt (X : Cx κ cc own nL fr lo) {x : Int32} {off : Int} {tgt : Nat} (hdg : decode cc pc = .ok (.ifCond .gt off, 3)) (ht : (pc : Int) + off = (tgt : Int)) (kt : 0 < x → Gd κ nL tgt lv rest sg) (kf : ¬ 0 < x → Gd κ nL (pc + 3) lv rest sg) : Gd κ nL pc lv (.int x :: rest) sg := by
  obtain ⟨⟨p, l, e, R, s, m, args, below, meth, c, Q⟩, ⟨D, A, tys, wld⟩, kc, ks⟩ := κ
  intro H locs ls hP hS hl
  exact lv_if_gt X.1 X.2.1 hdg ht (fun z => kt z H locs ls hP hS hl) (fun z => kf z H locs ls hP hS hl)
theorem gd_icmp_le (X : Cx κ cc own nL fr lo) {x y : Int32} {off : Int} {tgt : Nat} (hdg : decode cc pc = .ok (.if_icmp .le off, 3)) (ht : (pc : Int) + off = (tgt : Int)) (kt : x ≤ y → Gd κ nL tgt lv rest sg) (kf : ¬ x ≤ y → Gd κ nL (pc + 3) lv rest sg) : Gd κ nL pc lv (.int y :: .int x :: rest) sg := by
  obtain ⟨⟨p, l, e, R, s, m, args, below, meth, c, Q⟩, ⟨D, A, tys, wld⟩, kc, ks⟩ := κ
  intro H locs ls hP hS hl
  exact lv_icmp_le X.1 X.2.1 hdg ht (fun z => kt z H locs ls hP hS hl) (fun z => kf z H locs ls hP hS hl)
theorem gd_if_le (X : Cx κ cc own nL fr lo) {x : Int32} {off : Int} {tgt : Nat} (hdg : decode cc pc = .ok (.ifCond .le off, 3)) (ht : (pc : Int) + off = (tgt : Int)) (kt : x ≤ 0 → Gd κ nL tgt lv rest sg) (kf : ¬ x ≤ 0 → Gd κ nL (pc + 3) lv rest sg) : Gd κ nL pc lv (.int x :: rest) sg := by
  obtain ⟨⟨p, l, e, R, s, m, args, below, meth, c, Q⟩, ⟨D, A, tys, wld⟩, kc, ks⟩ := κ
  intro H locs ls hP hS hl
  exact lv_if_le X.1 X.2.1 hdg ht (fun z => kt z H locs ls hP hS hl) (fun z => kf z H locs ls hP hS hl)
theorem gd_goto (X : Cx κ cc own nL fr lo) {off : Int} {tgt : Nat} (hdg : decode cc pc = .ok (.goto off, 3)) (ht : (pc : Int) + off = (tgt : Int)) (k : Gd κ nL tgt lv rest sg) : Gd κ nL pc lv (rest) sg := by
  obtain ⟨⟨p, l, e, R, s, m, args, below, meth, c, Q⟩, ⟨D, A, tys, wld⟩, kc, ks⟩ := κ
  intro H locs ls hP hS hl
  exact lv_goto X.1 X.2.1 hdg ht (k H locs ls hP hS hl)
theorem gd_sub (js : List Nat) (hj : lv_pick lv js = lv') (k : Gd κ nL pc lv' st sg) : Gd κ nL pc lv st sg := by
  obtain ⟨⟨p, l, e, R, s, m, args, below, meth, c, Q⟩, ⟨D, A, tys, wld⟩, kc, ks⟩ := κ
  intro H locs ls hP hS hl
  exact k H locs ls hP hS (lv_sub hl js hj)
/-- the targets of a tableswitch -/
def GdT {Sg : Type} (κ : KX Sg) (nL : Nat) (lv : List (Nat × Value)) (rest : List Value) (sg : Sg) (x : Int32) : Int → List Nat → Prop
  | _, [] => True
  | n, t :: ts => (x.toInt = n → Gd κ nL t lv rest sg) ∧ GdT κ nL lv rest sg x (n + 1) ts
theorem GdT.at {x : Int32} : ∀ (ts : List Nat) (n : Int), GdT κ nL lv rest sg x n ts → ∀ (j t : Nat), ts[j]? = some t → x.toInt = n + j → Gd κ nL t lv rest sg
  | [], _, _, j, t, h, _ => by simp at h
  | a :: ts, n, h, j, t, hj, hx => by
    cases j with
    | zero => cases hj; exact h.1 (by omega)
    | succ j => exact GdT.at ts (n + 1) h.2 j t hj (by omega)
theorem gd_table (X : Cx κ cc own nL fr lo) {d a b : Int} {offs : Array Int} {len : Nat} {x : Int32} {tgt : Nat} (hdg : decode cc pc = .ok (.tableswitch d a b offs, len)) (ht : (pc : Int) + d = (tgt : Int)) (ts : List Nat) (hts : offs.toList = ts.map (fun t : Nat => (t : Int) - (pc : Int))) (hn : b + 1 = a + ts.length)
    (kd : x.toInt < a ∨ b < x.toInt → Gd κ nL tgt lv rest sg) (ki : GdT κ nL lv rest sg x a ts) : Gd κ nL pc lv (.int x :: rest) sg := by
  have hki := GdT.at ts a ki
  by_cases h1 : x.toInt < a
  · have kd := kd (Or.inl h1)
    obtain ⟨⟨p, l, e, R, s, m, args, below, meth, c, Q⟩, ⟨D, A, tys, wld⟩, kc, ks⟩ := κ
    intro H locs ls hP hS hl
    exact lv_tableOut X.1 X.2.1 hdg (Or.inl h1) ht (kd H locs ls hP hS hl)
  · by_cases h2 : b < x.toInt
    · have kd := kd (Or.inr h2)
      obtain ⟨⟨p, l, e, R, s, m, args, below, meth, c, Q⟩, ⟨D, A, tys, wld⟩, kc, ks⟩ := κ
      intro H locs ls hP hS hl
      exact lv_tableOut X.1 X.2.1 hdg (Or.inr h2) ht (kd H locs ls hP hS hl)
    · have hlt : (x.toInt - a).toNat < ts.length := by omega
      have hj : ts[(x.toInt - a).toNat]? = some ts[(x.toInt - a).toNat] := List.getElem?_eq_getElem hlt
      have k := hki _ _ hj (by omega)
      have ho : offs[(x.toInt - a).toNat]? = some ((ts[(x.toInt - a).toNat] : Int) - (pc : Int)) := by
        rw [← Array.getElem?_toList, hts, List.getElem?_map, hj]; rfl
      obtain ⟨⟨p, l, e, R, s, m, args, below, meth, c, Q⟩, ⟨D, A, tys, wld⟩, kc, ks⟩ := κ
      intro H locs ls hP hS hl
      exact lv_tableIn X.1 X.2.1 hdg h1 h2 ho (by omega) (k H locs ls hP hS hl)
theorem gd_get (X : Cx κ cc own nL fr lo) {C : String} {T : u_T} {N ci index a : Nat} (hin : ∀ w ∈ u_ws C T N, w ∈ gT) (q0 : Nat) {fs : List Value} (he : ((kE κ).2.2.2 sg)[q0]? = some (a, .inr (ci, fs))) (hc : vwCl[ci]? = some (C, T, N)) (k : Nat) (hk : k < N) (hlink : Cond.fieldLink own index (T k).1 (T k).2.1 (T k).2.2.1 ∈ gT) {v : Value} (hv : fs[k]? = some v) (hdg : decode cc pc = .ok (.getfield index, 3))
    (kk : Gd κ nL (pc + 3) lv (v :: rest) sg) : Gd κ nL pc lv (.ref a :: rest) sg := by
  obtain ⟨⟨p, l, e, R, s, m, args, below, meth, c, Q⟩, ⟨D, A, tys, wld⟩, kc, ks⟩ := κ
  intro H locs ls hP hS hl
  exact va_get X.1 X.2.1 X.2.2.2.2.1 hin X.2.2.2.1 X.2.2.2.2.2.1 hP q0 he hc k hk (X.2.2.2.2.1 _ hlink) (fun _ h9 => h9) hv hdg (kk H locs ls hP hS hl)
theorem gd_put (X : Cx κ cc own nL fr lo) {C : String} {T : u_T} {N ci index a : Nat} (hin : ∀ w ∈ u_ws C T N, w ∈ gT) (ty0 : Nat → FieldType) (hty : ∀ k, k < N → parseFieldDescriptor (T k).2.2.1 = some (ty0 k)) (hnm : ∀ a, a < N → ∀ b, b < N → a ≠ b → (T a).2.1 ≠ (T b).2.1) (q0 : Nat) {fs : List Value} (he : ((kE κ).2.2.2 sg)[q0]? = some (a, .inr (ci, fs))) (hc : vwCl[ci]? = some (C, T, N)) (k : Nat) (hk : k < N) (hlink : Cond.fieldLink own index (T k).1 (T k).2.1 (T k).2.2.1 ∈ gT) (hfin : (T k).2.2.2 = false) {ty : FieldType} {v : Value} (hd : parseFieldDescriptor (T k).2.2.1 = some ty) (hn : narrow ty v = v) (hfit : fits ty v = true) (hl0 : k < fs.length) (hdg : decode cc pc = .ok (.putfield index, 3))
    (hset : ((kE κ).2.2.2 sg).set q0 (a, .inr (ci, fs.set k v)) = (kE κ).2.2.2 sg') (kk : Gd κ nL (pc + 3) lv rest sg') : Gd κ nL pc lv (v :: .ref a :: rest) sg := by
  obtain ⟨⟨p, l, e, R, s, m, args, below, meth, c, Q⟩, ⟨D, A, tys, wld⟩, kc, ks⟩ := κ
  intro H locs ls hP hS hl
  exact va_put X.1 X.2.1 X.2.2.2.2.1 hin ty0 hty hnm X.2.2.2.1 X.2.2.2.2.2.1 hP (X.2.2.2.2.2.2.1 sg) hS q0 he hc k hk (X.2.2.2.2.1 _ hlink) (fun _ h9 => h9) hfin hd hn hfit hl0 hdg (fun H1 locs1 hP1 _ hS1 => kk H1 locs1 ls (Eq.mp (congrArg (fun z => va_P D vwCl z H1) hset) hP1) hS1 hl)
theorem gd_iald (X : Cx κ cc own nL fr lo) {a : Nat} (q0 t0 : Nat) {cA : ClassId} {n : Nat} {f : Nat → Int32} (ha : ((kE κ).2.2.2 sg)[q0]? = some (a, .inl (cA, n, .inl f))) (ht : (kE κ).2.2.1[t0]? = some (cA, .int)) {i : Int32} (hin : vp_in i n) (hdg : decode cc pc = .ok (.iaload, 1))
    (kk : Gd κ nL (pc + 1) lv (.int (f i.toNatClampNeg) :: rest) sg) : Gd κ nL pc lv (.int i :: .ref a :: rest) sg := by
  obtain ⟨⟨p, l, e, R, s, m, args, below, meth, c, Q⟩, ⟨D, A, tys, wld⟩, kc, ks⟩ := κ
  intro H locs ls hP hS hl
  exact va_iald X.1 X.2.1 X.2.2.2.2.2.1 hP q0 t0 ha ht hin hdg (kk H locs ls hP hS hl)
theorem gd_bald (X : Cx κ cc own nL fr lo) {a : Nat} (q0 t0 : Nat) {cA : ClassId} {n : Nat} {f : Nat → Int32} (ha : ((kE κ).2.2.2 sg)[q0]? = some (a, .inl (cA, n, .inl f))) (ht : (kE κ).2.2.1[t0]? = some (cA, .byte)) {i : Int32} (hin : vp_in i n) (hdg : decode cc pc = .ok (.baload, 1))
    (kk : Gd κ nL (pc + 1) lv (.int (f i.toNatClampNeg) :: rest) sg) : Gd κ nL pc lv (.int i :: .ref a :: rest) sg := by
  obtain ⟨⟨p, l, e, R, s, m, args, below, meth, c, Q⟩, ⟨D, A, tys, wld⟩, kc, ks⟩ := κ
  intro H locs ls hP hS hl
  exact va_bald X.1 X.2.1 X.2.2.2.2.2.1 hP q0 t0 ha ht hin hdg (kk H locs ls hP hS hl)
theorem gd_zald (X : Cx κ cc own nL fr lo) {a : Nat} (q0 t0 : Nat) {cA : ClassId} {n : Nat} {f : Nat → Int32} (ha : ((kE κ).2.2.2 sg)[q0]? = some (a, .inl (cA, n, .inl f))) (ht : (kE κ).2.2.1[t0]? = some (cA, .boolean)) {i : Int32} (hin : vp_in i n) (hdg : decode cc pc = .ok (.baload, 1))
    (kk : Gd κ nL (pc + 1) lv (.int (f i.toNatClampNeg) :: rest) sg) : Gd κ nL pc lv (.int i :: .ref a :: rest) sg := by
  obtain ⟨⟨p, l, e, R, s, m, args, below, meth, c, Q⟩, ⟨D, A, tys, wld⟩, kc, ks⟩ := κ
  intro H locs ls hP hS hl
  exact va_zald X.1 X.2.1 X.2.2.2.2.2.1 hP q0 t0 ha ht hin hdg (kk H locs ls hP hS hl)
theorem gd_iast (X : Cx κ cc own nL fr lo) {a : Nat} (q0 t0 : Nat) {cA : ClassId} {n : Nat} {f : Nat → Int32} (ha : ((kE κ).2.2.2 sg)[q0]? = some (a, .inl (cA, n, .inl f))) (ht : (kE κ).2.2.1[t0]? = some (cA, .int)) {i x : Int32} (hin : vp_in i n) (hdg : decode cc pc = .ok (.iastore, 1))
    (hset : ((kE κ).2.2.2 sg).set q0 (a, .inl (cA, n, .inl (upd f i.toNatClampNeg x))) = (kE κ).2.2.2 sg') (kk : Gd κ nL (pc + 1) lv rest sg') : Gd κ nL pc lv (.int x :: .int i :: .ref a :: rest) sg := by
  obtain ⟨⟨p, l, e, R, s, m, args, below, meth, c, Q⟩, ⟨D, A, tys, wld⟩, kc, ks⟩ := κ
  intro H locs ls hP hS hl
  exact va_iast X.1 X.2.1 X.2.2.2.2.2.1 hP (X.2.2.2.2.2.2.1 sg) hS q0 t0 ha ht hin hdg (fun H1 locs1 hP1 _ hS1 => kk H1 locs1 ls (Eq.mp (congrArg (fun z => va_P D vwCl z H1) hset) hP1) hS1 hl)
theorem gd_bast (X : Cx κ cc own nL fr lo) {a : Nat} (q0 t0 : Nat) {cA : ClassId} {n : Nat} {f : Nat → Int32} (ha : ((kE κ).2.2.2 sg)[q0]? = some (a, .inl (cA, n, .inl f))) (ht : (kE κ).2.2.1[t0]? = some (cA, .byte)) {i x : Int32} (hin : vp_in i n) (hdg : decode cc pc = .ok (.bastore, 1))
    (hset : ((kE κ).2.2.2 sg).set q0 (a, .inl (cA, n, .inl (upd f i.toNatClampNeg (vp_nar .byte x)))) = (kE κ).2.2.2 sg') (kk : Gd κ nL (pc + 1) lv rest sg') : Gd κ nL pc lv (.int x :: .int i :: .ref a :: rest) sg := by
  obtain ⟨⟨p, l, e, R, s, m, args, below, meth, c, Q⟩, ⟨D, A, tys, wld⟩, kc, ks⟩ := κ
  intro H locs ls hP hS hl
  exact va_bast X.1 X.2.1 X.2.2.2.2.2.1 hP (X.2.2.2.2.2.2.1 sg) hS q0 t0 ha ht hin hdg (fun H1 locs1 hP1 _ hS1 => kk H1 locs1 ls (Eq.mp (congrArg (fun z => va_P D vwCl z H1) hset) hP1) hS1 hl)
theorem gd_zast (X : Cx κ cc own nL fr lo) {a : Nat} (q0 t0 : Nat) {cA : ClassId} {n : Nat} {f : Nat → Int32} (ha : ((kE κ).2.2.2 sg)[q0]? = some (a, .inl (cA, n, .inl f))) (ht : (kE κ).2.2.1[t0]? = some (cA, .boolean)) {i x : Int32} (hin : vp_in i n) (hdg : decode cc pc = .ok (.bastore, 1))
    (hset : ((kE κ).2.2.2 sg).set q0 (a, .inl (cA, n, .inl (upd f i.toNatClampNeg (vp_nar .boolean x)))) = (kE κ).2.2.2 sg') (kk : Gd κ nL (pc + 1) lv rest sg') : Gd κ nL pc lv (.int x :: .int i :: .ref a :: rest) sg := by
  obtain ⟨⟨p, l, e, R, s, m, args, below, meth, c, Q⟩, ⟨D, A, tys, wld⟩, kc, ks⟩ := κ
  intro H locs ls hP hS hl
  exact va_zast X.1 X.2.1 X.2.2.2.2.2.1 hP (X.2.2.2.2.2.2.1 sg) hS q0 t0 ha ht hin hdg (fun H1 locs1 hP1 _ hS1 => kk H1 locs1 ls (Eq.mp (congrArg (fun z => va_P D vwCl z H1) hset) hP1) hS1 hl)
theorem gd_aald (X : Cx κ cc own nL fr lo) {a : Nat} (q0 t0 : Nat) {cA : ClassId} {ty : FieldType} {n : Nat} {f : Nat → Option Nat} (ha : ((kE κ).2.2.2 sg)[q0]? = some (a, .inl (cA, n, .inr (.inr (.inr (.inr f)))))) (ht : (kE κ).2.2.1[t0]? = some (cA, ty)) (hty : ty.isReference = true) {i : Int32} (hin : vp_in i n) {b : Nat} (hf : f i.toNatClampNeg = some b) (hdg : decode cc pc = .ok (.aaload, 1))
    (kk : Gd κ nL (pc + 1) lv (.ref b :: rest) sg) : Gd κ nL pc lv (.int i :: .ref a :: rest) sg := by
  obtain ⟨⟨p, l, e, R, s, m, args, below, meth, c, Q⟩, ⟨D, A, tys, wld⟩, kc, ks⟩ := κ
  intro H locs ls hP hS hl
  have hlt : i.toNatClampNeg < n := Nat.not_le.mp fun q => hin (Or.inr q)
  have hK := X.2.2.2.2.2.1
  exact W.aald (v := .ref b) (ty := ty) X.1 X.2.1 (hP q0 _ ha) ((hK.2 t0 _ ht).1 n (fun j => va_rf (f j))) hty (fun q => by cases q) (by show ¬ (i < 0 ∨ (arrV _ _ _).slots.size ≤ _); rw [arrV_size]; exact hin) (by show (arrV _ _ _).slots[_]? = _; rw [arrV_read _ _ hlt, hf]; rfl) rfl rfl hdg (kk H locs ls hP hS hl)
theorem gd_iret (X : Cx κ cc own nL fr lo) {post : Option Value → Sg → Prop} (hR : Rx κ (some .int) post) {r : Int32} (hdg : decode cc pc = .ok (.ireturn, 1)) (h : post (some (.int r)) sg) : Gd κ nL pc lv [.int r] sg := by
  obtain ⟨⟨p, l, e, R, s, m, args, below, meth, c, Q⟩, ⟨D, A, tys, wld⟩, kc, ks⟩ := κ
  intro H locs ls hP hS hl
  obtain ⟨hr, hlk, rfl⟩ := hR
  exact W.iret X.1 X.2.1 hr (fun t ht hW => ⟨⟨_, sg, rfl, h, by rw [ht]; exact hP⟩, hS.F ht⟩) hS.2.2 hdg hlk
theorem gd_zret (X : Cx κ cc own nL fr lo) {post : Option Value → Sg → Prop} (hR : Rx κ (some .boolean) post) {r : Int32} (hdg : decode cc pc = .ok (.ireturn, 1)) (hn : narrow .boolean (.int r) = .int r) (h : post (some (.int r)) sg) : Gd κ nL pc lv [.int r] sg := by
  obtain ⟨⟨p, l, e, R, s, m, args, below, meth, c, Q⟩, ⟨D, A, tys, wld⟩, kc, ks⟩ := κ
  intro H locs ls hP hS hl
  obtain ⟨hr, hlk, rfl⟩ := hR
  exact W.zret X.1 X.2.1 hr hn (fun t ht hW => ⟨⟨_, sg, rfl, h, by rw [ht]; exact hP⟩, hS.F ht⟩) hS.2.2 hdg hlk
theorem gd_vret (X : Cx κ cc own nL fr lo) {post : Option Value → Sg → Prop} (hR : Rx κ none post) (hdg : decode cc pc = .ok (.return_, 1)) (h : post none sg) : Gd κ nL pc lv [] sg := by
  obtain ⟨⟨p, l, e, R, s, m, args, below, meth, c, Q⟩, ⟨D, A, tys, wld⟩, kc, ks⟩ := κ
  intro H locs ls hP hS hl
  obtain ⟨hr, hlk, rfl⟩ := hR
  exact W.vret X.1 X.2.1 hr (fun t ht hW => ⟨⟨_, sg, rfl, h, by rw [ht]; exact hP⟩, hS.F ht⟩) hS.2.2 hdg hlk
theorem gd_aret (X : Cx κ cc own nL fr lo) {post : Option Value → Sg → Prop} {C : String} (hR : Rx κ (some (.object C)) post) {a : Nat} (hdg : decode cc pc = .ok (.areturn, 1)) (h : post (some (.ref a)) sg) : Gd κ nL pc lv [.ref a] sg := by
  obtain ⟨⟨p, l, e, R, s, m, args, below, meth, c, Q⟩, ⟨D, A, tys, wld⟩, kc, ks⟩ := κ
  intro H locs ls hP hS hl
  obtain ⟨hr, hlk, rfl⟩ := hR
  exact W.aret X.1 X.2.1 hr (Or.inl ⟨_, rfl⟩) (Or.inr ⟨_, rfl⟩) (fun t ht hW => ⟨⟨_, sg, rfl, h, by rw [ht]; exact hP⟩, hS.F ht⟩) hS.2.2 hdg hlk
theorem gd_run {p : Program} {l : Launch} {e : Env} {R : Room} {s : State} {m : MethodId} {args : Array Value} {below : List Frame} {meth : Method} {c : Code} {Q : State → Prop} {D : va_G} {A : Nat → Prop} {tys : List (ClassId × FieldType)} {wld : Sg → va_W} {kc ks : Nat} {a : Array Value} {post : Option Value → Sg → Prop} {H : Heap} {locs : List Loc} {ls : Array Slot} {st0 : List Value}
    (hr : va_Run p l e R s m args below meth c H locs kc ks 0 0 (F0 m pc ls st0) rest (QU (D, A, tys, wld) post a) A) (hS : va_S A s.heap H locs) (hl : lv_has ls nL lv)
    (kk : ∀ (v : Option Value) (g : Sg), post v g → Gd ((p, l, e, R, s, m, args, below, meth, c, Q), (D, A, tys, wld), kc, ks) nL (pc + 3) lv (v.toList ++ rest) g) : W p l e R s m args below meth c H locs kc ks Q (F0 m pc ls st0) := by
  intro T hT X
  obtain ⟨v, st₀, t, T', L, h0, X', hL, e1, e2, ⟨⟨v2, g, hv, hp, hb⟩, hz, hk⟩, st⟩ := hr T hT X
  cases hv
  rw [h0] at hz hk
  obtain ⟨t2, a1, b1⟩ := kk v g hp T'.heap (locs ++ L) ls (by rw [e1]; exact hb) ⟨Nat.le_trans hS.1 (by rw [e1]; exact hz), fun q h1 h2 => by rw [e1, hk q (Nat.lt_of_lt_of_le h1 hS.1) h2]; exact hS.2.1 q h1 h2, fun q hq => by
      rcases List.mem_append.mp hq with h | h
      · exact hS.2.2 q h
      · exact hL q h⟩ hl T' rfl X'
  exact ⟨t2, st t2 a1, b1⟩
theorem gd_callV (X : Cx κ cc own nL fr lo) {y : MethodName} {cb : ByteArray} {n na index : Nat} {ret : Option FieldType} {fr' lo' : Nat} {b : Nat} {As : List Value} {post : Option Value → Sg → Prop} (hk : LkV own index y cb n ret na) (hM : Mt (kL κ) (kE κ) y cb n ret fr' lo' (.ref b :: As) sg post) (q0 : Nat) {ci N : Nat} {T : u_T} {fs : List Value} (hc : vwCl[ci]? = some (y.cls, T, N)) (he : ((kE κ).2.2.2 sg)[q0]? = some (b, .inr (ci, fs))) (hroom : fr' + 1 ≤ fr ∧ 8 + (n + 11) + lo' ≤ lo) (hlen : As.length = na) (hst : st = As.reverse ++ .ref b :: rest) (hcat : (rest.map fun v => v.category).sum ≤ 8) (hdg : decode cc pc = .ok (.invokevirtual index, 3))
    (kk : ∀ (v : Option Value) (g : Sg), post v g → Gd κ nL (pc + 3) lv (v.toList ++ rest) g) : Gd κ nL pc lv st sg := by
  obtain ⟨⟨p, l, e, R, s, m, args, below, meth, c, Q⟩, ⟨D, A, tys, wld⟩, kc, ks⟩ := κ
  intro H locs ls hP hS hl
  obtain ⟨hx, hb, hml, hown, hts, hK, hD, hrm, hkc, hks⟩ := X
  obtain ⟨k1, k2, k3, k4, k5, k6, k7, k8⟩ := hk
  refine gd_run (va_runV (As := As) (rest := rest) (Ts := gT) ⟨hx, hb, hml, hown, hts⟩ hM ⟨callB_of na hts (lw_good2 _ _ _ _ k5) rfl rfl rfl (hts _ k4) (hts _ k1) ⟨k6, k7, k8⟩ ⟨Nat.le_trans hroom.1 hrm.1, Nat.le_trans hroom.2 hrm.2⟩, hts _ k2, hts _ k3⟩ ⟨?_, va_recv hK hP hc he, ?_⟩ rfl hlen hl.1 hst (lv_room hcat) hdg ⟨hkc, hks⟩) hS hl kk
  · intro a U g mk q
    obtain ⟨q0, qP, qK, qD⟩ := q
    exact ⟨q0, qP, va_K.moved (u := U) (U := U.calling g mk a) (Vm.Alike.refl U.vm) qK, qD⟩
  · intro U hU hW
    exact ⟨rfl, by rw [hU]; exact hP, va_K.moved hW.alike hK, hD⟩
theorem gd_callS (X : Cx κ cc own nL fr lo) {y : MethodName} {cb : ByteArray} {n na index : Nat} {ret : Option FieldType} {fr' lo' : Nat} {As : List Value} {post : Option Value → Sg → Prop} (hk : LkS own index y cb n ret na) (hM : Mt (kL κ) (kE κ) y cb n ret fr' lo' As sg post) (hroom : fr' + 1 ≤ fr ∧ 8 + (n + 11) + lo' ≤ lo) (hlen : As.length = na) (hst : st = As.reverse ++ rest) (hcat : (rest.map fun v => v.category).sum ≤ 8) (hdg : decode cc pc = .ok (.invokestatic index, 3))
    (kk : ∀ (v : Option Value) (g : Sg), post v g → Gd κ nL (pc + 3) lv (v.toList ++ rest) g) : Gd κ nL pc lv st sg := by
  obtain ⟨⟨p, l, e, R, s, m, args, below, meth, c, Q⟩, ⟨D, A, tys, wld⟩, kc, ks⟩ := κ
  intro H locs ls hP hS hl
  obtain ⟨hx, hb, hml, hown, hts, hK, hD, hrm, hkc, hks⟩ := X
  obtain ⟨k1, k2, k4, k5, k6, k7, k8⟩ := hk
  refine gd_run (va_runS (As := As) (rest := rest) (Ts := gT) ⟨hx, hb, hml, hown, hts⟩ hM ⟨callB_of na hts (lw_good2 _ _ _ _ k5) rfl rfl rfl (hts _ k4) (hts _ k1) ⟨k6, k7, k8⟩ ⟨Nat.le_trans hroom.1 hrm.1, Nat.le_trans hroom.2 hrm.2⟩, hts _ k2⟩ ⟨?_, ?_⟩ rfl hlen hl.1 hst (lv_room hcat) hdg ⟨hkc, hks⟩) hS hl kk
  · intro a U g mk q
    obtain ⟨q0, qP, qK, qD⟩ := q
    exact ⟨q0, qP, va_K.moved (u := U) (U := U.calling g mk a) (Vm.Alike.refl U.vm) qK, qD⟩
  · intro U hU hW
    exact ⟨rfl, by rw [hU]; exact hP, va_K.moved hW.alike hK, hD⟩
theorem gd_callVi (X : Cx κ cc own nL fr lo) {y : MethodName} {cb : ByteArray} {n na index : Nat} {ret : Option FieldType} {fr' lo' : Nat} {b : Nat} {As : List Value} {post : Int32 → Sg → Prop} (hk : LkV own index y cb n ret na) (hM : Mt (kL κ) (kE κ) y cb n ret fr' lo' (.ref b :: As) sg (oI post)) (q0 : Nat) {ci N : Nat} {T : u_T} {fs : List Value} (hc : vwCl[ci]? = some (y.cls, T, N)) (he : ((kE κ).2.2.2 sg)[q0]? = some (b, .inr (ci, fs))) (hroom : fr' + 1 ≤ fr ∧ 8 + (n + 11) + lo' ≤ lo) (hlen : As.length = na) (hst : st = As.reverse ++ .ref b :: rest) (hcat : (rest.map fun v => v.category).sum ≤ 8) (hdg : decode cc pc = .ok (.invokevirtual index, 3)) (kk : ∀ (r : Int32) (g : Sg), post r g → Gd κ nL (pc + 3) lv (.int r :: rest) g) : Gd κ nL pc lv st sg := gd_callV X hk hM q0 hc he hroom hlen hst hcat hdg (fun v g hp => by obtain ⟨r, rfl, h⟩ := hp; exact kk r g h)
theorem gd_callVr (X : Cx κ cc own nL fr lo) {y : MethodName} {cb : ByteArray} {n na index : Nat} {ret : Option FieldType} {fr' lo' : Nat} {b : Nat} {As : List Value} {post : Int32 → Prop} (hk : LkV own index y cb n ret na) (hM : Mt (kL κ) (kE κ) y cb n ret fr' lo' (.ref b :: As) sg (oR sg post)) (q0 : Nat) {ci N : Nat} {T : u_T} {fs : List Value} (hc : vwCl[ci]? = some (y.cls, T, N)) (he : ((kE κ).2.2.2 sg)[q0]? = some (b, .inr (ci, fs))) (hroom : fr' + 1 ≤ fr ∧ 8 + (n + 11) + lo' ≤ lo) (hlen : As.length = na) (hst : st = As.reverse ++ .ref b :: rest) (hcat : (rest.map fun v => v.category).sum ≤ 8) (hdg : decode cc pc = .ok (.invokevirtual index, 3)) (kk : ∀ (r : Int32), post r → Gd κ nL (pc + 3) lv (.int r :: rest) sg) : Gd κ nL pc lv st sg := gd_callV X hk hM q0 hc he hroom hlen hst hcat hdg (fun v g hp => by obtain ⟨r, rfl, rfl, h⟩ := hp; exact kk r h)
theorem gd_callVv (X : Cx κ cc own nL fr lo) {y : MethodName} {cb : ByteArray} {n na index : Nat} {ret : Option FieldType} {fr' lo' : Nat} {b : Nat} {As : List Value} {post : Sg → Prop} (hk : LkV own index y cb n ret na) (hM : Mt (kL κ) (kE κ) y cb n ret fr' lo' (.ref b :: As) sg (oV post)) (q0 : Nat) {ci N : Nat} {T : u_T} {fs : List Value} (hc : vwCl[ci]? = some (y.cls, T, N)) (he : ((kE κ).2.2.2 sg)[q0]? = some (b, .inr (ci, fs))) (hroom : fr' + 1 ≤ fr ∧ 8 + (n + 11) + lo' ≤ lo) (hlen : As.length = na) (hst : st = As.reverse ++ .ref b :: rest) (hcat : (rest.map fun v => v.category).sum ≤ 8) (hdg : decode cc pc = .ok (.invokevirtual index, 3)) (kk : ∀ (g : Sg), post g → Gd κ nL (pc + 3) lv rest g) : Gd κ nL pc lv st sg := gd_callV X hk hM q0 hc he hroom hlen hst hcat hdg (fun v g hp => by obtain ⟨rfl, h⟩ := hp; exact kk g h)
theorem gd_callVa (X : Cx κ cc own nL fr lo) {y : MethodName} {cb : ByteArray} {n na index : Nat} {ret : Option FieldType} {fr' lo' : Nat} {b : Nat} {As : List Value} {a : Nat} {post : Sg → Prop} (hk : LkV own index y cb n ret na) (hM : Mt (kL κ) (kE κ) y cb n ret fr' lo' (.ref b :: As) sg (oA a post)) (q0 : Nat) {ci N : Nat} {T : u_T} {fs : List Value} (hc : vwCl[ci]? = some (y.cls, T, N)) (he : ((kE κ).2.2.2 sg)[q0]? = some (b, .inr (ci, fs))) (hroom : fr' + 1 ≤ fr ∧ 8 + (n + 11) + lo' ≤ lo) (hlen : As.length = na) (hst : st = As.reverse ++ .ref b :: rest) (hcat : (rest.map fun v => v.category).sum ≤ 8) (hdg : decode cc pc = .ok (.invokevirtual index, 3)) (kk : ∀ (g : Sg), post g → Gd κ nL (pc + 3) lv (.ref a :: rest) g) : Gd κ nL pc lv st sg := gd_callV X hk hM q0 hc he hroom hlen hst hcat hdg (fun v g hp => by obtain ⟨rfl, h⟩ := hp; exact kk g h)
theorem gd_callSi (X : Cx κ cc own nL fr lo) {y : MethodName} {cb : ByteArray} {n na index : Nat} {ret : Option FieldType} {fr' lo' : Nat} {As : List Value} {post : Int32 → Sg → Prop} (hk : LkS own index y cb n ret na) (hM : Mt (kL κ) (kE κ) y cb n ret fr' lo' As sg (oI post))  (hroom : fr' + 1 ≤ fr ∧ 8 + (n + 11) + lo' ≤ lo) (hlen : As.length = na) (hst : st = As.reverse ++ rest) (hcat : (rest.map fun v => v.category).sum ≤ 8) (hdg : decode cc pc = .ok (.invokestatic index, 3)) (kk : ∀ (r : Int32) (g : Sg), post r g → Gd κ nL (pc + 3) lv (.int r :: rest) g) : Gd κ nL pc lv st sg := gd_callS X hk hM  hroom hlen hst hcat hdg (fun v g hp => by obtain ⟨r, rfl, h⟩ := hp; exact kk r g h)
theorem gd_callSr (X : Cx κ cc own nL fr lo) {y : MethodName} {cb : ByteArray} {n na index : Nat} {ret : Option FieldType} {fr' lo' : Nat} {As : List Value} {post : Int32 → Prop} (hk : LkS own index y cb n ret na) (hM : Mt (kL κ) (kE κ) y cb n ret fr' lo' As sg (oR sg post))  (hroom : fr' + 1 ≤ fr ∧ 8 + (n + 11) + lo' ≤ lo) (hlen : As.length = na) (hst : st = As.reverse ++ rest) (hcat : (rest.map fun v => v.category).sum ≤ 8) (hdg : decode cc pc = .ok (.invokestatic index, 3)) (kk : ∀ (r : Int32), post r → Gd κ nL (pc + 3) lv (.int r :: rest) sg) : Gd κ nL pc lv st sg := gd_callS X hk hM  hroom hlen hst hcat hdg (fun v g hp => by obtain ⟨r, rfl, rfl, h⟩ := hp; exact kk r h)
theorem gd_callSv (X : Cx κ cc own nL fr lo) {y : MethodName} {cb : ByteArray} {n na index : Nat} {ret : Option FieldType} {fr' lo' : Nat} {As : List Value} {post : Sg → Prop} (hk : LkS own index y cb n ret na) (hM : Mt (kL κ) (kE κ) y cb n ret fr' lo' As sg (oV post))  (hroom : fr' + 1 ≤ fr ∧ 8 + (n + 11) + lo' ≤ lo) (hlen : As.length = na) (hst : st = As.reverse ++ rest) (hcat : (rest.map fun v => v.category).sum ≤ 8) (hdg : decode cc pc = .ok (.invokestatic index, 3)) (kk : ∀ (g : Sg), post g → Gd κ nL (pc + 3) lv rest g) : Gd κ nL pc lv st sg := gd_callS X hk hM  hroom hlen hst hcat hdg (fun v g hp => by obtain ⟨rfl, h⟩ := hp; exact kk g h)
theorem gd_callSa (X : Cx κ cc own nL fr lo) {y : MethodName} {cb : ByteArray} {n na index : Nat} {ret : Option FieldType} {fr' lo' : Nat} {As : List Value} {a : Nat} {post : Sg → Prop} (hk : LkS own index y cb n ret na) (hM : Mt (kL κ) (kE κ) y cb n ret fr' lo' As sg (oA a post))  (hroom : fr' + 1 ≤ fr ∧ 8 + (n + 11) + lo' ≤ lo) (hlen : As.length = na) (hst : st = As.reverse ++ rest) (hcat : (rest.map fun v => v.category).sum ≤ 8) (hdg : decode cc pc = .ok (.invokestatic index, 3)) (kk : ∀ (g : Sg), post g → Gd κ nL (pc + 3) lv (.ref a :: rest) g) : Gd κ nL pc lv st sg := gd_callS X hk hM  hroom hlen hst hcat hdg (fun v g hp => by obtain ⟨rfl, h⟩ := hp; exact kk g h)
end GD
