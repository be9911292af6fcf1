/-! ===== constructors: all cells from the object itself on, in the order in which they are made ===== -/
def cW (h n : Nat) (F : Nat → va_E) : va_W := (List.range n).map (fun j => (h + j, F j))
theorem cW_len (h n : Nat) (F : Nat → va_E) : (cW h n F).length = n := by simp [cW]
theorem cW_at {h n j : Nat} {F : Nat → va_E} (hj : j < n) : (cW h n F)[j]? = some (h + j, F j) := by simp [cW, hj]
theorem cW_inv {h n k : Nat} {F : Nat → va_E} {q : Nat × va_E} (hk : (cW h n F)[k]? = some q) : k < n ∧ q = (h + k, F k) := by
  have hl : k < n := by
    have := (List.getElem?_eq_some_iff.mp hk).1
    rwa [cW_len] at this
  rw [cW_at hl] at hk
  exact ⟨hl, (Option.some.inj hk).symm⟩
theorem cW_P {D : va_G} {cl : List vw_C} {h n : Nat} {F : Nat → va_E} {H : Heap} (hh : ∀ j, j < n → va_at D cl (h + j, F j) H) : va_P D cl (cW h n F) H := fun k q hk => by
  obtain ⟨a, rfl⟩ := cW_inv hk
  exact hh k a
theorem cW_of {D : va_G} {cl : List vw_C} {h n j : Nat} {F : Nat → va_E} {H : Heap} (hP : va_P D cl (cW h n F) H) (hj : j < n) : va_at D cl (h + j, F j) H := hP j _ (cW_at hj)
theorem cW_D {A : Nat → Prop} {h n : Nat} {F : Nat → va_E} (hA : ∀ q, h ≤ q → A q) : va_D A (cW h n F) := by
  refine ⟨fun i j p q h1 h2 h3 => ?_, fun k q hk => ?_⟩
  · obtain ⟨-, rfl⟩ := cW_inv h1
    obtain ⟨-, rfl⟩ := cW_inv h2
    have h3 : h + i = h + j := h3
    omega
  · obtain ⟨-, rfl⟩ := cW_inv hk
    exact hA _ (Nat.le_add_right h k)
theorem cW_cg {h n : Nat} {F G : Nat → va_E} (e : ∀ j, j < n → F j = G j) : cW h n F = cW h n G := by
  unfold cW
  refine List.map_congr_left (fun j hj => ?_)
  rw [e j (List.mem_range.mp hj)]
theorem cW_set {h n j : Nat} {F : Nat → va_E} {e : va_E} (hj : j < n) : (cW h n F).set j (h + j, e) = cW h n (va_up F j e) := by
  apply List.ext_getElem?
  intro k
  by_cases hk : k < n
  · rw [cW_at hk]
    by_cases hkj : k = j
    · subst hkj
      rw [List.getElem?_set_self (by rw [cW_len]; exact hk), va_up_self]
    · rw [List.getElem?_set_ne (Ne.symm hkj), cW_at hk, va_up_ne _ _ hkj]
  · rw [List.getElem?_eq_none (by rw [List.length_set, cW_len]; omega), List.getElem?_eq_none (by rw [cW_len]; omega)]
theorem cW_push {h n : Nat} {F : Nat → va_E} {e : va_E} : cW h n F ++ [(h + n, e)] = cW h (n + 1) (va_up F n e) := by
  rw [show cW h (n + 1) (va_up F n e) = cW h n (va_up F n e) ++ [(h + n, va_up F n e n)] by unfold cW; rw [List.range_succ, List.map_append]; rfl, va_up_self]
  congr 1
  exact cW_cg (fun j hj => (va_up_ne _ _ (by omega)).symm)
def cNest : Cond := Cond.methodLinkNest RX4 9 yX3_init "MomentDesk"
def cT (D : va_G) (cs : Nat → ClassId) (U : State) : Prop := va_K D m_cl (m_ty cs) U ∧ m_nw U ∧ va_AO "MomentDesk$Big" U ∧ va_AO "MomentDesk$Weights" U ∧ va_Nw cNest U
theorem cT.warm {D : va_G} {cs : Nat → ClassId} {s U : State} (hW : s.WarmedH U.vm) (h : cT D cs s) : cT D cs U := ⟨va_K.moved hW.alike h.1, h.2.1.warm hW, va_AO.moved hW.alike h.2.2.1, va_AO.moved hW.alike h.2.2.2.1, va_Nw.warmM hW h.2.2.2.2⟩
theorem cT.call {D : va_G} {cs : Nat → ClassId} {U : State} (g : JFrame) (mk : MethodId) (a : Array Value) (h : cT D cs U) : cT D cs (U.calling g mk a) := ⟨va_K.moved (u := U) (U := U.calling g mk a) (Vm.Alike.refl U.vm) h.1, ⟨h.2.1.1.same rfl rfl, h.2.1.2.same rfl rfl⟩, va_AO.moved (u := U) (U := U.calling g mk a) (Vm.Alike.refl U.vm) h.2.2.1, va_AO.moved (u := U) (U := U.calling g mk a) (Vm.Alike.refl U.vm) h.2.2.2.1, va_Nw.same rfl rfl h.2.2.2.2⟩
def cR (fr lc mc ms : Nat) : Room := { frames := fr, cells := mc, slots := ms, locals := lc }
def cPc (D : va_G) (cs : Nat → ClassId) (F0 : Nat → va_E) (h o : Nat) (U : State) : Prop := U.heap.size = h + o + 1 ∧ va_P D m_cl (cW h (o + 1) F0) U.heap ∧ cT D cs U
abbrev cU : Type := Nat → Nat → Int32
def cQc (D : va_G) (h k : Nat) (po : cU → Prop) (G : cU → Nat → va_E) : Array Value → State → Outcome → State → Prop := va_Qv (fun u : cU => po u) (fun u t => va_P D m_cl (cW h k (G u)) t.heap) (fun q => h ≤ q)
/-- a constructor's contract: the object is the newest cell, at h + o; then mc cells more -/
def cM (l : Launch) (D : va_G) (cs : Nat → ClassId) (y : MethodName) (bytes : ByteArray) (maxL fr lc ms : Nat) (As : List Value) (F0 : Nat → va_E) (h o mc : Nat) (po : cU → Prop) (G : cU → Nat → va_E) : Prop :=
  Met l y (m_ws y bytes maxL none) (cR fr lc mc ms) (va_Pc (.ref (h + o) :: As) (cPc D cs F0 h o)) (cQc D h (mc + o + 1) po G) mc ms (fun q => h ≤ q)
def cEnv (p : Program) (s : State) (m : MethodId) (args : Array Value) (meth : Method) (c : Code) (D : va_G) (cs : Nat → ClassId) (h o : Nat) (cc : ByteArray) (nL : Nat) (own : String) : Prop := p.tables.exec = Jvm.exec ∧ c.code = cc ∧ c.maxLocals = nL ∧ s.vm.findClass own = some m.cls ∧ (∀ w ∈ m_tw, w.before args s = true) ∧ meth.name = "<init>" ∧ s.heap.size = h + o + 1 ∧ cT D cs s
section CG
variable {p : Program} {l : Launch} {e : Env} {R : Room} {s : State} {m : MethodId} {args : Array Value} {below : List Frame} {meth : Method} {c : Code} {Q : State → Prop} {cc : ByteArray} {own : String}
variable {D : va_G} {cs : Nat → ClassId} {h o nL : Nat}
theorem W_sz {H : Heap} {locs : List Loc} {cells slots : Nat} {g : JFrame} (kk : H.size ≤ s.heap.size + cells → W p l e R s m args below meth c H locs cells slots Q g) : W p l e R s m args below meth c H locs cells slots Q g := fun T hT X => kk (by rw [← hT]; exact X.heapSize) T hT X
def CG (p : Program) (l : Launch) (e : Env) (R : Room) (s : State) (m : MethodId) (args : Array Value) (below : List Frame) (meth : Method) (c : Code) (Q : State → Prop) (D : va_G) (h o nL : Nat) (pc n : Nat) (F : Nat → va_E) (sl : Nat) (lv : List (Nat × Value)) (st : List Value) : Prop :=
  ∀ (H : Heap) (locs : List Loc) (ls : Array Slot), H.size = h + (n + o) + 1 → va_P D m_cl (cW h (n + o + 1) F) H → va_S (fun q => h ≤ q) s.heap H locs → lv_has ls nL lv → W p l e R s m args below meth c H locs n sl Q (F0 m pc ls st)
variable {pc n sl : Nat} {F : Nat → va_E} {lv : List (Nat × Value)} {st : List Value}
theorem CG_cg {G : Nat → va_E} (hFG : ∀ j, j < n + o + 1 → F j = G j) (kk : CG p l e R s m args below meth c Q D h o nL pc n G sl lv st) : CG p l e R s m args below meth c Q D h o nL pc n F sl lv st := fun H locs ls hz hP hS hl => kk H locs ls hz (by rw [← cW_cg hFG]; exact hP) hS hl
theorem CG_sl {sl' : Nat} (hsl : sl ≤ sl') (kk : CG p l e R s m args below meth c Q D h o nL pc n F sl' lv st) : CG p l e R s m args below meth c Q D h o nL pc n F sl lv st := fun H locs ls hz hP hS hl => W.widen (Nat.le_refl _) hsl (kk H locs ls hz hP hS hl)
theorem g_aload (E : cEnv p s m args meth c D cs h o cc nL own) {k : Fin 4} {a : Nat} (i : Nat) (hd : decode cc pc = .ok (.aload_n k, 1)) (hi : lv[i]? = some (k.val, .ref a)) (kk : CG p l e R s m args below meth c Q D h o nL (pc + 1) n F sl lv (.ref a :: st)) : CG p l e R s m args below meth c Q D h o nL pc n F sl lv st := fun H locs ls hz hP hS hl => lv_aload_n E.1 E.2.1 hd rfl (lv_at hl i hi) (kk H locs ls hz hP hS hl)
theorem g_iload (E : cEnv p s m args meth c D cs h o cc nL own) {k : Fin 4} {x : Int32} (i : Nat) (hd : decode cc pc = .ok (.iload_n k, 1)) (hi : lv[i]? = some (k.val, .int x)) (kk : CG p l e R s m args below meth c Q D h o nL (pc + 1) n F sl lv (.int x :: st)) : CG p l e R s m args below meth c Q D h o nL pc n F sl lv st := fun H locs ls hz hP hS hl => lv_iload_n E.1 E.2.1 hd rfl (lv_at hl i hi) (kk H locs ls hz hP hS hl)
theorem g_iconst (E : cEnv p s m args meth c D cs h o cc nL own) {z : Int} {v : Int32} (hd : decode cc pc = .ok (.iconst z, 1)) (hv : Int32.ofInt z = v) (kk : CG p l e R s m args below meth c Q D h o nL (pc + 1) n F sl lv (.int v :: st)) : CG p l e R s m args below meth c Q D h o nL pc n F sl lv st := fun H locs ls hz hP hS hl => lv_iconst E.1 E.2.1 hd hv (kk H locs ls hz hP hS hl)
theorem g_bipush (E : cEnv p s m args meth c D cs h o cc nL own) {z : Int} {v : Int32} (hd : decode cc pc = .ok (.bipush z, 2)) (hv : (Int8.ofInt z).toInt32 = v) (kk : CG p l e R s m args below meth c Q D h o nL (pc + 2) n F sl lv (.int v :: st)) : CG p l e R s m args below meth c Q D h o nL pc n F sl lv st := fun H locs ls hz hP hS hl => lv_bipush E.1 E.2.1 hd hv (kk H locs ls hz hP hS hl)
theorem g_sipush (E : cEnv p s m args meth c D cs h o cc nL own) {z : Int} {v : Int32} (hd : decode cc pc = .ok (.sipush z, 3)) (hv : (Int16.ofInt z).toInt32 = v) (kk : CG p l e R s m args below meth c Q D h o nL (pc + 3) n F sl lv (.int v :: st)) : CG p l e R s m args below meth c Q D h o nL pc n F sl lv st := fun H locs ls hz hP hS hl => lv_sipush E.1 E.2.1 hd hv (kk H locs ls hz hP hS hl)
theorem g_dup (E : cEnv p s m args meth c D cs h o cc nL own) {a : Nat} (hd : decode cc pc = .ok (.dup, 1)) (kk : CG p l e R s m args below meth c Q D h o nL (pc + 1) n F sl lv (.ref a :: .ref a :: st)) : CG p l e R s m args below meth c Q D h o nL pc n F sl lv (.ref a :: st) := fun H locs ls hz hP hS hl => lv_dup E.1 E.2.1 hd rfl (kk H locs ls hz hP hS hl)
theorem g_imul (E : cEnv p s m args meth c D cs h o cc nL own) {x y : Int32} (hd : decode cc pc = .ok (.imul, 1)) (kk : CG p l e R s m args below meth c Q D h o nL (pc + 1) n F sl lv (.int (x * y) :: st)) : CG p l e R s m args below meth c Q D h o nL pc n F sl lv (.int y :: .int x :: st) := fun H locs ls hz hP hS hl => lv_imul E.1 E.2.1 hd (kk H locs ls hz hP hS hl)
theorem g_iadd (E : cEnv p s m args meth c D cs h o cc nL own) {x y : Int32} (hd : decode cc pc = .ok (.iadd, 1)) (kk : CG p l e R s m args below meth c Q D h o nL (pc + 1) n F sl lv (.int (x + y) :: st)) : CG p l e R s m args below meth c Q D h o nL pc n F sl lv (.int y :: .int x :: st) := fun H locs ls hz hP hS hl => lv_iadd E.1 E.2.1 hd (kk H locs ls hz hP hS hl)
theorem g_istore (E : cEnv p s m args meth c D cs h o cc nL own) {k : Fin 4} {x : Int32} {lv' : List (Nat × Value)} (hd : decode cc pc = .ok (.istore_n k, 1)) (hn : k.val < nL) (hl' : (k.val, Value.int x) :: lv.filter (fun q => !(q.1 == k.val) && !(q.1 + 1 == k.val && q.2.category == 2)) = lv') (kk : CG p l e R s m args below meth c Q D h o nL (pc + 1) n F sl lv' st) : CG p l e R s m args below meth c Q D h o nL pc n F sl lv (.int x :: st) := fun H locs ls hz hP hS hl => lv_istore_n E.1 E.2.1 hd rfl hl hn hl' (fun ls' hl2 => kk H locs ls' hz hP hS hl2)
theorem g_iinc (E : cEnv p s m args meth c D cs h o cc nL own) {i : Nat} {z : Int} {x v : Int32} {lv' : List (Nat × Value)} (k : Nat) (hd : decode cc pc = .ok (.iinc i z, 3)) (hk : lv[k]? = some (i, .int x)) (hv : x + Int32.ofInt z = v) (hn : i < nL) (hl' : (i, Value.int v) :: lv.filter (fun q => !(q.1 == i) && !(q.1 + 1 == i && q.2.category == 2)) = lv') (kk : CG p l e R s m args below meth c Q D h o nL (pc + 3) n F sl lv' st) : CG p l e R s m args below meth c Q D h o nL pc n F sl lv st := fun H locs ls hz hP hS hl => lv_iinc E.1 E.2.1 hd hl hk hv hn hl' (fun ls' hl2 => kk H locs ls' hz hP hS hl2)
theorem g_icmpge (E : cEnv p s m args meth c D cs h o cc nL own) {off : Int} {tgt : Nat} {x y : Int32} (hd : decode cc pc = .ok (.if_icmp .ge off, 3)) (ht : (pc : Int) + off = (tgt : Int)) (k1 : y ≤ x → CG p l e R s m args below meth c Q D h o nL tgt n F sl lv st) (k2 : ¬ y ≤ x → CG p l e R s m args below meth c Q D h o nL (pc + 3) n F sl lv st) : CG p l e R s m args below meth c Q D h o nL pc n F sl lv (.int y :: .int x :: st) := fun H locs ls hz hP hS hl => lv_icmp_ge E.1 E.2.1 hd ht (fun q => k1 q H locs ls hz hP hS hl) (fun q => k2 q H locs ls hz hP hS hl)
theorem g_goto (E : cEnv p s m args meth c D cs h o cc nL own) {off : Int} {tgt : Nat} (hd : decode cc pc = .ok (.goto off, 3)) (ht : (pc : Int) + off = (tgt : Int)) (kk : CG p l e R s m args below meth c Q D h o nL tgt n F sl lv st) : CG p l e R s m args below meth c Q D h o nL pc n F sl lv st := fun H locs ls hz hP hS hl => lv_goto E.1 E.2.1 hd ht (kk H locs ls hz hP hS hl)
theorem cE_t (E : cEnv p s m args meth c D cs h o cc nL own) {w : Cond} (hw : w ∈ m_tb) : w.before args s = true := E.2.2.2.2.1 _ (m_tb_w hw)
theorem cE_A (E : cEnv p s m args meth c D cs h o cc nL own) : ∀ q, s.heap.size ≤ q → (fun q => h ≤ q) q := fun q hq => by
  have := E.2.2.2.2.2.2.1
  show h ≤ q
  omega
theorem g_obj (E : cEnv p s m args meth c D cs h o cc nL own) {idx a : Nat} (hd : decode cc pc = .ok (.invokespecial idx, 3)) (hw : ∀ w ∈ [Cond.methodLink own idx Lib.objectInit, Cond.instanceMethod Lib.objectInit, Cond.code Lib.objectInit ⟨#[0xb1]⟩ 1 none], w ∈ m_tb) (hR : 1 ≤ R.frames ∧ 20 ≤ R.locals) (hst : (st.map fun v => v.category).sum ≤ 8) (kk : CG p l e R s m args below meth c Q D h o nL (pc + 3) n F sl lv st) : CG p l e R s m args below meth c Q D h o nL pc n F sl lv (.ref a :: st) := fun H locs ls hz hP hS hl => by
  refine W.objInit E.1 E.2.1 E.2.2.2.1 (cE_t E (hw _ (by simp))) (cE_t E (hw _ (by simp))) (cE_t E (hw _ (by simp))) rfl (by rw [E.2.2.1]; exact hl.1) rfl hd hR.1 ?_ (kk H locs ls hz hP hS hl)
  have := lv_room (m := m) (pc := pc) (ls := ls) (rest := .ref a :: st) hst
  have := hR.2
  omega
/-- rows of numbers: t 0 int, 1 long, 2 boolean -/
def cZ (cs : Nat → ClassId) (t N : Nat) : va_E := .inl (cs t, N, if t = 1 then .inr (.inl (fun _ => 0)) else .inl (fun _ => 0))
theorem cA_eq {s : State} {cA cB : ClassId} {ty : FieldType} (h1 : va_RA s cA ty) (h2 : va_RA s cB ty) : cA = cB := by
  cases ty with
  | object C =>
    obtain ⟨_, _, _, _, _, e1⟩ := h1
    obtain ⟨_, _, _, _, _, e2⟩ := h2
    exact Option.some.inj (e1.symm.trans e2)
  | _ =>
    have e1 : s.vm.findClass _ = some cA := h1
    have e2 : s.vm.findClass _ = some cB := h2
    exact Option.some.inj (e1.symm.trans e2)
theorem g_fresh (E : cEnv p s m args meth c D cs h o cc nL own) {a : Nat} {x : va_E} {H1 : Heap} (hP1 : va_P D m_cl (cW h (n + o + 1) F ++ [(a, x)]) H1) (hD1 : va_D (fun q => h ≤ q) (cW h (n + o + 1) F ++ [(a, x)])) (hs : H1.size ≤ s.heap.size + (n + 1)) : a = h + (n + o + 1) ∧ H1.size = h + (n + o + 1) + 1 := by
  have hsz := E.2.2.2.2.2.2.1
  have hla : (cW h (n + o + 1) F ++ [(a, x)])[n + o + 1]? = some (a, x) := by
    rw [List.getElem?_append_right (by rw [cW_len]; exact Nat.le_refl _), cW_len, Nat.sub_self]
    rfl
  have hlt : a < H1.size := va_at.lt (q := (a, x)) (hP1 (n + o + 1) _ hla)
  have hge : h ≤ a := hD1.2 (n + o + 1) _ hla
  have hne : ¬ a < h + (n + o + 1) := fun z => by
    have hj : (cW h (n + o + 1) F ++ [(a, x)])[a - h]? = some (h + (a - h), F (a - h)) := by
      rw [List.getElem?_append_left (by rw [cW_len]; omega)]
      exact cW_at (by omega)
    have := hD1.1 (a - h) (n + o + 1) _ _ hj hla (by show h + (a - h) = a; omega)
    omega
  omega
theorem g_new (E : cEnv p s m args meth c D cs h o cc nL own) {ci idx : Nat} {q : vw_C} {fs : List Value} (hc : m_cl[ci]? = some q) (hd : decode cc pc = .ok (.new idx, 3)) (hw : ∀ w ∈ [Cond.classLink own idx q.1, Cond.instantiable q.1 q.2.2, Cond.initialized q.1], w ∈ m_tb) (hfs : ∀ j, j < q.2.2 → defaultValue (m_tyf ci j) = vp_V fs j) (hR : n + 1 ≤ R.cells ∧ sl + q.2.2 ≤ R.slots) (kk : CG p l e R s m args below meth c Q D h o nL (pc + 3) (n + 1) (va_up F (n + o + 1) (.inr (ci, fs))) (sl + q.2.2) lv (.ref (h + (n + o + 1)) :: st)) : CG p l e R s m args below meth c Q D h o nL pc n F sl lv st := fun H locs ls hz hP hS hl => by
  obtain ⟨C, T, N⟩ := q
  refine va_new (ci := ci) (fs := fs) E.1 E.2.1 E.2.2.2.2.1 (m_in ci _ hc) (m_tyf ci) (m_hty ci _ hc) E.2.2.2.1 (cE_t E (hw _ (by simp))) (cE_t E (hw _ (by simp))) (cE_t E (hw _ (by simp))) E.2.2.2.2.2.2.2.1 hP (cW_D (fun _ z => z)) hS (cE_A E) hc hfs hR.1 hR.2 hd (fun a H1 hP1 hD1 hS1 => W_sz (fun hs => ?_))
  obtain ⟨rfl, hz1⟩ := g_fresh E hP1 hD1 hs
  rw [cW_push] at hP1
  exact kk H1 locs ls (by omega) (by rw [show n + 1 + o + 1 = n + o + 1 + 1 by omega]; exact hP1) hS1 hl
theorem g_newa (E : cEnv p s m args meth c D cs h o cc nL own) {atype : ArrayType} {ty : FieldType} (t : Nat) {x : Int32} {N' : Nat} (hd : decode cc pc = .ok (.newarray atype, 2)) (hty : newarray.typeOf atype = ty) (ht : (m_ty cs)[t]? = some (cs t, ty)) (hw : Cond.arrayClass ty ∈ m_tb) (hz0 : ∀ cA : ClassId, vp_cell cA (N', if t = 1 then .inr (.inl (fun _ => 0)) else .inl (fun _ => 0)) = arrV cA N' (fun _ => defaultValue ty)) (hx : x = nI N') (hb9 : N' < 2 ^ 24) (hby : componentBytes ty ≤ 8) (hR : n + 1 ≤ R.cells ∧ sl + N' ≤ R.slots) (kk : CG p l e R s m args below meth c Q D h o nL (pc + 2) (n + 1) (va_up F (n + o + 1) (cZ cs t N')) (sl + N') lv (.ref (h + (n + o + 1)) :: st)) : CG p l e R s m args below meth c Q D h o nL pc n F sl lv (.int x :: st) := fun H locs ls hz hP hS hl => by
  subst hty hx
  refine va_newa (a0 := (N', if t = 1 then .inr (.inl (fun _ => 0)) else .inl (fun _ => 0))) E.1 E.2.1 (cE_t E hw) rfl E.2.2.2.2.2.2.2.1 hP (cW_D (fun _ z => z)) hS (cE_A E) hz0 (nI_pos (by omega)) (nI_clamp (by omega)) ?_ hR.1 hR.2 hd (fun a cA H1 hK1 hP1 hD1 hS1 => W_sz (fun hs => ?_))
  · calc N' * componentBytes (newarray.typeOf atype) ≤ 2 ^ 24 * 8 := Nat.mul_le_mul (by omega) hby
      _ ≤ 536870912 := by decide
  · obtain ⟨rfl, hz1⟩ := g_fresh E hP1 hD1 hs
    have hlast : ((m_ty cs) ++ [(cA, newarray.typeOf atype)])[5]? = some (cA, newarray.typeOf atype) := rfl
    have hcA : cA = cs t := cA_eq (hK1.2 5 _ hlast).2 (E.2.2.2.2.2.2.2.1.2 t _ ht).2
    subst hcA
    rw [cW_push] at hP1
    exact kk H1 locs ls (by omega) (by rw [show n + 1 + o + 1 = n + o + 1 + 1 by omega]; exact hP1) hS1 hl
def cQ (cs : Nat → ClassId) (t N : Nat) (f : Nat → Option Nat) : va_E := .inl (cs t, N, .inr (.inr (.inr (.inr f))))
theorem g_newq (E : cEnv p s m args meth c D cs h o cc nL own) {idx : Nat} {C : String} (t : Nat) {x : Int32} {N' : Nat} (hd : decode cc pc = .ok (.anewarray idx, 3)) (ht : (m_ty cs)[t]? = some (cs t, .object C)) (hw : Cond.classLink own idx C ∈ m_tb) (hO : va_AO C s) (hx : x = nI N') (hb9 : N' < 2 ^ 24) (hR : n + 1 ≤ R.cells ∧ sl + N' ≤ R.slots) (kk : CG p l e R s m args below meth c Q D h o nL (pc + 3) (n + 1) (va_up F (n + o + 1) (cQ cs t N' (fun _ => none))) (sl + N') lv (.ref (h + (n + o + 1)) :: st)) : CG p l e R s m args below meth c Q D h o nL pc n F sl lv (.int x :: st) := fun H locs ls hz hP hS hl => by
  subst hx
  refine va_newq E.1 E.2.1 E.2.2.2.1 (cE_t E hw) hO E.2.2.2.2.2.2.2.1 hP (cW_D (fun _ z => z)) hS (cE_A E) (nI_pos (by omega)) (nI_clamp (by omega)) (by omega) hR.1 hR.2 hd (fun a cA H1 hK1 hP1 hD1 hS1 => W_sz (fun hs => ?_))
  obtain ⟨rfl, hz1⟩ := g_fresh E hP1 hD1 hs
  have hlast : ((m_ty cs) ++ [(cA, FieldType.object C)])[5]? = some (cA, FieldType.object C) := rfl
  have hcA : cA = cs t := cA_eq (hK1.2 5 _ hlast).2 (E.2.2.2.2.2.2.2.1.2 t _ ht).2
  subst hcA
  rw [cW_push] at hP1
  exact kk H1 locs ls (by omega) (by rw [show n + 1 + o + 1 = n + o + 1 + 1 by omega]; exact hP1) hS1 hl
theorem g_keep (E : cEnv p s m args meth c D cs h o cc nL own) {H1 : Heap} {G : Nat → va_E} (hP1 : va_P D m_cl (cW h (n + o + 1) G) H1) (hs : H1.size ≤ s.heap.size + n) : H1.size = h + (n + o) + 1 := by
  have hsz := E.2.2.2.2.2.2.1
  have hb1 : h + (n + o) < H1.size := va_at.lt (cW_of hP1 (j := n + o) (by omega))
  omega
theorem g_put (E : cEnv p s m args meth c D cs h o cc nL own) {ci idx k : Nat} {q : vw_C} {fs : List Value} {v : Value} {a : Nat} (j : Nat) (hd : decode cc pc = .ok (.putfield idx, 3)) (hc : m_cl[ci]? = some q) (hj : j < n + o + 1) (hF : F j = .inr (ci, fs)) (ha : a = h + j) (hk : k < q.2.2) (hw : Cond.fieldLink own idx (q.2.1 k).1 (q.2.1 k).2.1 (q.2.1 k).2.2.1 ∈ m_tb) (hfin : (q.2.1 k).2.2.2 = true ∧ (q.2.1 k).1 = own ∨ (q.2.1 k).2.2.2 = false) (hn : narrow (m_tyf ci k) v = v) (hfit : fits (m_tyf ci k) v = true) (hlen : k < fs.length) (kk : CG p l e R s m args below meth c Q D h o nL (pc + 3) n (va_up F j (.inr (ci, fs.set k v))) sl lv st) : CG p l e R s m args below meth c Q D h o nL pc n F sl lv (v :: .ref a :: st) := fun H locs ls hz hP hS hl => by
  obtain ⟨C, T, N⟩ := q
  subst ha
  have hat : (cW h (n + o + 1) F)[j]? = some (h + j, .inr (ci, fs)) := by
    rw [cW_at hj, hF]
  have go : ∀ (H1 : Heap) (locs1 : List Loc), va_P D m_cl ((cW h (n + o + 1) F).set j (h + j, .inr (ci, fs.set k v))) H1 → va_D (fun q => h ≤ q) ((cW h (n + o + 1) F).set j (h + j, .inr (ci, fs.set k v))) → va_S (fun q => h ≤ q) s.heap H1 locs1 → W p l e R s m args below meth c H1 locs1 n sl Q (F0 m (pc + 3) ls st) := fun H1 locs1 hP1 _ hS1 => W_sz (fun hs => by
    rw [cW_set hj] at hP1
    exact kk H1 locs1 ls (g_keep E hP1 hs) hP1 hS1 hl)
  rcases hfin with ⟨hfin, hown⟩ | hfin
  · exact va_putF E.1 E.2.1 E.2.2.2.2.1 (m_in ci _ hc) (m_tyf ci) (m_hty ci _ hc) (m_hnm ci _ hc) E.2.2.2.1 E.2.2.2.2.2.2.2.1 hP (cW_D (fun _ z => z)) hS j hat hc k hk (cE_t E hw) (fun _ z => z) hfin E.2.2.2.2.2.1 hown (m_hty ci _ hc k hk) hn hfit hlen hd go
  · exact va_put E.1 E.2.1 E.2.2.2.2.1 (m_in ci _ hc) (m_tyf ci) (m_hty ci _ hc) (m_hnm ci _ hc) E.2.2.2.1 E.2.2.2.2.2.2.2.1 hP (cW_D (fun _ z => z)) hS j hat hc k hk (cE_t E hw) (fun _ z => z) hfin (m_hty ci _ hc k hk) hn hfit hlen hd go
theorem g_get (E : cEnv p s m args meth c D cs h o cc nL own) {ci idx k : Nat} {q : vw_C} {fs : List Value} {v : Value} {a : Nat} (j : Nat) (hd : decode cc pc = .ok (.getfield idx, 3)) (hc : m_cl[ci]? = some q) (hj : j < n + o + 1) (hF : F j = .inr (ci, fs)) (ha : a = h + j) (hk : k < q.2.2) (hw : Cond.fieldLink own idx (q.2.1 k).1 (q.2.1 k).2.1 (q.2.1 k).2.2.1 ∈ m_tb) (hv : fs[k]? = some v) (kk : CG p l e R s m args below meth c Q D h o nL (pc + 3) n F sl lv (v :: st)) : CG p l e R s m args below meth c Q D h o nL pc n F sl lv (.ref a :: st) := fun H locs ls hz hP hS hl => by
  obtain ⟨C, T, N⟩ := q
  subst ha
  have hat : (cW h (n + o + 1) F)[j]? = some (h + j, .inr (ci, fs)) := by
    rw [cW_at hj, hF]
  exact va_get E.1 E.2.1 E.2.2.2.2.1 (m_in ci _ hc) E.2.2.2.1 E.2.2.2.2.2.2.2.1 hP j hat hc k hk (cE_t E hw) (fun _ z => z) hv hd (kk H locs ls hz hP hS hl)
theorem g_alen (E : cEnv p s m args meth c D cs h o cc nL own) {a N : Nat} {f : Nat → Option Nat} {C : String} (j t : Nat) (hd : decode cc pc = .ok (.arraylength, 1)) (hj : j < n + o + 1) (hF : F j = cQ cs t N f) (ha : a = h + j) (ht : (m_ty cs)[t]? = some (cs t, .object C)) (kk : CG p l e R s m args below meth c Q D h o nL (pc + 1) n F sl lv (.int (nI N) :: st)) : CG p l e R s m args below meth c Q D h o nL pc n F sl lv (.ref a :: st) := fun H locs ls hz hP hS hl => by
  subst ha
  have hat : (cW h (n + o + 1) F)[j]? = some (h + j, cQ cs t N f) := by
    rw [cW_at hj, hF]
  exact va_alen E.1 E.2.1 E.2.2.2.2.2.2.2.1 hP j t hat ht rfl hd (kk H locs ls hz hP hS hl)
theorem g_astq (E : cEnv p s m args meth c D cs h o cc nL own) {a v N ci : Nat} {f : Nat → Option Nat} {q : vw_C} {vs : List Value} {x : Nat} (j t i : Nat) (hd : decode cc pc = .ok (.aastore, 1)) (hj : j < n + o + 1) (hF : F j = cQ cs t N f) (ha : a = h + j) (ht : (m_ty cs)[t]? = some (cs t, .object q.1)) (hi : i < n + o + 1) (hFi : F i = .inr (ci, vs)) (hv : v = h + i) (hc : m_cl[ci]? = some q) (hx : x < N) (hN : N < 2 ^ 24) (kk : CG p l e R s m args below meth c Q D h o nL (pc + 1) n (va_up F j (cQ cs t N (va_up f x (some v)))) sl lv st) : CG p l e R s m args below meth c Q D h o nL pc n F sl lv (.ref v :: .int (nI x) :: .ref a :: st) := fun H locs ls hz hP hS hl => by
  subst ha
  have hat : (cW h (n + o + 1) F)[j]? = some (h + j, cQ cs t N f) := by
    rw [cW_at hj, hF]
  have hat2 : (cW h (n + o + 1) F)[i]? = some (v, .inr (ci, vs)) := by
    rw [cW_at hi, hFi, hv]
  refine va_astq E.1 E.2.1 E.2.2.2.2.2.2.2.1 hP (cW_D (fun _ z => z)) hS j t i ci hat ht hat2 hc (vp_in_nI hx (by omega)) hd (fun H1 locs1 hP1 _ hS1 => W_sz (fun hs => ?_))
  rw [nI_clamp (by omega)] at hP1
  have hP2 : va_P D m_cl (cW h (n + o + 1) (va_up F j (cQ cs t N (va_up f x (some v))))) H1 := by
    rw [← cW_set hj]
    exact hP1
  exact kk H1 locs1 ls (g_keep E hP2 hs) hP2 hS1 hl
theorem m_wsg {y : MethodName} {bytes : ByteArray} {maxL : Nat} {ret : Option FieldType} (hw : Cond.code y bytes maxL ret ∈ m_tb) : GoodIn m_tw (m_ws y bytes maxL ret) := m_goodIn (fun w hh => by
  rcases List.mem_cons.mp hh with q | q
  · rw [q]
    exact hw
  · exact q)
theorem cPc_blind {As : List Value} {F0 : Nat → va_E} {h' o' : Nat} : FrameBlind (va_Pc As (cPc D cs F0 h' o')) := fun a U g mk q => ⟨q.1, q.2.1, q.2.2.1, q.2.2.2.call g mk a⟩
theorem g_after (E : cEnv p s m args meth c D cs h o cc nL own) {mc : Nat} {G : Nat → va_E} {H H1 : Heap} (hP : va_P D m_cl (cW h (n + o + 1) F) H) (hB : va_P D m_cl (cW (h + (n + o)) (mc + 0 + 1) G) H1) (hk1 : ∀ q : Nat, q < H.size → ¬ h + (n + o) ≤ q → H1[q]? = H[q]?) (hs : H1.size ≤ s.heap.size + (n + mc)) : H1.size = h + (n + mc + o) + 1 ∧ va_P D m_cl (cW h (n + mc + o + 1) (fun j => if j < n + o then F j else G (j - (n + o)))) H1 := by
  have hsz := E.2.2.2.2.2.2.1
  have hlt : h + (n + o) + mc < H1.size := va_at.lt (cW_of hB (j := mc) (by omega))
  refine ⟨by omega, cW_P (fun j hj => ?_)⟩
  by_cases q : j < n + o
  · show va_at D m_cl (h + j, if j < n + o then F j else G (j - (n + o))) H1
    rw [if_pos q]
    have h1 := cW_of hP (j := j) (by omega)
    exact h1.kept (hk1 (h + j) h1.lt (by omega))
  · show va_at D m_cl (h + j, if j < n + o then F j else G (j - (n + o))) H1
    rw [if_neg q]
    have h1 := cW_of hB (j := j - (n + o)) (by omega)
    rw [show h + (n + o) + (j - (n + o)) = h + j by omega] at h1
    exact h1
theorem g_call (E : cEnv p s m args meth c D cs h o cc nL own) {y : MethodName} {bytes : ByteArray} {maxL fr lc ms mc ci idx nA : Nat} {As fs st0 : List Value} {po : cU → Prop} {G : cU → Nat → va_E} (hM : cM l D cs y bytes maxL fr lc ms As (fun _ => .inr (ci, fs)) (h + (n + o)) 0 mc po G) (hd : decode cc pc = .ok (.invokespecial idx, 3)) (hF : F (n + o) = .inr (ci, fs)) (hw : ∀ w ∈ [Cond.methodLink own idx y, Cond.instanceMethod y, Cond.initialized y.cls, Cond.code y bytes maxL none], w ∈ m_tb) (hy : y.name = "<init>") (hnA : As.length = nA) (hdesc : y.cls ≠ "java/lang/invoke/MethodHandle" ∧ y.cls ≠ "java/lang/invoke/VarHandle" ∧ (parseMethodDescriptor y.desc).map (fun d => d.parameters.length) = some nA) (hR : fr + 1 ≤ R.frames ∧ 8 + (maxL + 11) + lc ≤ R.locals) (hcell : n + mc ≤ R.cells ∧ sl + ms ≤ R.slots) (hst : (st.map fun v => v.category).sum ≤ 8) (hst0 : st0 = As.reverse ++ .ref (h + (n + o)) :: st) (kk : ∀ u, po u → CG p l e R s m args below meth c Q D h o nL (pc + 3) (n + mc) (fun j => if j < n + o then F j else G u (j - (n + o))) (sl + ms) lv st) : CG p l e R s m args below meth c Q D h o nL pc n F sl lv st0 := fun H locs ls hz hP hS hl => by
  subst hst0
  have hat : va_P D m_cl (cW (h + (n + o)) (0 + 1) (fun _ => .inr (ci, fs))) H := cW_P (fun j hj => by
    obtain rfl : j = 0 := by omega
    show va_at D m_cl (h + (n + o), .inr (ci, fs)) H
    rw [← hF]
    exact cW_of hP (by omega))
  refine va_callv (va_runI (As := As) (rest := st) (b := h + (n + o)) ⟨E.1, E.2.1, E.2.2.1, E.2.2.2.1, E.2.2.2.2.1⟩ hM (cwI nA E.2.2.2.2.1 (m_wsg (hw _ (by simp))) rfl rfl rfl (cE_t E (hw _ (by simp))) (cE_t E (hw _ (by simp))) (cE_t E (hw _ (by simp))) hy hdesc hR) ⟨cPc_blind, fun U hU hW => ⟨rfl, by rw [hU]; exact hz, by rw [hU]; exact hat, E.2.2.2.2.2.2.2.warm hW⟩⟩ rfl hnA hl.1 rfl (lv_room hst) hd hcell) hS (fun q _ z => ?_) (fun q z => ?_) (fun u t H1 locs1 ht hvm hpo hB hz1 hk1 hS1 => W_sz (fun hs => ?_))
  · show h ≤ q
    have z : h + (n + o) ≤ q := z
    omega
  · show h ≤ q
    have z : h + (n + o) ≤ q := z
    omega
  · have hB : va_P D m_cl (cW (h + (n + o)) (mc + 0 + 1) (G u)) t.heap := hB
    rw [ht] at hB
    obtain ⟨hz2, hP2⟩ := g_after E hP hB hk1 hs
    exact kk u hpo H1 locs1 ls hz2 hP2 hS1 hl
theorem g_callN (E : cEnv p s m args meth c D cs h o cc nL RX4) {bytes : ByteArray} {maxL fr lc ms mc ci : Nat} {fs : List Value} {po : cU → Prop} {G : cU → Nat → va_E} (hM : cM l D cs yX3_init bytes maxL fr lc ms [] (fun _ => .inr (ci, fs)) (h + (n + o)) 0 mc po G) (hd : decode cc pc = .ok (.invokespecial 9, 3)) (hF : F (n + o) = .inr (ci, fs)) (hw : ∀ w ∈ [Cond.instanceMethod yX3_init, Cond.initialized RX3, Cond.code yX3_init bytes maxL none], w ∈ m_tb) (hR : fr + 1 ≤ R.frames ∧ 8 + (maxL + 11) + lc ≤ R.locals) (hcell : n + mc ≤ R.cells ∧ sl + ms ≤ R.slots) (hst : (st.map fun v => v.category).sum ≤ 8) (kk : ∀ u, po u → CG p l e R s m args below meth c Q D h o nL (pc + 3) (n + mc) (fun j => if j < n + o then F j else G u (j - (n + o))) (sl + ms) lv st) : CG p l e R s m args below meth c Q D h o nL pc n F sl lv (.ref (h + (n + o)) :: st) := fun H locs ls hz hP hS hl => by
  have hat : va_P D m_cl (cW (h + (n + o)) (0 + 1) (fun _ => .inr (ci, fs))) H := cW_P (fun j hj => by
    obtain rfl : j = 0 := by omega
    show va_at D m_cl (h + (n + o), .inr (ci, fs)) H
    rw [← hF]
    exact cW_of hP (by omega))
  refine va_callv (va_runIN (host := "MomentDesk") (As := []) (rest := st) (b := h + (n + o)) ⟨E.1, E.2.1, E.2.2.1, E.2.2.2.1, E.2.2.2.2.1⟩ hM ⟨va_cnB 0 E.2.2.2.2.1 (m_wsg (hw _ (by simp))) rfl rfl rfl E.2.2.2.2.2.2.2.2.2.2.2 (cE_t E (w := Cond.initialized RX3) (hw _ (by simp))) ⟨by decide +kernel, by decide +kernel, by decide +kernel⟩ hR, rfl, cE_t E (hw _ (by simp))⟩ ⟨cPc_blind, fun U hU hW => ⟨rfl, by rw [hU]; exact hz, by rw [hU]; exact hat, E.2.2.2.2.2.2.2.warm hW⟩⟩ rfl rfl hl.1 rfl (lv_room hst) hd hcell) hS (fun q _ z => ?_) (fun q z => ?_) (fun u t H1 locs1 ht hvm hpo hB hz1 hk1 hS1 => W_sz (fun hs => ?_))
  · show h ≤ q
    have z : h + (n + o) ≤ q := z
    omega
  · show h ≤ q
    have z : h + (n + o) ≤ q := z
    omega
  · have hB : va_P D m_cl (cW (h + (n + o)) (mc + 0 + 1) (G u)) t.heap := hB
    rw [ht] at hB
    obtain ⟨hz2, hP2⟩ := g_after E hP hB hk1 hs
    exact kk u hpo H1 locs1 ls hz2 hP2 hS1 hl
theorem g_ret {mc ms : Nat} {po : cU → Prop} {G : cU → Nat → va_E} (u : cU) (E : cEnv p s m args meth c D cs h o cc nL own) (hr : meth.sig.returnType = none) (hlk : meth.locks = false) (hd : decode cc pc = .ok (.return_, 1)) (hn : n = mc) (hsl : sl ≤ ms) (hpo : po u) (hG : ∀ j, j < n + o + 1 → F j = G u j) : CG p l e R s m args below meth c (MQ below (cQc D h (mc + o + 1) po G) args s mc ms (fun q => h ≤ q)) D h o nL pc n F sl lv [] := fun H locs ls hz hP hS hl => by
  subst hn
  refine W.widen (Nat.le_refl _) hsl ?_
  rw [cW_cg hG] at hP
  exact W.vret (free := fun q => h ≤ q) (Qc := cQc D h (n + o + 1) po G) E.1 E.2.1 hr (fun t ht hW => ⟨⟨u, rfl, hpo, by show va_P D m_cl (cW h (n + o + 1) (G u)) t.heap; rw [ht]; exact hP⟩, hS.F ht⟩) hS.2.2 hd hlk
end CG
theorem c_method {l : Launch} {D : va_G} {cs : Nat → ClassId} {y : MethodName} {bytes : ByteArray} {maxL fr lc ms mc h o : Nat} {As : List Value} {F0 : Nat → va_E} {po : cU → Prop} {G : cU → Nat → va_E} (hy : plainName y.cls = true) (hnm : y.name = "<init>") (hl0 : (lg_sl (.ref (h + o) :: As)).length ≤ maxL)
    (body : ∀ (p : Program) (e : Env) (s : State) (m : MethodId) (below : List Frame) (meth : Method) (c : Code), cEnv p s m (Value.ref (h + o) :: As).toArray meth c D cs h o bytes maxL y.cls → meth.sig.returnType = none → meth.locks = false → CG p l e (cR fr lc mc ms) s m (Value.ref (h + o) :: As).toArray below meth c (MQ below (cQc D h (mc + o + 1) po G) (Value.ref (h + o) :: As).toArray s mc ms (fun q => h ≤ q)) D h o maxL 0 0 F0 0 (lv_args 0 (.ref (h + o) :: As)) []) : cM l D cs y bytes maxL fr lc ms As F0 h o mc po G := by
  refine Met.ofW (cc := bytes) (maxL := maxL) (ret := none) hy rfl ?_
  intro p e s m args below meth c s₁ B hml hv
  obtain ⟨rfl, hsz, hat, hT⟩ := hv
  have hts : ∀ w ∈ m_tw, w.before (Value.ref (h + o) :: As).toArray s = true := fun w hw => by
    rcases List.mem_append.mp hw with hq | hq
    · rcases List.mem_cons.mp hq with rfl | hq
      · exact hT.2.1.1.use rfl
      · rcases List.mem_cons.mp hq with rfl | hq
        · exact hT.2.1.2.use rfl
        · cases hq
    · exact atoms_spec (ws := m_ws y bytes maxL none) B.pre w (List.mem_cons_of_mem _ hq)
  have hin : meth.name = "<init>" := by
    rw [← hnm]
    exact (name_of_methodNamed B.named B.method).1
  have hl := lv_entry (.ref (h + o) :: As) (n := maxL) hl0
  rw [lg_entry_eq]
  refine body p e s m below meth c ⟨B.exec, B.bytes, hml, findClass_of_methodNamed B.named, hts, hin, hsz, hT⟩ B.returns B.notSynchronized s.heap [] _ (by rw [Nat.zero_add]; exact hsz) (by rw [Nat.zero_add]; exact hat) va_S.rf hl

theorem m_one {w : Cond} (i : Nat) (h : (decide (lw_tbl[i]? = some w) && goodWord w) = true) : w ∈ m_tb := m_wck_ok (l := [(w, i)]) (by rw [List.all_cons, h]; rfl) w List.mem_cons_self

