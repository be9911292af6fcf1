/-! ===== the law: its opening ===== -/
def oEnv (p : Program) (s : State) (m : MethodId) (c : Code) (b : Nat) (D : va_G) (cs : Nat → ClassId) : Prop := p.tables.exec = Jvm.exec ∧ c.code = code ∧ c.maxLocals = 4 ∧ s.vm.findClass R_law = some m.cls ∧ (∀ w ∈ m_tw, w.before #[Value.ref b] s = true) ∧ cT D cs s
def LC (p : Program) (l : Launch) (e : Env) (s : State) (m : MethodId) (below : List Frame) (meth : Method) (c : Code) (b : Nat) (D : va_G) (pc n : Nat) (F : Nat → va_E) (sl : Nat) (lv : List (Nat × Value)) (st : List Value) : Prop :=
  ∀ (H : Heap) (locs : List Loc) (ls : Array Slot), H.size = s.heap.size + n → va_P D m_cl (cW s.heap.size n F) H → va_S (lA s) s.heap H locs → lv_has ls 4 lv → W p l e room_1 s m #[Value.ref b] below meth c H locs n sl (lw_Z below #[Value.ref b] s) (F0 m pc ls st)
section LC
variable {p : Program} {l : Launch} {e : Env} {s : State} {m : MethodId} {below : List Frame} {meth : Method} {c : Code} {b : Nat} {D : va_G} {cs : Nat → ClassId} {pc n sl : Nat} {F : Nat → va_E} {lv : List (Nat × Value)} {st : List Value}
theorem LC_cg {G : Nat → va_E} (hFG : ∀ j, j < n → F j = G j) (kk : LC p l e s m below meth c b D pc n G sl lv st) : LC p l e s m below meth c b D pc n F sl lv st := fun H locs ls hz hP hS hl => kk H locs ls hz (by rw [← cW_cg hFG]; exact hP) hS hl
theorem oE_t (E : oEnv p s m c b D cs) {w : Cond} (hw : w ∈ m_tb) : w.before #[Value.ref b] s = true := E.2.2.2.2.1 _ (m_tb_w hw)
theorem o_dup (E : oEnv p s m c b D cs) {a : Nat} (hd : decode code pc = .ok (.dup, 1)) (kk : LC p l e s m below meth c b D (pc + 1) n F sl lv (.ref a :: .ref a :: st)) : LC p l e s m below meth c b D pc n F sl lv (.ref a :: st) := fun H locs ls hz hP hS hl => lv_dup E.1 E.2.1 hd rfl (kk H locs ls hz hP hS hl)
theorem o_astore (E : oEnv p s m c b D cs) {k : Fin 4} {a : Nat} {lv' : List (Nat × Value)} (hd : decode code pc = .ok (.astore_n k, 1)) (hl' : (k.val, Value.ref a) :: lv.filter (fun q => !(q.1 == k.val) && !(q.1 + 1 == k.val && q.2.category == 2)) = lv') (kk : LC p l e s m below meth c b D (pc + 1) n F sl lv' st) : LC p l e s m below meth c b D pc n F sl lv (.ref a :: st) := fun H locs ls hz hP hS hl => lv_astore_n E.1 E.2.1 hd rfl hl k.isLt hl' (fun ls' hl2 => kk H locs ls' hz hP hS hl2)
theorem o_istore (E : oEnv p s m c b D cs) {k : Fin 4} {x : Int32} {lv' : List (Nat × Value)} (hd : decode code pc = .ok (.istore_n k, 1)) (hl' : (k.val, Value.int x) :: lv.filter (fun q => !(q.1 == k.val) && !(q.1 + 1 == k.val && q.2.category == 2)) = lv') (kk : LC p l e s m below meth c b D (pc + 1) n F sl lv' st) : LC p l e s m below meth c b D pc n F sl lv (.int x :: st) := fun H locs ls hz hP hS hl => lv_istore_n E.1 E.2.1 hd rfl hl k.isLt hl' (fun ls' hl2 => kk H locs ls' hz hP hS hl2)
theorem o_iconst (E : oEnv p s m c b D cs) {z : Int} {v : Int32} (hd : decode code pc = .ok (.iconst z, 1)) (hv : Int32.ofInt z = v) (kk : LC p l e s m below meth c b D (pc + 1) n F sl lv (.int v :: st)) : LC p l e s m below meth c b D pc n F sl lv st := fun H locs ls hz hP hS hl => lv_iconst E.1 E.2.1 hd hv (kk H locs ls hz hP hS hl)
theorem o_fresh {h a : Nat} {x : va_E} {H1 : Heap} (hP1 : va_P D m_cl (cW h n F ++ [(a, x)]) H1) (hD1 : va_D (fun q => h ≤ q) (cW h n F ++ [(a, x)])) (hs : H1.size ≤ h + (n + 1)) : a = h + n ∧ H1.size = h + (n + 1) := by
  have hla : (cW h n F ++ [(a, x)])[n]? = some (a, x) := by
    rw [List.getElem?_append_right (by rw [cW_len]; exact Nat.le_refl _), cW_len, Nat.sub_self]
    rfl
  have hlt : a < H1.size := va_at.lt (q := (a, x)) (hP1 n _ hla)
  have hge : h ≤ a := hD1.2 n _ hla
  have hne : ¬ a < h + n := fun z => by
    have hj : (cW h n F ++ [(a, x)])[a - h]? = some (h + (a - h), F (a - h)) := by
      rw [List.getElem?_append_left (by rw [cW_len]; omega)]
      exact cW_at (by omega)
    have := hD1.1 (a - h) n _ _ hj hla (by show h + (a - h) = a; omega)
    omega
  omega
theorem o_new (E : oEnv p s m c b D cs) {ci idx : Nat} {q : vw_C} {fs : List Value} (hc : m_cl[ci]? = some q) (hd : decode code pc = .ok (.new idx, 3)) (hw : ∀ w ∈ [Cond.classLink R_law idx q.1, Cond.instantiable q.1 q.2.2, Cond.initialized q.1], w ∈ m_tb) (hfs : ∀ j, j < q.2.2 → defaultValue (m_tyf ci j) = vp_V fs j) (hR : n + 1 ≤ room_1.cells ∧ sl + q.2.2 ≤ room_1.slots) (kk : LC p l e s m below meth c b D (pc + 3) (n + 1) (va_up F n (.inr (ci, fs))) (sl + q.2.2) lv (.ref (s.heap.size + n) :: st)) : LC p l e s m below meth c b D pc n F sl lv st := fun H locs ls hz hP hS hl => by
  obtain ⟨C, T, N⟩ := q
  refine va_new (ci := ci) (fs := fs) E.1 E.2.1 E.2.2.2.2.1 (m_in ci _ hc) (m_tyf ci) (m_hty ci _ hc) E.2.2.2.1 (oE_t E (hw _ (by simp))) (oE_t E (hw _ (by simp))) (oE_t E (hw _ (by simp))) E.2.2.2.2.2.1 hP (cW_D (fun _ z => z)) hS (fun _ z => z) hc hfs hR.1 hR.2 hd (fun a H1 hP1 hD1 hS1 => W_sz (fun hs => ?_))
  obtain ⟨rfl, hz1⟩ := o_fresh hP1 hD1 hs
  rw [cW_push] at hP1
  exact kk H1 locs ls hz1 hP1 hS1 hl
theorem o_call (E : oEnv p s m c b D cs) {y : MethodName} {bytes : ByteArray} {maxL fr lc ms mc idx o : Nat} {po : cU → Prop} {G : cU → Nat → va_E} (hM : cM l D cs y bytes maxL fr lc ms [] F s.heap.size o mc po G) (hd : decode code pc = .ok (.invokespecial idx, 3)) (hw : ∀ w ∈ [Cond.methodLink R_law idx y, Cond.instanceMethod y, Cond.initialized y.cls, Cond.code y bytes maxL none], w ∈ m_tb) (hy : y.name = "<init>") (hdesc : y.cls ≠ "java/lang/invoke/MethodHandle" ∧ y.cls ≠ "java/lang/invoke/VarHandle" ∧ (parseMethodDescriptor y.desc).map (fun d => d.parameters.length) = some 0) (hR : fr + 1 ≤ room_1.frames ∧ 8 + (maxL + 11) + lc ≤ room_1.locals) (hcell : o + 1 + mc ≤ room_1.cells ∧ sl + ms ≤ room_1.slots) (hst : (st.map fun v => v.category).sum ≤ 8) (kk : ∀ u, po u → LC p l e s m below meth c b D (pc + 3) (mc + o + 1) (G u) (sl + ms) lv st) : LC p l e s m below meth c b D pc (o + 1) F sl lv (.ref (s.heap.size + o) :: st) := fun H locs ls hz hP hS hl => by
  refine va_callv (va_runI (As := []) (rest := st) (b := s.heap.size + o) ⟨E.1, E.2.1, E.2.2.1, E.2.2.2.1, E.2.2.2.2.1⟩ hM (cwI 0 E.2.2.2.2.1 (m_wsg (hw _ (by simp))) rfl rfl rfl (oE_t E (hw _ (by simp))) (oE_t E (hw _ (by simp))) (oE_t E (hw _ (by simp))) hy hdesc hR) ⟨cPc_blind, fun U hU hW => ⟨rfl, by rw [hU]; exact hz, by rw [hU]; exact hP, E.2.2.2.2.2.warm hW⟩⟩ rfl rfl hl.1 rfl (lv_room hst) hd hcell) hS (fun q _ z => z) (fun q z => z) (fun u t H1 locs1 ht hvm hpo hB hz1 hk1 hS1 => W_sz (fun hs => ?_))
  have hB : va_P D m_cl (cW s.heap.size (mc + o + 1) (G u)) t.heap := hB
  rw [ht] at hB
  have hlt : s.heap.size + (mc + o) < H1.size := va_at.lt (cW_of hB (j := mc + o) (by omega))
  have := kk u hpo H1 locs1 ls (by omega) hB hS1 hl
  rw [show o + 1 + mc = mc + o + 1 by omega]
  exact this
end LC

/-- YOUR PART: from the entry, for every script of at most 2560 ints, the law comes to its end with true -/
theorem whole_start {p : Program} {e : Env} {s : State} {m : MethodId} {below : List Frame} {meth : Method} {c : Code} (l : Launch) {b L : Nat} {xs : Nat → Int32} (hL : L ≤ 2560) (C0 : lw_At p s m meth c b L xs) : W p l e room_1 s m #[Value.ref b] below meth c s.heap [] 0 0 (lw_Z below #[Value.ref b] s) (entryFrame m ([Value.ref b] : List Value).toArray 4) := by
  obtain ⟨hx, hb, hr, hml, hown, hts, hX, hbl, hlk, hgv⟩ := C0
  obtain ⟨D, cs, hT⟩ := law_K hts
  have E : oEnv p s m c b D cs := ⟨hx, hb, hml, hown, law_tw hts, hT⟩
  have hl := lv_entry [Value.ref b] (n := 4) (Nat.le_of_ble_eq_true rfl)
  rw [lg_entry_eq]
  suffices z : LC p l e s m below meth c b D 0 0 (fun _ => .inr (4, [])) 0 [(0, .ref b)] [] from z s.heap [] _ rfl (cW_P (fun j hj => absurd hj (Nat.not_lt_zero j))) va_S.rf hl
  refine o_new E (ci := 4) (q := (RX4, TX4, 10)) (fs := [.null, .null, .null, .null, .null, .null, .null, .null, .null, .null]) rfl (lw_dd lwk0 0 rfl) (m_wck_ok (l := [(Cond.classLink R_law 7 RX4, 66), (Cond.instantiable RX4 10, 67), (Cond.initialized RX4, 55)]) (by decide +kernel)) (fun j hj => by have hj : j < 10 := hj; rcases (show j = 0 ∨ j = 1 ∨ j = 2 ∨ j = 3 ∨ j = 4 ∨ j = 5 ∨ j = 6 ∨ j = 7 ∨ j = 8 ∨ j = 9 by omega) with rfl | rfl | rfl | rfl | rfl | rfl | rfl | rfl | rfl | rfl <;> rfl) ⟨Nat.le_of_ble_eq_true rfl, Nat.le_of_ble_eq_true rfl⟩ ?_
  refine o_dup E (lw_dd lwk0 1 rfl) ?_
  refine LC_cg (G := fun _ => .inr (4, [.null, .null, .null, .null, .null, .null, .null, .null, .null, .null])) (fun j hj => by obtain rfl : j = 0 := (by omega); rfl) ?_
  refine o_call E (o := 0) (k_X4 l D cs s.heap.size) (lw_dd lwk0 2 rfl) (m_wck_ok (l := [(Cond.methodLink R_law 9 yX4_init, 68), (Cond.instanceMethod yX4_init, 69), (Cond.initialized RX4, 55), (Cond.code yX4_init cX4_init 2 none, 70)]) (by decide +kernel)) rfl ⟨by decide +kernel, by decide +kernel, by decide +kernel⟩ ⟨Nat.le_of_ble_eq_true rfl, Nat.le_of_ble_eq_true rfl⟩ ⟨Nat.le_of_ble_eq_true rfl, Nat.le_of_ble_eq_true rfl⟩ (Nat.le_of_ble_eq_true rfl) (fun u hu => ?_)
  refine o_astore E (lv' := [(1, .ref (s.heap.size + 0)), (0, .ref b)]) (lw_dd lwk0 3 rfl) rfl ?_
  refine o_new E (ci := 5) (q := (RX5, TX5, 17)) (fs := [.null, .null, .null, .null, .int 0, .int 0, .int 0, .int 0, .null, .null, .null, .null, .null, .null, .null, .null, .null]) rfl (lw_dd lwk0 4 rfl) (m_wck_ok (l := [(Cond.classLink R_law 10 RX5, 671), (Cond.instantiable RX5 17, 672), (Cond.initialized RX5, 62)]) (by decide +kernel)) (fun j hj => by have hj : j < 17 := hj; rcases (show j = 0 ∨ j = 1 ∨ j = 2 ∨ j = 3 ∨ j = 4 ∨ j = 5 ∨ j = 6 ∨ j = 7 ∨ j = 8 ∨ j = 9 ∨ j = 10 ∨ j = 11 ∨ j = 12 ∨ j = 13 ∨ j = 14 ∨ j = 15 ∨ j = 16 by omega) with rfl | rfl | rfl | rfl | rfl | rfl | rfl | rfl | rfl | rfl | rfl | rfl | rfl | rfl | rfl | rfl | rfl <;> rfl) ⟨Nat.le_of_ble_eq_true rfl, Nat.le_of_ble_eq_true rfl⟩ ?_
  refine o_dup E (lw_dd lwk0 5 rfl) ?_
  refine LC_cg (G := mF0 cs s.heap.size u) (fun j hj => ?_) ?_
  · unfold mF0
    by_cases q : j < 528
    · rw [if_pos q]
      exact va_up_ne _ _ (by omega)
    · obtain rfl : j = 528 := by omega
      rw [if_neg q]
      exact va_up_self _ _ _
  refine o_call E (o := 528) (k_X5 l D cs s.heap.size u) (lw_dd lwk0 6 rfl) (m_wck_ok (l := [(Cond.methodLink R_law 12 yX5_init, 673), (Cond.instanceMethod yX5_init, 674), (Cond.initialized RX5, 62), (Cond.code yX5_init cX5_init 1 none, 675)]) (by decide +kernel)) rfl ⟨by decide +kernel, by decide +kernel, by decide +kernel⟩ ⟨Nat.le_of_ble_eq_true rfl, Nat.le_of_ble_eq_true rfl⟩ ⟨Nat.le_of_ble_eq_true rfl, Nat.le_of_ble_eq_true rfl⟩ (Nat.le_of_ble_eq_true rfl) (fun I hI => ?_)
  refine o_astore E (lv' := [(2, .ref (s.heap.size + 528)), (1, .ref (s.heap.size + 0)), (0, .ref b)]) (lw_dd lwk0 7 rfl) rfl ?_
  refine o_iconst E (v := nI 0) (lw_dd lwk0 8 rfl) rfl ?_
  refine o_istore E (lv' := [(3, .int (nI 0)), (2, .ref (s.heap.size + 528)), (1, .ref (s.heap.size + 0)), (0, .ref b)]) (lw_dd lwk0 9 rfl) rfl ?_
  intro H locs ls hz hP hS hl
  have E2 : lEnv p s m meth c b L xs D cs s.heap.size := ⟨hx, hb, hml, hown, law_tw hts, hX, hbl, hT.1, Nat.le_refl _, hL, hr, hlk⟩
  refine W.widen (k := 600) (n := 60000) (Nat.le_of_ble_eq_true rfl) (Nat.le_of_ble_eq_true rfl) ?_
  exact L_loop E2 L 0 I J0 (Nat.sub_le L 0) (Nat.zero_le _) (SR_0 hu hI) H locs ls (world_of hP) hS (lv_sub hl [3, 2, 1, 0] rfl)
set_option maxHeartbeats 4000000 in
theorem lw_walk (l : Launch) (b : Addr) (xs : List Int32) : MetFree l x (headSpec (Jvm.Cond.code x code maxLocals ret :: tables_1) room_1) (lw_P b xs) (fun _ _ _ _ _ => True) lw_Q := by
  refine MetFree.of_bodyS (code := code) (maxLocals := maxLocals) (ret := ret) (by decide) ?_ ?_
  · intro args s m h hn
    obtain ⟨meth, c, h1, h2, h3, h4, h5, h6, -, -⟩ := Cond.code_spec hn (atoms_spec (ws := Jvm.Cond.code x code maxLocals ret :: tables_1) h _ List.mem_cons_self)
    exact ⟨meth, c, h1, h2, h3, h4, h5, h6⟩
  · intro p e s m args below meth c s₁ B hml0 hP _
    obtain ⟨rfl, hx, hbd, hgv⟩ := hP
    obtain ⟨scr, harrAt, hlist, hof, hsmall⟩ := hx
    obtain ⟨hcb, hkn, -, -⟩ := State.arrayAt?_spec harrAt
    have hown : s.vm.findClass R_law = some m.cls := findClass_of_methodNamed B.named
    have hts0 : ∀ c ∈ (Jvm.Cond.code x code maxLocals ret :: tables_1), c.before #[Value.ref b] s = true := atoms_spec (ws := Jvm.Cond.code x code maxLocals ret :: tables_1) B.pre
    have hts : ∀ w ∈ lw_tbl, w.before #[Value.ref b] s = true := k2_hts_sels lw_privs (fun w hw => hts0 w (List.mem_cons_of_mem _ hw)) lw_privs_ok
    have hml : c.maxLocals = 4 := B.maxLocals_eq (hts0 _ List.mem_cons_self)
    have X₀ : Stand p l e room_1 s m #[Value.ref b] below meth c s₁ [] 0 0 := Stand.of_body B
    have hh0 : s₁.heap = s.heap := by rw [B.state]; rfl
    have hsz : scr.slots.size = xs.length := by rw [← Array.length_toList, hlist, List.length_map]
    have hval : ∀ j : Nat, j < xs.length → scr.slots[j]? = some (.int (xs.getD j 0)) := fun j hj => by
      rw [← Array.getElem?_toList, hlist]
      simp [hj]
    have hbl : b < s.heap.size := (Array.getElem?_eq_some_iff.mp hcb).1
    have hX : va_X b xs.length (fun j => xs.getD j 0) s s.heap := ⟨scr, hcb, hof, hkn, hsz, hval⟩
    have K : W p l e room_1 s m #[Value.ref b] below meth c s₁.heap [] 0 0 (lw_Z below #[Value.ref b] s) (entryFrame m ([Value.ref b] : List Value).toArray 4) := by
      rw [hh0]
      exact whole_start l hbd ⟨B.exec, B.bytes, B.returns, hml, hown, hts, hX, hbl, B.notSynchronized, hgv⟩
    obtain ⟨t, a1, o, b1, b2, b3⟩ := K s₁ rfl X₀
    exact ⟨t, o, a1, b1, b2, b3⟩
theorem lw_pre_spec {args : Array Value} {s : State} (h : (Jvm.Cond.and given_1 narrow_1).before args s = true) (hr : rest_1_c.before args s = true) : ∃ (b : Addr) (xs : List Int32), lw_P b xs args s := by
  have hs := flat_of_before _ h
  have hq := flat_of_before _ hr
  have hc : (Cond.count 1).before args s = true := hs _ (by decide +kernel)
  have harr : (Cond.arrayOf (.arg 0) .int).before args s = true := hs _ (by decide +kernel)
  have hle : (Cond.le (.length (.arg 0)) (.int 2560)).before args s = true := hs _ (by decide +kernel)
  have hlen : (Cond.isInt (.length (.arg 0))).before args s = true := hq _ (by decide +kernel)
  have hall : (Cond.all (.arg 0) (.isInt (.elem (.arg 0) (.index 0)))).before args s = true := hq _ (by decide +kernel)
  obtain ⟨b, xs, hb, hx⟩ := State.ints_of_pre rfl harr hlen hall
  have hsm : xs.length < 2 ^ 31 := hx.choose_spec.2.2.2
  have hev : (Term.length (.arg 0)).eval args s none [] s = some (.int xs.length.toInt32) := hx.length_eval hb
  have hv := Cond.le_ints hev (show (Term.int 2560).eval args s none [] s = some (.int 2560) from rfl)
  have hd : xs.length.toInt32 ≤ 2560 := by
    simpa [Cond.before, Cond.holds, hv] using hle
  have hN : xs.length ≤ 2560 := (Int32.ofNat_le_ofNat hsm (by decide)).mp (show Int32.ofNat xs.length ≤ Int32.ofNat 2560 from hd)
  exact ⟨b, xs, Cond.one_arg hc (show args[0]? = some (.ref b) from hb), hx, hN, h⟩
theorem lw_comes (l : Launch) : Comes l x (Jvm.Cond.code x code maxLocals ret :: tables_1) room_1 (fun tb e args s => Calls_1 tb e args s ∧ rest_1 tb e args s ∧ Pre_1 tb e args s)
    (fun _ _ args s o t => lw_Q args s o t) := by
  intro p e ha hc hk s m args below hf hfit hheap happ hpre
  obtain ⟨b, xs, hP⟩ := lw_pre_spec hpre.2.2 hpre.2.1
  obtain ⟨k, o, h1, h2, h3, hQ⟩ := lw_walk l b xs p e ha hc hk s m args below hf ((Spec.applies_iff_loose hf).mp happ).1 hP trivial
  exact ⟨k, o, h1, h2, h3, hQ⟩
theorem lw_frame {s t : State} {o : Outcome} {args : Array Value} (h : Framed s o t [] 600000 7302250) :
    Framed s o t (fieldLocs frame_1_writes args s ++ arrayLocs frame_1_arrays args s ++ staticLocs frame_1_statics s) 600000 7302250 := h
theorem lw_limb (L : Cond) (hL : ∀ (args : Array Value) (s t : State), L.after args s (.returned (some (.int 1))) t = true) :
    ArmFor flags0 classFile x code maxLocals ret World_1 tables_1 room_1 Calls_1 rest_1 Pre_1
      (fun tb e a s o t => postC L tb e a s o t ∧ Framed s o t (fieldLocs frame_1_writes a s ++ arrayLocs frame_1_arrays a s ++ staticLocs frame_1_statics s) 600000 7302250) := by
  intro l _ _ _ p e ha hc hk s m args below hf hfit hheap happ hpre
  obtain ⟨k, o, h1, h2, h3, rfl, hF⟩ := lw_comes l p e ha hc hk s m args below hf hfit hheap happ hpre
  exact ⟨k, _, h1, h2, h3, hL args s _, lw_frame hF⟩
theorem i_vc : Claimed_1_1 ∧ Claimed_1_2 := ⟨lw_limb limb_1_1 (fun args s t => by simp [limb_1_1, Cond.after, Cond.holds, Cond.value]), lw_limb limb_1_2 (fun args s t => Cond.after_iff.mpr (by
  first | (rw [show limb_1_2 = Cond.eq .result (.int 1) from rfl, Cond.eq_ints (x := 1) (y := 1) rfl rfl]; simp; done) | (simp [limb_1_2, Cond.value, Term.eval]; done)))⟩

