/-! ===== calls of proved methods over a part of the cells; constructors of Weights and Hand ===== -/
section CG
variable {p : Program} {l : Launch} {e : Env} {R : Room} {s : State} {m : MethodId} {args : Array Value} {below : List Frame} {meth : Method} {c : Code} {Q : State → Prop} {cc : ByteArray} {own : String}
variable {D : va_G} {cs : Nat → ClassId} {h o nL : Nat} {pc n sl : Nat} {F : Nat → va_E} {lv : List (Nat × Value)} {st : List Value}
theorem v_call {y : MethodName} {bytes : ByteArray} {maxL : Nat} {ret : Option FieldType} {fr lc : Nat} {PT : mSH → mRF → mPT} {ad : Nat → Nat} {sh : mSH} {rf : mRF} {N : Nat} {H : Heap} {locs : List Loc} {cells slots : Nat} {ls : Array Slot} {rest st0 : List Value} {K : mKT} {A0 : Nat → Prop} {As1 : List mPV} {I : mPI} {J : mPJ} {i k nA ci : Nat} {q : vw_C}
    (hM : m_Mt y bytes maxL ret fr lc PT) (hx : p.tables.exec = Jvm.exec) (hb : c.code = cc) (hml : c.maxLocals = nL) (hown : s.vm.findClass own = some m.cls) (hts : ∀ w ∈ m_tw, w.before args s = true) (hK : va_K D m_cl (m_ty cs) s) (hi : ∀ i j, i < N → j < N → ad i = ad j → i = j) (hN : ∀ i, sh i ≠ .inr (9, 0) → i < N) (hcl : m_cl[ci]? = some q) (hq : q.1 = y.cls)
    (hw : ∀ w ∈ [Cond.methodLink own k y, Cond.instanceMethod y, Cond.selects y.cls y y, Cond.initialized y.cls, Cond.code y bytes maxL ret], w ∈ m_tb) (hd : y.cls = y.cls ∧ y.cls ≠ "java/lang/invoke/MethodHandle" ∧ y.cls ≠ "java/lang/invoke/VarHandle" ∧ (parseMethodDescriptor y.desc).map (fun d => d.parameters.length) = some nA) (hR : fr + 1 ≤ R.frames ∧ 8 + (maxL + 11) + lc ≤ R.locals) (hcell : cells ≤ R.cells ∧ slots ≤ R.slots)
    (hpt : PT sh rf (.inr (.inr i) :: As1) I J K) (hsh : sh i = .inl ci) (hP : va_P D m_cl (m_wl cs ad sh rf N I J) H) (hS : va_S A0 s.heap H locs) (hA : ∀ q, m_A ad N q → A0 q) (hlen : As1.length = nA) (hls : ls.size = nL) (hst : (rest.map fun v => v.category).sum ≤ 8) (hdec : decode cc pc = .ok (.invokevirtual k, 3)) (hst0 : st0 = (As1.map (m_ev ad)).reverse ++ .ref (ad i) :: rest)
    (kk : ∀ r I1 J1 (H1 : Heap) (locs1 : List Loc), K r I1 J1 → va_P D m_cl (m_wl cs ad sh rf N I1 J1) H1 → H.size ≤ H1.size → (∀ q : Nat, q < H.size → ¬ m_A ad N q → H1[q]? = H[q]?) → va_S A0 s.heap H1 locs1 → W p l e R s m args below meth c H1 locs1 cells slots Q (F0 m (pc + 3) ls ((m_ol r).map (m_ev ad) ++ rest))) : W p l e R s m args below meth c H locs cells slots Q (F0 m pc ls st0) := by
  subst hst0
  have hiN : i < N := hN i (by rw [hsh]; simp)
  have hg : GoodIn m_tw (wsV own k y.cls y (m_ws y bytes maxL ret)) := m_goodIn (fun w hw1 => by
    rcases List.mem_append.mp hw1 with z | z
    · exact hw w (by simp at z ⊢; rcases z with z | z | z | z <;> simp [z])
    · rcases List.mem_cons.mp z with z | z
      · exact hw w (by simp [z])
      · exact z)
  have hrv : ∃ cell : Cell, H[ad i]? = some cell ∧ cell.vm.isStatics = false ∧ s.vm.findClass y.cls = some cell.cls := by
    rw [← hq]
    exact va_recv hK hP hcl (m_wO hsh hiN)
  exact g_run (va_runV (b := ad i) (As := As1.map (m_ev ad)) (rest := rest) (locs := locs) (cells := cells) (slots := slots) (below := below) (meth := meth) (e := e) ⟨hx, hb, hml, hown, hts⟩ (hM l D cs ad sh rf N _ I J K hi hN hpt) (cwV nA hts hg rfl rfl rfl hd hR) ⟨m_blind, hrv, fun U hU hW => ⟨rfl, by rw [hU]; exact hP, va_K.moved hW.alike hK, (m_nw.of hts).warm hW⟩⟩ rfl (by rw [List.length_map]; exact hlen) hls rfl (lv_room hst) hdec hcell) hS hA kk
end CG
theorem T3' {dF dF' G : Nat → va_E} {X fr : va_E} {k mc : Nat} (hk : k ≠ 0) (hd : ∀ j, j < k → dF j = dF' j) (hG : ∀ j, j < mc + 1 → G j = dF' (k + j)) (j : Nat) (hj : j < k + mc + 1) : (fun j => if j < k then va_up (va_up dF 0 X) k fr j else G (j - k)) j = va_up dF' 0 X j := by
  show (if j < k then va_up (va_up dF 0 X) k fr j else G (j - k)) = _
  by_cases q : j < k
  · rw [if_pos q, va_up_ne _ _ (by omega)]
    unfold va_up
    rw [hd j q]
  · rw [if_neg q, hG (j - k) (by omega), va_up_ne _ _ (by omega), show k + (j - k) = j by omega]
def pG (cs : Nat → ClassId) (h : Nat) : Nat → va_E := va_up (pF cs h 64 12) 0 (pX h)
def wF (cs : Nat → ClassId) (h j : Nat) : va_E := if j = 1 then cZ cs 0 19 else if j = 2 then cZ cs 1 12 else pG cs (h + 3) (j - 3)
def wX (h : Nat) : va_E := .inr (3, [.int 0, .int 11, .int 0, .int 0, .ref (h + 1), .ref (h + 2), .ref (h + 3), .int 1])
def wG (cs : Nat → ClassId) (h : Nat) : Nat → va_E := va_up (wF cs h) 0 (wX h)
theorem wF_p (cs : Nat → ClassId) (h j : Nat) : pG cs (h + 3) j = wF cs h (3 + j) := by
  unfold wF
  rw [if_neg (by omega), if_neg (by omega), Nat.add_sub_cancel_left]

set_option maxRecDepth 4000 in
theorem k_X3 (l : Launch) (D : va_G) (cs : Nat → ClassId) (h : Nat) : cM l D cs yX3_init cX3_init 1 3 90 4100 [] (fun _ => .inr (3, [.int 0, .int 0, .int 0, .int 0, .null, .null, .null, .int 0])) h 0 161 (fun _ => True) (fun _ => wG cs h) := by
  refine c_method (by decide +kernel) rfl (Nat.le_of_ble_eq_true rfl) ?_
  intro p e s m below meth c E hr0 hlk
  refine CG_cg (T0 (dF := wF cs h)) ?_
  refine g_aload E 0 (show decode cX3_init 0 = .ok (.aload_n 0, 1) by decide +kernel) rfl ?_
  refine g_obj E (show decode cX3_init 1 = .ok (.invokespecial 3, 3) by decide +kernel) (m_wck_ok (l := [(Cond.methodLink RX3 3 Lib.objectInit, 79), (Cond.instanceMethod Lib.objectInit, 72), (Cond.code Lib.objectInit ⟨#[0xb1]⟩ 1 none, 73)]) (by decide +kernel)) ⟨Nat.le_of_ble_eq_true rfl, Nat.le_of_ble_eq_true rfl⟩ (Nat.le_of_ble_eq_true rfl) ?_
  refine g_aload E 0 (show decode cX3_init 4 = .ok (.aload_n 0, 1) by decide +kernel) rfl ?_
  refine g_iconst E (v := 0) (show decode cX3_init 5 = .ok (.iconst 0, 1) by decide +kernel) (by decide +kernel) ?_
  refine g_put E (ci := 3) (k := 0) (q := (RX3, TX3, 8)) 0 (show decode cX3_init 6 = .ok (.putfield 9, 3) by decide +kernel) rfl (by decide) rfl rfl (by decide) (m_one 135 (by decide +kernel)) (Or.inr rfl) rfl rfl (Nat.le_of_ble_eq_true rfl) ?_
  refine CG_cg (fun j _ => T1 j) ?_
  refine g_aload E 0 (show decode cX3_init 9 = .ok (.aload_n 0, 1) by decide +kernel) rfl ?_
  refine g_bipush E (v := 11) (show decode cX3_init 10 = .ok (.bipush 11, 2) by decide +kernel) (by decide +kernel) ?_
  refine g_put E (ci := 3) (k := 1) (q := (RX3, TX3, 8)) 0 (show decode cX3_init 12 = .ok (.putfield 15, 3) by decide +kernel) rfl (by decide) rfl rfl (by decide) (m_one 137 (by decide +kernel)) (Or.inr rfl) rfl rfl (Nat.le_of_ble_eq_true rfl) ?_
  refine CG_cg (fun j _ => T1 j) ?_
  refine g_aload E 0 (show decode cX3_init 15 = .ok (.aload_n 0, 1) by decide +kernel) rfl ?_
  refine g_bipush E (v := 19) (show decode cX3_init 16 = .ok (.bipush 19, 2) by decide +kernel) (by decide +kernel) ?_
  refine g_newa E (ty := .int) (N' := 19) 0 (show decode cX3_init 18 = .ok (.newarray .int, 2) by decide +kernel) rfl rfl (m_one 107 (by decide +kernel)) (fun _ => rfl) rfl (by decide) (by decide) ⟨Nat.le_of_ble_eq_true rfl, Nat.le_of_ble_eq_true rfl⟩ ?_
  refine CG_cg (fun j _ => T2 (by decide) rfl j) ?_
  refine g_put E (ci := 3) (k := 4) (q := (RX3, TX3, 8)) 0 (show decode cX3_init 20 = .ok (.putfield 18, 3) by decide +kernel) rfl (by decide) rfl rfl (by decide) (m_one 143 (by decide +kernel)) (Or.inl ⟨rfl, rfl⟩) rfl rfl (Nat.le_of_ble_eq_true rfl) ?_
  refine CG_cg (fun j _ => T1 j) ?_
  refine g_aload E 0 (show decode cX3_init 23 = .ok (.aload_n 0, 1) by decide +kernel) rfl ?_
  refine g_bipush E (v := 12) (show decode cX3_init 24 = .ok (.bipush 12, 2) by decide +kernel) (by decide +kernel) ?_
  refine g_newa E (ty := .long) (N' := 12) 1 (show decode cX3_init 26 = .ok (.newarray .long, 2) by decide +kernel) rfl rfl (m_one 108 (by decide +kernel)) (fun _ => rfl) rfl (by decide) (by decide) ⟨Nat.le_of_ble_eq_true rfl, Nat.le_of_ble_eq_true rfl⟩ ?_
  refine CG_cg (fun j _ => T2 (by decide) rfl j) ?_
  refine g_put E (ci := 3) (k := 5) (q := (RX3, TX3, 8)) 0 (show decode cX3_init 28 = .ok (.putfield 22, 3) by decide +kernel) rfl (by decide) rfl rfl (by decide) (m_one 145 (by decide +kernel)) (Or.inl ⟨rfl, rfl⟩) rfl rfl (Nat.le_of_ble_eq_true rfl) ?_
  refine CG_cg (fun j _ => T1 j) ?_
  refine g_aload E 0 (show decode cX3_init 31 = .ok (.aload_n 0, 1) by decide +kernel) rfl ?_
  refine g_new E (ci := 2) (q := (RX2, TX2, 6)) (fs := [.null, .null, .null, .null, .int 0, .int 0]) rfl (show decode cX3_init 32 = .ok (.new 26, 3) by decide +kernel) (m_wck_ok (l := [(Cond.classLink RX3 26 RX2, 80), (Cond.instantiable RX2 6, 81), (Cond.initialized RX2, 57)]) (by decide +kernel)) (fun j hj => by have hj : j < 6 := hj; rcases (show j = 0 ∨ j = 1 ∨ j = 2 ∨ j = 3 ∨ j = 4 ∨ j = 5 by omega) with rfl | rfl | rfl | rfl | rfl | rfl <;> rfl) ⟨Nat.le_of_ble_eq_true rfl, Nat.le_of_ble_eq_true rfl⟩ ?_
  refine g_dup E (show decode cX3_init 35 = .ok (.dup, 1) by decide +kernel) ?_
  refine g_call E (nA := 0) (k_X2 l D cs (h + 3)) (show decode cX3_init 36 = .ok (.invokespecial 28, 3) by decide +kernel) rfl (m_wck_ok (l := [(Cond.methodLink RX3 28 yX2_init, 82), (Cond.instanceMethod yX2_init, 83), (Cond.initialized RX2, 57), (Cond.code yX2_init cX2_init 2 none, 84)]) (by decide +kernel)) rfl rfl ⟨by decide +kernel, by decide +kernel, by decide +kernel⟩ ⟨Nat.le_of_ble_eq_true rfl, Nat.le_of_ble_eq_true rfl⟩ ⟨Nat.le_of_ble_eq_true rfl, Nat.le_of_ble_eq_true rfl⟩ (Nat.le_of_ble_eq_true rfl) rfl (fun u hu => ?_)
  refine CG_cg (G := va_up (wF cs h) 0 _) (fun j hj => T3 (k := 3) (mc := 158) (by decide) (fun j _ => wF_p cs h j) j hj) ?_
  refine g_put E (ci := 3) (k := 6) (q := (RX3, TX3, 8)) 0 (show decode cX3_init 39 = .ok (.putfield 29, 3) by decide +kernel) rfl (by decide) rfl rfl (by decide) (m_one 147 (by decide +kernel)) (Or.inl ⟨rfl, rfl⟩) rfl rfl (Nat.le_of_ble_eq_true rfl) ?_
  refine CG_cg (fun j _ => T1 j) ?_
  refine g_aload E 0 (show decode cX3_init 42 = .ok (.aload_n 0, 1) by decide +kernel) rfl ?_
  refine g_iconst E (v := 1) (show decode cX3_init 43 = .ok (.iconst 1, 1) by decide +kernel) (by decide +kernel) ?_
  refine g_put E (ci := 3) (k := 7) (q := (RX3, TX3, 8)) 0 (show decode cX3_init 44 = .ok (.putfield 33, 3) by decide +kernel) rfl (by decide) rfl rfl (by decide) (m_one 148 (by decide +kernel)) (Or.inr rfl) (by decide +kernel) (by decide +kernel) (Nat.le_of_ble_eq_true rfl) ?_
  refine CG_cg (fun j _ => T1 j) ?_
  exact g_ret (fun _ _ => 0) E hr0 hlk (show decode cX3_init 47 = .ok (.return_, 1) by decide +kernel) rfl (by decide) trivial (fun _ _ => rfl)
def sh2 : mSH := fun i => if i = 0 then .inl 0 else if i = 1 then .inr (0, 40) else .inr (9, 0)
def rf2 : mRF := fun _ _ => 1
theorem sh2_N (i : Nat) (h : sh2 i ≠ .inr (9, 0)) : i < 2 := by
  rcases Nat.lt_or_ge i 2 with q | q
  · exact q
  · refine absurd ?_ h
    unfold sh2
    rw [if_neg (by omega), if_neg (by omega)]
theorem sh2_B : BSh sh2 rf2 0 40 := ⟨rfl, rfl, by decide, by decide⟩
def b2O (u : cU) (a : Nat) : va_E := .inr (0, [.ref a, .int (u 0 1), .int (u 0 2)])
def b2A (cs : Nat → ClassId) (u : cU) : va_E := .inl (cs 0, 40, .inl (u 1))
section CG
variable {p : Program} {l : Launch} {e : Env} {R : Room} {s : State} {m : MethodId} {args : Array Value} {below : List Frame} {meth : Method} {c : Code} {Q : State → Prop} {cc : ByteArray} {own : String}
variable {D : va_G} {cs : Nat → ClassId} {h o nL : Nat} {pc n sl : Nat} {F : Nat → va_E} {lv : List (Nat × Value)} {st : List Value}
theorem g_lconst (E : cEnv p s m args meth c D cs h o cc nL own) {z : Fin 2} {v : Int64} (hd : decode cc pc = .ok (.lconst z, 1)) (hv : (match z.val with | 0 => (0 : Int64) | _ => 1) = v) (kk : CG p l e R s m args below meth c Q D h o nL (pc + 1) n F sl lv (.long v :: st)) : CG p l e R s m args below meth c Q D h o nL pc n F sl lv st := fun H locs ls hz hP hS hl => by
  refine lv_lconst E.1 E.2.1 hd ?_ (kk H locs ls hz hP hS hl)
  rw [← hv]
  match z with
  | 0 => rfl
  | 1 => rfl
theorem g_sL (E : cEnv p s m args meth c D cs h o cc nL own) {k : Nat} {v : Int64} (j : Nat) (hj : j + 1 < n + o + 1) (hF0 : F j = bO (h + j + 1)) (hF1 : F (j + 1) = cZ cs 0 40) (hd : decode cc pc = .ok (.invokevirtual k, 3)) (hw : ∀ w ∈ [Cond.methodLink own k yX0_setLong, Cond.instanceMethod yX0_setLong, Cond.selects RX0 yX0_setLong yX0_setLong, Cond.initialized RX0, Cond.code yX0_setLong cX0_setLong 5 none], w ∈ m_tb) (hR : 1 + 1 ≤ R.frames ∧ 8 + (5 + 11) + 20 ≤ R.locals) (hcell : n ≤ R.cells ∧ sl ≤ R.slots) (hst : (st.map fun v => v.category).sum ≤ 8) (kk : ∀ u : cU, BIs sh2 rf2 u 0 v.toInt → CG p l e R s m args below meth c Q D h o nL (pc + 3) n (va_up (va_up F j (b2O u (h + j + 1))) (j + 1) (b2A cs u)) sl lv st) : CG p l e R s m args below meth c Q D h o nL pc n F sl lv (.long v :: .ref (h + j) :: st) := fun H locs ls hz hP hS hl => by
  have had : ∀ a b : Nat, a < 2 → b < 2 → h + j + a = h + j + b → a = b := fun a b _ _ z => by omega
  have hP2 : va_P D m_cl (m_wl cs (fun a => h + j + a) sh2 rf2 2 (fun _ _ => 0) (fun _ _ => 0)) H := fun a q hq => by
    have ha : a < 2 := by
      have := (List.getElem?_eq_some_iff.mp hq).1
      rwa [m_wl_len] at this
    rw [m_wl_at _ _ _ _ _ _ _ ha] at hq
    rcases (show a = 0 ∨ a = 1 by omega) with rfl | rfl
    · cases hq
      have h1 := cW_of hP (j := j) (by omega)
      rw [hF0] at h1
      exact h1
    · cases hq
      have h1 := cW_of hP (j := j + 1) hj
      rw [hF1] at h1
      exact h1
  refine v_call (nA := 1) (N := 2) (ad := fun a => h + j + a) (sh := sh2) (rf := rf2) (i := 0) (As1 := [.inr (.inl v)]) (K := fun r I1 _ => r = none ∧ BIs sh2 rf2 I1 0 v.toInt) (rest := st) (A0 := fun q => h ≤ q) mt_X0_setLong E.1 E.2.1 E.2.2.1 E.2.2.2.1 E.2.2.2.2.1 E.2.2.2.2.2.2.2.1 had sh2_N (ci := 0) rfl rfl hw ⟨rfl, by decide +kernel, by decide +kernel, by decide +kernel⟩ hR hcell ⟨0, [.inr (.inl v)], rfl, rfl, 40, v, rfl, sh2_B, fun I1 _ hB => ⟨rfl, hB⟩⟩ rfl hP2 hS (fun q hq => ?_) rfl hl.1 hst hd rfl (fun r I1 J1 H1 locs1 hK1 hP1 hz1 hk1 hS1 => W_sz (fun hs => ?_))
  · obtain ⟨a, -, rfl⟩ := hq
    show h ≤ h + j + a
    omega
  · obtain ⟨rfl, hB⟩ := hK1
    have g0 := hP1 0 _ (m_wl_at cs (fun a => h + j + a) sh2 rf2 2 I1 J1 (i := 0) (by decide))
    have g1 := hP1 1 _ (m_wl_at cs (fun a => h + j + a) sh2 rf2 2 I1 J1 (i := 1) (by decide))
    have hP3 : va_P D m_cl (cW h (n + o + 1) (va_up (va_up F j (b2O I1 (h + j + 1))) (j + 1) (b2A cs I1))) H1 := cW_P (fun i hi => by
      by_cases z1 : i = j + 1
      · rw [z1, va_up_self]
        exact g1
      · rw [va_up_ne _ _ z1]
        by_cases z0 : i = j
        · rw [z0, va_up_self]
          exact g0
        · rw [va_up_ne _ _ z0]
          have h1 := cW_of hP (j := i) hi
          exact h1.kept (hk1 _ h1.lt (fun hq => by
            obtain ⟨a, ha, hq⟩ := hq
            have hq : h + i = h + j + a := hq
            omega)))
    exact kk I1 hB H1 locs1 ls (g_keep E hP3 hs) hP3 hS1 hl
end CG
def hF (cs : Nat → ClassId) (h j : Nat) : va_E := if j % 2 = 1 then bO (h + j + 1) else cZ cs 0 40
def hX (h : Nat) : va_E := .inr (1, [.ref (h + 1), .ref (h + 3), .ref (h + 5), .ref (h + 7), .int 1])
def hG (cs : Nat → ClassId) (h : Nat) (u : cU) : Nat → va_E := va_up (va_up (va_up (hF cs h) 0 (hX h)) 3 (b2O u (h + 4))) 4 (b2A cs u)
theorem hF_b {cs : Nat → ClassId} {h k : Nat} (ho : k % 2 = 1) : ∀ j, j < 1 + 1 → bG cs (h + k) (max 40 2) j = hF cs h (k + j) := fun j hj => by
  rcases (show j = 0 ∨ j = 1 by omega) with rfl | rfl
  · unfold bG hF
    rw [if_pos rfl, if_pos (by omega)]
    rfl
  · unfold bG hF
    rw [if_neg (by decide), if_neg (by omega)]
    rfl

set_option maxRecDepth 4000 in
theorem k_X1 (l : Launch) (D : va_G) (cs : Nat → ClassId) (h : Nat) : cM l D cs yX1_init cX1_init 1 4 104 200 [] (fun _ => .inr (1, [.null, .null, .null, .null, .int 0])) h 0 8 (fun u => BIs sh2 rf2 u 0 1) (fun u => hG cs h u) := by
  refine c_method (by decide +kernel) rfl (Nat.le_of_ble_eq_true rfl) ?_
  intro p e s m below meth c E hr0 hlk
  refine CG_cg (T0 (dF := hF cs h)) ?_
  refine g_aload E 0 (show decode cX1_init 0 = .ok (.aload_n 0, 1) by decide +kernel) rfl ?_
  refine g_obj E (show decode cX1_init 1 = .ok (.invokespecial 3, 3) by decide +kernel) (m_wck_ok (l := [(Cond.methodLink RX1 3 Lib.objectInit, 172), (Cond.instanceMethod Lib.objectInit, 72), (Cond.code Lib.objectInit ⟨#[0xb1]⟩ 1 none, 73)]) (by decide +kernel)) ⟨Nat.le_of_ble_eq_true rfl, Nat.le_of_ble_eq_true rfl⟩ (Nat.le_of_ble_eq_true rfl) ?_
  refine g_aload E 0 (show decode cX1_init 4 = .ok (.aload_n 0, 1) by decide +kernel) rfl ?_
  refine g_new E (ci := 0) (q := (RX0, TX0, 3)) (fs := [.null, .int 0, .int 0]) rfl (show decode cX1_init 5 = .ok (.new 9, 3) by decide +kernel) (m_wck_ok (l := [(Cond.classLink RX1 9 RX0, 173), (Cond.instantiable RX0 3, 88), (Cond.initialized RX0, 58)]) (by decide +kernel)) (fun j hj => by have hj : j < 3 := hj; rcases (show j = 0 ∨ j = 1 ∨ j = 2 by omega) with rfl | rfl | rfl <;> rfl) ⟨Nat.le_of_ble_eq_true rfl, Nat.le_of_ble_eq_true rfl⟩ ?_
  refine g_dup E (show decode cX1_init 8 = .ok (.dup, 1) by decide +kernel) ?_
  refine g_bipush E (v := 40) (show decode cX1_init 9 = .ok (.bipush 40, 2) by decide +kernel) (by decide +kernel) ?_
  refine g_call E (nA := 1) (k_X0 l D cs (h + 1) 40 (by decide)) (show decode cX1_init 11 = .ok (.invokespecial 11, 3) by decide +kernel) rfl (m_wck_ok (l := [(Cond.methodLink RX1 11 yX0_init, 174), (Cond.instanceMethod yX0_init, 90), (Cond.initialized RX0, 58), (Cond.code yX0_init cX0_init 2 none, 91)]) (by decide +kernel)) rfl rfl ⟨by decide +kernel, by decide +kernel, by decide +kernel⟩ ⟨Nat.le_of_ble_eq_true rfl, Nat.le_of_ble_eq_true rfl⟩ ⟨Nat.le_of_ble_eq_true rfl, Nat.le_of_ble_eq_true rfl⟩ (Nat.le_of_ble_eq_true rfl) rfl (fun u hu => ?_)
  refine CG_cg (G := va_up (hF cs h) 0 _) (fun j hj => T3 (k := 1) (mc := 1) (by decide) (hF_b (by decide)) j hj) ?_
  refine g_put E (ci := 1) (k := 0) (q := (RX1, TX1, 5)) 0 (show decode cX1_init 14 = .ok (.putfield 14, 3) by decide +kernel) rfl (by decide) rfl rfl (by decide) (m_one 183 (by decide +kernel)) (Or.inl ⟨rfl, rfl⟩) rfl rfl (Nat.le_of_ble_eq_true rfl) ?_
  refine CG_cg (fun j _ => T1 j) ?_
  refine g_aload E 0 (show decode cX1_init 17 = .ok (.aload_n 0, 1) by decide +kernel) rfl ?_
  refine g_new E (ci := 0) (q := (RX0, TX0, 3)) (fs := [.null, .int 0, .int 0]) rfl (show decode cX1_init 18 = .ok (.new 9, 3) by decide +kernel) (m_wck_ok (l := [(Cond.classLink RX1 9 RX0, 173), (Cond.instantiable RX0 3, 88), (Cond.initialized RX0, 58)]) (by decide +kernel)) (fun j hj => by have hj : j < 3 := hj; rcases (show j = 0 ∨ j = 1 ∨ j = 2 by omega) with rfl | rfl | rfl <;> rfl) ⟨Nat.le_of_ble_eq_true rfl, Nat.le_of_ble_eq_true rfl⟩ ?_
  refine g_dup E (show decode cX1_init 21 = .ok (.dup, 1) by decide +kernel) ?_
  refine g_bipush E (v := 40) (show decode cX1_init 22 = .ok (.bipush 40, 2) by decide +kernel) (by decide +kernel) ?_
  refine g_call E (nA := 1) (k_X0 l D cs (h + 3) 40 (by decide)) (show decode cX1_init 24 = .ok (.invokespecial 11, 3) by decide +kernel) rfl (m_wck_ok (l := [(Cond.methodLink RX1 11 yX0_init, 174), (Cond.instanceMethod yX0_init, 90), (Cond.initialized RX0, 58), (Cond.code yX0_init cX0_init 2 none, 91)]) (by decide +kernel)) rfl rfl ⟨by decide +kernel, by decide +kernel, by decide +kernel⟩ ⟨Nat.le_of_ble_eq_true rfl, Nat.le_of_ble_eq_true rfl⟩ ⟨Nat.le_of_ble_eq_true rfl, Nat.le_of_ble_eq_true rfl⟩ (Nat.le_of_ble_eq_true rfl) rfl (fun u hu => ?_)
  refine CG_cg (G := va_up (hF cs h) 0 _) (fun j hj => T3 (k := 3) (mc := 1) (by decide) (hF_b (by decide)) j hj) ?_
  refine g_put E (ci := 1) (k := 1) (q := (RX1, TX1, 5)) 0 (show decode cX1_init 27 = .ok (.putfield 20, 3) by decide +kernel) rfl (by decide) rfl rfl (by decide) (m_one 185 (by decide +kernel)) (Or.inl ⟨rfl, rfl⟩) rfl rfl (Nat.le_of_ble_eq_true rfl) ?_
  refine CG_cg (fun j _ => T1 j) ?_
  refine g_aload E 0 (show decode cX1_init 30 = .ok (.aload_n 0, 1) by decide +kernel) rfl ?_
  refine g_new E (ci := 0) (q := (RX0, TX0, 3)) (fs := [.null, .int 0, .int 0]) rfl (show decode cX1_init 31 = .ok (.new 9, 3) by decide +kernel) (m_wck_ok (l := [(Cond.classLink RX1 9 RX0, 173), (Cond.instantiable RX0 3, 88), (Cond.initialized RX0, 58)]) (by decide +kernel)) (fun j hj => by have hj : j < 3 := hj; rcases (show j = 0 ∨ j = 1 ∨ j = 2 by omega) with rfl | rfl | rfl <;> rfl) ⟨Nat.le_of_ble_eq_true rfl, Nat.le_of_ble_eq_true rfl⟩ ?_
  refine g_dup E (show decode cX1_init 34 = .ok (.dup, 1) by decide +kernel) ?_
  refine g_bipush E (v := 40) (show decode cX1_init 35 = .ok (.bipush 40, 2) by decide +kernel) (by decide +kernel) ?_
  refine g_call E (nA := 1) (k_X0 l D cs (h + 5) 40 (by decide)) (show decode cX1_init 37 = .ok (.invokespecial 11, 3) by decide +kernel) rfl (m_wck_ok (l := [(Cond.methodLink RX1 11 yX0_init, 174), (Cond.instanceMethod yX0_init, 90), (Cond.initialized RX0, 58), (Cond.code yX0_init cX0_init 2 none, 91)]) (by decide +kernel)) rfl rfl ⟨by decide +kernel, by decide +kernel, by decide +kernel⟩ ⟨Nat.le_of_ble_eq_true rfl, Nat.le_of_ble_eq_true rfl⟩ ⟨Nat.le_of_ble_eq_true rfl, Nat.le_of_ble_eq_true rfl⟩ (Nat.le_of_ble_eq_true rfl) rfl (fun u hu => ?_)
  refine CG_cg (G := va_up (hF cs h) 0 _) (fun j hj => T3 (k := 5) (mc := 1) (by decide) (hF_b (by decide)) j hj) ?_
  refine g_put E (ci := 1) (k := 2) (q := (RX1, TX1, 5)) 0 (show decode cX1_init 40 = .ok (.putfield 23, 3) by decide +kernel) rfl (by decide) rfl rfl (by decide) (m_one 187 (by decide +kernel)) (Or.inl ⟨rfl, rfl⟩) rfl rfl (Nat.le_of_ble_eq_true rfl) ?_
  refine CG_cg (fun j _ => T1 j) ?_
  refine g_aload E 0 (show decode cX1_init 43 = .ok (.aload_n 0, 1) by decide +kernel) rfl ?_
  refine g_new E (ci := 0) (q := (RX0, TX0, 3)) (fs := [.null, .int 0, .int 0]) rfl (show decode cX1_init 44 = .ok (.new 9, 3) by decide +kernel) (m_wck_ok (l := [(Cond.classLink RX1 9 RX0, 173), (Cond.instantiable RX0 3, 88), (Cond.initialized RX0, 58)]) (by decide +kernel)) (fun j hj => by have hj : j < 3 := hj; rcases (show j = 0 ∨ j = 1 ∨ j = 2 by omega) with rfl | rfl | rfl <;> rfl) ⟨Nat.le_of_ble_eq_true rfl, Nat.le_of_ble_eq_true rfl⟩ ?_
  refine g_dup E (show decode cX1_init 47 = .ok (.dup, 1) by decide +kernel) ?_
  refine g_bipush E (v := 40) (show decode cX1_init 48 = .ok (.bipush 40, 2) by decide +kernel) (by decide +kernel) ?_
  refine g_call E (nA := 1) (k_X0 l D cs (h + 7) 40 (by decide)) (show decode cX1_init 50 = .ok (.invokespecial 11, 3) by decide +kernel) rfl (m_wck_ok (l := [(Cond.methodLink RX1 11 yX0_init, 174), (Cond.instanceMethod yX0_init, 90), (Cond.initialized RX0, 58), (Cond.code yX0_init cX0_init 2 none, 91)]) (by decide +kernel)) rfl rfl ⟨by decide +kernel, by decide +kernel, by decide +kernel⟩ ⟨Nat.le_of_ble_eq_true rfl, Nat.le_of_ble_eq_true rfl⟩ ⟨Nat.le_of_ble_eq_true rfl, Nat.le_of_ble_eq_true rfl⟩ (Nat.le_of_ble_eq_true rfl) rfl (fun u hu => ?_)
  refine CG_cg (G := va_up (hF cs h) 0 _) (fun j hj => T3 (k := 7) (mc := 1) (by decide) (hF_b (by decide)) j hj) ?_
  refine g_put E (ci := 1) (k := 3) (q := (RX1, TX1, 5)) 0 (show decode cX1_init 53 = .ok (.putfield 26, 3) by decide +kernel) rfl (by decide) rfl rfl (by decide) (m_one 188 (by decide +kernel)) (Or.inl ⟨rfl, rfl⟩) rfl rfl (Nat.le_of_ble_eq_true rfl) ?_
  refine CG_cg (fun j _ => T1 j) ?_
  refine g_aload E 0 (show decode cX1_init 56 = .ok (.aload_n 0, 1) by decide +kernel) rfl ?_
  refine g_iconst E (v := 1) (show decode cX1_init 57 = .ok (.iconst 1, 1) by decide +kernel) (by decide +kernel) ?_
  refine g_put E (ci := 1) (k := 4) (q := (RX1, TX1, 5)) 0 (show decode cX1_init 58 = .ok (.putfield 29, 3) by decide +kernel) rfl (by decide) rfl rfl (by decide) (m_one 189 (by decide +kernel)) (Or.inr rfl) (by decide +kernel) (by decide +kernel) (Nat.le_of_ble_eq_true rfl) ?_
  refine CG_cg (fun j _ => T1 j) ?_
  refine CG_cg (G := va_up (hF cs h) 0 (hX h)) (fun _ _ => rfl) ?_
  refine g_aload E 0 (show decode cX1_init 61 = .ok (.aload_n 0, 1) by decide +kernel) rfl ?_
  refine g_get E (ci := 1) (k := 1) (q := (RX1, TX1, 5)) 0 (show decode cX1_init 62 = .ok (.getfield 20, 3) by decide +kernel) rfl (by decide) rfl rfl (by decide) (m_one 185 (by decide +kernel)) rfl ?_
  refine g_lconst E (v := 1) (show decode cX1_init 65 = .ok (.lconst 1, 1) by decide +kernel) rfl ?_
  refine g_sL E 3 (by decide) rfl rfl (show decode cX1_init 66 = .ok (.invokevirtual 33, 3) by decide +kernel) (m_wck_ok (l := [(Cond.methodLink RX1 33 yX0_setLong, 175), (Cond.instanceMethod yX0_setLong, 176), (Cond.selects RX0 yX0_setLong yX0_setLong, 177), (Cond.initialized RX0, 58), (Cond.code yX0_setLong cX0_setLong 5 none, 178)]) (by decide +kernel)) ⟨Nat.le_of_ble_eq_true rfl, Nat.le_of_ble_eq_true rfl⟩ ⟨Nat.le_of_ble_eq_true rfl, Nat.le_of_ble_eq_true rfl⟩ (Nat.le_of_ble_eq_true rfl) (fun u hu => ?_)
  exact g_ret u E hr0 hlk (show decode cX1_init 69 = .ok (.return_, 1) by decide +kernel) rfl (by decide) hu (fun _ _ => rfl)
