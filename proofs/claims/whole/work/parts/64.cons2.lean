/-! ===== constructors: Big, Polys ===== -/
section CG
variable {p : Program} {l : Launch} {e : Env} {R : Room} {s : State} {m : MethodId} {args : Array Value} {below : List Frame} {meth : Method} {c : Code} {Q : State → Prop} {cc : ByteArray} {own : String}
variable {D : va_G} {cs : Nat → ClassId} {h o nL : Nat} {pc n sl : Nat} {F : Nat → va_E} {lv : List (Nat × Value)} {st : List Value}
theorem g_max (E : cEnv p s m args meth c D cs h o cc nL own) {idx : Nat} {x y : Int32} (hd : decode cc pc = .ok (.invokestatic idx, 3)) (hw : ∀ w ∈ [Cond.methodLink own idx Lib.Math.max.name, Cond.static Lib.Math.max.name, Cond.initialized "java/lang/Math", Cond.code Lib.Math.max.name Lib.Math.max.code 2 (some .int)], w ∈ m_tb) (hR : 1 ≤ R.frames ∧ 21 ≤ R.locals) (hc : n ≤ R.cells ∧ sl ≤ R.slots) (hst : (st.map fun v => v.category).sum ≤ 8) (kk : CG p l e R s m args below meth c Q D h o nL (pc + 3) n F sl lv (.int (if x < y then y else x) :: st)) : CG p l e R s m args below meth c Q D h o nL pc n F sl lv (.int y :: .int x :: st) := fun H locs ls hz hP hS hl => by
  have := hR.2
  exact va_mmax E.1 E.2.1 (E.2.2.1.trans hl.1.symm) E.2.2.2.1 (cE_t E (hw _ (by simp))) (cE_t E (hw _ (by simp))) (cE_t E (hw _ (by simp))) (cE_t E (hw _ (by simp))) hR.1 (by omega) hc.1 hc.2 hd (kk H locs ls hz hP hS hl)
theorem g_run {ad : Nat → Nat} {sh : mSH} {rf : mRF} {N : Nat} {H : Heap} {locs : List Loc} {cells slots : Nat} {ls : Array Slot} {st0 rest : List Value} {K : mKT} {a : Array Value} {A0 : Nat → Prop} (hr : va_Run p l e R s m args below meth c H locs cells slots 0 0 (F0 m pc ls st0) rest (m_Q D cs ad sh rf N K a) (m_A ad N)) (hS : va_S A0 s.heap H locs) (hA : ∀ q, m_A ad N q → A0 q)
    (kk : ∀ r I1 J1 (H1 : Heap) (locs1 : List Loc), K r I1 J1 → va_P D m_cl (m_wl cs ad sh rf N I1 J1) H1 → H.size ≤ H1.size → (∀ q : Nat, q < H.size → ¬ m_A ad N q → H1[q]? = H[q]?) → va_S A0 s.heap H1 locs1 → W p l e R s m args below meth c H1 locs1 cells slots Q (F0 m (pc + 3) ls ((m_ol r).map (m_ev ad) ++ rest))) : W p l e R s m args below meth c H locs cells slots Q (F0 m pc ls st0) := by
  intro T hT X
  obtain ⟨v, st₀, t, T', L, h0, X', hL, e1, e2, ⟨⟨r, I1, J1, hv, hp, hw⟩, hz, hk⟩, stp⟩ := hr T hT X
  cases hv
  rw [h0] at hz hk
  obtain ⟨t2, a1, b1⟩ := kk r I1 J1 T'.heap (locs ++ L) hp (by rw [e1]; exact hw.1) (by rw [e1]; exact hz) (fun q h1 h2 => by rw [e1]; exact hk q h1 h2)
    ⟨Nat.le_trans hS.1 (by rw [e1]; exact hz), fun q h1 h2 => by rw [e1, hk q (Nat.lt_of_lt_of_le h1 hS.1) (fun z => h2 (hA q z))]; exact hS.2.1 q h1 h2, fun q hq => by
      rcases List.mem_append.mp hq with z | z
      · exact hS.2.2 q z
      · exact hA _ (hL q z)⟩ T' rfl X'
  refine ⟨t2, stp t2 ?_, b1⟩
  cases r <;> exact a1
theorem g_bitc (E : cEnv p s m args meth c D cs h o cc nL own) {idx c0 : Nat} (hc0 : c0 < 64) (hd : decode cc pc = .ok (.invokestatic idx, 3)) (hw : ∀ w ∈ [Cond.methodLink own idx yJ6_bitCount_0f7a4, Cond.static yJ6_bitCount_0f7a4, Cond.initialized RJ6, Cond.code yJ6_bitCount_0f7a4 cJ6_bitCount_0f7a4 1 (some .int)], w ∈ m_tb) (hR : 1 ≤ R.frames ∧ 20 ≤ R.locals) (hc : n ≤ R.cells ∧ sl ≤ R.slots) (hst : (st.map fun v => v.category).sum ≤ 8) (kk : CG p l e R s m args below meth c Q D h o nL (pc + 3) n F sl lv (.int (nI (popc c0)) :: st)) : CG p l e R s m args below meth c Q D h o nL pc n F sl lv (.int (nI c0) :: st) := fun H locs ls hz hP hS hl => by
  have hM := mt_J6_bitCount_0f7a4 l D cs (fun _ => 0) (fun _ => .inr (9, 0)) (fun _ _ => 0) 0 [.inl (nI c0)] (fun _ _ => 0) (fun _ _ => 0) (fun r _ _ => r = some (.inl (nI (popc c0)))) (fun i j hi => absurd hi (Nat.not_lt_zero i)) (fun i hi => absurd rfl hi) ⟨c0, rfl, hc0, rfl⟩
  have hts := E.2.2.2.2.1
  have hB : CallB R s args own idx yJ6_bitCount_0f7a4 cJ6_bitCount_0f7a4 1 (some .int) (m_ws yJ6_bitCount_0f7a4 cJ6_bitCount_0f7a4 1 (some .int)) (m_rm 0 0) 0 0 1 := callB_of 1 hts (m_wsg (hw _ (by simp))) rfl rfl rfl (cE_t E (w := Cond.initialized RJ6) (hw _ (by simp))) (cE_t E (hw _ (by simp))) ⟨by decide +kernel, by decide +kernel, by decide +kernel⟩ hR
  have hrun := va_runS (As := [.int (nI c0)]) (rest := st) (g := F0 m pc ls (.int (nI c0) :: st)) (locs := locs) (cells := n) (slots := sl) (below := below) (meth := meth) (e := e) (H := H) ⟨E.1, E.2.1, E.2.2.1, E.2.2.2.1, hts⟩ hM ⟨hB, cE_t E (hw _ (by simp))⟩ ⟨m_blind (As := [.inl (nI c0)]), fun U hU hW => ⟨rfl, fun k q hk => by simp [m_wl] at hk, va_K.moved hW.alike E.2.2.2.2.2.2.2.1, E.2.2.2.2.2.2.2.2.1.warm hW⟩⟩ rfl rfl hl.1 rfl (lv_room hst) hd hc
  refine g_run hrun hS (fun q hq => by obtain ⟨i, hi, -⟩ := hq; exact absurd hi (Nat.not_lt_zero i)) (fun r I1 J1 H1 locs1 hK1 _ hz1 hk1 hS1 => W_sz (fun hs => ?_))
  subst hK1
  have hP1 : va_P D m_cl (cW h (n + o + 1) F) H1 := cW_P (fun j hj => by
    have h1 := cW_of hP (j := j) hj
    exact h1.kept (hk1 _ h1.lt (fun hq => by obtain ⟨i, hi, -⟩ := hq; exact absurd hi (Nat.not_lt_zero i))))
  exact kk H1 locs1 ls (g_keep E hP1 hs) hP1 hS1 hl
end CG
theorem T0 {dF : Nat → va_E} {X : va_E} : ∀ j, j < 0 + 0 + 1 → (fun _ => X) j = va_up dF 0 X j := fun j hj => by
  obtain rfl : j = 0 := by omega
  rw [va_up_self]
theorem T1 {dF : Nat → va_E} {X X' : va_E} (j : Nat) : va_up (va_up dF 0 X) 0 X' j = va_up dF 0 X' j := by
  unfold va_up
  by_cases q : j = 0
  · rw [if_pos q, if_pos q]
  · rw [if_neg q, if_neg q, if_neg q]
theorem T2 {dF : Nat → va_E} {X e : va_E} {k : Nat} (hk : k ≠ 0) (he : e = dF k) (j : Nat) : va_up (va_up dF 0 X) k e j = va_up dF 0 X j := by
  unfold va_up
  by_cases q : j = k
  · rw [if_pos q, if_neg (by omega), q]
    exact he
  · rw [if_neg q]
theorem T3 {dF G : Nat → va_E} {X fr : va_E} {k mc : Nat} (hk : k ≠ 0) (hG : ∀ j, j < mc + 1 → G j = dF (k + j)) (j : Nat) (hj : j < k + mc + 1) : (fun j => if j < k then va_up (va_up dF 0 X) k fr j else G (j - k)) j = va_up dF 0 X j := by
  show (if j < k then va_up (va_up dF 0 X) k fr j else G (j - k)) = _
  by_cases q : j < k
  · rw [if_pos q, va_up_ne _ _ (by omega)]
  · rw [if_neg q, hG (j - k) (by omega), va_up_ne _ _ (by omega), show k + (j - k) = j by omega]
theorem T4 {dF dF' : Nat → va_E} {X e : va_E} {k : Nat} (hk : k ≠ 0) (he : e = dF' k) (hd : ∀ i, i ≠ k → dF i = dF' i) (j : Nat) : va_up (va_up dF 0 X) k e j = va_up dF' 0 X j := by
  unfold va_up
  by_cases q : j = k
  · rw [if_pos q, if_neg (by omega), q]
    exact he
  · rw [if_neg q, hd j q]
def bO (a : Nat) : va_E := .inr (0, [.ref a, .int 0, .int 0])
def bG (cs : Nat → ClassId) (h cap j : Nat) : va_E := if j = 0 then bO (h + 1) else cZ cs 0 cap
def bF : List Value := [.null, .int 0, .int 0]

theorem k_X0 (l : Launch) (D : va_G) (cs : Nat → ClassId) (h r : Nat) (hr : r ≤ 40) : cM l D cs yX0_init cX0_init 2 1 30 40 [.int (nI r)] (fun _ => .inr (0, [.null, .int 0, .int 0])) h 0 1 (fun _ => True) (fun _ => bG cs h (max r 2)) := by
  refine c_method (by decide +kernel) rfl (Nat.le_of_ble_eq_true rfl) ?_
  intro p e s m below meth c E hr0 hlk
  refine g_aload E 0 (show decode cX0_init 0 = .ok (.aload_n 0, 1) by decide +kernel) rfl ?_
  refine g_obj E (show decode cX0_init 1 = .ok (.invokespecial 1, 3) by decide +kernel) (m_wck_ok (l := [(Cond.methodLink RX0 1 Lib.objectInit, 92), (Cond.instanceMethod Lib.objectInit, 72), (Cond.code Lib.objectInit ⟨#[0xb1]⟩ 1 none, 73)]) (by decide +kernel)) ⟨Nat.le_of_ble_eq_true rfl, Nat.le_of_ble_eq_true rfl⟩ (Nat.le_of_ble_eq_true rfl) ?_
  refine g_aload E 0 (show decode cX0_init 4 = .ok (.aload_n 0, 1) by decide +kernel) rfl ?_
  refine g_iload E 1 (show decode cX0_init 5 = .ok (.iload_n 1, 1) by decide +kernel) rfl ?_
  refine g_iconst E (v := 2) (show decode cX0_init 6 = .ok (.iconst 2, 1) by decide +kernel) (by decide +kernel) ?_
  refine g_max E (show decode cX0_init 7 = .ok (.invokestatic 7, 3) by decide +kernel) (m_wck_ok (l := [(Cond.methodLink RX0 7 Lib.Math.max.name, 93), (Cond.static Lib.Math.max.name, 94), (Cond.initialized "java/lang/Math", 59), (Cond.code Lib.Math.max.name Lib.Math.max.code 2 (some .int), 95)]) (by decide +kernel)) ⟨Nat.le_of_ble_eq_true rfl, Nat.le_of_ble_eq_true rfl⟩ ⟨Nat.le_of_ble_eq_true rfl, Nat.le_of_ble_eq_true rfl⟩ (Nat.le_of_ble_eq_true rfl) ?_
  have hmax : (if nI r < 2 then (2 : Int32) else nI r) = nI (max r 2) := by
    have hlt : (nI r < (2 : Int32)) ↔ r < 2 := nI_ltI (b := 2) (by omega) (by omega)
    by_cases q : r < 2
    · rw [if_pos (hlt.mpr q), show max r 2 = 2 by omega]
      rfl
    · rw [if_neg (mt hlt.mp q), show max r 2 = r by omega]
  refine g_newa E (ty := .int) (N' := max r 2) 0 (show decode cX0_init 10 = .ok (.newarray .int, 2) by decide +kernel) rfl rfl (m_one 107 (by decide +kernel)) (fun _ => rfl) hmax (by omega) (by decide) ⟨Nat.le_of_ble_eq_true rfl, by show 0 + max r 2 ≤ 40; omega⟩ ?_
  refine g_put E (ci := 0) (k := 0) (q := (RX0, TX0, 3)) 0 (show decode cX0_init 12 = .ok (.putfield 13, 3) by decide +kernel) rfl (by decide) rfl rfl (by decide) (m_one 96 (by decide +kernel)) (Or.inr rfl) rfl rfl (Nat.le_of_ble_eq_true rfl) ?_
  refine CG_sl (sl' := 40) (by omega) ?_
  refine g_ret (fun _ _ => 0) E hr0 hlk (show decode cX0_init 15 = .ok (.return_, 1) by decide +kernel) rfl (Nat.le_refl _) trivial (fun j hj => ?_)
  have hj : j < 2 := hj
  rcases (show j = 0 ∨ j = 1 by omega) with rfl | rfl
  · rfl
  · rfl
def pcp (j : Nat) : Nat := if j < 8 then 14 else if j < 136 then max (2 * popc ((j - 8) / 2) + 1) 2 else 2
def pF (cs : Nat → ClassId) (h a b j : Nat) : va_E := if j = 1 then cQ cs 3 64 (fun q => if q < a then some (h + 7 + 2 * q) else none) else if j = 2 then cQ cs 3 12 (fun q => if q < b then some (h + 135 + 2 * q) else none) else if j % 2 = 1 then bO (h + j + 1) else cZ cs 0 (pcp j)
def pX (h : Nat) : va_E := .inr (2, [.ref (h + 1), .ref (h + 2), .ref (h + 3), .ref (h + 5), .int 11, .int 0])
theorem pF_b {cs : Nat → ClassId} {h a b k cap : Nat} (hk : 3 ≤ k) (ho : k % 2 = 1) (hc : cap = pcp (k + 1)) : ∀ j, j < 1 + 1 → bG cs (h + k) cap j = pF cs h a b (k + j) := fun j hj => by
  rcases (show j = 0 ∨ j = 1 by omega) with rfl | rfl
  · unfold bG pF
    rw [if_pos rfl, if_neg (by omega), if_neg (by omega), if_pos (by omega)]
    rfl
  · unfold bG pF
    rw [if_neg (by decide), if_neg (by omega), if_neg (by omega), if_neg (by omega), hc]
theorem pF_o {cs : Nat → ClassId} {h a b k : Nat} (hk : 3 ≤ k) (ho : k % 2 = 1) : pF cs h a b k = bO (h + k + 1) := by
  unfold pF
  rw [if_neg (by omega), if_neg (by omega), if_pos ho]

set_option maxRecDepth 4000 in
theorem k_X2 (l : Launch) (D : va_G) (cs : Nat → ClassId) (h : Nat) : cM l D cs yX2_init cX2_init 2 2 60 4000 [] (fun _ => .inr (2, [.null, .null, .null, .null, .int 0, .int 0])) h 0 158 (fun _ => True) (fun _ => va_up (pF cs h 64 12) 0 (pX h)) := by
  refine c_method (by decide +kernel) rfl (Nat.le_of_ble_eq_true rfl) ?_
  intro p e s m below meth c E hr0 hlk
  refine CG_cg (T0 (dF := pF cs h 0 0)) ?_
  refine g_aload E 0 (show decode cX2_init 0 = .ok (.aload_n 0, 1) by decide +kernel) rfl ?_
  refine g_obj E (show decode cX2_init 1 = .ok (.invokespecial 3, 3) by decide +kernel) (m_wck_ok (l := [(Cond.methodLink RX2 3 Lib.objectInit, 85), (Cond.instanceMethod Lib.objectInit, 72), (Cond.code Lib.objectInit ⟨#[0xb1]⟩ 1 none, 73)]) (by decide +kernel)) ⟨Nat.le_of_ble_eq_true rfl, Nat.le_of_ble_eq_true rfl⟩ (Nat.le_of_ble_eq_true rfl) ?_
  refine g_aload E 0 (show decode cX2_init 4 = .ok (.aload_n 0, 1) by decide +kernel) rfl ?_
  refine g_bipush E (v := 64) (show decode cX2_init 5 = .ok (.bipush 64, 2) by decide +kernel) (by decide +kernel) ?_
  refine g_newq E (C := RX0) (N' := 64) 3 (show decode cX2_init 7 = .ok (.anewarray 9, 3) by decide +kernel) rfl (m_one 86 (by decide +kernel)) E.2.2.2.2.2.2.2.2.2.1 rfl (by decide) ⟨Nat.le_of_ble_eq_true rfl, Nat.le_of_ble_eq_true rfl⟩ ?_
  refine CG_cg (fun j _ => T2 (by decide) rfl j) ?_
  refine g_put E (ci := 2) (k := 0) (q := (RX2, TX2, 6)) 0 (show decode cX2_init 10 = .ok (.putfield 11, 3) by decide +kernel) rfl (by decide) rfl rfl (by decide) (m_one 115 (by decide +kernel)) (Or.inl ⟨rfl, rfl⟩) rfl rfl (Nat.le_of_ble_eq_true rfl) ?_
  refine CG_cg (fun j _ => T1 j) ?_
  refine g_aload E 0 (show decode cX2_init 13 = .ok (.aload_n 0, 1) by decide +kernel) rfl ?_
  refine g_bipush E (v := 12) (show decode cX2_init 14 = .ok (.bipush 12, 2) by decide +kernel) (by decide +kernel) ?_
  refine g_newq E (C := RX0) (N' := 12) 3 (show decode cX2_init 16 = .ok (.anewarray 9, 3) by decide +kernel) rfl (m_one 86 (by decide +kernel)) E.2.2.2.2.2.2.2.2.2.1 rfl (by decide) ⟨Nat.le_of_ble_eq_true rfl, Nat.le_of_ble_eq_true rfl⟩ ?_
  refine CG_cg (fun j _ => T2 (by decide) rfl j) ?_
  refine g_put E (ci := 2) (k := 1) (q := (RX2, TX2, 6)) 0 (show decode cX2_init 19 = .ok (.putfield 17, 3) by decide +kernel) rfl (by decide) rfl rfl (by decide) (m_one 116 (by decide +kernel)) (Or.inl ⟨rfl, rfl⟩) rfl rfl (Nat.le_of_ble_eq_true rfl) ?_
  refine CG_cg (fun j _ => T1 j) ?_
  refine g_aload E 0 (show decode cX2_init 22 = .ok (.aload_n 0, 1) by decide +kernel) rfl ?_
  refine g_new E (ci := 0) (q := (RX0, TX0, 3)) (fs := [.null, .int 0, .int 0]) rfl (show decode cX2_init 23 = .ok (.new 9, 3) by decide +kernel) (m_wck_ok (l := [(Cond.classLink RX2 9 RX0, 86), (Cond.instantiable RX0 3, 88), (Cond.initialized RX0, 58)]) (by decide +kernel)) (fun j hj => by have hj : j < 3 := hj; rcases (show j = 0 ∨ j = 1 ∨ j = 2 by omega) with rfl | rfl | rfl <;> rfl) ⟨Nat.le_of_ble_eq_true rfl, Nat.le_of_ble_eq_true rfl⟩ ?_
  refine g_dup E (show decode cX2_init 26 = .ok (.dup, 1) by decide +kernel) ?_
  refine g_bipush E (v := 14) (show decode cX2_init 27 = .ok (.bipush 14, 2) by decide +kernel) (by decide +kernel) ?_
  refine g_call E (nA := 1) (k_X0 l D cs (h + 3) 14 (by decide)) (show decode cX2_init 29 = .ok (.invokespecial 20, 3) by decide +kernel) rfl (m_wck_ok (l := [(Cond.methodLink RX2 20 yX0_init, 89), (Cond.instanceMethod yX0_init, 90), (Cond.initialized RX0, 58), (Cond.code yX0_init cX0_init 2 none, 91)]) (by decide +kernel)) rfl rfl ⟨by decide +kernel, by decide +kernel, by decide +kernel⟩ ⟨Nat.le_of_ble_eq_true rfl, Nat.le_of_ble_eq_true rfl⟩ ⟨Nat.le_of_ble_eq_true rfl, Nat.le_of_ble_eq_true rfl⟩ (Nat.le_of_ble_eq_true rfl) rfl (fun u hu => ?_)
  refine CG_cg (G := va_up (pF cs h 0 0) 0 _) (fun j hj => T3 (k := 3) (mc := 1) (by decide) (pF_b (by decide) (by decide) rfl) j hj) ?_
  refine g_put E (ci := 2) (k := 2) (q := (RX2, TX2, 6)) 0 (show decode cX2_init 32 = .ok (.putfield 23, 3) by decide +kernel) rfl (by decide) rfl rfl (by decide) (m_one 117 (by decide +kernel)) (Or.inl ⟨rfl, rfl⟩) rfl rfl (Nat.le_of_ble_eq_true rfl) ?_
  refine CG_cg (fun j _ => T1 j) ?_
  refine g_aload E 0 (show decode cX2_init 35 = .ok (.aload_n 0, 1) by decide +kernel) rfl ?_
  refine g_new E (ci := 0) (q := (RX0, TX0, 3)) (fs := [.null, .int 0, .int 0]) rfl (show decode cX2_init 36 = .ok (.new 9, 3) by decide +kernel) (m_wck_ok (l := [(Cond.classLink RX2 9 RX0, 86), (Cond.instantiable RX0 3, 88), (Cond.initialized RX0, 58)]) (by decide +kernel)) (fun j hj => by have hj : j < 3 := hj; rcases (show j = 0 ∨ j = 1 ∨ j = 2 by omega) with rfl | rfl | rfl <;> rfl) ⟨Nat.le_of_ble_eq_true rfl, Nat.le_of_ble_eq_true rfl⟩ ?_
  refine g_dup E (show decode cX2_init 39 = .ok (.dup, 1) by decide +kernel) ?_
  refine g_bipush E (v := 14) (show decode cX2_init 40 = .ok (.bipush 14, 2) by decide +kernel) (by decide +kernel) ?_
  refine g_call E (nA := 1) (k_X0 l D cs (h + 5) 14 (by decide)) (show decode cX2_init 42 = .ok (.invokespecial 20, 3) by decide +kernel) rfl (m_wck_ok (l := [(Cond.methodLink RX2 20 yX0_init, 89), (Cond.instanceMethod yX0_init, 90), (Cond.initialized RX0, 58), (Cond.code yX0_init cX0_init 2 none, 91)]) (by decide +kernel)) rfl rfl ⟨by decide +kernel, by decide +kernel, by decide +kernel⟩ ⟨Nat.le_of_ble_eq_true rfl, Nat.le_of_ble_eq_true rfl⟩ ⟨Nat.le_of_ble_eq_true rfl, Nat.le_of_ble_eq_true rfl⟩ (Nat.le_of_ble_eq_true rfl) rfl (fun u hu => ?_)
  refine CG_cg (G := va_up (pF cs h 0 0) 0 _) (fun j hj => T3 (k := 5) (mc := 1) (by decide) (pF_b (by decide) (by decide) rfl) j hj) ?_
  refine g_put E (ci := 2) (k := 3) (q := (RX2, TX2, 6)) 0 (show decode cX2_init 45 = .ok (.putfield 27, 3) by decide +kernel) rfl (by decide) rfl rfl (by decide) (m_one 118 (by decide +kernel)) (Or.inl ⟨rfl, rfl⟩) rfl rfl (Nat.le_of_ble_eq_true rfl) ?_
  refine CG_cg (fun j _ => T1 j) ?_
  refine g_aload E 0 (show decode cX2_init 48 = .ok (.aload_n 0, 1) by decide +kernel) rfl ?_
  refine g_bipush E (v := 11) (show decode cX2_init 49 = .ok (.bipush 11, 2) by decide +kernel) (by decide +kernel) ?_
  refine g_put E (ci := 2) (k := 4) (q := (RX2, TX2, 6)) 0 (show decode cX2_init 51 = .ok (.putfield 30, 3) by decide +kernel) rfl (by decide) rfl rfl (by decide) (m_one 119 (by decide +kernel)) (Or.inr rfl) rfl rfl (Nat.le_of_ble_eq_true rfl) ?_
  refine CG_cg (fun j _ => T1 j) ?_
  refine g_iconst E (v := 0) (show decode cX2_init 54 = .ok (.iconst 0, 1) by decide +kernel) (by decide +kernel) ?_
  refine g_istore E (lv' := [(1, .int 0), (0, .ref (h + 0))]) (show decode cX2_init 55 = .ok (.istore_n 1, 1) by decide +kernel) (by decide) rfl ?_
  refine CG_cg (G := va_up (pF cs h 0 0) 0 (pX h)) (fun _ _ => rfl) ?_
  refine CG_sl (sl' := 200) (by decide) ?_
  have loop2 : ∀ f b, b ≤ 12 → f = 12 - b → CG p l e (cR 2 60 158 4000) s m (Value.ref (h + 0) :: []).toArray below meth c (MQ below (cQc D h (158 + 0 + 1) (fun _ => True) (fun _ => va_up (pF cs h 64 12) 0 (pX h))) (Value.ref (h + 0) :: []).toArray s 158 4000 (fun q => h ≤ q)) D h 0 2 94 (134 + 2 * b) (va_up (pF cs h 64 b) 0 (pX h)) (3200 + 43 * b) [(1, .int (nI b)), (0, .ref (h + 0))] [] := by
    intro f
    induction f with
    | zero =>
      intro b hb hf
      obtain rfl : b = 12 := by omega
      refine g_iload E 0 (show decode cX2_init 94 = .ok (.iload_n 1, 1) by decide +kernel) rfl ?_
      refine g_aload E 1 (show decode cX2_init 95 = .ok (.aload_n 0, 1) by decide +kernel) rfl ?_
      refine g_get E (ci := 2) (k := 1) (q := (RX2, TX2, 6)) 0 (show decode cX2_init 96 = .ok (.getfield 17, 3) by decide +kernel) rfl (by omega) rfl rfl (by decide) (m_one 116 (by decide +kernel)) rfl ?_
      refine g_alen E (N := 12) (C := RX0) 2 3 (show decode cX2_init 99 = .ok (.arraylength, 1) by decide +kernel) (by omega) rfl rfl rfl ?_
      refine g_icmpge E (tgt := 123) (show decode cX2_init 100 = .ok (.if_icmp .ge 23, 3) by decide +kernel) (by decide) (fun _ => ?_) (fun q => absurd (nI_le (a := 12) (b := 12) (by decide) (by decide)) q)
      exact g_ret (fun _ _ => 0) E hr0 hlk (show decode cX2_init 123 = .ok (.return_, 1) by decide +kernel) rfl (by decide) trivial (fun _ _ => rfl)
    | succ f ih =>
      intro b hb hf
      refine g_iload E 0 (show decode cX2_init 94 = .ok (.iload_n 1, 1) by decide +kernel) rfl ?_
      refine g_aload E 1 (show decode cX2_init 95 = .ok (.aload_n 0, 1) by decide +kernel) rfl ?_
      refine g_get E (ci := 2) (k := 1) (q := (RX2, TX2, 6)) 0 (show decode cX2_init 96 = .ok (.getfield 17, 3) by decide +kernel) rfl (by omega) rfl rfl (by decide) (m_one 116 (by decide +kernel)) rfl ?_
      refine g_alen E (N := 12) (C := RX0) 2 3 (show decode cX2_init 99 = .ok (.arraylength, 1) by decide +kernel) (by omega) rfl rfl rfl ?_
      refine g_icmpge E (tgt := 123) (show decode cX2_init 100 = .ok (.if_icmp .ge 23, 3) by decide +kernel) (by decide) (fun q => absurd q (nI_ge (by omega) (by decide))) (fun _ => ?_)
      refine g_aload E 1 (show decode cX2_init 103 = .ok (.aload_n 0, 1) by decide +kernel) rfl ?_
      refine g_get E (ci := 2) (k := 1) (q := (RX2, TX2, 6)) 0 (show decode cX2_init 104 = .ok (.getfield 17, 3) by decide +kernel) rfl (by omega) rfl rfl (by decide) (m_one 116 (by decide +kernel)) rfl ?_
      refine g_iload E 0 (show decode cX2_init 107 = .ok (.iload_n 1, 1) by decide +kernel) rfl ?_
      refine g_new E (ci := 0) (q := (RX0, TX0, 3)) (fs := [.null, .int 0, .int 0]) rfl (show decode cX2_init 108 = .ok (.new 9, 3) by decide +kernel) (m_wck_ok (l := [(Cond.classLink RX2 9 RX0, 86), (Cond.instantiable RX0 3, 88), (Cond.initialized RX0, 58)]) (by decide +kernel)) (fun j hj => by have hj : j < 3 := hj; rcases (show j = 0 ∨ j = 1 ∨ j = 2 by omega) with rfl | rfl | rfl <;> rfl) ⟨by show 134 + 2 * b + 1 ≤ 158; omega, by show 3200 + 43 * b + 3 ≤ 4000; omega⟩ ?_
      refine g_dup E (show decode cX2_init 111 = .ok (.dup, 1) by decide +kernel) ?_
      refine g_iconst E (v := 2) (show decode cX2_init 112 = .ok (.iconst 2, 1) by decide +kernel) (by decide +kernel) ?_
      refine g_call E (nA := 1) (k_X0 l D cs (h + (134 + 2 * b + 0 + 1)) 2 (by decide)) (show decode cX2_init 113 = .ok (.invokespecial 20, 3) by decide +kernel) (va_up_self _ _ _) (m_wck_ok (l := [(Cond.methodLink RX2 20 yX0_init, 89), (Cond.instanceMethod yX0_init, 90), (Cond.initialized RX0, 58), (Cond.code yX0_init cX0_init 2 none, 91)]) (by decide +kernel)) rfl rfl ⟨by decide +kernel, by decide +kernel, by decide +kernel⟩ ⟨Nat.le_of_ble_eq_true rfl, Nat.le_of_ble_eq_true rfl⟩ ⟨by show 134 + 2 * b + 1 + 1 ≤ 158; omega, by show 3200 + 43 * b + 3 + 40 ≤ 4000; omega⟩ (Nat.le_of_ble_eq_true rfl) rfl (fun u hu => ?_)
      refine CG_cg (G := va_up (pF cs h 64 b) 0 (pX h)) (fun j hj => T3 (k := 134 + 2 * b + 0 + 1) (mc := 1) (by omega) (pF_b (by omega) (by omega) (by unfold pcp; rw [if_neg (by omega), if_neg (by omega)]; decide)) j (by omega)) ?_
      refine g_astq E (ci := 0) (q := (RX0, TX0, 3)) (N := 12) (x := b) 2 3 (134 + 2 * b + 0 + 1) (show decode cX2_init 116 = .ok (.aastore, 1) by decide +kernel) (by omega) rfl rfl rfl (by omega) (by rw [va_up_ne _ _ (by omega), pF_o (by omega) (by omega)]; rfl) rfl rfl (by omega) (by decide) ?_
      refine CG_cg (G := va_up (pF cs h 64 (b + 1)) 0 (pX h)) (fun j _ => T4 (by decide) ?_ (fun i hi => ?_) j) ?_
      · show cQ cs 3 12 _ = cQ cs 3 12 _
        congr 1
        funext q
        unfold va_up
        by_cases z : q = b
        · rw [if_pos z, if_pos (by omega), z]
          congr 1
          omega
        · rw [if_neg z]
          show (if q < b then some (h + 135 + 2 * q) else none) = if q < b + 1 then some (h + 135 + 2 * q) else none
          by_cases z2 : q < b
          · rw [if_pos z2, if_pos (by omega)]
          · rw [if_neg z2, if_neg (by omega)]
      · unfold pF
        by_cases z : i = 1
        · rw [if_pos z, if_pos z]
        · rw [if_neg z, if_neg z, if_neg hi, if_neg hi]
      refine g_iinc E (lv' := [(1, .int (nI (b + 1))), (0, .ref (h + 0))]) 0 (show decode cX2_init 117 = .ok (.iinc 1 1, 3) by decide +kernel) rfl (by rw [← nI_1 b]; rfl) (by decide) rfl ?_
      refine g_goto E (tgt := 94) (show decode cX2_init 120 = .ok (.goto (-26), 3) by decide +kernel) (by decide) ?_
      have hk := ih (b + 1) (by omega) (by omega)
      rw [show 134 + 2 * (b + 1) = 134 + 2 * b + 1 + 1 by omega, show 3200 + 43 * (b + 1) = 3200 + 43 * b + 3 + 40 by omega] at hk
      exact hk
  have loop1 : ∀ f a, a ≤ 64 → f = 64 - a → CG p l e (cR 2 60 158 4000) s m (Value.ref (h + 0) :: []).toArray below meth c (MQ below (cQc D h (158 + 0 + 1) (fun _ => True) (fun _ => va_up (pF cs h 64 12) 0 (pX h))) (Value.ref (h + 0) :: []).toArray s 158 4000 (fun q => h ≤ q)) D h 0 2 56 (6 + 2 * a) (va_up (pF cs h a 0) 0 (pX h)) (200 + 43 * a) [(1, .int (nI a)), (0, .ref (h + 0))] [] := by
    intro f
    induction f with
    | zero =>
      intro a ha hf
      obtain rfl : a = 64 := by omega
      refine g_iload E 0 (show decode cX2_init 56 = .ok (.iload_n 1, 1) by decide +kernel) rfl ?_
      refine g_aload E 1 (show decode cX2_init 57 = .ok (.aload_n 0, 1) by decide +kernel) rfl ?_
      refine g_get E (ci := 2) (k := 0) (q := (RX2, TX2, 6)) 0 (show decode cX2_init 58 = .ok (.getfield 11, 3) by decide +kernel) rfl (by omega) rfl rfl (by decide) (m_one 115 (by decide +kernel)) rfl ?_
      refine g_alen E (N := 64) (C := RX0) 1 3 (show decode cX2_init 61 = .ok (.arraylength, 1) by decide +kernel) (by omega) rfl rfl rfl ?_
      refine g_icmpge E (tgt := 92) (show decode cX2_init 62 = .ok (.if_icmp .ge 30, 3) by decide +kernel) (by decide) (fun _ => ?_) (fun q => absurd (nI_le (a := 64) (b := 64) (by decide) (by decide)) q)
      refine g_iconst E (v := 0) (show decode cX2_init 92 = .ok (.iconst 0, 1) by decide +kernel) (by decide +kernel) ?_
      refine g_istore E (lv' := [(1, .int 0), (0, .ref (h + 0))]) (show decode cX2_init 93 = .ok (.istore_n 1, 1) by decide +kernel) (by decide) rfl ?_
      refine CG_sl (sl' := 3200) (by decide) ?_
      exact loop2 12 0 (by decide) rfl
    | succ f ih =>
      intro a ha hf
      refine g_iload E 0 (show decode cX2_init 56 = .ok (.iload_n 1, 1) by decide +kernel) rfl ?_
      refine g_aload E 1 (show decode cX2_init 57 = .ok (.aload_n 0, 1) by decide +kernel) rfl ?_
      refine g_get E (ci := 2) (k := 0) (q := (RX2, TX2, 6)) 0 (show decode cX2_init 58 = .ok (.getfield 11, 3) by decide +kernel) rfl (by omega) rfl rfl (by decide) (m_one 115 (by decide +kernel)) rfl ?_
      refine g_alen E (N := 64) (C := RX0) 1 3 (show decode cX2_init 61 = .ok (.arraylength, 1) by decide +kernel) (by omega) rfl rfl rfl ?_
      refine g_icmpge E (tgt := 92) (show decode cX2_init 62 = .ok (.if_icmp .ge 30, 3) by decide +kernel) (by decide) (fun q => absurd q (nI_ge (by omega) (by decide))) (fun _ => ?_)
      refine g_aload E 1 (show decode cX2_init 65 = .ok (.aload_n 0, 1) by decide +kernel) rfl ?_
      refine g_get E (ci := 2) (k := 0) (q := (RX2, TX2, 6)) 0 (show decode cX2_init 66 = .ok (.getfield 11, 3) by decide +kernel) rfl (by omega) rfl rfl (by decide) (m_one 115 (by decide +kernel)) rfl ?_
      refine g_iload E 0 (show decode cX2_init 69 = .ok (.iload_n 1, 1) by decide +kernel) rfl ?_
      refine g_new E (ci := 0) (q := (RX0, TX0, 3)) (fs := [.null, .int 0, .int 0]) rfl (show decode cX2_init 70 = .ok (.new 9, 3) by decide +kernel) (m_wck_ok (l := [(Cond.classLink RX2 9 RX0, 86), (Cond.instantiable RX0 3, 88), (Cond.initialized RX0, 58)]) (by decide +kernel)) (fun j hj => by have hj : j < 3 := hj; rcases (show j = 0 ∨ j = 1 ∨ j = 2 by omega) with rfl | rfl | rfl <;> rfl) ⟨by show 6 + 2 * a + 1 ≤ 158; omega, by show 200 + 43 * a + 3 ≤ 4000; omega⟩ ?_
      refine g_dup E (show decode cX2_init 73 = .ok (.dup, 1) by decide +kernel) ?_
      refine g_iconst E (v := 2) (show decode cX2_init 74 = .ok (.iconst 2, 1) by decide +kernel) (by decide +kernel) ?_
      refine g_iload E 0 (show decode cX2_init 75 = .ok (.iload_n 1, 1) by decide +kernel) rfl ?_
      refine g_bitc E (c0 := a) (by omega) (show decode cX2_init 76 = .ok (.invokestatic 34, 3) by decide +kernel) (m_wck_ok (l := [(Cond.methodLink RX2 34 yJ6_bitCount_0f7a4, 109), (Cond.static yJ6_bitCount_0f7a4, 110), (Cond.initialized RJ6, 60), (Cond.code yJ6_bitCount_0f7a4 cJ6_bitCount_0f7a4 1 (some .int), 111)]) (by decide +kernel)) ⟨Nat.le_of_ble_eq_true rfl, Nat.le_of_ble_eq_true rfl⟩ ⟨by show 6 + 2 * a + 1 ≤ 158; omega, by show 200 + 43 * a + 3 ≤ 4000; omega⟩ (Nat.le_of_ble_eq_true rfl) ?_
      refine g_imul E (show decode cX2_init 79 = .ok (.imul, 1) by decide +kernel) ?_
      refine g_iconst E (v := 1) (show decode cX2_init 80 = .ok (.iconst 1, 1) by decide +kernel) (by decide +kernel) ?_
      refine g_iadd E (show decode cX2_init 81 = .ok (.iadd, 1) by decide +kernel) ?_
      have hpc := popc_le a
      have hcap : (2 : Int32) * nI (popc a) + 1 = nI (2 * popc a + 1) := by
        rw [show (2 : Int32) * nI (popc a) = nI (2 * popc a) from nI_m 2 (popc a), nI_1]
      rw [hcap]
      refine g_call E (nA := 1) (k_X0 l D cs (h + (6 + 2 * a + 0 + 1)) (2 * popc a + 1) (by omega)) (show decode cX2_init 82 = .ok (.invokespecial 20, 3) by decide +kernel) (va_up_self _ _ _) (m_wck_ok (l := [(Cond.methodLink RX2 20 yX0_init, 89), (Cond.instanceMethod yX0_init, 90), (Cond.initialized RX0, 58), (Cond.code yX0_init cX0_init 2 none, 91)]) (by decide +kernel)) rfl rfl ⟨by decide +kernel, by decide +kernel, by decide +kernel⟩ ⟨Nat.le_of_ble_eq_true rfl, Nat.le_of_ble_eq_true rfl⟩ ⟨by show 6 + 2 * a + 1 + 1 ≤ 158; omega, by show 200 + 43 * a + 3 + 40 ≤ 4000; omega⟩ (Nat.le_of_ble_eq_true rfl) rfl (fun u hu => ?_)
      refine CG_cg (G := va_up (pF cs h a 0) 0 (pX h)) (fun j hj => T3 (k := 6 + 2 * a + 0 + 1) (mc := 1) (by omega) (pF_b (by omega) (by omega) (by unfold pcp; rw [if_neg (by omega), if_pos (by omega), show (6 + 2 * a + 0 + 1 + 1 - 8) / 2 = a by omega])) j (by omega)) ?_
      refine g_astq E (ci := 0) (q := (RX0, TX0, 3)) (N := 64) (x := a) 1 3 (6 + 2 * a + 0 + 1) (show decode cX2_init 85 = .ok (.aastore, 1) by decide +kernel) (by omega) rfl rfl rfl (by omega) (by rw [va_up_ne _ _ (by omega), pF_o (by omega) (by omega)]; rfl) rfl rfl (by omega) (by decide) ?_
      refine CG_cg (G := va_up (pF cs h (a + 1) 0) 0 (pX h)) (fun j _ => T4 (by decide) ?_ (fun i hi => ?_) j) ?_
      · show cQ cs 3 64 _ = cQ cs 3 64 _
        congr 1
        funext q
        unfold va_up
        by_cases z : q = a
        · rw [if_pos z, if_pos (by omega), z]
          congr 1
          omega
        · rw [if_neg z]
          show (if q < a then some (h + 7 + 2 * q) else none) = if q < a + 1 then some (h + 7 + 2 * q) else none
          by_cases z2 : q < a
          · rw [if_pos z2, if_pos (by omega)]
          · rw [if_neg z2, if_neg (by omega)]
      · unfold pF
        rw [if_neg hi, if_neg hi]
      refine g_iinc E (lv' := [(1, .int (nI (a + 1))), (0, .ref (h + 0))]) 0 (show decode cX2_init 86 = .ok (.iinc 1 1, 3) by decide +kernel) rfl (by rw [← nI_1 a]; rfl) (by decide) rfl ?_
      refine g_goto E (tgt := 56) (show decode cX2_init 89 = .ok (.goto (-33), 3) by decide +kernel) (by decide) ?_
      have hk := ih (a + 1) (by omega) (by omega)
      rw [show 6 + 2 * (a + 1) = 6 + 2 * a + 1 + 1 by omega, show 200 + 43 * (a + 1) = 200 + 43 * a + 3 + 40 by omega] at hk
      exact hk
  exact loop1 64 0 (by decide) rfl
