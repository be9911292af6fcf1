/-! THE CLAIM OUT OF ONE WALK OF THE LAW'S BODY. Your part is whole_start (and what it stands on); all else here is the same for every law, but numbers. -/
def R_law : String := "MomentDeskLaw"
def lw_P (b : Addr) (xs : List Int32) (args : Array Value) (s : State) : Prop := args = #[.ref b] ∧ s.IntsAt b xs ∧ xs.length ≤ 2560 ∧ (Jvm.Cond.and given_1 narrow_1).before args s = true
def lw_Q (_ : Array Value) (s : State) (o : Outcome) (t : State) : Prop := o = .returned (some (.int 1)) ∧ Framed s o t [] 600000 7302250
def lw_Z (below : List Frame) (a : Array Value) (s : State) : State → Prop := fun t => ∃ o, t.status = .running ∧ Ended t below o ∧ lw_Q a s o t
/-- the law's own end, with 1 on the stack, nothing written that was there before, its room as the claim has it -/
theorem lw_ret {p : Program} {l : Launch} {e : Env} {s : State} {m : MethodId} {below : List Frame} {meth : Method} {c : Code} {b : Nat} (hx : p.tables.exec = Jvm.exec) (hb : c.code = code) (hr : meth.sig.returnType = ret) (hlocks : meth.locks = false) {pc : Nat} {H : Heap} {ls : Array Slot} (hdg : decode code pc = .ok (.ireturn, 1)) : W p l e room_1 s m #[Value.ref b] below meth c H [] 600000 7302250 (lw_Z below #[Value.ref b] s) (F0 m pc ls [.int 1]) := by
  intro T hT X
  obtain ⟨fs, hret, hrun, hended, hW, hframe⟩ := X.leave (v := some (.int 1)) (hlocks := hlocks) (fun h => by rw [hr] at h; cases h)
  have hmeth' : T.vm.method? m = some meth := X.method'
  refine ⟨T.setFrames fs, ?_, .returned (some (.int 1)), hrun, hended, rfl, ⟨_, rfl⟩, hW, hframe⟩
  jvm_step X.here [X.here.top, hx, hb, hdg, hmeth', hr, ret, narrow_b1]
  (try refine ⟨rfl, ?_⟩); (try refine ⟨rfl, ?_⟩)
  first | (intro acts; rw [hret _ acts rfl rfl rfl]) | rw [hret _ _ rfl rfl rfl]
  exact Steps.refl _
/-- what holds at the law's entry: the machine, the code, the tables' words (any of lw_tbl by 'hts w (by decide +kernel)'), the script of L ints xs at the cell b, what the Statement gives of the start (any of its parts by flat_of_before) -/
def lw_At (p : Program) (s : State) (m : MethodId) (meth : Method) (c : Code) (b L : Nat) (xs : Nat → Int32) : Prop :=
  p.tables.exec = Jvm.exec ∧ c.code = code ∧ meth.sig.returnType = ret ∧ c.maxLocals = 4 ∧ s.vm.findClass R_law = some m.cls ∧ (∀ w ∈ lw_tbl, w.before #[Value.ref b] s = true) ∧ va_X b L xs s s.heap ∧ b < s.heap.size ∧ meth.locks = false ∧ (Jvm.Cond.and given_1 narrow_1).before #[Value.ref b] s = true

/-! ===== the law: its surroundings ===== -/
theorem law_tw {args : Array Value} {s : State} (hts : ∀ w ∈ lw_tbl, w.before args s = true) : ∀ w ∈ m_tw, w.before args s = true := fun w hw => by
  rcases List.mem_append.mp hw with z | z
  · rcases List.mem_cons.mp z with rfl | z
    · exact hts _ (List.mem_of_getElem? (i := 99) (by decide +kernel))
    · rcases List.mem_cons.mp z with rfl | z
      · exact hts _ (List.mem_of_getElem? (i := 285) (by decide +kernel))
      · cases z
  · exact hts w (List.mem_filter.mp z).1
theorem arrK {args : Array Value} {s : State} {ty : FieldType} (hp : ty = .int ∨ ty = .long ∨ ty = .boolean) (h : (Cond.arrayClass ty).before args s = true) : ∃ cA, ArrOfT s cA ty ∧ va_RA s cA ty := by
  obtain ⟨c, k, comp, h1, h2, h3⟩ := Cond.arrayClass_spec h
  refine ⟨c, fun n z => ⟨(fun k h => by cases h), k, h2, comp, h3⟩, ?_⟩
  rcases hp with rfl | rfl | rfl <;> exact h1
theorem arrO {args : Array Value} {s : State} {C : String} (h : (Cond.arrayOver (.object C)).before args s = true) : ∃ cA, ArrOfT s cA (.object C) ∧ va_RA s cA (.object C) := by
  obtain ⟨comp, c, k, h1, -, h2, h3, h4⟩ := Cond.arrayOver_spec h
  exact ⟨c, fun n z => ⟨(fun k h => by cases h), k, h2, comp, h3⟩, k, comp, h2, h3, h1, h4⟩
theorem law_K {args : Array Value} {s : State} (hts : ∀ w ∈ lw_tbl, w.before args s = true) : ∃ (D : va_G) (cs : Nat → ClassId), cT D cs s := by
  have htw := law_tw hts
  have hb : ∀ w ∈ m_tb, w.before args s = true := fun w hw => htw _ (m_tb_w hw)
  obtain ⟨c0, i0, k0⟩ := u_known htw (m_in 0 _ rfl) (hb (.instantiable RX0 3) (m_one 88 (by decide +kernel)))
  obtain ⟨c1, i1, k1⟩ := u_known htw (m_in 1 _ rfl) (hb (.instantiable RX1 5) (m_one 168 (by decide +kernel)))
  obtain ⟨c2, i2, k2⟩ := u_known htw (m_in 2 _ rfl) (hb (.instantiable RX2 6) (m_one 81 (by decide +kernel)))
  obtain ⟨c3, i3, k3⟩ := u_known htw (m_in 3 _ rfl) (hb (.instantiable RX3 8) (m_one 75 (by decide +kernel)))
  obtain ⟨c4, i4, k4⟩ := u_known htw (m_in 4 _ rfl) (hb (.instantiable RX4 10) (m_one 67 (by decide +kernel)))
  obtain ⟨c5, i5, k5⟩ := u_known htw (m_in 5 _ rfl) (hb (.instantiable RX5 17) (m_one 672 (by decide +kernel)))
  obtain ⟨a0, e0⟩ := arrK (Or.inl rfl) (hb (.arrayClass .int) (m_one 107 (by decide +kernel)))
  obtain ⟨a1, e1⟩ := arrK (Or.inr (Or.inl rfl)) (hb (.arrayClass .long) (m_one 108 (by decide +kernel)))
  obtain ⟨a2, e2⟩ := arrK (Or.inr (Or.inr rfl)) (hb (.arrayClass .boolean) (m_one 201 (by decide +kernel)))
  have w3 := hts (.arrayOver (.object "MomentDesk$Big")) (List.mem_of_getElem? (i := 87) (by decide +kernel))
  have w4 := hts (.arrayOver (.object "MomentDesk$Weights")) (List.mem_of_getElem? (i := 166) (by decide +kernel))
  obtain ⟨a3, e3⟩ := arrO w3
  obtain ⟨a4, e4⟩ := arrO w4
  refine ⟨(fun k => match k with | 0 => c0 | 1 => c1 | 2 => c2 | 3 => c3 | 4 => c4 | _ => c5, fun k => match k with | 0 => i0 | 1 => i1 | 2 => i2 | 3 => i3 | 4 => i4 | _ => i5), fun k => match k with | 0 => a0 | 1 => a1 | 2 => a2 | 3 => a3 | _ => a4, ⟨fun k q hq => ?_, fun k q hq => ?_⟩, m_nw.of htw, va_AO.of w3, va_AO.of w4, va_Nw.of rfl (hts cNest (List.mem_of_getElem? (i := 76) (by decide +kernel)))⟩
  · match k, hq with
    | 0, hq => cases hq; exact k0
    | 1, hq => cases hq; exact k1
    | 2, hq => cases hq; exact k2
    | 3, hq => cases hq; exact k3
    | 4, hq => cases hq; exact k4
    | 5, hq => cases hq; exact k5
    | k + 6, hq => simp [m_cl] at hq
  · match k, hq with
    | 0, hq => cases hq; exact e0
    | 1, hq => cases hq; exact e1
    | 2, hq => cases hq; exact e2
    | 3, hq => cases hq; exact e3
    | 4, hq => cases hq; exact e4
    | k + 5, hq => simp [m_ty] at hq

/-! ===== the first state ===== -/
theorem SR_0 {u : cU} {I : cU} (hu : BIs sh2 rf2 u 0 1) (hI : mPo u I) : SR I J0 := by
  obtain ⟨I1, hSF, hZ, rfl⟩ := hI
  have ea : ∀ a, a ≠ 528 → a ≠ 529 → a ≠ 530 → a ≠ 531 → m_uI I1 528 5 11 a = I0 u a := fun a h1 h2 h3 h4 => by
    rw [uI_a _ _ _ h1]
    exact hSF.1 a h2 h3 h4
  have e8 : ∀ k, k ≠ 5 → m_uI I1 528 5 11 528 k = 0 := fun k hk => by
    rw [uI_k _ _ _ hk, hSF.1 528 (by decide) (by decide) (by decide)]
    rfl
  have w1 : ∀ p, p < 3 → (∀ k, m_uI I1 528 5 11 (513 + p) k = I0 u (513 + p) k) ∧ ∀ k, m_uI I1 528 5 11 (516 + p) k = 0 := fun p hp => by
    refine ⟨fun k => by rw [ea _ (by omega) (by omega) (by omega) (by omega)], fun k => ?_⟩
    rw [ea _ (by omega) (by omega) (by omega) (by omega), I0_z (by omega) (by omega) (by omega) (by omega) (by omega)]
  have w2 : ∀ p, p < 3 → I0 u (513 + p) 0 = 0 ∧ I0 u (513 + p) 1 = 11 ∧ I0 u (513 + p) 2 = 0 ∧ I0 u (513 + p) 3 = 0 ∧ I0 u (513 + p) 7 = 1 := fun p hp => by
    rcases (show p = 0 ∨ p = 1 ∨ p = 2 by omega) with rfl | rfl | rfl <;> exact ⟨rfl, rfl, rfl, rfl, rfl⟩
  have hM1 : MS I1 (fun s => if s = 1 then 1 else 0) := fun s hs => by
    by_cases z : s = 1
    · show ZIs I1 s (if s = 1 then 1 else 0)
      rw [if_pos z, z]
      exact hZ
    · show ZIs I1 s (if s = 1 then 1 else 0)
      rw [if_neg z]
      refine ZIs.sf (I := I0 u) ?_ hSF z
      exact ⟨0, ⟨⟨by rw [I0_z (by decide) (by decide) (by decide) (by decide) (by decide)]; rfl, by decide, fun k hk => absurd hk (Nat.not_lt_zero k)⟩, rfl⟩, fun z => absurd z (Nat.lt_irrefl 0), by rw [I0_z (by decide) (by decide) (by decide) (by decide) (by decide)]; rfl⟩
  have hM : MS (m_uI I1 528 5 11) (fun s => if s = 1 then 1 else 0) := hM1.cg (uI_a _ _ _ (by decide)) (uI_a _ _ _ (by decide)) (uI_a _ _ _ (by decide))
  refine ⟨fun p hp => ?_, ⟨0, 1, fun s => if s = 1 then 1 else 0, ?_, by decide, hM, by decide, by decide, by decide, Nat.two_pow_pos _, Nat.one_lt_two_pow (by decide)⟩, ?_, fun p hp => ?_⟩
  · obtain ⟨q1, q2⟩ := w1 p hp
    obtain ⟨r0, r1, r2, r3, r7⟩ := w2 p hp
    refine ⟨11, by rw [q1, r1]; rfl, by decide, by decide, fun k _ => by show (0 : Int64).toInt.natAbs ≤ MB; decide, Or.inl (by rw [q1, r3]), fun z => ?_, fun _ _ => ⟨fun k hk => ?_, fun x hx => ?_⟩⟩
    · rw [q1, r7] at z
      exact absurd z (by decide)
    · rw [lsum_0 _ k (fun x hx => by show (m_uI I1 528 5 11 (516 + p) x).toInt = 0; rw [q2]; rfl) 19 (by decide)]
      rfl
    · rw [q2]
      decide
  · refine ⟨0, 1, ?_, ?_, by decide, by decide, Or.inr ⟨?_, by decide⟩, Nat.two_pow_pos _, Nat.one_lt_two_pow (by decide)⟩
    · refine ⟨40, 0, lay_40 (b := 234) (by decide) (by decide), ?_, by decide, fun z => absurd z (Nat.lt_irrefl 0), ?_, rfl⟩
      · show m_uI I1 528 5 11 468 1 = nI 0
        rw [ea _ (by decide) (by decide) (by decide) (by decide)]
        rfl
      · show m_uI I1 528 5 11 468 2 = _
        rw [ea _ (by decide) (by decide) (by decide) (by decide)]
        rfl
    · obtain ⟨cap, n, hB, h1, h2, h3, h4, h5⟩ := hu
      have hc : cap = 40 := by
        have := hB.2.1
        have : (Sum.inr (0, 40) : Nat ⊕ (Nat × Nat)) = .inr (0, cap) := this
        cases this
        rfl
      subst hc
      have e70 : ∀ k, m_uI I1 528 5 11 470 k = u 0 k := fun k => by
        rw [ea _ (by decide) (by decide) (by decide) (by decide)]
        rfl
      have e71 : ∀ k, m_uI I1 528 5 11 471 k = u 1 k := fun k => by
        rw [ea _ (by decide) (by decide) (by decide) (by decide)]
        rfl
      refine ⟨40, n, lay_40 (b := 235) (by decide) (by decide), ?_, h2, fun z => ?_, ?_, ?_⟩
      · show m_uI I1 528 5 11 470 1 = nI n
        rw [e70]
        exact h1
      · show m_uI I1 528 5 11 471 (n - 1) ≠ 0
        rw [e71]
        exact h3 z
      · show m_uI I1 528 5 11 470 2 = _
        rw [e70]
        exact h4
      · rw [← h5]
        refine dv_congr (fun i hi => ?_)
        show u32 (m_uI I1 528 5 11 471 i) = u32 (u 1 i)
        rw [e71]
    · show m_uI I1 528 5 11 522 4 = 1
      rw [ea _ (by decide) (by decide) (by decide) (by decide)]
      rfl
  · obtain ⟨q1, q2⟩ := w1 0 (by decide)
    obtain ⟨r0, r1, r2, r3, r7⟩ := w2 0 (by decide)
    have q1 : ∀ k, m_uI I1 528 5 11 513 k = I0 u 513 k := q1
    have q2 : ∀ k, m_uI I1 528 5 11 516 k = 0 := q2
    refine ⟨11, 0, 0, by rw [q1]; exact r1, uI_s _ _ _ _, by decide, by decide, by rw [q1]; exact r0, e8 4 (by decide), by decide, by rw [q1]; exact r2, e8 7 (by decide), by decide, fun _ => rfl, by rw [e8 6 (by decide), q1]; exact r3.symm, Or.inl (by rw [q1]; exact r3), fun _ => rfl, fun _ _ => rfl, fun k _ => by show (0 : Int64).toInt.natAbs ≤ MB; decide, fun _ _ => lr0 (e8 7 (by decide)) (fun x _ => q2 x)⟩
  · refine Or.inl ⟨?_, ?_⟩
    · rw [ea _ (by decide) (by decide) (by decide) (by decide), I0_z (by decide) (by decide) (by decide) (by decide) (by decide)]
    · rw [ea _ (by decide) (by decide) (by decide) (by decide), I0_z (by decide) (by decide) (by decide) (by decide) (by decide)]
      show (0 : Int32) ≠ 1
      decide

/-! ===== the law: rows ===== -/
abbrev lA (s : State) : Nat → Prop := fun q => s.heap.size ≤ q
def lEnv (p : Program) (s : State) (m : MethodId) (meth : Method) (c : Code) (b L : Nat) (xs : Nat → Int32) (D : va_G) (cs : Nat → ClassId) (d0 : Nat) : Prop := p.tables.exec = Jvm.exec ∧ c.code = code ∧ c.maxLocals = 4 ∧ s.vm.findClass R_law = some m.cls ∧ (∀ w ∈ m_tw, w.before #[Value.ref b] s = true) ∧ va_X b L xs s s.heap ∧ b < s.heap.size ∧ va_K D m_cl (m_ty cs) s ∧ s.heap.size ≤ d0 ∧ L ≤ 2560 ∧ meth.sig.returnType = ret ∧ meth.locks = false
def lvL (b d0 : Nat) (i : Int32) : List (Nat × Value) := [(0, .ref b), (1, .ref (d0 + 0)), (2, .ref (d0 + 528)), (3, .int i)]
def LG (p : Program) (l : Launch) (e : Env) (s : State) (m : MethodId) (below : List Frame) (meth : Method) (c : Code) (b : Nat) (D : va_G) (cs : Nat → ClassId) (d0 : Nat) (pc : Nat) (i : Int32) (st : List Value) (I : mPI) (J : mPJ) : Prop :=
  ∀ (H : Heap) (locs : List Loc) (ls : Array Slot), va_P D m_cl (m_wl cs (adL d0) shL rfL 542 I J) H → va_S (lA s) s.heap H locs → lv_has ls 4 (lvL b d0 i) → W p l e room_1 s m #[Value.ref b] below meth c H locs 600 60000 (lw_Z below #[Value.ref b] s) (F0 m pc ls st)
section LG
variable {p : Program} {l : Launch} {e : Env} {s : State} {m : MethodId} {below : List Frame} {meth : Method} {c : Code} {b L : Nat} {xs : Nat → Int32} {D : va_G} {cs : Nat → ClassId} {d0 pc : Nat} {i : Int32} {st : List Value} {I : mPI} {J : mPJ}
theorem L_al1 (E : lEnv p s m meth c b L xs D cs d0) (hd : decode code pc = .ok (.aload_n 1, 1)) (kk : LG p l e s m below meth c b D cs d0 (pc + 1) i (.ref (d0 + 0) :: st) I J) : LG p l e s m below meth c b D cs d0 pc i st I J := fun H locs ls hP hS hl => lv_aload_n E.1 E.2.1 hd rfl (lv_at hl 1 rfl) (kk H locs ls hP hS hl)
theorem L_al2 (E : lEnv p s m meth c b L xs D cs d0) (hd : decode code pc = .ok (.aload_n 2, 1)) (kk : LG p l e s m below meth c b D cs d0 (pc + 1) i (.ref (d0 + 528) :: st) I J) : LG p l e s m below meth c b D cs d0 pc i st I J := fun H locs ls hP hS hl => lv_aload_n E.1 E.2.1 hd rfl (lv_at hl 2 rfl) (kk H locs ls hP hS hl)
theorem L_nb (E : lEnv p s m meth c b L xs D cs d0) : ¬ lA s b := Nat.not_le.mpr E.2.2.2.2.2.2.1
theorem L_arg (E : lEnv p s m meth c b L xs D cs d0) {z : Int} (j : Nat) {k : Nat} (h0 : decode code pc = .ok (.aload_n 0, 1)) (h1 : decode code (pc + 1) = .ok (.iload_n 3, 1)) (h2 : decode code (pc + 1 + 1) = .ok (.iconst z, 1)) (h3 : decode code (pc + 1 + 1 + 1) = .ok (.iadd, 1)) (h4 : decode code (pc + 1 + 1 + 1 + 1) = .ok (.iaload, 1)) (hz : Int32.ofInt z = nI j) (hj : j < 5) (hi : i = nI k) (hk : k + 5 ≤ L) (kk : LG p l e s m below meth c b D cs d0 (pc + 1 + 1 + 1 + 1 + 1) i (.int (xs (k + j)) :: st) I J) : LG p l e s m below meth c b D cs d0 pc i st I J := fun H locs ls hP hS hl => by
  have hL := E.2.2.2.2.2.2.2.2.2.1
  refine lv_aload_n E.1 E.2.1 h0 rfl (lv_at hl 0 rfl) ?_
  refine lv_iload_n E.1 E.2.1 h1 rfl (lv_at hl 3 rfl) ?_
  refine lv_iconst E.1 E.2.1 h2 hz ?_
  refine lv_iadd E.1 E.2.1 h3 ?_
  have e1 : i + nI j = nI (k + j) := by rw [hi, nI_add]
  rw [e1]
  refine va_sld E.1 E.2.1 E.2.2.2.2.2.1 E.2.2.2.2.2.2.1 (L_nb E) hS (vp_in_nI (by omega) (by omega)) h4 ?_
  rw [nI_clamp (by omega)]
  exact kk H locs ls hP hS hl
theorem L_cat (ad : Nat → Nat) (r : Option mPV) : (((m_ol r).map (m_ev ad) ++ []).map fun v : Value => v.category).sum ≤ 8 := by
  rcases r with - | r
  · exact Nat.zero_le _
  · rcases r with x | x | x
    · exact Nat.le_of_ble_eq_true rfl
    · exact Nat.le_of_ble_eq_true rfl
    · exact Nat.le_of_ble_eq_true rfl
theorem L_call (E : lEnv p s m meth c b L xs D cs d0) {y : MethodName} {bytes : ByteArray} {maxL fr lc : Nat} {PT : mSH → mRF → mPT} {rest st0 : List Value} {K : mKT} {As1 : List mPV} {i0 k nA ci : Nat} {q : vw_C} (hM : m_Mt y bytes maxL (some .int) fr lc PT) (hdec : decode code pc = .ok (.invokevirtual k, 3)) (hcl : m_cl[ci]? = some q) (hq : q.1 = y.cls)
    (hw : ∀ w ∈ [Cond.methodLink R_law k y, Cond.instanceMethod y, Cond.selects y.cls y y, Cond.initialized y.cls, Cond.code y bytes maxL (some .int)], w ∈ m_tb) (hd : y.cls = y.cls ∧ y.cls ≠ "java/lang/invoke/MethodHandle" ∧ y.cls ≠ "java/lang/invoke/VarHandle" ∧ (parseMethodDescriptor y.desc).map (fun d => d.parameters.length) = some nA) (hR : fr + 1 ≤ room_1.frames ∧ 8 + (maxL + 11) + lc ≤ room_1.locals)
    (hpt : PT shL rfL (.inr (.inr i0) :: As1) I J K) (hsh : shL i0 = .inl ci) (hlen : As1.length = nA) (hst : (rest.map fun v => v.category).sum ≤ 8) (hst0 : st0 = (As1.map (m_ev (adL d0))).reverse ++ .ref (adL d0 i0) :: rest)
    (kk : ∀ r I1 J1, K r I1 J1 → LG p l e s m below meth c b D cs d0 (pc + 3) i ((m_ol r).map (m_ev (adL d0)) ++ rest) I1 J1) : LG p l e s m below meth c b D cs d0 pc i st0 I J := fun H locs ls hP hS hl => by
  refine v_call (N := 542) (ad := adL d0) (sh := shL) (rf := rfL) (A0 := lA s) hM E.1 E.2.1 E.2.2.1 E.2.2.2.1 E.2.2.2.2.1 E.2.2.2.2.2.2.2.1 (ad_inj d0) lay_N hcl hq hw hd hR ⟨Nat.le_of_ble_eq_true rfl, Nat.le_of_ble_eq_true rfl⟩ hpt hsh hP hS (fun z hz => ?_) hlen hl.1 hst hdec hst0 (fun r I1 J1 H1 locs1 hK1 hP1 _ _ hS1 => kk r I1 J1 hK1 H1 locs1 ls hP1 hS1 hl)
  obtain ⟨a, -, rfl⟩ := hz
  exact Nat.le_trans E.2.2.2.2.2.2.2.2.1 (Nat.le_add_right d0 _)
theorem L_eq (E : lEnv p s m meth c b L xs D cs d0) {off : Int} {v : Int32} (hd : decode code pc = .ok (.if_icmp .eq off, 3)) (ht : (pc : Int) + off = (1001 : Nat)) (kk : LG p l e s m below meth c b D cs d0 1001 i st I J) : LG p l e s m below meth c b D cs d0 pc i (.int v :: .int v :: st) I J := fun H locs ls hP hS hl => lv_icmp_eq E.1 E.2.1 hd ht (fun _ => kk H locs ls hP hS hl) (fun q => absurd rfl q)
end LG

