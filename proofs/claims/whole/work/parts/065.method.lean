/-! ===== the method rule with cuts from the entry on; calls of the JDK's native copy; words on contracts ===== -/
section MS
variable {p : Program} {l : Launch} {e : Env} {R : Room} {s : State} {m : MethodId} {args : Array Value} {below : List Frame} {meth : Method} {c : Code} {Q : State → Prop} {cc : ByteArray} {own : String}
variable {D : va_G} {cs : Nat → ClassId} {ad : Nat → Nat} {sh : mSH} {rf : mRF} {N : Nat} {nL : Nat}
theorem m_go_ok (hx : p.tables.exec = Jvm.exec) (hb : c.code = cc) (hown : s.vm.findClass own = some m.cls) (hts : ∀ w ∈ m_tw, w.before args s = true) (hK : va_K D m_cl (m_ty cs) s) (hi : ∀ i j, i < N → j < N → ad i = ad j → i = j) (hN : ∀ i, sh i ≠ .inr (9, 0) → i < N)
    {fl : List mFL} (hfl : fl.all (m_fck own) = true) {kI : List (Nat × Int32 × Nat)} (hkI : kI.all (m_kck own) = true) {kJ : List (Nat × Int64 × Nat)} (hkJ : kJ.all (m_kckL own) = true) {ct : Nat → Option (Nat × Bool × mPT)} (hct : ∀ k n vf pt, ct k = some (n, vf, pt) → m_CG p l e R s m args below meth c Q D cs ad sh rf N nL cc k n vf pt)
    {rk : Nat} {QP : mKT} (hE : m_E p l e R s m args below meth c Q D cs ad sh rf N nL cc rk QP) {cd : List mIN} (hcd : cd.all (m_ick cc) = true) (hch : m_ch cd = true) {cut : List (Nat × List Nat)} {Cv : mCV}
    (hcut : ∀ pc ks vs st I J, m_cu cut pc = some ks → Cv pc vs st I J → m_G p l e R s m args below meth c Q D cs ad sh rf N nL pc (ks.zip vs) st I J)
    (n : Nat) (q : mIN) (tl : List mIN) (lv : mLV) (st : List mPV) (I : mPI) (J : mPJ) (hs : ∃ u, u ++ (q :: tl) = cd) (h : m_go cut Cv (m_wp nL fl kI kJ ct sh rf rk QP cd cut Cv n) (q :: tl) lv st I J) : m_G p l e R s m args below meth c Q D cs ad sh rf N nL q.1 lv st I J := by
  obtain ⟨pc1, q1⟩ := q
  unfold m_go at h
  simp only at h
  split at h
  · rename_i ks hks
    split at h
    · rename_i vs hvs
      have h2 := hcut pc1 ks vs st I J hks h
      exact fun H locs ls hP hS hl => h2 H locs ls hP hS (m_weak hl hvs)
    · exact h.elim
  · exact m_wp_ok hx hb hown hts hK hi hN hfl hkI hkJ hct hE hcd hch hcut n (pc1, q1) tl lv st I J hs h
end MS
theorem m_methodG {y : MethodName} {bytes : ByteArray} {maxL : Nat} {ret : Option FieldType} {fr lc rk fu : Nat} {PT : mSH → mRF → mPT} {fl : List mFL} {kI : List (Nat × Int32 × Nat)} {kJ : List (Nat × Int64 × Nat)} {ct : mSH → mRF → Nat → Option (Nat × Bool × mPT)} {cd : List mIN} {cut : List (Nat × List Nat)}
    (hy : plainName y.cls = true) (hfl : fl.all (m_fck y.cls) = true) (hkI : kI.all (m_kck y.cls) = true) (hkJ : kJ.all (m_kckL y.cls) = true) (hct : m_CE y.cls fr lc bytes maxL ct) (hrk : m_rkok rk ret) (hcd : cd.all (m_ick bytes) = true ∧ m_ch cd = true) (hcd0 : ∃ q tl, cd = q :: tl ∧ q.1 = 0)
    (hvc : ∀ sh rf As I J K, PT sh rf As I J K → (As.map m_cat).sum ≤ maxL ∧ ∃ Inv : Nat → Nat → mCV,
      m_go cut (fun pc1 vs1 st1 I1 J1 => ∃ a1 b1, Inv a1 b1 pc1 vs1 st1 I1 J1) (m_wp maxL fl kI kJ (ct sh rf) sh rf rk K cd cut (fun pc1 vs1 st1 I1 J1 => ∃ a1 b1, Inv a1 b1 pc1 vs1 st1 I1 J1) fu) cd (m_args 0 As) [] I J ∧
      ∀ pc ks a b vs st I J, m_cu cut pc = some ks → Inv a b pc vs st I J → m_wp maxL fl kI kJ (ct sh rf) sh rf rk K cd cut (fun pc1 vs1 st1 I1 J1 => ∃ a1 b1, (a1 < a ∨ (a1 = a ∧ b1 < b)) ∧ Inv a1 b1 pc1 vs1 st1 I1 J1) fu (m_jmp cd pc) (ks.zip vs) st I J) :
    m_Mt y bytes maxL ret fr lc PT := by
  intro l D cs ad sh rf N As I J K hi hN hpt
  obtain ⟨hsz, Inv, h0, hstep⟩ := hvc sh rf As I J K hpt
  refine Met.ofW (cc := bytes) (maxL := maxL) (ret := ret) hy rfl ?_
  intro p e s m args below meth c s₁ B hml hv
  obtain ⟨rfl, hP, hK, hnw⟩ := hv
  have hx := B.exec
  have hb := B.bytes
  have hr := B.returns
  have hts : ∀ w ∈ m_tw, w.before (As.map (m_ev ad)).toArray s = true := fun w hw => by
    rcases List.mem_append.mp hw with h | h
    · rcases List.mem_cons.mp h with rfl | h
      · exact hnw.1.use rfl
      · rcases List.mem_cons.mp h with rfl | h
        · exact hnw.2.use rfl
        · cases h
    · exact atoms_spec (ws := m_ws y bytes maxL ret) B.pre w (List.mem_cons_of_mem _ h)
  have hown : s.vm.findClass y.cls = some m.cls := findClass_of_methodNamed B.named
  have hlocks := B.notSynchronized
  have hl := lv_entry (As.map (m_ev ad)) (n := maxL) (by rw [m_args_len]; exact hsz)
  rw [lg_entry_eq]
  rw [m_args_el] at hl
  have hE := m_E_of (p := p) (l := l) (e := e) (R := m_rm fr lc) (below := below) (args := (As.map (m_ev ad)).toArray) (m := m) (nL := maxL) (ad := ad) (sh := sh) (rf := rf) (N := N) hx hb hr hlocks hK hnw hrk K
  have hc := hct p l e s m (As.map (m_ev ad)).toArray below meth c (MQ below (m_Q D cs ad sh rf N K) (As.map (m_ev ad)).toArray s 0 0 (m_A ad N)) D cs ad sh rf N hx hb hml hown hts hK hi hN
  obtain ⟨q, tl, rfl, hq0⟩ := hcd0
  have hG := m_go_ok hx hb hown hts hK hi hN hfl hkI hkJ hc hE hcd.1 hcd.2 (cut := cut) (Cv := fun pc1 vs1 st1 I1 J1 => ∃ a1 b1, Inv a1 b1 pc1 vs1 st1 I1 J1) (fun pc ks vs st I1 J1 hks hex => by
    obtain ⟨a1, b1, h1⟩ := hex
    exact m_wp_inv hx hb hown hts hK hi hN hfl hkI hkJ hc hE hcd.1 hcd.2 hstep a1 b1 pc ks vs st I1 J1 hks h1) fu q tl (m_args 0 As) [] I J ⟨[], rfl⟩ h0
  rw [hq0] at hG
  exact hG s.heap [] _ hP va_S.rf hl
/-- without loops -/
theorem m_method0 {y : MethodName} {bytes : ByteArray} {maxL : Nat} {ret : Option FieldType} {fr lc rk : Nat} (fu : Nat) {PT : mSH → mRF → mPT} {fl : List mFL} {kI : List (Nat × Int32 × Nat)} {kJ : List (Nat × Int64 × Nat)} {ct : mSH → mRF → Nat → Option (Nat × Bool × mPT)} {cd : List mIN}
    (hy : plainName y.cls = true) (hfl : fl.all (m_fck y.cls) = true) (hkI : kI.all (m_kck y.cls) = true) (hkJ : kJ.all (m_kckL y.cls) = true) (hct : m_CE y.cls fr lc bytes maxL ct) (hrk : m_rkok rk ret) (hcd : cd.all (m_ick bytes) = true ∧ m_ch cd = true) (hcd0 : ∃ q tl, cd = q :: tl ∧ q.1 = 0)
    (hvc : ∀ sh rf As I J K, PT sh rf As I J K → (As.map m_cat).sum ≤ maxL ∧ m_wp maxL fl kI kJ (ct sh rf) sh rf rk K cd [] (fun _ _ _ _ _ => False) fu cd (m_args 0 As) [] I J) :
    m_Mt y bytes maxL ret fr lc PT := by
  refine m_methodG (fu := fu) (cut := []) hy hfl hkI hkJ hct hrk hcd hcd0 (fun sh rf As I J K hpt => ?_)
  obtain ⟨h1, h2⟩ := hvc sh rf As I J K hpt
  obtain ⟨q, tl, rfl, -⟩ := hcd0
  have e9 : (fun (pc1 : Nat) (vs1 st1 : List mPV) (I1 : mPI) (J1 : mPJ) => ∃ a1 b1 : Nat, (fun (_ _ : Nat) (_ : Nat) (_ _ : List mPV) (_ : mPI) (_ : mPJ) => False) a1 b1 pc1 vs1 st1 I1 J1) = (fun _ _ _ _ _ => False) := by
    funext pc1 vs1 st1 I1 J1
    exact propext ⟨fun ⟨_, _, h⟩ => h, fun h => h.elim⟩
  refine ⟨h1, fun _ _ _ _ _ _ _ => False, ?_, fun pc ks a b vs st I J h => by cases h⟩
  rw [e9]
  exact h2
theorem m_cu1 {p : Nat} {k ks : List Nat} {l : List (Nat × List Nat)} {pc : Nat} (h : m_cu ((p, k) :: l) pc = some ks) : (pc = p ∧ ks = k) ∨ m_cu l pc = some ks := by
  unfold m_cu at h
  split at h
  · rename_i hb
    exact Or.inl ⟨(Nat.eq_of_beq_eq_true hb).symm, (Option.some.inj h).symm⟩
  · exact Or.inr h
/-- a contract of an instance method: the receiver's class first -/
def m_pv (ci : Nat) (body : mSH → mRF → Nat → List mPV → mPI → mPJ → mKT → Prop) : mSH → mRF → mPT := fun sh rf As I J K => ∃ b rest, As = Sum.inr (.inr b) :: rest ∧ sh b = .inl ci ∧ body sh rf b rest I J K
theorem m_pv_rec {ci : Nat} {body : mSH → mRF → Nat → List mPV → mPI → mPJ → mKT → Prop} {sh : mSH} {rf : mRF} (As : List mPV) (I : mPI) (J : mPJ) (K : mKT) (h : m_pv ci body sh rf As I J K) : ∃ i As1, As = Sum.inr (.inr i) :: As1 ∧ sh i = .inl ci := by
  obtain ⟨b, rest, h1, h2, -⟩ := h
  exact ⟨b, rest, h1, h2⟩
/-- no calls -/
def ct_none : mSH → mRF → Nat → Option (Nat × Bool × mPT) := fun _ _ _ => none
theorem ce_none (own : String) (fr lc : Nat) (cc : ByteArray) (nL : Nat) : m_CE own fr lc cc nL ct_none := by
  intro p l e s m args below meth c Q D cs ad sh rf N hx hb hml hown hts hK hi hN k n vf pt h
  cases h
/-- System.arraycopy over ints, over longs -/
def pt_cpI (sh : mSH) (_ : mRF) : mPT := fun As I J K => ∃ (a0 : Nat) (sp : Int32) (a : Nat) (dp n : Int32) (n0 n1 : Nat), As = [.inr (.inr a0), .inl sp, .inr (.inr a), .inl dp, .inl n] ∧ sh a0 = .inr (0, n0) ∧ sh a = .inr (0, n1) ∧ ¬ sp < 0 ∧ ¬ dp < 0 ∧ ¬ n < 0 ∧ sp.toNatClampNeg + n.toNatClampNeg ≤ n0 ∧ dp.toNatClampNeg + n.toNatClampNeg ≤ n1 ∧ K none (va_up I a (va_cpy (I a0) (I a) sp.toNatClampNeg dp.toNatClampNeg n.toNatClampNeg)) J
def pt_cpJ (sh : mSH) (_ : mRF) : mPT := fun As I J K => ∃ (a0 : Nat) (sp : Int32) (a : Nat) (dp n : Int32) (n0 n1 : Nat), As = [.inr (.inr a0), .inl sp, .inr (.inr a), .inl dp, .inl n] ∧ sh a0 = .inr (1, n0) ∧ sh a = .inr (1, n1) ∧ ¬ sp < 0 ∧ ¬ dp < 0 ∧ ¬ n < 0 ∧ sp.toNatClampNeg + n.toNatClampNeg ≤ n0 ∧ dp.toNatClampNeg + n.toNatClampNeg ≤ n1 ∧ K none I (va_up J a (va_cpy (J a0) (J a) sp.toNatClampNeg dp.toNatClampNeg n.toNatClampNeg))
theorem m_setA0 {cs : Nat → ClassId} {ad : Nat → Nat} {sh : mSH} {rf : mRF} {N : Nat} {I : mPI} {J : mPJ} {i n : Nat} {f : Nat → Int32} (h : sh i = .inr (0, n)) : (m_wl cs ad sh rf N I J).set i (ad i, .inl (cs 0, n, .inl f)) = m_wl cs ad sh rf N (va_up I i f) J := by
  refine m_wl_set ?_ (fun j hj => m_ce_I (fun b => by rw [va_up_ne I f hj]) (fun _ => rfl))
  unfold m_ce m_ar
  rw [h, va_up_self]
  rfl
theorem m_setA1 {cs : Nat → ClassId} {ad : Nat → Nat} {sh : mSH} {rf : mRF} {N : Nat} {I : mPI} {J : mPJ} {i n : Nat} {f : Nat → Int64} (h : sh i = .inr (1, n)) : (m_wl cs ad sh rf N I J).set i (ad i, .inl (cs 1, n, .inr (.inl f))) = m_wl cs ad sh rf N I (va_up J i f) := by
  refine m_wl_set ?_ (fun j hj => m_ce_I (fun _ => rfl) (fun b => by rw [va_up_ne J f hj]))
  unfold m_ce m_ar
  rw [h, va_up_self]
  rfl
section MC
variable {p : Program} {l : Launch} {e : Env} {R : Room} {s : State} {m : MethodId} {args : Array Value} {below : List Frame} {meth : Method} {c : Code} {Q : State → Prop} {cc : ByteArray} {own : String}
variable {D : va_G} {cs : Nat → ClassId} {ad : Nat → Nat} {sh : mSH} {rf : mRF} {N : Nat} {nL : Nat}
theorem m_catsum {ad : Nat → Nat} {rest : List mPV} : ((rest.map (m_ev ad)).map fun v => v.category).sum = (rest.map m_cat).sum := by
  rw [List.map_map, show ((fun v : Value => v.category) ∘ m_ev ad) = m_cat from funext (fun v => m_cat_ev ad v)]
theorem m_CG_cpI (hx : p.tables.exec = Jvm.exec) (hb : c.code = cc) (hml : c.maxLocals = nL) (hown : s.vm.findClass own = some m.cls) (hts : ∀ w ∈ m_tw, w.before args s = true) (hK : va_K D m_cl (m_ty cs) s) (hi : ∀ i j, i < N → j < N → ad i = ad j → i = j) (hN : ∀ i, sh i ≠ .inr (9, 0) → i < N)
    {k : Nat} (hw : ∀ w ∈ [Cond.methodLink own k arraycopyName, Cond.native arraycopyName, Cond.static arraycopyName, Cond.initialized "java/lang/System"], w ∈ m_tb) (hR : 1 ≤ R.frames ∧ 8 + (nativeFrameWords "java/lang/System" "arraycopy" 5 + 11) ≤ R.locals) :
    m_CG p l e R s m args below meth c Q D cs ad sh rf N nL cc k 5 false (pt_cpI sh rf) := by
  intro pc hdec As rest lv I J K hlen hcat hpt hk H locs ls hP hS hl
  obtain ⟨a0, sp, a, dp, n, n0, n1, rfl, h1, h2, h3, h4, h5, h6, h7, h8⟩ := hpt
  have ha0 : a0 < N := hN a0 (by rw [h1]; simp)
  have ha : a < N := hN a (by rw [h2]; simp)
  refine va_copyi hx hb (hml.trans hl.1.symm) hown (hts _ (m_tb_w (hw _ (by simp)))) (hts _ (m_tb_w (hw _ (by simp)))) (hts _ (m_tb_w (hw _ (by simp)))) (hts _ (m_tb_w (hw _ (by simp)))) hK hP (m_wl_D hi cs sh rf I J) hS a0 a 0 0 (m_w0 h1 ha0) (m_w0 h2 ha) rfl rfl rfl h3 h4 h5 h6 h7 (fun _ _ => rfl) hR.1 ?_ hdec (fun H1 locs1 hP1 _ hS1 => ?_)
  · rw [m_catsum]
    have h9 : (List.map m_cat ([].append rest)).sum ≤ 8 := hcat
    have := hR.2
    omega
  · rw [m_setA0 h2] at hP1
    exact hk none _ _ h8 H1 locs1 ls hP1 hS1 hl
theorem m_CG_cpJ (hx : p.tables.exec = Jvm.exec) (hb : c.code = cc) (hml : c.maxLocals = nL) (hown : s.vm.findClass own = some m.cls) (hts : ∀ w ∈ m_tw, w.before args s = true) (hK : va_K D m_cl (m_ty cs) s) (hi : ∀ i j, i < N → j < N → ad i = ad j → i = j) (hN : ∀ i, sh i ≠ .inr (9, 0) → i < N)
    {k : Nat} (hw : ∀ w ∈ [Cond.methodLink own k arraycopyName, Cond.native arraycopyName, Cond.static arraycopyName, Cond.initialized "java/lang/System"], w ∈ m_tb) (hR : 1 ≤ R.frames ∧ 8 + (nativeFrameWords "java/lang/System" "arraycopy" 5 + 11) ≤ R.locals) :
    m_CG p l e R s m args below meth c Q D cs ad sh rf N nL cc k 5 false (pt_cpJ sh rf) := by
  intro pc hdec As rest lv I J K hlen hcat hpt hk H locs ls hP hS hl
  obtain ⟨a0, sp, a, dp, n, n0, n1, rfl, h1, h2, h3, h4, h5, h6, h7, h8⟩ := hpt
  have ha0 : a0 < N := hN a0 (by rw [h1]; simp)
  have ha : a < N := hN a (by rw [h2]; simp)
  refine va_copyl hx hb (hml.trans hl.1.symm) hown (hts _ (m_tb_w (hw _ (by simp)))) (hts _ (m_tb_w (hw _ (by simp)))) (hts _ (m_tb_w (hw _ (by simp)))) (hts _ (m_tb_w (hw _ (by simp)))) hK hP (m_wl_D hi cs sh rf I J) hS a0 a 1 1 (m_w1 h1 ha0) (m_w1 h2 ha) rfl rfl rfl h3 h4 h5 h6 h7 (fun _ _ => rfl) hR.1 ?_ hdec (fun H1 locs1 hP1 _ hS1 => ?_)
  · rw [m_catsum]
    have h9 : (List.map m_cat ([].append rest)).sum ≤ 8 := hcat
    have := hR.2
    omega
  · rw [m_setA1 h2] at hP1
    exact hk none _ _ h8 H1 locs1 ls hP1 hS1 hl
end MC
