/-! ===== walks of a whole method: at a cut its invariant ===== -/
def m_jmp (cd : List mIN) (t : Nat) : List mIN := cd.dropWhile (fun q => !(Nat.beq q.1 t))
def m_lks (lv : mLV) : List Nat → Option (List mPV)
  | [] => some []
  | k :: ks => match m_lk lv k, m_lks lv ks with
    | some v, some vs => some (v :: vs)
    | _, _ => none
def m_cu : List (Nat × List Nat) → Nat → Option (List Nat)
  | [], _ => none
  | (q, ks) :: l, k => match Nat.beq q k with
    | true => some ks
    | false => m_cu l k
abbrev mCV : Type := Nat → List mPV → List mPV → mPI → mPJ → Prop
def m_go (cut : List (Nat × List Nat)) (Cv : mCV) (w : List mIN → mLV → List mPV → mPI → mPJ → Prop) (cs : List mIN) (lv : mLV) (st : List mPV) (I : mPI) (J : mPJ) : Prop :=
  match cs with
  | [] => False
  | (pc, q) :: tl => match m_cu cut pc with
    | some ks => match m_lks lv ks with
      | some vs => Cv pc vs st I J
      | none => False
    | none => w ((pc, q) :: tl) lv st I J
def m_wp (nL : Nat) (fl : List mFL) (kI : List (Nat × Int32 × Nat)) (kJ : List (Nat × Int64 × Nat)) (ct : Nat → Option (Nat × Bool × mPT)) (sh : mSH) (rf : mRF) (rk : Nat) (QP : mKT) (cd : List mIN) (cut : List (Nat × List Nat)) (Cv : mCV) : Nat → List mIN → mLV → List mPV → mPI → mPJ → Prop
  | 0, _, _, _, _, _ => False
  | n + 1, cs, lv, st, I, J => match cs with
    | [] => False
    | (_, ins, _, ts, v) :: tl => m_sp nL fl kI kJ ct sh rf rk QP (m_go cut Cv (m_wp nL fl kI kJ ct sh rf rk QP cd cut Cv n) tl) (fun t => m_go cut Cv (m_wp nL fl kI kJ ct sh rf rk QP cd cut Cv n) (m_jmp cd t)) ins ts v lv st I J
def m_ch : List mIN → Bool
  | a :: b :: l => Nat.beq b.1 (a.1 + a.2.2.1) && m_ch (b :: l)
  | _ => true
theorem m_ch_tl {a : mIN} {l : List mIN} (h : m_ch (a :: l) = true) : m_ch l = true := by
  cases l with
  | nil => rfl
  | cons b l =>
    unfold m_ch at h
    rw [Bool.and_eq_true] at h
    exact h.2
theorem m_ch_suf {cd : List mIN} : ∀ (t : List mIN) {cs : List mIN}, t ++ cs = cd → m_ch cd = true → m_ch cs = true := by
  intro t
  induction t generalizing cd with
  | nil => intro cs h hc; rw [← h] at hc; exact hc
  | cons a t ih => intro cs h hc; rw [← h] at hc; exact ih rfl (m_ch_tl hc)
theorem m_jmp_suf (cd : List mIN) (t : Nat) : ∃ u, u ++ m_jmp cd t = cd := by
  unfold m_jmp
  exact ⟨cd.takeWhile (fun q => !(Nat.beq q.1 t)), List.takeWhile_append_dropWhile⟩
theorem m_jmp_hd : ∀ (cd : List mIN) (t : Nat) {q : mIN} {tl : List mIN}, m_jmp cd t = q :: tl → q.1 = t
  | [], t, q, tl, h => by simp [m_jmp] at h
  | a :: l, t, q, tl, h => by
    unfold m_jmp at h
    rw [List.dropWhile_cons] at h
    split at h
    · exact m_jmp_hd l t h
    · rename_i hb
      have e := List.cons.inj h
      rw [← e.1]
      cases hb2 : Nat.beq a.1 t
      · rw [hb2] at hb; exact absurd rfl hb
      · exact Nat.eq_of_beq_eq_true hb2
theorem m_lks_mem {lv : mLV} : ∀ {ks : List Nat} {vs : List mPV}, m_lks lv ks = some vs → ∀ q ∈ ks.zip vs, m_lk lv q.1 = some q.2
  | [], vs, h, q, hq => by simp at hq
  | k :: ks, vs, h, q, hq => by
    unfold m_lks at h
    split at h
    · rename_i v vs' h1 h2
      cases h
      rw [List.zip_cons_cons] at hq
      rcases List.mem_cons.mp hq with rfl | hq
      · exact h1
      · exact m_lks_mem h2 q hq
    · cases h
theorem m_weak {ad : Nat → Nat} {ls : Array Slot} {nL : Nat} {lv : mLV} {ks : List Nat} {vs : List mPV} (hl : lv_has ls nL (m_el ad lv)) (h : m_lks lv ks = some vs) : lv_has ls nL (m_el ad (ks.zip vs)) := by
  refine ⟨hl.1, hl.2.1, fun q hq => ?_⟩
  obtain ⟨r, hr, rfl⟩ := List.mem_map.mp hq
  exact m_at hl (m_lks_mem h r hr)
section MS
variable {p : Program} {l : Launch} {e : Env} {R : Room} {s : State} {m : MethodId} {args : Array Value} {below : List Frame} {meth : Method} {c : Code} {Q : State → Prop} {cc : ByteArray} {own : String}
variable {D : va_G} {cs : Nat → ClassId} {ad : Nat → Nat} {sh : mSH} {rf : mRF} {N : Nat} {nL : Nat}
set_option maxHeartbeats 1000000 in
theorem m_wp_ok (hx : p.tables.exec = Jvm.exec) (hb : c.code = cc) (hown : s.vm.findClass own = some m.cls) (hts : ∀ w ∈ m_tw, w.before args s = true) (hK : va_K D m_cl (m_ty cs) s) (hi : ∀ i j, i < N → j < N → ad i = ad j → i = j) (hN : ∀ i, sh i ≠ .inr (9, 0) → i < N)
    {fl : List mFL} (hfl : fl.all (m_fck own) = true) {kI : List (Nat × Int32 × Nat)} (hkI : kI.all (m_kck own) = true) {kJ : List (Nat × Int64 × Nat)} (hkJ : kJ.all (m_kckL own) = true) {ct : Nat → Option (Nat × Bool × mPT)} (hct : ∀ k n vf pt, ct k = some (n, vf, pt) → m_CG p l e R s m args below meth c Q D cs ad sh rf N nL cc k n vf pt)
    {rk : Nat} {QP : mKT} (hE : m_E p l e R s m args below meth c Q D cs ad sh rf N nL cc rk QP) {cd : List mIN} (hcd : cd.all (m_ick cc) = true) (hch : m_ch cd = true) {cut : List (Nat × List Nat)} {Cv : mCV}
    (hcut : ∀ pc ks vs st I J, m_cu cut pc = some ks → Cv pc vs st I J → m_G p l e R s m args below meth c Q D cs ad sh rf N nL pc (ks.zip vs) st I J) :
    ∀ (n : Nat) (q : mIN) (tl : List mIN) (lv : mLV) (st : List mPV) (I : mPI) (J : mPJ), (∃ u, u ++ (q :: tl) = cd) → m_wp nL fl kI kJ ct sh rf rk QP cd cut Cv n (q :: tl) lv st I J → m_G p l e R s m args below meth c Q D cs ad sh rf N nL q.1 lv st I J := by
  intro n
  induction n with
  | zero => intro q tl lv st I J _ h; exact h.elim
  | succ n ih =>
    intro q tl lv st I J hsuf h
    obtain ⟨pc, ins, len, ts, v⟩ := q
    have hmem : (pc, ins, len, ts, v) ∈ cd := by
      obtain ⟨u, hu⟩ := hsuf
      rw [← hu]
      exact List.mem_append_right _ List.mem_cons_self
    have hgo : ∀ (cs1 : List mIN), (∃ u, u ++ cs1 = cd) → ∀ (q1 : mIN) (tl1 : List mIN), cs1 = q1 :: tl1 → ∀ lv st I J, m_go cut Cv (m_wp nL fl kI kJ ct sh rf rk QP cd cut Cv n) cs1 lv st I J → m_G p l e R s m args below meth c Q D cs ad sh rf N nL q1.1 lv st I J := by
      intro cs1 hs1 q1 tl1 e1 lv st I J h1
      subst e1
      obtain ⟨pc1, q1⟩ := q1
      unfold m_go at h1
      simp only at h1
      split at h1
      · rename_i ks hks
        split at h1
        · rename_i vs hvs
          have h2 := hcut pc1 ks vs st I J hks h1
          exact fun H locs ls hP hS hl => h2 H locs ls hP hS (m_weak hl hvs)
        · exact h1.elim
      · exact ih (pc1, q1) tl1 lv st I J hs1 h1
    refine m_sp_ok hx hb hown hts hK hi hN hfl hkI hkJ hct hE (List.all_eq_true.mp hcd _ hmem) (fun lv st I J h1 => ?_) (fun t lv st I J h1 => ?_) h
    · cases tl with
      | nil => exact h1.elim
      | cons q1 tl1 =>
        obtain ⟨u, hu⟩ := hsuf
        have hc := m_ch_suf u hu hch
        unfold m_ch at hc
        rw [Bool.and_eq_true] at hc
        have e2 : q1.1 = pc + len := Nat.eq_of_beq_eq_true hc.1
        rw [← e2]
        exact hgo (q1 :: tl1) ⟨u ++ [(pc, ins, len, ts, v)], by rw [← hu]; simp⟩ q1 tl1 rfl lv st I J h1
    · have h2 := m_jmp_suf cd t
      cases hj : m_jmp cd t with
      | nil => rw [hj] at h1; exact h1.elim
      | cons q1 tl1 =>
        rw [← m_jmp_hd cd t hj]
        exact hgo (m_jmp cd t) h2 q1 tl1 hj lv st I J h1
/-- with invariants that fall in (a, b) -/
theorem m_wp_inv (hx : p.tables.exec = Jvm.exec) (hb : c.code = cc) (hown : s.vm.findClass own = some m.cls) (hts : ∀ w ∈ m_tw, w.before args s = true) (hK : va_K D m_cl (m_ty cs) s) (hi : ∀ i j, i < N → j < N → ad i = ad j → i = j) (hN : ∀ i, sh i ≠ .inr (9, 0) → i < N)
    {fl : List mFL} (hfl : fl.all (m_fck own) = true) {kI : List (Nat × Int32 × Nat)} (hkI : kI.all (m_kck own) = true) {kJ : List (Nat × Int64 × Nat)} (hkJ : kJ.all (m_kckL own) = true) {ct : Nat → Option (Nat × Bool × mPT)} (hct : ∀ k n vf pt, ct k = some (n, vf, pt) → m_CG p l e R s m args below meth c Q D cs ad sh rf N nL cc k n vf pt)
    {rk : Nat} {QP : mKT} (hE : m_E p l e R s m args below meth c Q D cs ad sh rf N nL cc rk QP) {cd : List mIN} (hcd : cd.all (m_ick cc) = true) (hch : m_ch cd = true) {cut : List (Nat × List Nat)} {Inv : Nat → Nat → mCV} {fu : Nat}
    (hstep : ∀ pc ks a b vs st I J, m_cu cut pc = some ks → Inv a b pc vs st I J → m_wp nL fl kI kJ ct sh rf rk QP cd cut (fun pc1 vs1 st1 I1 J1 => ∃ a1 b1, (a1 < a ∨ (a1 = a ∧ b1 < b)) ∧ Inv a1 b1 pc1 vs1 st1 I1 J1) fu (m_jmp cd pc) (ks.zip vs) st I J) :
    ∀ (a b pc : Nat) (ks : List Nat) (vs st : List mPV) (I : mPI) (J : mPJ), m_cu cut pc = some ks → Inv a b pc vs st I J → m_G p l e R s m args below meth c Q D cs ad sh rf N nL pc (ks.zip vs) st I J := by
  intro a
  induction a using Nat.strongRecOn with
  | ind a iha =>
    intro b
    induction b using Nat.strongRecOn with
    | ind b ihb =>
      intro pc ks vs st I J hks hI
      have h1 := hstep pc ks a b vs st I J hks hI
      cases hj : m_jmp cd pc with
      | nil =>
        rw [hj] at h1
        cases fu <;> exact h1.elim
      | cons q1 tl1 =>
        rw [hj] at h1
        rw [← m_jmp_hd cd pc hj]
        refine m_wp_ok hx hb hown hts hK hi hN hfl hkI hkJ hct hE hcd hch ?_ fu q1 tl1 _ st I J (by rw [← hj]; exact m_jmp_suf cd pc) h1
        rintro pc1 ks1 vs1 st1 I1 J1 hks1 ⟨a1, b1, hlt, hI1⟩
        rcases hlt with hlt | ⟨rfl, hlt⟩
        · exact iha a1 hlt b1 pc1 ks1 vs1 st1 I1 J1 hks1 hI1
        · exact ihb b1 hlt pc1 ks1 vs1 st1 I1 J1 hks1 hI1
end MS
/-! ===== a method's contract over named worlds ===== -/
def m_nw (U : State) : Prop := va_Nw (Cond.fieldLinkNest RX2 68 "MomentDesk$Big" "negative" "Z" "MomentDesk") U ∧ va_Nw (Cond.methodLinkNest RX3 56 yX4_power "MomentDesk") U
theorem m_nw.warm {s U : State} (hW : s.WarmedH U.vm) (h : m_nw s) : m_nw U := ⟨h.1.warmF hW, h.2.warmM hW⟩
theorem m_nw.of {s : State} {args : Array Value} (hts : ∀ w ∈ m_tw, w.before args s = true) : m_nw s := ⟨va_Nw.of rfl (hts _ (List.mem_append_left _ List.mem_cons_self)), va_Nw.of rfl (hts _ (List.mem_append_left _ (List.mem_cons_of_mem _ List.mem_cons_self)))⟩
def m_W (D : va_G) (cs : Nat → ClassId) (ad : Nat → Nat) (sh : mSH) (rf : mRF) (N : Nat) (I : mPI) (J : mPJ) (U : State) : Prop := va_P D m_cl (m_wl cs ad sh rf N I J) U.heap ∧ va_K D m_cl (m_ty cs) U ∧ m_nw U
def m_Q (D : va_G) (cs : Nat → ClassId) (ad : Nat → Nat) (sh : mSH) (rf : mRF) (N : Nat) (K : mKT) : Array Value → State → Outcome → State → Prop := fun _ st oc t => (∃ r I1 J1, oc = .returned (Option.map (m_ev ad) r) ∧ K r I1 J1 ∧ m_W D cs ad sh rf N I1 J1 t) ∧ va_F (m_A ad N) st t
def m_rm (fr lc : Nat) : Room := { frames := fr, cells := 0, slots := 0, locals := lc }
def m_ws (y : MethodName) (bytes : ByteArray) (maxL : Nat) (ret : Option FieldType) : List Cond := Cond.code y bytes maxL ret :: m_tb
def m_Mt (y : MethodName) (bytes : ByteArray) (maxL : Nat) (ret : Option FieldType) (fr lc : Nat) (PT : mSH → mRF → mPT) : Prop :=
  ∀ (l : Launch) (D : va_G) (cs : Nat → ClassId) (ad : Nat → Nat) (sh : mSH) (rf : mRF) (N : Nat) (As : List mPV) (I : mPI) (J : mPJ) (K : mKT), (∀ i j, i < N → j < N → ad i = ad j → i = j) → (∀ i, sh i ≠ .inr (9, 0) → i < N) → PT sh rf As I J K →
    Met l y (m_ws y bytes maxL ret) (m_rm fr lc) (va_Pc (As.map (m_ev ad)) (m_W D cs ad sh rf N I J)) (m_Q D cs ad sh rf N K) 0 0 (m_A ad N)
def m_rkok (rk : Nat) (ret : Option FieldType) : Prop := match rk with
  | 0 => ret = none
  | 1 => ret = some .int
  | 2 => ret = some .long
  | 3 => ret = some .boolean
  | 4 => ∃ rt, ret = some rt ∧ ((∃ n, rt = .object n) ∨ ∃ t, rt = .array t)
  | _ => False
theorem m_goodIn {ws : List Cond} (h : ∀ w ∈ ws, w ∈ m_tb) : GoodIn m_tw ws := fun w hw => ⟨m_tb_w (h w hw), good_of_word (List.mem_filter.mp (h w hw)).2⟩
section MC
variable {p : Program} {l : Launch} {e : Env} {R : Room} {s : State} {m : MethodId} {args : Array Value} {below : List Frame} {meth : Method} {c : Code} {Q : State → Prop} {cc : ByteArray} {own : String}
variable {D : va_G} {cs : Nat → ClassId} {ad : Nat → Nat} {sh : mSH} {rf : mRF} {N : Nat} {nL : Nat}
theorem m_call {H : Heap} {locs : List Loc} {pc : Nat} {ls : Array Slot} {st0 rest : List Value} {K : mKT} {a : Array Value} (hr : va_Run p l e R s m args below meth c H locs 0 0 0 0 (F0 m pc ls st0) rest (m_Q D cs ad sh rf N K a) (m_A ad N)) (hS : va_S (m_A ad N) s.heap H locs)
    (kk : ∀ r I1 J1 (H1 : Heap) (locs1 : List Loc), K r I1 J1 → va_P D m_cl (m_wl cs ad sh rf N I1 J1) H1 → va_S (m_A ad N) s.heap H1 locs1 → W p l e R s m args below meth c H1 locs1 0 0 Q (F0 m (pc + 3) ls ((m_ol r).map (m_ev ad) ++ rest))) : W p l e R s m args below meth c H locs 0 0 Q (F0 m pc ls st0) := by
  intro T hT X
  obtain ⟨v, st₀, t, T', L, h0, X', hL, e1, e2, ⟨⟨r, I1, J1, hv, hp, hw⟩, hz, hk⟩, st⟩ := hr T hT X
  cases hv
  rw [h0] at hz hk
  obtain ⟨t2, a1, b1⟩ := kk r I1 J1 T'.heap (locs ++ L) hp (by rw [e1]; exact hw.1)
    ⟨Nat.le_trans hS.1 (by rw [e1]; exact hz), fun q h1 h2 => by rw [e1, hk q (Nat.lt_of_lt_of_le h1 hS.1) h2]; exact hS.2.1 q h1 h2, fun q hq => by
      rcases List.mem_append.mp hq with h | h
      · exact hS.2.2 q h
      · exact hL q h⟩ T' rfl X'
  refine ⟨t2, st t2 ?_, b1⟩
  cases r <;> exact a1
theorem m_blind {As : List mPV} {I : mPI} {J : mPJ} : FrameBlind (va_Pc (As.map (m_ev ad)) (m_W D cs ad sh rf N I J)) := fun a U g mk q => by
  obtain ⟨q0, qP, qK, qN⟩ := q
  exact ⟨q0, qP, va_K.moved (u := U) (U := U.calling g mk a) (Vm.Alike.refl U.vm) qK, qN.1.same rfl rfl, qN.2.same rfl rfl⟩
theorem m_CG_V {y : MethodName} {bytes : ByteArray} {maxL : Nat} {ret : Option FieldType} {fr lc : Nat} {PT : mSH → mRF → mPT} (hM : m_Mt y bytes maxL ret fr lc PT) (hx : p.tables.exec = Jvm.exec) (hb : c.code = cc) (hml : c.maxLocals = nL) (hown : s.vm.findClass own = some m.cls) (hts : ∀ w ∈ m_tw, w.before args s = true) (hK : va_K D m_cl (m_ty cs) s) (hi : ∀ i j, i < N → j < N → ad i = ad j → i = j) (hN : ∀ i, sh i ≠ .inr (9, 0) → i < N)
    {k n ci : Nat} {q : vw_C} (hrec : ∀ As I J K, PT sh rf As I J K → ∃ i As1, As = Sum.inr (.inr i) :: As1 ∧ sh i = .inl ci) (hcl : m_cl[ci]? = some q) (hq : q.1 = y.cls)
    (hw : ∀ w ∈ [Cond.methodLink own k y, Cond.instanceMethod y, Cond.selects y.cls y y, Cond.initialized y.cls, Cond.code y bytes maxL ret], w ∈ m_tb)
    (hd : y.cls = y.cls ∧ y.cls ≠ "java/lang/invoke/MethodHandle" ∧ y.cls ≠ "java/lang/invoke/VarHandle" ∧ (parseMethodDescriptor y.desc).map (fun d => d.parameters.length) = some n) (hR : fr + 1 ≤ R.frames ∧ 8 + (maxL + 11) + lc ≤ R.locals) :
    m_CG p l e R s m args below meth c Q D cs ad sh rf N nL cc k (n + 1) true (PT sh rf) := by
  intro pc hdec As rest lv I J K hlen hcat hpt hk H locs ls hP hS hl
  obtain ⟨i, As1, rfl, hsh⟩ := hrec As I J K hpt
  have hiN : i < N := hN i (by rw [hsh]; simp)
  have hg : GoodIn m_tw (wsV own k y.cls y (m_ws y bytes maxL ret)) := m_goodIn (fun w hw1 => by
    rcases List.mem_append.mp hw1 with h | h
    · exact hw w (by simp at h ⊢; rcases h with h | h | h | h <;> simp [h])
    · rcases List.mem_cons.mp h with h | h
      · exact hw w (by simp [h])
      · exact h)
  have hrv : ∃ cell : Cell, H[ad i]? = some cell ∧ cell.vm.isStatics = false ∧ s.vm.findClass y.cls = some cell.cls := by
    rw [← hq]
    exact va_recv hK hP hcl (m_wO hsh hiN)
  have hrun := va_runV (b := ad i) (As := As1.map (m_ev ad)) (rest := rest.map (m_ev ad)) (g := F0 m pc ls (List.map (m_ev ad) ((Sum.inr (Sum.inr i) :: As1).reverse ++ rest))) (locs := locs) (cells := 0) (slots := 0) (below := below) (meth := meth) (e := e) ⟨hx, hb, hml, hown, hts⟩ (hM l D cs ad sh rf N _ I J K hi hN hpt) (cwV n hts hg rfl rfl rfl hd hR) ⟨m_blind, hrv, fun U hU hW => ⟨rfl, by rw [hU]; exact hP, va_K.moved hW.alike hK, (m_nw.of hts).warm hW⟩⟩ rfl (by simp at hlen ⊢; exact hlen) hl.1 (by simp [m_ev]) (lv_room (by
      rw [List.map_map]
      rw [show ((fun v : Value => v.category) ∘ m_ev ad) = m_cat from funext (fun v => m_cat_ev ad v)]
      exact hcat)) hdec ⟨Nat.zero_le _, Nat.zero_le _⟩
  refine m_call hrun hS (fun r I1 J1 H1 locs1 h1 hP1 hS1 => ?_)
  have h2 := hk r I1 J1 h1 H1 locs1 ls hP1 hS1 hl
  rw [List.map_append] at h2
  exact h2
theorem m_CG_S {y : MethodName} {bytes : ByteArray} {maxL : Nat} {ret : Option FieldType} {fr lc : Nat} {PT : mSH → mRF → mPT} (hM : m_Mt y bytes maxL ret fr lc PT) (hx : p.tables.exec = Jvm.exec) (hb : c.code = cc) (hml : c.maxLocals = nL) (hown : s.vm.findClass own = some m.cls) (hts : ∀ w ∈ m_tw, w.before args s = true) (hK : va_K D m_cl (m_ty cs) s) (hi : ∀ i j, i < N → j < N → ad i = ad j → i = j) (hN : ∀ i, sh i ≠ .inr (9, 0) → i < N)
    {k n : Nat} (hw : ∀ w ∈ [Cond.methodLink own k y, Cond.static y, Cond.initialized y.cls, Cond.code y bytes maxL ret], w ∈ m_tb)
    (hd : y.cls ≠ "java/lang/invoke/MethodHandle" ∧ y.cls ≠ "java/lang/invoke/VarHandle" ∧ (parseMethodDescriptor y.desc).map (fun d => d.parameters.length) = some n) (hR : fr + 1 ≤ R.frames ∧ 8 + (maxL + 11) + lc ≤ R.locals) :
    m_CG p l e R s m args below meth c Q D cs ad sh rf N nL cc k n false (PT sh rf) := by
  intro pc hdec As rest lv I J K hlen hcat hpt hk H locs ls hP hS hl
  have hg : GoodIn m_tw (m_ws y bytes maxL ret) := m_goodIn (fun w h => by
    rcases List.mem_cons.mp h with h | h
    · exact hw w (by simp [h])
    · exact h)
  have hB : CallB R s args own k y bytes maxL ret (m_ws y bytes maxL ret) (m_rm fr lc) 0 0 n := callB_of n hts hg rfl rfl rfl (hts _ (m_tb_w (hw _ (by simp)))) (hts _ (m_tb_w (hw _ (by simp)))) hd hR
  have hrun := va_runS (As := As.map (m_ev ad)) (rest := rest.map (m_ev ad)) (g := F0 m pc ls (List.map (m_ev ad) (As.reverse ++ rest))) (locs := locs) (cells := 0) (slots := 0) (below := below) (meth := meth) (e := e) (H := H) ⟨hx, hb, hml, hown, hts⟩ (hM l D cs ad sh rf N _ I J K hi hN hpt) ⟨hB, hts _ (m_tb_w (hw _ (by simp)))⟩ ⟨m_blind, fun U hU hW => ⟨rfl, by rw [hU]; exact hP, va_K.moved hW.alike hK, (m_nw.of hts).warm hW⟩⟩ rfl (by simp; exact hlen) hl.1 (by simp) (lv_room (by
      rw [List.map_map]
      rw [show ((fun v : Value => v.category) ∘ m_ev ad) = m_cat from funext (fun v => m_cat_ev ad v)]
      exact hcat)) hdec ⟨Nat.zero_le _, Nat.zero_le _⟩
  refine m_call hrun hS (fun r I1 J1 H1 locs1 h1 hP1 hS1 => ?_)
  have h2 := hk r I1 J1 h1 H1 locs1 ls hP1 hS1 hl
  rw [List.map_append] at h2
  exact h2
theorem m_CG_SN {y : MethodName} {bytes : ByteArray} {maxL : Nat} {ret : Option FieldType} {fr lc : Nat} {PT : mSH → mRF → mPT} {host : String} (hM : m_Mt y bytes maxL ret fr lc PT) (hx : p.tables.exec = Jvm.exec) (hb : c.code = cc) (hml : c.maxLocals = nL) (hown : s.vm.findClass own = some m.cls) (hts : ∀ w ∈ m_tw, w.before args s = true) (hK : va_K D m_cl (m_ty cs) s) (hi : ∀ i j, i < N → j < N → ad i = ad j → i = j) (hN : ∀ i, sh i ≠ .inr (9, 0) → i < N)
    {k n : Nat} (hw0 : Cond.methodLinkNest own k y host ∈ m_nws) (hw : ∀ w ∈ [Cond.static y, Cond.initialized y.cls, Cond.code y bytes maxL ret], w ∈ m_tb)
    (hd : y.cls ≠ "java/lang/invoke/MethodHandle" ∧ y.cls ≠ "java/lang/invoke/VarHandle" ∧ (parseMethodDescriptor y.desc).map (fun d => d.parameters.length) = some n) (hR : fr + 1 ≤ R.frames ∧ 8 + (maxL + 11) + lc ≤ R.locals) :
    m_CG p l e R s m args below meth c Q D cs ad sh rf N nL cc k n false (PT sh rf) := by
  intro pc hdec As rest lv I J K hlen hcat hpt hk H locs ls hP hS hl
  have hg : GoodIn m_tw (m_ws y bytes maxL ret) := m_goodIn (fun w h => by
    rcases List.mem_cons.mp h with h | h
    · exact hw w (by simp [h])
    · exact h)
  have hB : va_CN R s args own k y host bytes maxL ret (m_ws y bytes maxL ret) (m_rm fr lc) 0 0 n := va_cnB n hts hg rfl rfl rfl (va_Nw.of rfl (hts (Cond.methodLinkNest own k y host) (List.mem_append_left _ hw0))) (hts _ (m_tb_w (hw _ (by simp)))) hd hR
  have hrun := va_runSN (As := As.map (m_ev ad)) (rest := rest.map (m_ev ad)) (g := F0 m pc ls (List.map (m_ev ad) (As.reverse ++ rest))) (locs := locs) (cells := 0) (slots := 0) (below := below) (meth := meth) (e := e) (H := H) ⟨hx, hb, hml, hown, hts⟩ (hM l D cs ad sh rf N _ I J K hi hN hpt) ⟨hB, hts _ (m_tb_w (hw _ (by simp))), trivial⟩ ⟨m_blind, fun U hU hW => ⟨rfl, by rw [hU]; exact hP, va_K.moved hW.alike hK, (m_nw.of hts).warm hW⟩⟩ rfl (by simp; exact hlen) hl.1 (by simp) (lv_room (by
      rw [List.map_map]
      rw [show ((fun v : Value => v.category) ∘ m_ev ad) = m_cat from funext (fun v => m_cat_ev ad v)]
      exact hcat)) hdec ⟨Nat.zero_le _, Nat.zero_le _⟩
  refine m_call hrun hS (fun r I1 J1 H1 locs1 h1 hP1 hS1 => ?_)
  have h2 := hk r I1 J1 h1 H1 locs1 ls hP1 hS1 hl
  rw [List.map_append] at h2
  exact h2
theorem m_E_of (hx : p.tables.exec = Jvm.exec) (hb : c.code = cc) {ret : Option FieldType} (hr : meth.sig.returnType = ret) (hlocks : meth.locks = false) (hK : va_K D m_cl (m_ty cs) s) (hnw : m_nw s) {rk : Nat} (hrk : m_rkok rk ret) (K : mKT) : m_E p l e R s m args below meth c (MQ below (m_Q D cs ad sh rf N K) args s 0 0 (m_A ad N)) D cs ad sh rf N nL cc rk K := by
  intro pc lv I J
  refine ⟨fun x hd hk hq H locs ls hP hS hl => ?_, fun x hd hk hq H locs ls hP hS hl => ?_, fun x hd hk hq H locs ls hP hS hl => ?_, fun hd hk hq H locs ls hP hS hl => ?_⟩
  · rcases hk with rfl | ⟨rfl, hz⟩
    · exact W.iret hx hb (hr.trans hrk) (fun t ht hW => ⟨⟨some (.inl x), I, J, rfl, hq, by rw [ht]; exact hP, va_K.moved hW.alike hK, hnw.warm hW⟩, hS.F ht⟩) hS.2.2 hd
    · exact W.zret (ty := .boolean) hx hb (hr.trans hrk) (by rcases hz with rfl | rfl <;> decide +kernel) (fun t ht hW => ⟨⟨some (.inl x), I, J, rfl, hq, by rw [ht]; exact hP, va_K.moved hW.alike hK, hnw.warm hW⟩, hS.F ht⟩) hS.2.2 hd
  · subst hk
    exact W.lret hx hb (hr.trans hrk) (fun t ht hW => ⟨⟨some (.inr (.inl x)), I, J, rfl, hq, by rw [ht]; exact hP, va_K.moved hW.alike hK, hnw.warm hW⟩, hS.F ht⟩) hS.2.2 hd
  · subst hk
    obtain ⟨rt, h1, h2⟩ := hrk
    exact W.aret hx hb (hr.trans h1) h2 (Or.inr ⟨ad x, rfl⟩) (fun t ht hW => ⟨⟨some (.inr (.inr x)), I, J, rfl, hq, by rw [ht]; exact hP, va_K.moved hW.alike hK, hnw.warm hW⟩, hS.F ht⟩) hS.2.2 hd
  · subst hk
    exact W.vret hx hb (hr.trans hrk) (fun t ht hW => ⟨⟨none, I, J, rfl, hq, by rw [ht]; exact hP, va_K.moved hW.alike hK, hnw.warm hW⟩, hS.F ht⟩) hS.2.2 hd
end MC
def m_args : Nat → List mPV → mLV
  | _, [] => []
  | i, v :: vs => (i, v) :: m_args (match m_cat v with | 2 => i + 2 | _ => i + 1) vs
theorem m_args_el (ad : Nat → Nat) : ∀ (vs : List mPV) (i : Nat), lv_args i (vs.map (m_ev ad)) = m_el ad (m_args i vs)
  | [], _ => rfl
  | v :: vs, i => by
    simp only [List.map_cons, lv_args, m_args, m_el, m_cat_ev]
    congr 1
    rcases v with x | x | x
    · exact m_args_el ad vs (i + 1)
    · exact m_args_el ad vs (i + 2)
    · exact m_args_el ad vs (i + 1)
theorem m_args_len (ad : Nat → Nat) : ∀ (vs : List mPV), (lg_sl (vs.map (m_ev ad))).length = (vs.map m_cat).sum
  | [] => rfl
  | v :: vs => by
    have := m_args_len ad vs
    unfold lg_sl at this ⊢
    simp only [List.map_cons, List.flatMap_cons, List.length_append, List.sum_cons, this]
    rcases v with x | x | x <;> rfl
/-- the environment of a method's calls, as a caller has it -/
def m_CE (own : String) (fr lc : Nat) (cc : ByteArray) (nL : Nat) (ct : mSH → mRF → Nat → Option (Nat × Bool × mPT)) : Prop :=
  ∀ (p : Program) (l : Launch) (e : Env) (s : State) (m : MethodId) (args : Array Value) (below : List Frame) (meth : Method) (c : Code) (Q : State → Prop) (D : va_G) (cs : Nat → ClassId) (ad : Nat → Nat) (sh : mSH) (rf : mRF) (N : Nat),
    p.tables.exec = Jvm.exec → c.code = cc → c.maxLocals = nL → s.vm.findClass own = some m.cls → (∀ w ∈ m_tw, w.before args s = true) → va_K D m_cl (m_ty cs) s → (∀ i j, i < N → j < N → ad i = ad j → i = j) → (∀ i, sh i ≠ .inr (9, 0) → i < N) →
    ∀ k n vf pt, ct sh rf k = some (n, vf, pt) → m_CG p l e (m_rm fr lc) s m args below meth c Q D cs ad sh rf N nL cc k n vf pt
/-- THE METHOD RULE: entry and every cut -/
theorem m_method {y : MethodName} {bytes : ByteArray} {maxL : Nat} {ret : Option FieldType} {fr lc rk fu : Nat} {PT : mSH → mRF → mPT} {fl : List mFL} {kI : List (Nat × Int32 × Nat)} {kJ : List (Nat × Int64 × Nat)} {ct : mSH → mRF → Nat → Option (Nat × Bool × mPT)} {cd : List mIN} {cut : List (Nat × List Nat)}
    (hy : plainName y.cls = true) (hfl : fl.all (m_fck y.cls) = true) (hkI : kI.all (m_kck y.cls) = true) (hkJ : kJ.all (m_kckL y.cls) = true) (hct : m_CE y.cls fr lc bytes maxL ct) (hrk : m_rkok rk ret) (hcd : cd.all (m_ick bytes) = true) (hch : m_ch cd = true) (hcd0 : ∃ q tl, cd = q :: tl ∧ q.1 = 0)
    (hvc : ∀ sh rf As I J K, PT sh rf As I J K → (As.map m_cat).sum ≤ maxL ∧ ∃ Inv : Nat → Nat → mCV,
      m_wp maxL fl kI kJ (ct sh rf) sh rf rk K cd cut (fun pc1 vs1 st1 I1 J1 => ∃ a1 b1, Inv a1 b1 pc1 vs1 st1 I1 J1) fu cd (m_args 0 As) [] I J ∧
      ∀ pc ks a b vs st I J, m_cu cut pc = some ks → Inv a b pc vs st I J → m_wp maxL fl kI kJ (ct sh rf) sh rf rk K cd cut (fun pc1 vs1 st1 I1 J1 => ∃ a1 b1, (a1 < a ∨ (a1 = a ∧ b1 < b)) ∧ Inv a1 b1 pc1 vs1 st1 I1 J1) fu (m_jmp cd pc) (ks.zip vs) st I J) :
    m_Mt y bytes maxL ret fr lc PT := by
  intro l D cs ad sh rf N As I J K hi hN hpt
  obtain ⟨hsz, Inv, h0, hstep⟩ := hvc sh rf As I J K hpt
  refine Met.ofW (cc := bytes) (maxL := maxL) (ret := ret) hy rfl ?_
  intro p e s m args below meth c s₁ B hml hv
  obtain ⟨rfl, hP, hK, hnw⟩ := hv
  have hx := B.exec
  have hb := B.bytes
  have hr := B.returns
  have hts : ∀ w ∈ m_tw, w.before (As.map (m_ev ad)).toArray s = true := fun w hw => by
    rcases List.mem_append.mp hw with h | h
    · rcases List.mem_cons.mp h with rfl | h
      · exact hnw.1.use rfl
      · rcases List.mem_cons.mp h with rfl | h
        · exact hnw.2.use rfl
        · cases h
    · exact atoms_spec (ws := m_ws y bytes maxL ret) B.pre w (List.mem_cons_of_mem _ h)
  have hown : s.vm.findClass y.cls = some m.cls := findClass_of_methodNamed B.named
  have hlocks := B.notSynchronized
  have hl := lv_entry (As.map (m_ev ad)) (n := maxL) (by rw [m_args_len]; exact hsz)
  rw [lg_entry_eq]
  rw [m_args_el] at hl
  have hE := m_E_of (p := p) (l := l) (e := e) (R := m_rm fr lc) (below := below) (args := (As.map (m_ev ad)).toArray) (m := m) (nL := maxL) (ad := ad) (sh := sh) (rf := rf) (N := N) hx hb hr hlocks hK hnw hrk K
  have hc := hct p l e s m (As.map (m_ev ad)).toArray below meth c (MQ below (m_Q D cs ad sh rf N K) (As.map (m_ev ad)).toArray s 0 0 (m_A ad N)) D cs ad sh rf N hx hb hml hown hts hK hi hN
  obtain ⟨q, tl, rfl, hq0⟩ := hcd0
  have hG := m_wp_ok hx hb hown hts hK hi hN hfl hkI hkJ hc hE hcd hch (cut := cut) (Cv := fun pc1 vs1 st1 I1 J1 => ∃ a1 b1, Inv a1 b1 pc1 vs1 st1 I1 J1) (fun pc ks vs st I1 J1 hks hex => by
    obtain ⟨a1, b1, h1⟩ := hex
    exact m_wp_inv hx hb hown hts hK hi hN hfl hkI hkJ hc hE hcd hch hstep a1 b1 pc ks vs st I1 J1 hks h1) fu q tl (m_args 0 As) [] I J ⟨[], rfl⟩ h0
  rw [hq0] at hG
  exact hG s.heap [] _ hP va_S.rf hl

