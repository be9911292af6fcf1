/-! ===== soundness of the pure machine ===== -/
theorem m_blt {a b : Nat} (h : Nat.blt a b = true) : a < b := Nat.le_of_ble_eq_true h
theorem m_ble2 {a b c d : Nat} (h : (Nat.ble a b && Nat.ble c d) = true) : a ≤ b ∧ c ≤ d := by
  rw [Bool.and_eq_true] at h
  exact ⟨Nat.le_of_ble_eq_true h.1, Nat.le_of_ble_eq_true h.2⟩
theorem m_inb_e {sh : mSH} {i t : Nat} {j : Int32} (h : m_inb sh i t j) : ∃ n, sh i = .inr (t, n) ∧ vp_in j n := by
  unfold m_inb at h
  split at h
  · rename_i t' n e
    obtain ⟨rfl, h2⟩ := h
    exact ⟨n, e, h2⟩
  · exact h.elim
theorem m_inr_e {sh : mSH} {i : Nat} {j : Int32} (h : m_inr sh i j) : ∃ t n, sh i = .inr (t, n) ∧ (t = 3 ∨ t = 4) ∧ vp_in j n := by
  unfold m_inr at h
  split at h
  · rename_i t' n e
    exact ⟨t', n, e, h.1, h.2⟩
  · exact h.elim
theorem m_isa_e {sh : mSH} {i : Nat} (h : m_isa sh i) : ∃ t n, sh i = .inr (t, n) ∧ t < 5 := by
  unfold m_isa at h
  split at h
  · rename_i t' n e
    exact ⟨t', n, e, h⟩
  · exact h.elim
theorem m_inb_i {sh : mSH} {i t n : Nat} {j : Int32} (h1 : sh i = .inr (t, n)) (h2 : vp_in j n) : m_inb sh i t j := by
  unfold m_inb
  rw [h1]
  exact ⟨rfl, h2⟩
theorem m_inr_i {sh : mSH} {i t n : Nat} {j : Int32} (h1 : sh i = .inr (t, n)) (h3 : t = 3 ∨ t = 4) (h2 : vp_in j n) : m_inr sh i j := by
  unfold m_inr
  rw [h1]
  exact ⟨h3, h2⟩
theorem m_isa_i {sh : mSH} {i t n : Nat} (h1 : sh i = .inr (t, n)) (h2 : t < 5) : m_isa sh i := by
  unfold m_isa
  rw [h1]
  exact h2
theorem m_len_i {sh : mSH} {i t n : Nat} (h1 : sh i = .inr (t, n)) : m_len sh i = nI n := by
  unfold m_len
  rw [h1]
  rfl
theorem m_ty_at (cs : Nat → ClassId) {t : Nat} (h : t < 5) : ∃ ty, (m_ty cs)[t]? = some (cs t, ty) := by
  match t, h with
  | 0, _ => exact ⟨_, rfl⟩
  | 1, _ => exact ⟨_, rfl⟩
  | 2, _ => exact ⟨_, rfl⟩
  | 3, _ => exact ⟨_, rfl⟩
  | 4, _ => exact ⟨_, rfl⟩
section MW
variable {cs : Nat → ClassId} {ad : Nat → Nat} {sh : mSH} {rf : mRF} {N : Nat} {I : mPI} {J : mPJ}
theorem m_wA {i t n : Nat} (h : sh i = .inr (t, n)) (hi : i < N) : (m_wl cs ad sh rf N I J)[i]? = some (ad i, .inl (cs t, m_ar ad rf I J i t n)) := by
  rw [m_wl_at _ _ _ _ _ _ _ hi]
  unfold m_ce
  rw [h]
theorem m_w0 {i n : Nat} (h : sh i = .inr (0, n)) (hi : i < N) : (m_wl cs ad sh rf N I J)[i]? = some (ad i, .inl (cs 0, n, .inl (I i))) := m_wA h hi
theorem m_w1 {i n : Nat} (h : sh i = .inr (1, n)) (hi : i < N) : (m_wl cs ad sh rf N I J)[i]? = some (ad i, .inl (cs 1, n, .inr (.inl (J i)))) := m_wA h hi
theorem m_w2 {i n : Nat} (h : sh i = .inr (2, n)) (hi : i < N) : (m_wl cs ad sh rf N I J)[i]? = some (ad i, .inl (cs 2, n, .inl (I i))) := m_wA h hi
theorem m_w3 {i t n : Nat} (h : sh i = .inr (t, n)) (h1 : ¬ t = 1) (h2 : ¬ t < 3) (hi : i < N) : (m_wl cs ad sh rf N I J)[i]? = some (ad i, .inl (cs t, n, .inr (.inr (.inr (.inr (fun k => some (ad (rf i k)))))))) := by
  rw [m_wA h hi]
  unfold m_ar
  rw [if_neg h1, if_neg h2]
theorem m_wO {i ci : Nat} (h : sh i = .inl ci) (hi : i < N) : (m_wl cs ad sh rf N I J)[i]? = some (ad i, .inr (ci, m_fs ad rf I i (m_ft ci) 0)) := by
  rw [m_wl_at _ _ _ _ _ _ _ hi]
  unfold m_ce
  rw [h]
theorem m_uI_o (I : mPI) {i k a : Nat} (v : Int32) (h : a ≠ i) (b : Nat) : m_uI I i k v a b = I a b := by
  unfold m_uI
  rw [if_neg (fun q => h q.1)]
theorem m_uJ_o (J : mPJ) {i k a : Nat} (v : Int64) (h : a ≠ i) (b : Nat) : m_uJ J i k v a b = J a b := by
  unfold m_uJ
  rw [if_neg (fun q => h q.1)]
theorem m_uI_f (I : mPI) (i k : Nat) (v : Int32) : m_uI I i k v i = upd (I i) k v := by
  funext b
  unfold m_uI upd
  by_cases hb : b = k
  · rw [if_pos ⟨rfl, hb⟩, if_pos hb]
  · rw [if_neg (fun q => hb q.2), if_neg hb]
theorem m_uJ_f (J : mPJ) (i k : Nat) (v : Int64) : m_uJ J i k v i = vp_updL (J i) k v := by
  funext b
  unfold m_uJ vp_updL
  by_cases hb : b = k
  · rw [if_pos ⟨rfl, hb⟩, if_pos hb]
  · rw [if_neg (fun q => hb q.2), if_neg hb]
theorem m_set0 {i n k : Nat} {x : Int32} (h : sh i = .inr (0, n)) : (m_wl cs ad sh rf N I J).set i (ad i, .inl (cs 0, n, .inl (upd (I i) k x))) = m_wl cs ad sh rf N (m_uI I i k x) J := by
  refine m_wl_set ?_ (fun j hj => m_ce_I (fun b => m_uI_o I x hj b) (fun _ => rfl))
  unfold m_ce m_ar
  rw [h, m_uI_f]
  rfl
theorem m_set2 {i n k : Nat} {x : Int32} (h : sh i = .inr (2, n)) : (m_wl cs ad sh rf N I J).set i (ad i, .inl (cs 2, n, .inl (upd (I i) k x))) = m_wl cs ad sh rf N (m_uI I i k x) J := by
  refine m_wl_set ?_ (fun j hj => m_ce_I (fun b => m_uI_o I x hj b) (fun _ => rfl))
  unfold m_ce m_ar
  rw [h, m_uI_f]
  rfl
theorem m_set1 {i n k : Nat} {x : Int64} (h : sh i = .inr (1, n)) : (m_wl cs ad sh rf N I J).set i (ad i, .inl (cs 1, n, .inr (.inl (vp_updL (J i) k x)))) = m_wl cs ad sh rf N I (m_uJ J i k x) := by
  refine m_wl_set ?_ (fun j hj => m_ce_I (fun _ => rfl) (fun b => m_uJ_o J x hj b))
  unfold m_ce m_ar
  rw [h, m_uJ_f]
  rfl
theorem m_setO {i ci k kd : Nat} {x : Int32} (h : sh i = .inl ci) (hk : (m_ft ci)[k]? = some kd) (h2 : kd ≠ 2) : (m_wl cs ad sh rf N I J).set i (ad i, .inr (ci, (m_fs ad rf I i (m_ft ci) 0).set k (.int x))) = m_wl cs ad sh rf N (m_uI I i k x) J := by
  refine m_wl_set ?_ (fun j hj => m_ce_I (fun b => m_uI_o I x hj b) (fun _ => rfl))
  unfold m_ce
  rw [h, m_fs_set ad rf I i x (m_ft ci) 0 k kd hk h2, Nat.zero_add]
end MW
section MS
variable {p : Program} {l : Launch} {e : Env} {R : Room} {s : State} {m : MethodId} {args : Array Value} {below : List Frame} {meth : Method} {c : Code} {Q : State → Prop} {cc : ByteArray} {own : String}
variable {D : va_G} {cs : Nat → ClassId} {ad : Nat → Nat} {sh : mSH} {rf : mRF} {N : Nat} {nL : Nat}
theorem m_cgW {H : Heap} {locs : List Loc} {cells slots : Nat} {g g2 : JFrame} (h : g = g2) (k : W p l e R s m args below meth c H locs cells slots Q g2) : W p l e R s m args below meth c H locs cells slots Q g := h ▸ k
/-- from here the machine comes to Q, whatever heap holds the named world -/
def m_G (p : Program) (l : Launch) (e : Env) (R : Room) (s : State) (m : MethodId) (args : Array Value) (below : List Frame) (meth : Method) (c : Code) (Q : State → Prop) (D : va_G) (cs : Nat → ClassId) (ad : Nat → Nat) (sh : mSH) (rf : mRF) (N nL pc : Nat) (lv : mLV) (st : List mPV) (I : mPI) (J : mPJ) : Prop :=
  ∀ (H : Heap) (locs : List Loc) (ls : Array Slot), va_P D m_cl (m_wl cs ad sh rf N I J) H → va_S (m_A ad N) s.heap H locs → lv_has ls nL (m_el ad lv) → W p l e R s m args below meth c H locs 0 0 Q (F0 m pc ls (st.map (m_ev ad)))
theorem m_kI_ok (hts : ∀ w ∈ m_tw, w.before args s = true) {kI : List (Nat × Int32 × Nat)} (hk : kI.all (m_kck own) = true) {k : Nat} {x : Int32} (h : m_lc kI k = some x) : (Cond.constant own k x).before args s = true := by
  obtain ⟨pos, hm⟩ := m_lc_mem h
  have h1 := List.all_eq_true.mp hk _ hm
  simp only [m_kck, m_kckL, Bool.and_eq_true, decide_eq_true_eq] at h1
  exact hts _ (m_tb_w (m_tb_pos h1.1 h1.2))
theorem m_kJ_ok (hts : ∀ w ∈ m_tw, w.before args s = true) {kJ : List (Nat × Int64 × Nat)} (hk : kJ.all (m_kckL own) = true) {k : Nat} {x : Int64} (h : m_lc kJ k = some x) : (Cond.constantLong own k x).before args s = true := by
  obtain ⟨pos, hm⟩ := m_lc_mem h
  have h1 := List.all_eq_true.mp hk _ hm
  simp only [m_kck, m_kckL, Bool.and_eq_true, decide_eq_true_eq] at h1
  exact hts _ (m_tb_w (m_tb_pos h1.1 h1.2))
theorem m_fck_e {q : mFL} (h : m_fck own q = true) : ∃ r : vw_C, m_cl[q.2.1]? = some r ∧ q.2.2.1 < r.2.2 ∧ (m_ft q.2.1)[q.2.2.1]? = some q.2.2.2.1 ∧ (q.2.2.2.1 ≠ 2 → (r.2.1 q.2.2.1).2.2.2 = false) ∧ (q.2.2.2.1 = 0 → m_tyf q.2.1 q.2.2.1 = .int) ∧ (q.2.2.2.1 = 1 → m_tyf q.2.1 q.2.2.1 = .boolean) ∧
    (Cond.fieldLink own q.1 (r.2.1 q.2.2.1).1 (r.2.1 q.2.2.1).2.1 (r.2.1 q.2.2.1).2.2.1 ∈ m_tw ∨ Cond.fieldLinkNest own q.1 (r.2.1 q.2.2.1).1 (r.2.1 q.2.2.1).2.1 (r.2.1 q.2.2.1).2.2.1 "MomentDesk" ∈ m_tw) := by
  unfold m_fck at h
  split at h
  · rename_i r hr
    simp only [Bool.and_eq_true, decide_eq_true_eq, Bool.or_eq_true, Bool.not_eq_true'] at h
    obtain ⟨⟨⟨⟨h1, h2⟩, h3⟩, h4⟩, h5⟩ := h
    refine ⟨r, hr, m_blt h1, h2, fun hne => ?_, fun h0 => ?_, fun h0 => ?_, ?_⟩
    · rcases h3 with h3 | h3
      · exact absurd (Nat.eq_of_beq_eq_true h3) hne
      · exact h3
    · rw [h4, if_pos h0]
    · rw [h4, if_neg (by omega), if_pos h0]
    · split at h5
      · simp only [Bool.and_eq_true, decide_eq_true_eq] at h5
        exact Or.inl (m_tb_w (m_tb_pos h5.1 h5.2))
      · exact Or.inr (List.mem_append_left _ (of_decide_eq_true h5))
  · cases h
theorem m_getf (hx : p.tables.exec = Jvm.exec) (hb : c.code = cc) (hown : s.vm.findClass own = some m.cls) (hts : ∀ w ∈ m_tw, w.before args s = true) (hK : va_K D m_cl (m_ty cs) s) (hN : ∀ i, sh i ≠ .inr (9, 0) → i < N) {fl : List mFL} (hfl : fl.all (m_fck own) = true) {k ci f kd i pc : Nat} (hf : m_lf fl k = some (ci, f, kd)) (hd : decode cc pc = .ok (.getfield k, 3))
    {H : Heap} {locs : List Loc} {I : mPI} {J : mPJ} {ls : Array Slot} {r : List mPV} (hP : va_P D m_cl (m_wl cs ad sh rf N I J) H) (hsh : sh i = .inl ci)
    (kk : W p l e R s m args below meth c H locs 0 0 Q (F0 m (pc + 3) ls (List.map (m_ev ad) ((m_gv rf I i f kd) :: r)))) : W p l e R s m args below meth c H locs 0 0 Q (F0 m pc ls (.ref (ad i) :: List.map (m_ev ad) r)) := by
  obtain ⟨h9, pos, hm⟩ := m_lf_mem hf
  obtain ⟨q, e1, e2, e3, -, -, -, e4⟩ := m_fck_e (own := own) (List.all_eq_true.mp hfl _ hm)
  have hiN : i < N := hN i (by rw [hsh]; simp)
  have hv : (m_fs ad rf I i (m_ft ci) 0)[f]? = some (m_ev ad (m_gv rf I i f kd)) := by
    have := m_fs_get ad rf I i (m_ft ci) 0 f kd e3
    rw [this, Nat.zero_add]
    unfold m_fv m_gv
    split
    · rename_i h2; subst h2; rfl
    · rename_i h2
      split
      · exact absurd rfl h2
      · rfl
  obtain ⟨C, T, n⟩ := q
  rcases e4 with e4 | e4
  · exact va_get hx hb hts (m_in ci _ e1) hown hK hP i (m_wO hsh hiN) e1 f e2 (hts _ e4) (fun _ h => h) hv hd kk
  · exact va_getN hx hb hts (m_in ci _ e1) hown hK hP i (m_wO hsh hiN) e1 f e2 (hts _ e4) (fun _ h => h) hv hd kk
theorem m_putf (hx : p.tables.exec = Jvm.exec) (hb : c.code = cc) (hown : s.vm.findClass own = some m.cls) (hts : ∀ w ∈ m_tw, w.before args s = true) (hK : va_K D m_cl (m_ty cs) s) (hi : ∀ i j, i < N → j < N → ad i = ad j → i = j) (hN : ∀ i, sh i ≠ .inr (9, 0) → i < N) {fl : List mFL} (hfl : fl.all (m_fck own) = true) {k ci f kd i pc : Nat} (hf : m_lf fl k = some (ci, f, kd)) (hd : decode cc pc = .ok (.putfield k, 3))
    {H : Heap} {locs : List Loc} {I : mPI} {J : mPJ} {ls : Array Slot} {r : List mPV} {x : Int32} (hP : va_P D m_cl (m_wl cs ad sh rf N I J) H) (hS : va_S (m_A ad N) s.heap H locs) (hsh : sh i = .inl ci) (hkd : kd = 0 ∨ (kd = 1 ∧ (x = 0 ∨ x = 1)))
    (kk : ∀ (H1 : Heap) (locs1 : List Loc), va_P D m_cl (m_wl cs ad sh rf N (m_uI I i f x) J) H1 → va_S (m_A ad N) s.heap H1 locs1 → W p l e R s m args below meth c H1 locs1 0 0 Q (F0 m (pc + 3) ls (List.map (m_ev ad) r))) : W p l e R s m args below meth c H locs 0 0 Q (F0 m pc ls (.int x :: .ref (ad i) :: List.map (m_ev ad) r)) := by
  obtain ⟨h9, pos, hm⟩ := m_lf_mem hf
  obtain ⟨q, e1, e2, e3, e5, e6, e7, e4⟩ := m_fck_e (own := own) (List.all_eq_true.mp hfl _ hm)
  have hiN : i < N := hN i (by rw [hsh]; simp)
  have hne : kd ≠ 2 := by omega
  have hty := m_hty ci q e1 f e2
  have hlt : f < (m_fs ad rf I i (m_ft ci) 0).length := by rw [m_fs_len]; exact (List.getElem?_eq_some_iff.mp e3).1
  have hnar : narrow (m_tyf ci f) (.int x) = .int x := by
    rcases hkd with h | ⟨h, h2⟩
    · rw [show m_tyf ci f = .int from e6 h]; rfl
    · rw [show m_tyf ci f = .boolean from e7 h]; rcases h2 with rfl | rfl <;> decide +kernel
  have hfit : fits (m_tyf ci f) (.int x) = true := by
    rcases hkd with h | ⟨h, h2⟩
    · rw [show m_tyf ci f = .int from e6 h]; rfl
    · rw [show m_tyf ci f = .boolean from e7 h]; rcases h2 with rfl | rfl <;> decide +kernel
  obtain ⟨C, T, n⟩ := q
  have kk' : ∀ (H1 : Heap) (locs1 : List Loc), va_P D m_cl ((m_wl cs ad sh rf N I J).set i (ad i, .inr (ci, (m_fs ad rf I i (m_ft ci) 0).set f (.int x)))) H1 → va_D (m_A ad N) ((m_wl cs ad sh rf N I J).set i (ad i, .inr (ci, (m_fs ad rf I i (m_ft ci) 0).set f (.int x)))) → va_S (m_A ad N) s.heap H1 locs1 → W p l e R s m args below meth c H1 locs1 0 0 Q (F0 m (pc + 3) ls (List.map (m_ev ad) r)) := by
    intro H1 locs1 hP1 _ hS1
    rw [m_setO hsh e3 hne] at hP1
    exact kk H1 locs1 hP1 hS1
  rcases e4 with e4 | e4
  · exact va_put hx hb hts (m_in ci _ e1) (m_tyf ci) (m_hty ci _ e1) (m_hnm ci _ e1) hown hK hP (m_wl_D hi cs sh rf I J) hS i (m_wO hsh hiN) e1 f e2 (hts _ e4) (fun _ h => h) (e5 hne) hty hnar hfit hlt hd kk'
  · exact va_putN hx hb hts (m_in ci _ e1) (m_tyf ci) (m_hty ci _ e1) (m_hnm ci _ e1) hown hK hP (m_wl_D hi cs sh rf I J) hS i (m_wO hsh hiN) e1 f e2 (hts _ e4) (fun _ h => h) (e5 hne) hty hnar hfit hlt hd kk'
/-- a call of what stands at index k: from pt's words it goes on -/
def m_CG (p : Program) (l : Launch) (e : Env) (R : Room) (s : State) (m : MethodId) (args : Array Value) (below : List Frame) (meth : Method) (c : Code) (Q : State → Prop) (D : va_G) (cs : Nat → ClassId) (ad : Nat → Nat) (sh : mSH) (rf : mRF) (N nL : Nat) (cc : ByteArray) (k n : Nat) (vf : Bool) (pt : mPT) : Prop :=
  ∀ (pc : Nat), decode cc pc = .ok ((match vf with | true => Instr.invokevirtual k | false => Instr.invokestatic k), 3) → ∀ (As rest : List mPV) (lv : mLV) (I : mPI) (J : mPJ) (K : mKT), As.length = n → (rest.map m_cat).sum ≤ 8 → pt As I J K →
    (∀ r I1 J1, K r I1 J1 → m_G p l e R s m args below meth c Q D cs ad sh rf N nL (pc + 3) lv (m_ol r ++ rest) I1 J1) → m_G p l e R s m args below meth c Q D cs ad sh rf N nL pc lv (As.reverse ++ rest) I J
/-- the ends of a method -/
def m_E (p : Program) (l : Launch) (e : Env) (R : Room) (s : State) (m : MethodId) (args : Array Value) (below : List Frame) (meth : Method) (c : Code) (Q : State → Prop) (D : va_G) (cs : Nat → ClassId) (ad : Nat → Nat) (sh : mSH) (rf : mRF) (N nL : Nat) (cc : ByteArray) (rk : Nat) (QP : mKT) : Prop :=
  ∀ (pc : Nat) (lv : mLV) (I : mPI) (J : mPJ),
    (∀ x : Int32, decode cc pc = .ok (.ireturn, 1) → (rk = 1 ∨ (rk = 3 ∧ (x = 0 ∨ x = 1))) → QP (some (.inl x)) I J → m_G p l e R s m args below meth c Q D cs ad sh rf N nL pc lv [.inl x] I J) ∧
    (∀ x : Int64, decode cc pc = .ok (.lreturn, 1) → rk = 2 → QP (some (.inr (.inl x))) I J → m_G p l e R s m args below meth c Q D cs ad sh rf N nL pc lv [.inr (.inl x)] I J) ∧
    (∀ x : Nat, decode cc pc = .ok (.areturn, 1) → rk = 4 → QP (some (.inr (.inr x))) I J → m_G p l e R s m args below meth c Q D cs ad sh rf N nL pc lv [.inr (.inr x)] I J) ∧
    (decode cc pc = .ok (.return_, 1) → rk = 0 → QP none I J → m_G p l e R s m args below meth c Q D cs ad sh rf N nL pc lv [] I J)
set_option maxHeartbeats 4000000 in
set_option maxRecDepth 100000 in
theorem m_sp_ok (hx : p.tables.exec = Jvm.exec) (hb : c.code = cc) (hown : s.vm.findClass own = some m.cls) (hts : ∀ w ∈ m_tw, w.before args s = true) (hK : va_K D m_cl (m_ty cs) s) (hi : ∀ i j, i < N → j < N → ad i = ad j → i = j) (hN : ∀ i, sh i ≠ .inr (9, 0) → i < N)
    {fl : List mFL} (hfl : fl.all (m_fck own) = true) {kI : List (Nat × Int32 × Nat)} (hkI : kI.all (m_kck own) = true) {kJ : List (Nat × Int64 × Nat)} (hkJ : kJ.all (m_kckL own) = true) {ct : Nat → Option (Nat × Bool × mPT)} (hct : ∀ k n vf pt, ct k = some (n, vf, pt) → m_CG p l e R s m args below meth c Q D cs ad sh rf N nL cc k n vf pt)
    {rk : Nat} {QP : mKT} (hE : m_E p l e R s m args below meth c Q D cs ad sh rf N nL cc rk QP) {pc len : Nat} {ins : Instr} {ts : List Nat} {v : Int32} (hq : m_ick cc (pc, ins, len, ts, v) = true)
    {ft : mLV → List mPV → mPI → mPJ → Prop} {jp : Nat → mLV → List mPV → mPI → mPJ → Prop} (hft : ∀ lv st I J, ft lv st I J → m_G p l e R s m args below meth c Q D cs ad sh rf N nL (pc + len) lv st I J) (hjp : ∀ t lv st I J, jp t lv st I J → m_G p l e R s m args below meth c Q D cs ad sh rf N nL t lv st I J)
    {lv : mLV} {st : List mPV} {I : mPI} {J : mPJ} (h : m_sp nL fl kI kJ ct sh rf rk QP ft jp ins ts v lv st I J) : m_G p l e R s m args below meth c Q D cs ad sh rf N nL pc lv st I J := by
  unfold m_ick at hq
  simp only [Bool.and_eq_true, decide_eq_true_eq, Bool.or_eq_true] at hq
  obtain ⟨⟨⟨hd, hlen⟩, hj⟩, hv⟩ := hq
  unfold m_sp at h
  split at h
  · rename_i k
    have hlen := Nat.eq_of_beq_eq_true (hlen.resolve_right (by simp [m_isw]))
    simp only [m_ilen] at hlen
    subst hlen
    split at h
    · rename_i x hx9
      intro H locs ls hP hS hl
      exact lv_iload_n hx hb hd rfl (m_at hl hx9) (hft _ _ _ _ h H locs ls hP hS hl)
    · exact h.elim
  · rename_i k
    have hlen := Nat.eq_of_beq_eq_true (hlen.resolve_right (by simp [m_isw]))
    simp only [m_ilen] at hlen
    subst hlen
    split at h
    · rename_i x hx9
      intro H locs ls hP hS hl
      exact lv_iload hx hb hd (m_at hl hx9) (hft _ _ _ _ h H locs ls hP hS hl)
    · exact h.elim
  · rename_i k
    have hlen := Nat.eq_of_beq_eq_true (hlen.resolve_right (by simp [m_isw]))
    simp only [m_ilen] at hlen
    subst hlen
    split at h
    · rename_i x hx9
      intro H locs ls hP hS hl
      exact lv_lload_n hx hb hd rfl (m_at hl hx9) (hft _ _ _ _ h H locs ls hP hS hl)
    · exact h.elim
  · rename_i k
    have hlen := Nat.eq_of_beq_eq_true (hlen.resolve_right (by simp [m_isw]))
    simp only [m_ilen] at hlen
    subst hlen
    split at h
    · rename_i x hx9
      intro H locs ls hP hS hl
      exact lv_lload hx hb hd (m_at hl hx9) (hft _ _ _ _ h H locs ls hP hS hl)
    · exact h.elim
  · rename_i k
    have hlen := Nat.eq_of_beq_eq_true (hlen.resolve_right (by simp [m_isw]))
    simp only [m_ilen] at hlen
    subst hlen
    split at h
    · rename_i x hx9
      intro H locs ls hP hS hl
      exact lv_aload_n hx hb hd rfl (m_at hl hx9) (hft _ _ _ _ h H locs ls hP hS hl)
    · exact h.elim
  · rename_i k
    have hlen := Nat.eq_of_beq_eq_true (hlen.resolve_right (by simp [m_isw]))
    simp only [m_ilen] at hlen
    subst hlen
    split at h
    · rename_i x hx9
      intro H locs ls hP hS hl
      exact lv_aload hx hb hd (m_at hl hx9) (hft _ _ _ _ h H locs ls hP hS hl)
    · exact h.elim
  · rename_i k
    have hlen := Nat.eq_of_beq_eq_true (hlen.resolve_right (by simp [m_isw]))
    simp only [m_ilen] at hlen
    subst hlen
    split at h
    · rename_i x r
      split at h
      · rename_i hb9
        intro H locs ls hP hS hl
        exact lv_istore_n hx hb hd rfl hl (m_blt hb9) (m_el_s1 (v := .inl x)) (fun ls' hl' => hft _ _ _ _ h H locs ls' hP hS hl')
      · exact h.elim
    · exact h.elim
  · rename_i k
    have hlen := Nat.eq_of_beq_eq_true (hlen.resolve_right (by simp [m_isw]))
    simp only [m_ilen] at hlen
    subst hlen
    split at h
    · rename_i x r
      split at h
      · rename_i hb9
        intro H locs ls hP hS hl
        exact lv_istore hx hb hd hl (m_blt hb9) (m_el_s1 (v := .inl x)) (fun ls' hl' => hft _ _ _ _ h H locs ls' hP hS hl')
      · exact h.elim
    · exact h.elim
  · rename_i k
    have hlen := Nat.eq_of_beq_eq_true (hlen.resolve_right (by simp [m_isw]))
    simp only [m_ilen] at hlen
    subst hlen
    split at h
    · rename_i x r
      split at h
      · rename_i hb9
        intro H locs ls hP hS hl
        exact lv_lstore_n hx hb hd rfl hl (m_blt hb9) (m_el_s2 (v := .inr (.inl x))) (fun ls' hl' => hft _ _ _ _ h H locs ls' hP hS hl')
      · exact h.elim
    · exact h.elim
  · rename_i k
    have hlen := Nat.eq_of_beq_eq_true (hlen.resolve_right (by simp [m_isw]))
    simp only [m_ilen] at hlen
    subst hlen
    split at h
    · rename_i x r
      split at h
      · rename_i hb9
        intro H locs ls hP hS hl
        exact lv_lstore hx hb hd hl (m_blt hb9) (m_el_s2 (v := .inr (.inl x))) (fun ls' hl' => hft _ _ _ _ h H locs ls' hP hS hl')
      · exact h.elim
    · exact h.elim
  · rename_i k
    have hlen := Nat.eq_of_beq_eq_true (hlen.resolve_right (by simp [m_isw]))
    simp only [m_ilen] at hlen
    subst hlen
    split at h
    · rename_i x r
      split at h
      · rename_i hb9
        intro H locs ls hP hS hl
        exact lv_astore_n hx hb hd rfl hl (m_blt hb9) (m_el_s1 (v := .inr (.inr x))) (fun ls' hl' => hft _ _ _ _ h H locs ls' hP hS hl')
      · exact h.elim
    · exact h.elim
  · rename_i k
    have hlen := Nat.eq_of_beq_eq_true (hlen.resolve_right (by simp [m_isw]))
    simp only [m_ilen] at hlen
    subst hlen
    split at h
    · rename_i x r
      split at h
      · rename_i hb9
        intro H locs ls hP hS hl
        exact lv_astore hx hb hd hl (m_blt hb9) (m_el_s1 (v := .inr (.inr x))) (fun ls' hl' => hft _ _ _ _ h H locs ls' hP hS hl')
      · exact h.elim
    · exact h.elim
  · rename_i z9
    have hlen := Nat.eq_of_beq_eq_true (hlen.resolve_right (by simp [m_isw]))
    simp only [m_ilen] at hlen
    subst hlen
    simp only [m_vck] at hv
    intro H locs ls hP hS hl
    exact lv_iconst hx hb hd (of_decide_eq_true hv) (hft _ _ _ _ h H locs ls hP hS hl)
  · rename_i z9
    have hlen := Nat.eq_of_beq_eq_true (hlen.resolve_right (by simp [m_isw]))
    simp only [m_ilen] at hlen
    subst hlen
    simp only [m_vck] at hv
    intro H locs ls hP hS hl
    exact lv_bipush hx hb hd (of_decide_eq_true hv) (hft _ _ _ _ h H locs ls hP hS hl)
  · rename_i z9
    have hlen := Nat.eq_of_beq_eq_true (hlen.resolve_right (by simp [m_isw]))
    simp only [m_ilen] at hlen
    subst hlen
    simp only [m_vck] at hv
    intro H locs ls hP hS hl
    exact lv_sipush hx hb hd (of_decide_eq_true hv) (hft _ _ _ _ h H locs ls hP hS hl)
  · rename_i n
    have hlen := Nat.eq_of_beq_eq_true (hlen.resolve_right (by simp [m_isw]))
    simp only [m_ilen] at hlen
    subst hlen
    intro H locs ls hP hS hl
    refine lv_lconst hx hb hd ?_ (hft _ _ _ _ h H locs ls hP hS hl)
    match n with
    | 0 => rfl
    | 1 => rfl
  · rename_i k
    have hlen := Nat.eq_of_beq_eq_true (hlen.resolve_right (by simp [m_isw]))
    simp only [m_ilen] at hlen
    subst hlen
    split at h
    · rename_i x hx9
      intro H locs ls hP hS hl
      exact lv_ldc hx hb hown (m_kI_ok hts hkI hx9) hd (hft _ _ _ _ h H locs ls hP hS hl)
    · exact h.elim
  · rename_i k
    have hlen := Nat.eq_of_beq_eq_true (hlen.resolve_right (by simp [m_isw]))
    simp only [m_ilen] at hlen
    subst hlen
    split at h
    · rename_i x hx9
      intro H locs ls hP hS hl
      exact lv_ldcw hx hb hown (m_kI_ok hts hkI hx9) hd (hft _ _ _ _ h H locs ls hP hS hl)
    · exact h.elim
  · rename_i k
    have hlen := Nat.eq_of_beq_eq_true (hlen.resolve_right (by simp [m_isw]))
    simp only [m_ilen] at hlen
    subst hlen
    split at h
    · rename_i x hx9
      intro H locs ls hP hS hl
      exact lv_ldc2 hx hb hown (m_kJ_ok hts hkJ hx9) hd (hft _ _ _ _ h H locs ls hP hS hl)
    · exact h.elim
  · rename_i k z9
    have hlen := Nat.eq_of_beq_eq_true (hlen.resolve_right (by simp [m_isw]))
    simp only [m_ilen] at hlen
    subst hlen
    simp only [m_vck] at hv
    split at h
    · rename_i x hx9
      split at h
      · rename_i hb9
        intro H locs ls hP hS hl
        obtain ⟨j, hj⟩ := m_lk_get hx9
        exact lv_iinc hx hb hd hl (m_el_get hj) (by rw [of_decide_eq_true hv]) (m_blt hb9) (m_el_s1 (v := .inl (x + v))) (fun ls' hl' => hft _ _ _ _ h H locs ls' hP hS hl')
      · exact h.elim
    · exact h.elim
  · have hlen := Nat.eq_of_beq_eq_true (hlen.resolve_right (by simp [m_isw]))
    simp only [m_ilen] at hlen
    subst hlen
    split at h
    · rename_i y x r
      intro H locs ls hP hS hl
      exact lv_iadd hx hb hd (hft _ _ _ _ h H locs ls hP hS hl)
    · exact h.elim
  · have hlen := Nat.eq_of_beq_eq_true (hlen.resolve_right (by simp [m_isw]))
    simp only [m_ilen] at hlen
    subst hlen
    split at h
    · rename_i y x r
      intro H locs ls hP hS hl
      exact lv_isub hx hb hd (hft _ _ _ _ h H locs ls hP hS hl)
    · exact h.elim
  · have hlen := Nat.eq_of_beq_eq_true (hlen.resolve_right (by simp [m_isw]))
    simp only [m_ilen] at hlen
    subst hlen
    split at h
    · rename_i y x r
      intro H locs ls hP hS hl
      exact lv_imul hx hb hd (hft _ _ _ _ h H locs ls hP hS hl)
    · exact h.elim
  · have hlen := Nat.eq_of_beq_eq_true (hlen.resolve_right (by simp [m_isw]))
    simp only [m_ilen] at hlen
    subst hlen
    split at h
    · rename_i y x r
      intro H locs ls hP hS hl
      exact lv_iand hx hb hd (hft _ _ _ _ h H locs ls hP hS hl)
    · exact h.elim
  · have hlen := Nat.eq_of_beq_eq_true (hlen.resolve_right (by simp [m_isw]))
    simp only [m_ilen] at hlen
    subst hlen
    split at h
    · rename_i y x r
      intro H locs ls hP hS hl
      exact lv_ior hx hb hd (hft _ _ _ _ h H locs ls hP hS hl)
    · exact h.elim
  · have hlen := Nat.eq_of_beq_eq_true (hlen.resolve_right (by simp [m_isw]))
    simp only [m_ilen] at hlen
    subst hlen
    split at h
    · rename_i y x r
      intro H locs ls hP hS hl
      exact lv_ixor hx hb hd (hft _ _ _ _ h H locs ls hP hS hl)
    · exact h.elim
  · have hlen := Nat.eq_of_beq_eq_true (hlen.resolve_right (by simp [m_isw]))
    simp only [m_ilen] at hlen
    subst hlen
    split at h
    · rename_i y x r
      intro H locs ls hP hS hl
      exact lv_ishl hx hb hd (hft _ _ _ _ h H locs ls hP hS hl)
    · exact h.elim
  · have hlen := Nat.eq_of_beq_eq_true (hlen.resolve_right (by simp [m_isw]))
    simp only [m_ilen] at hlen
    subst hlen
    split at h
    · rename_i y x r
      intro H locs ls hP hS hl
      exact lv_ishr hx hb hd (hft _ _ _ _ h H locs ls hP hS hl)
    · exact h.elim
  · have hlen := Nat.eq_of_beq_eq_true (hlen.resolve_right (by simp [m_isw]))
    simp only [m_ilen] at hlen
    subst hlen
    split at h
    · rename_i y x r
      intro H locs ls hP hS hl
      exact lv_iushr hx hb hd rfl (hft _ _ _ _ h H locs ls hP hS hl)
    · exact h.elim
  · have hlen := Nat.eq_of_beq_eq_true (hlen.resolve_right (by simp [m_isw]))
    simp only [m_ilen] at hlen
    subst hlen
    split at h
    · rename_i y x r
      intro H locs ls hP hS hl
      exact lv_ladd hx hb hd (hft _ _ _ _ h H locs ls hP hS hl)
    · exact h.elim
  · have hlen := Nat.eq_of_beq_eq_true (hlen.resolve_right (by simp [m_isw]))
    simp only [m_ilen] at hlen
    subst hlen
    split at h
    · rename_i y x r
      intro H locs ls hP hS hl
      exact lv_lsub hx hb hd (hft _ _ _ _ h H locs ls hP hS hl)
    · exact h.elim
  · have hlen := Nat.eq_of_beq_eq_true (hlen.resolve_right (by simp [m_isw]))
    simp only [m_ilen] at hlen
    subst hlen
    split at h
    · rename_i y x r
      intro H locs ls hP hS hl
      exact lv_lmul hx hb hd (hft _ _ _ _ h H locs ls hP hS hl)
    · exact h.elim
  · have hlen := Nat.eq_of_beq_eq_true (hlen.resolve_right (by simp [m_isw]))
    simp only [m_ilen] at hlen
    subst hlen
    split at h
    · rename_i y x r
      intro H locs ls hP hS hl
      exact lv_land hx hb hd (hft _ _ _ _ h H locs ls hP hS hl)
    · exact h.elim
  · have hlen := Nat.eq_of_beq_eq_true (hlen.resolve_right (by simp [m_isw]))
    simp only [m_ilen] at hlen
    subst hlen
    split at h
    · rename_i y x r
      intro H locs ls hP hS hl
      exact lv_lor hx hb hd (hft _ _ _ _ h H locs ls hP hS hl)
    · exact h.elim
  · have hlen := Nat.eq_of_beq_eq_true (hlen.resolve_right (by simp [m_isw]))
    simp only [m_ilen] at hlen
    subst hlen
    split at h
    · rename_i y x r
      intro H locs ls hP hS hl
      exact lv_lshl hx hb hd rfl (hft _ _ _ _ h H locs ls hP hS hl)
    · exact h.elim
  · have hlen := Nat.eq_of_beq_eq_true (hlen.resolve_right (by simp [m_isw]))
    simp only [m_ilen] at hlen
    subst hlen
    split at h
    · rename_i y x r
      intro H locs ls hP hS hl
      exact lv_lshr hx hb hd rfl (hft _ _ _ _ h H locs ls hP hS hl)
    · exact h.elim
  · have hlen := Nat.eq_of_beq_eq_true (hlen.resolve_right (by simp [m_isw]))
    simp only [m_ilen] at hlen
    subst hlen
    split at h
    · rename_i y x r
      intro H locs ls hP hS hl
      exact lv_lushr hx hb hd rfl (hft _ _ _ _ h H locs ls hP hS hl)
    · exact h.elim
  · have hlen := Nat.eq_of_beq_eq_true (hlen.resolve_right (by simp [m_isw]))
    simp only [m_ilen] at hlen
    subst hlen
    split at h
    · rename_i y x r
      intro H locs ls hP hS hl
      exact lv_idiv hx hb hd h.1 (hft _ _ _ _ h.2 H locs ls hP hS hl)
    · exact h.elim
  · have hlen := Nat.eq_of_beq_eq_true (hlen.resolve_right (by simp [m_isw]))
    simp only [m_ilen] at hlen
    subst hlen
    split at h
    · rename_i y x r
      intro H locs ls hP hS hl
      exact lv_irem hx hb hd h.1 (hft _ _ _ _ h.2 H locs ls hP hS hl)
    · exact h.elim
  · have hlen := Nat.eq_of_beq_eq_true (hlen.resolve_right (by simp [m_isw]))
    simp only [m_ilen] at hlen
    subst hlen
    split at h
    · rename_i y x r
      intro H locs ls hP hS hl
      exact lv_ldiv hx hb hd h.1 (hft _ _ _ _ h.2 H locs ls hP hS hl)
    · exact h.elim
  · have hlen := Nat.eq_of_beq_eq_true (hlen.resolve_right (by simp [m_isw]))
    simp only [m_ilen] at hlen
    subst hlen
    split at h
    · rename_i y x r
      intro H locs ls hP hS hl
      exact lv_lrem hx hb hd h.1 (hft _ _ _ _ h.2 H locs ls hP hS hl)
    · exact h.elim
  · have hlen := Nat.eq_of_beq_eq_true (hlen.resolve_right (by simp [m_isw]))
    simp only [m_ilen] at hlen
    subst hlen
    split at h
    · rename_i x r
      intro H locs ls hP hS hl
      exact lv_i2l hx hb hd rfl (hft _ _ _ _ h H locs ls hP hS hl)
    · exact h.elim
  · have hlen := Nat.eq_of_beq_eq_true (hlen.resolve_right (by simp [m_isw]))
    simp only [m_ilen] at hlen
    subst hlen
    split at h
    · rename_i x r
      intro H locs ls hP hS hl
      exact lv_l2i hx hb hd rfl (hft _ _ _ _ h H locs ls hP hS hl)
    · exact h.elim
  · have hlen := Nat.eq_of_beq_eq_true (hlen.resolve_right (by simp [m_isw]))
    simp only [m_ilen] at hlen
    subst hlen
    split at h
    · rename_i y x r
      intro H locs ls hP hS hl
      exact W.lcmp hx hb hd (hft _ _ _ _ h H locs ls hP hS hl)
    · exact h.elim
  · have hlen := Nat.eq_of_beq_eq_true (hlen.resolve_right (by simp [m_isw]))
    simp only [m_ilen] at hlen
    subst hlen
    split at h
    · rename_i x r
      intro H locs ls hP hS hl
      exact lv_ineg hx hb hd (hft _ _ _ _ h H locs ls hP hS hl)
    · exact h.elim
  · have hlen := Nat.eq_of_beq_eq_true (hlen.resolve_right (by simp [m_isw]))
    simp only [m_ilen] at hlen
    subst hlen
    split at h
    · rename_i x r
      intro H locs ls hP hS hl
      exact lv_lneg hx hb hd (hft _ _ _ _ h H locs ls hP hS hl)
    · exact h.elim
  · have hlen := Nat.eq_of_beq_eq_true (hlen.resolve_right (by simp [m_isw]))
    simp only [m_ilen] at hlen
    subst hlen
    split at h
    · rename_i x r
      intro H locs ls hP hS hl
      exact lv_dup hx hb hd rfl (hft _ _ _ _ h H locs ls hP hS hl)
    · rename_i x r
      intro H locs ls hP hS hl
      exact lv_dup hx hb hd rfl (hft _ _ _ _ h H locs ls hP hS hl)
    · exact h.elim
  · have hlen := Nat.eq_of_beq_eq_true (hlen.resolve_right (by simp [m_isw]))
    simp only [m_ilen] at hlen
    subst hlen
    split at h
    · rename_i y x r
      intro H locs ls hP hS hl
      exact lv_dup2_11 hx hb hd rfl rfl (hft _ _ _ _ h H locs ls hP hS hl)
    · exact h.elim
  · rename_i z9
    have hlen := Nat.eq_of_beq_eq_true (hlen.resolve_right (by simp [m_isw]))
    simp only [m_ilen] at hlen
    subst hlen
    simp only [m_jck] at hj
    split at h
    · rename_i t
      intro H locs ls hP hS hl
      exact lv_goto hx hb hd (of_decide_eq_true hj) (hjp _ _ _ _ _ h H locs ls hP hS hl)
    · exact h.elim
  · rename_i z9
    have hlen := Nat.eq_of_beq_eq_true (hlen.resolve_right (by simp [m_isw]))
    simp only [m_ilen] at hlen
    subst hlen
    simp only [m_jck] at hj
    split at h
    · rename_i t x r
      intro H locs ls hP hS hl
      exact lv_if_eq hx hb hd (of_decide_eq_true hj) (fun c9 => hjp _ _ _ _ _ (h.1 c9) H locs ls hP hS hl) (fun c9 => hft _ _ _ _ (h.2 c9) H locs ls hP hS hl)
    · exact h.elim
  · rename_i z9
    have hlen := Nat.eq_of_beq_eq_true (hlen.resolve_right (by simp [m_isw]))
    simp only [m_ilen] at hlen
    subst hlen
    simp only [m_jck] at hj
    split at h
    · rename_i t x r
      intro H locs ls hP hS hl
      exact lv_if_ne hx hb hd (of_decide_eq_true hj) (fun c9 => hjp _ _ _ _ _ (h.1 c9) H locs ls hP hS hl) (fun c9 => hft _ _ _ _ (h.2 c9) H locs ls hP hS hl)
    · exact h.elim
  · rename_i z9
    have hlen := Nat.eq_of_beq_eq_true (hlen.resolve_right (by simp [m_isw]))
    simp only [m_ilen] at hlen
    subst hlen
    simp only [m_jck] at hj
    split at h
    · rename_i t x r
      intro H locs ls hP hS hl
      exact lv_if_lt hx hb hd (of_decide_eq_true hj) (fun c9 => hjp _ _ _ _ _ (h.1 c9) H locs ls hP hS hl) (fun c9 => hft _ _ _ _ (h.2 c9) H locs ls hP hS hl)
    · exact h.elim
  · rename_i z9
    have hlen := Nat.eq_of_beq_eq_true (hlen.resolve_right (by simp [m_isw]))
    simp only [m_ilen] at hlen
    subst hlen
    simp only [m_jck] at hj
    split at h
    · rename_i t x r
      intro H locs ls hP hS hl
      exact lv_if_ge hx hb hd (of_decide_eq_true hj) (fun c9 => hjp _ _ _ _ _ (h.1 c9) H locs ls hP hS hl) (fun c9 => hft _ _ _ _ (h.2 c9) H locs ls hP hS hl)
    · exact h.elim
  · rename_i z9
    have hlen := Nat.eq_of_beq_eq_true (hlen.resolve_right (by simp [m_isw]))
    simp only [m_ilen] at hlen
    subst hlen
    simp only [m_jck] at hj
    split at h
    · rename_i t x r
      intro H locs ls hP hS hl
      exact lv_if_gt hx hb hd (of_decide_eq_true hj) (fun c9 => hjp _ _ _ _ _ (h.1 c9) H locs ls hP hS hl) (fun c9 => hft _ _ _ _ (h.2 c9) H locs ls hP hS hl)
    · exact h.elim
  · rename_i z9
    have hlen := Nat.eq_of_beq_eq_true (hlen.resolve_right (by simp [m_isw]))
    simp only [m_ilen] at hlen
    subst hlen
    simp only [m_jck] at hj
    split at h
    · rename_i t x r
      intro H locs ls hP hS hl
      exact lv_if_le hx hb hd (of_decide_eq_true hj) (fun c9 => hjp _ _ _ _ _ (h.1 c9) H locs ls hP hS hl) (fun c9 => hft _ _ _ _ (h.2 c9) H locs ls hP hS hl)
    · exact h.elim
  · rename_i z9
    have hlen := Nat.eq_of_beq_eq_true (hlen.resolve_right (by simp [m_isw]))
    simp only [m_ilen] at hlen
    subst hlen
    simp only [m_jck] at hj
    split at h
    · rename_i t y x r
      intro H locs ls hP hS hl
      exact lv_icmp_eq hx hb hd (of_decide_eq_true hj) (fun c9 => hjp _ _ _ _ _ (h.1 c9) H locs ls hP hS hl) (fun c9 => hft _ _ _ _ (h.2 c9) H locs ls hP hS hl)
    · exact h.elim
  · rename_i z9
    have hlen := Nat.eq_of_beq_eq_true (hlen.resolve_right (by simp [m_isw]))
    simp only [m_ilen] at hlen
    subst hlen
    simp only [m_jck] at hj
    split at h
    · rename_i t y x r
      intro H locs ls hP hS hl
      exact lv_icmp_ne hx hb hd (of_decide_eq_true hj) (fun c9 => hjp _ _ _ _ _ (h.1 c9) H locs ls hP hS hl) (fun c9 => hft _ _ _ _ (h.2 c9) H locs ls hP hS hl)
    · exact h.elim
  · rename_i z9
    have hlen := Nat.eq_of_beq_eq_true (hlen.resolve_right (by simp [m_isw]))
    simp only [m_ilen] at hlen
    subst hlen
    simp only [m_jck] at hj
    split at h
    · rename_i t y x r
      intro H locs ls hP hS hl
      exact lv_icmp_lt hx hb hd (of_decide_eq_true hj) (fun c9 => hjp _ _ _ _ _ (h.1 c9) H locs ls hP hS hl) (fun c9 => hft _ _ _ _ (h.2 c9) H locs ls hP hS hl)
    · exact h.elim
  · rename_i z9
    have hlen := Nat.eq_of_beq_eq_true (hlen.resolve_right (by simp [m_isw]))
    simp only [m_ilen] at hlen
    subst hlen
    simp only [m_jck] at hj
    split at h
    · rename_i t y x r
      intro H locs ls hP hS hl
      exact lv_icmp_ge hx hb hd (of_decide_eq_true hj) (fun c9 => hjp _ _ _ _ _ (h.1 c9) H locs ls hP hS hl) (fun c9 => hft _ _ _ _ (h.2 c9) H locs ls hP hS hl)
    · exact h.elim
  · rename_i z9
    have hlen := Nat.eq_of_beq_eq_true (hlen.resolve_right (by simp [m_isw]))
    simp only [m_ilen] at hlen
    subst hlen
    simp only [m_jck] at hj
    split at h
    · rename_i t y x r
      intro H locs ls hP hS hl
      exact lv_icmp_gt hx hb hd (of_decide_eq_true hj) (fun c9 => hjp _ _ _ _ _ (h.1 c9) H locs ls hP hS hl) (fun c9 => hft _ _ _ _ (h.2 c9) H locs ls hP hS hl)
    · exact h.elim
  · rename_i z9
    have hlen := Nat.eq_of_beq_eq_true (hlen.resolve_right (by simp [m_isw]))
    simp only [m_ilen] at hlen
    subst hlen
    simp only [m_jck] at hj
    split at h
    · rename_i t y x r
      intro H locs ls hP hS hl
      exact lv_icmp_le hx hb hd (of_decide_eq_true hj) (fun c9 => hjp _ _ _ _ _ (h.1 c9) H locs ls hP hS hl) (fun c9 => hft _ _ _ _ (h.2 c9) H locs ls hP hS hl)
    · exact h.elim
  · rename_i dflt lo hi offs
    simp only [m_jck] at hj
    split at h
    · rename_i t l x r
      simp only [Bool.and_eq_true, decide_eq_true_eq] at hj
      obtain ⟨⟨⟨⟨j1, j2⟩, j3⟩, j4⟩, j5⟩ := hj
      intro H locs ls hP hS hl
      subst j3
      by_cases hr : 0 ≤ x.toInt ∧ x.toInt ≤ hi
      · have hk : x.toInt.toNat < offs.size := by omega
        have h5 := List.all_eq_true.mp j5 x.toInt.toNat (List.mem_range.mpr hk)
        have h5 := of_decide_eq_true h5
        have hxe : x = Int32.ofNat x.toInt.toNat := by
          apply Int32.toInt_inj.mp
          rw [Int32.toInt_ofNat_of_lt (by have := x.toInt_lt; omega)]
          omega
        refine lv_tableIn (off := offs.getD x.toInt.toNat 0) (tgt := l.getD x.toInt.toNat 0) hx hb hd (by omega) (by omega) ?_ h5 (hjp _ _ _ _ _ (h.1 x.toInt.toNat (by rw [j2]; exact hk) hxe) H locs ls hP hS hl)
        rw [show (x.toInt - 0).toNat = x.toInt.toNat by omega, Array.getElem?_eq_getElem hk, Array.getD_eq_getD_getElem?, Array.getElem?_eq_getElem hk]
        rfl
      · refine lv_tableOut hx hb hd (by omega) j1 (hjp _ _ _ _ _ (h.2 ?_) H locs ls hP hS hl)
        rcases Int.lt_or_le x.toInt 0 with h0 | h0
        · exact Or.inl (by rw [Int32.lt_iff_toInt_lt]; simpa using h0)
        · refine Or.inr ?_
          rw [Int32.le_iff_toInt_le, Int32.toInt_ofNat_of_lt (by have := x.toInt_lt; omega)]
          omega
    · exact h.elim
  · rename_i dflt ps
    simp only [m_jck] at hj
    split at h
    · rename_i t t1 t2 x r
      split at hj
      · rename_i a b t' t1' t2' hps hts9
        cases hts9
        simp only [Bool.and_eq_true, decide_eq_true_eq] at hj
        obtain ⟨⟨⟨⟨j1, j2⟩, j3⟩, j4⟩, j5⟩ := hj
        obtain ⟨a1, a2⟩ := a
        obtain ⟨b1, b2⟩ := b
        simp only at j1 j2 j4 j5
        subst j1
        subst j2
        intro H locs ls hP hS hl
        have hp : (ps.toList.zip (ps.toList.drop 1)).all (fun (a, next) => a.1 < next.1) = true := by rw [hps]; rfl
        by_cases h1 : x = 1
        · refine lv_lookup (off := a2) hx hb hd hp ?_ j4 (hjp _ _ _ _ _ (h.1 h1) H locs ls hP hS hl)
          rw [hps, h1]
          rfl
        · by_cases h2 : x = 2
          · refine lv_lookup (off := b2) hx hb hd hp ?_ j5 (hjp _ _ _ _ _ (h.2.1 h2) H locs ls hP hS hl)
            rw [hps, h2]
            rfl
          · refine lv_lookup (off := dflt) hx hb hd hp ?_ j3 (hjp _ _ _ _ _ (h.2.2 ⟨h1, h2⟩) H locs ls hP hS hl)
            rw [hps, lv_osw (k := 1) (a := 1) h1 (by decide), lv_osw (k := 2) (a := 2) h2 (by decide)]
            rfl
      · cases hj
    · exact h.elim
  · rename_i k
    have hlen := Nat.eq_of_beq_eq_true (hlen.resolve_right (by simp [m_isw]))
    simp only [m_ilen] at hlen
    subst hlen
    split at h
    · rename_i ci f kd i r hx9
      intro H locs ls hP hS hl
      exact m_getf hx hb hown hts hK hN hfl hx9 hd hP h.1 (hft _ _ _ _ h.2 H locs ls hP hS hl)
    · exact h.elim
  · rename_i k
    have hlen := Nat.eq_of_beq_eq_true (hlen.resolve_right (by simp [m_isw]))
    simp only [m_ilen] at hlen
    subst hlen
    split at h
    · rename_i ci f x i r hx9
      intro H locs ls hP hS hl
      exact m_putf hx hb hown hts hK hi hN hfl hx9 hd hP hS h.1 (Or.inl rfl) (fun H1 locs1 hP1 hS1 => hft _ _ _ _ h.2 H1 locs1 ls hP1 hS1 hl)
    · rename_i ci f x i r hx9
      intro H locs ls hP hS hl
      exact m_putf hx hb hown hts hK hi hN hfl hx9 hd hP hS h.1 (Or.inr ⟨rfl, h.2.1⟩) (fun H1 locs1 hP1 hS1 => hft _ _ _ _ h.2.2 H1 locs1 ls hP1 hS1 hl)
    · exact h.elim
  · have hlen := Nat.eq_of_beq_eq_true (hlen.resolve_right (by simp [m_isw]))
    simp only [m_ilen] at hlen
    subst hlen
    split at h
    · rename_i j i r
      intro H locs ls hP hS hl
      obtain ⟨n, e1, e2⟩ := m_inb_e h.1
      have hiN : i < N := hN i (by rw [e1]; simp)
      exact va_iald hx hb hK hP i 0 (m_w0 e1 hiN) rfl e2 hd (hft _ _ _ _ h.2 H locs ls hP hS hl)
    · exact h.elim
  · have hlen := Nat.eq_of_beq_eq_true (hlen.resolve_right (by simp [m_isw]))
    simp only [m_ilen] at hlen
    subst hlen
    split at h
    · rename_i j i r
      intro H locs ls hP hS hl
      obtain ⟨n, e1, e2⟩ := m_inb_e h.1
      have hiN : i < N := hN i (by rw [e1]; simp)
      exact va_lald hx hb hK hP i 1 (m_w1 e1 hiN) rfl e2 hd (hft _ _ _ _ h.2 H locs ls hP hS hl)
    · exact h.elim
  · have hlen := Nat.eq_of_beq_eq_true (hlen.resolve_right (by simp [m_isw]))
    simp only [m_ilen] at hlen
    subst hlen
    split at h
    · rename_i j i r
      intro H locs ls hP hS hl
      obtain ⟨n, e1, e2⟩ := m_inb_e h.1
      have hiN : i < N := hN i (by rw [e1]; simp)
      exact va_zald hx hb hK hP i 2 (m_w2 e1 hiN) rfl e2 hd (hft _ _ _ _ h.2 H locs ls hP hS hl)
    · exact h.elim
  · have hlen := Nat.eq_of_beq_eq_true (hlen.resolve_right (by simp [m_isw]))
    simp only [m_ilen] at hlen
    subst hlen
    split at h
    · rename_i j i r
      intro H locs ls hP hS hl
      obtain ⟨t, n, e1, e3, e2⟩ := m_inr_e h.1
      have hiN : i < N := hN i (by rw [e1]; rcases e3 with rfl | rfl <;> simp)
      rcases e3 with rfl | rfl
      · exact va_aldq hx hb hK hP i 3 (m_w3 e1 (by decide) (by decide) hiN) rfl e2 hd (hft _ _ _ _ h.2 H locs ls hP hS hl)
      · exact va_aldq hx hb hK hP i 4 (m_w3 e1 (by decide) (by decide) hiN) rfl e2 hd (hft _ _ _ _ h.2 H locs ls hP hS hl)
    · exact h.elim
  · have hlen := Nat.eq_of_beq_eq_true (hlen.resolve_right (by simp [m_isw]))
    simp only [m_ilen] at hlen
    subst hlen
    split at h
    · rename_i i r
      intro H locs ls hP hS hl
      obtain ⟨t, n, e1, e2⟩ := m_isa_e h.1
      have hiN : i < N := hN i (by rw [e1]; intro q; cases q; omega)
      obtain ⟨ty, e3⟩ := m_ty_at cs e2
      exact va_alen hx hb hK hP i t (m_wA e1 hiN) e3 (by unfold m_len; rw [e1]; rfl) hd (hft _ _ _ _ h.2 H locs ls hP hS hl)
    · exact h.elim
  · have hlen := Nat.eq_of_beq_eq_true (hlen.resolve_right (by simp [m_isw]))
    simp only [m_ilen] at hlen
    subst hlen
    split at h
    · rename_i x j i r
      intro H locs ls hP hS hl
      obtain ⟨n, e1, e2⟩ := m_inb_e h.1
      have hiN : i < N := hN i (by rw [e1]; simp)
      refine va_iast hx hb hK hP (m_wl_D hi cs sh rf I J) hS i 0 (m_w0 e1 hiN) rfl e2 hd (fun H1 locs1 hP1 _ hS1 => hft _ _ _ _ h.2 H1 locs1 ls ?_ hS1 hl)
      rw [m_set0 e1] at hP1
      exact hP1
    · exact h.elim
  · have hlen := Nat.eq_of_beq_eq_true (hlen.resolve_right (by simp [m_isw]))
    simp only [m_ilen] at hlen
    subst hlen
    split at h
    · rename_i x j i r
      intro H locs ls hP hS hl
      obtain ⟨n, e1, e2⟩ := m_inb_e h.1
      have hiN : i < N := hN i (by rw [e1]; simp)
      refine va_zast hx hb hK hP (m_wl_D hi cs sh rf I J) hS i 2 (m_w2 e1 hiN) rfl e2 hd (fun H1 locs1 hP1 _ hS1 => hft _ _ _ _ h.2.2 H1 locs1 ls ?_ hS1 hl)
      have hx2 : vp_nar .boolean x = x := by rcases h.2.1 with rfl | rfl <;> decide +kernel
      rw [hx2, m_set2 e1] at hP1
      exact hP1
    · exact h.elim
  · have hlen := Nat.eq_of_beq_eq_true (hlen.resolve_right (by simp [m_isw]))
    simp only [m_ilen] at hlen
    subst hlen
    split at h
    · rename_i x j i r
      intro H locs ls hP hS hl
      obtain ⟨n, e1, e2⟩ := m_inb_e h.1
      have hiN : i < N := hN i (by rw [e1]; simp)
      refine va_last hx hb hK hP (m_wl_D hi cs sh rf I J) hS i 1 (m_w1 e1 hiN) rfl e2 hd (fun H1 locs1 hP1 _ hS1 => hft _ _ _ _ h.2 H1 locs1 ls ?_ hS1 hl)
      rw [m_set1 e1] at hP1
      exact hP1
    · exact h.elim
  · rename_i k
    have hlen := Nat.eq_of_beq_eq_true (hlen.resolve_right (by simp [m_isw]))
    simp only [m_ilen] at hlen
    subst hlen
    split at h
    · rename_i n pt hx9
      split at h
      · rename_i hb9
        obtain ⟨h1, h2⟩ := m_ble2 hb9
        have h3 := hct k n true pt hx9 pc hd (st.take n).reverse (st.drop n) lv I J _ (by rw [List.length_reverse, List.length_take]; omega) h2 h (fun r I1 J1 h4 => hft _ _ _ _ h4)
        rw [List.reverse_reverse, List.take_append_drop] at h3
        exact h3
      · exact h.elim
    · exact h.elim
  · rename_i k
    have hlen := Nat.eq_of_beq_eq_true (hlen.resolve_right (by simp [m_isw]))
    simp only [m_ilen] at hlen
    subst hlen
    split at h
    · rename_i n pt hx9
      split at h
      · rename_i hb9
        obtain ⟨h1, h2⟩ := m_ble2 hb9
        have h3 := hct k n false pt hx9 pc hd (st.take n).reverse (st.drop n) lv I J _ (by rw [List.length_reverse, List.length_take]; omega) h2 h (fun r I1 J1 h4 => hft _ _ _ _ h4)
        rw [List.reverse_reverse, List.take_append_drop] at h3
        exact h3
      · exact h.elim
    · exact h.elim
  · have hlen := Nat.eq_of_beq_eq_true (hlen.resolve_right (by simp [m_isw]))
    simp only [m_ilen] at hlen
    subst hlen
    split at h
    · rename_i x
      exact (hE pc lv I J).1 x hd (Or.inl rfl) h
    · rename_i x
      exact (hE pc lv I J).1 x hd (Or.inr ⟨rfl, h.1⟩) h.2
    · exact h.elim
  · have hlen := Nat.eq_of_beq_eq_true (hlen.resolve_right (by simp [m_isw]))
    simp only [m_ilen] at hlen
    subst hlen
    split at h
    · rename_i x
      exact (hE pc lv I J).2.1 x hd rfl h
    · exact h.elim
  · have hlen := Nat.eq_of_beq_eq_true (hlen.resolve_right (by simp [m_isw]))
    simp only [m_ilen] at hlen
    subst hlen
    split at h
    · rename_i x
      exact (hE pc lv I J).2.2.1 x hd rfl h
    · exact h.elim
  · have hlen := Nat.eq_of_beq_eq_true (hlen.resolve_right (by simp [m_isw]))
    simp only [m_ilen] at hlen
    subst hlen
    split at h
    · exact (hE pc lv I J).2.2.2 hd rfl h
    · exact h.elim
  · exact h.elim
end MS
