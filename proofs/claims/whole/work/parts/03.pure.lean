/-! ===== a pure machine over NAMED worlds: a world is N cells, named 0 .. N-1; name i lies at address ad i; what a cell is is told by sh (shape) and rf (references, fixed), its numbers by I (ints, booleans) and J (longs) ===== -/
abbrev mPV : Type := Int32 ⊕ (Int64 ⊕ Nat)
abbrev mPI : Type := Nat → Nat → Int32
abbrev mPJ : Type := Nat → Nat → Int64
abbrev mSH : Type := Nat → (Nat ⊕ (Nat × Nat))
abbrev mRF : Type := Nat → Nat → Nat
abbrev mLV : Type := List (Nat × mPV)
abbrev mKT : Type := Option mPV → mPI → mPJ → Prop
abbrev mPT : Type := List mPV → mPI → mPJ → mKT → Prop
/-- an instruction of a method's list: pc, instruction, length, jump targets, its constant -/
abbrev mIN : Type := Nat × Instr × Nat × List Nat × Int32
def m_ev (ad : Nat → Nat) : mPV → Value
  | .inl x => .int x
  | .inr (.inl x) => .long x
  | .inr (.inr i) => .ref (ad i)
def m_cat : mPV → Nat
  | .inr (.inl _) => 2
  | _ => 1
theorem m_cat_ev (ad : Nat → Nat) (v : mPV) : (m_ev ad v).category = m_cat v := by
  rcases v with x | x | x <;> rfl
def m_ft : Nat → List Nat
  | 0 => [2, 0, 1]
  | 1 => [2, 2, 2, 2, 1]
  | 2 => [2, 2, 2, 2, 0, 0]
  | 3 => [0, 0, 0, 1, 2, 2, 2, 1]
  | 4 => [2, 2, 2, 2, 2, 2, 2, 2, 2, 2]
  | 5 => [2, 2, 2, 2, 0, 0, 1, 0, 2, 2, 2, 2, 2, 2, 2, 2, 2]
  | _ => []
def m_fv (ad : Nat → Nat) (rf : mRF) (I : mPI) (i kd k : Nat) : Value := if kd = 2 then .ref (ad (rf i k)) else .int (I i k)
def m_fs (ad : Nat → Nat) (rf : mRF) (I : mPI) (i : Nat) : List Nat → Nat → List Value
  | [], _ => []
  | kd :: l, k => m_fv ad rf I i kd k :: m_fs ad rf I i l (k + 1)
theorem m_fs_get (ad : Nat → Nat) (rf : mRF) (I : mPI) (i : Nat) : ∀ (l : List Nat) (k0 j kd : Nat), l[j]? = some kd → (m_fs ad rf I i l k0)[j]? = some (m_fv ad rf I i kd (k0 + j))
  | [], _, j, kd, h => by simp at h
  | a :: l, k0, 0, kd, h => by
    have : a = kd := by simpa using h
    subst this
    rfl
  | a :: l, k0, j + 1, kd, h => by
    have h' : l[j]? = some kd := by simpa using h
    have := m_fs_get ad rf I i l (k0 + 1) j kd h'
    rw [show k0 + 1 + j = k0 + (j + 1) by omega] at this
    simpa [m_fs] using this
theorem m_fs_len (ad : Nat → Nat) (rf : mRF) (I : mPI) (i : Nat) : ∀ (l : List Nat) (k0 : Nat), (m_fs ad rf I i l k0).length = l.length
  | [], _ => rfl
  | _ :: l, k0 => by simp [m_fs, m_fs_len ad rf I i l (k0 + 1)]
def m_uI (I : mPI) (i k : Nat) (v : Int32) : mPI := fun a b => if a = i ∧ b = k then v else I a b
def m_uJ (J : mPJ) (i k : Nat) (v : Int64) : mPJ := fun a b => if a = i ∧ b = k then v else J a b
theorem m_fs_out (ad : Nat → Nat) (rf : mRF) (I : mPI) (i k : Nat) (v : Int32) : ∀ (l : List Nat) (k0 : Nat), k < k0 → m_fs ad rf (m_uI I i k v) i l k0 = m_fs ad rf I i l k0
  | [], _, _ => rfl
  | kd :: l, k0, h => by
    have h1 := m_fs_out ad rf I i k v l (k0 + 1) (by omega)
    have h2 : m_fv ad rf (m_uI I i k v) i kd k0 = m_fv ad rf I i kd k0 := by
      unfold m_fv m_uI
      rw [if_neg (show ¬ (i = i ∧ k0 = k) by omega)]
    simp only [m_fs, h1, h2]
theorem m_fs_set (ad : Nat → Nat) (rf : mRF) (I : mPI) (i : Nat) (v : Int32) : ∀ (l : List Nat) (k0 j kd : Nat), l[j]? = some kd → kd ≠ 2 → (m_fs ad rf I i l k0).set j (.int v) = m_fs ad rf (m_uI I i (k0 + j) v) i l k0
  | [], _, j, kd, h, _ => by simp at h
  | a :: l, k0, 0, kd, h, h2 => by
    have : a = kd := by simpa using h
    subst this
    have h1 := m_fs_out ad rf I i k0 v l (k0 + 1) (by omega)
    simp only [m_fs, List.set_cons_zero, Nat.add_zero, h1]
    congr 1
    unfold m_fv m_uI
    rw [if_neg h2, if_pos (show i = i ∧ k0 = k0 from ⟨rfl, rfl⟩)]
  | a :: l, k0, j + 1, kd, h, h2 => by
    have h' : l[j]? = some kd := by simpa using h
    have h3 := m_fs_set ad rf I i v l (k0 + 1) j kd h' h2
    rw [show k0 + 1 + j = k0 + (j + 1) by omega] at h3
    simp only [m_fs, List.set_cons_succ, h3]
    congr 1
    unfold m_fv m_uI
    rw [if_neg (show ¬ (i = i ∧ k0 = k0 + (j + 1)) by omega)]
def m_ar (ad : Nat → Nat) (rf : mRF) (I : mPI) (J : mPJ) (i t n : Nat) : vp_A := (n, if t = 1 then .inr (.inl (J i)) else if t < 3 then .inl (I i) else .inr (.inr (.inr (.inr (fun k => some (ad (rf i k)))))))
def m_ce (cs : Nat → ClassId) (ad : Nat → Nat) (sh : mSH) (rf : mRF) (I : mPI) (J : mPJ) (i : Nat) : va_E := match sh i with
  | .inl ci => .inr (ci, m_fs ad rf I i (m_ft ci) 0)
  | .inr (t, n) => .inl (cs t, m_ar ad rf I J i t n)
def m_wl (cs : Nat → ClassId) (ad : Nat → Nat) (sh : mSH) (rf : mRF) (N : Nat) (I : mPI) (J : mPJ) : va_W := (List.range N).map (fun i => (ad i, m_ce cs ad sh rf I J i))
def m_cl : List vw_C := [(RX0, TX0, 3), (RX1, TX1, 5), (RX2, TX2, 6), (RX3, TX3, 8), (RX4, TX4, 10), (RX5, TX5, 17)]
def m_tyf : Nat → Nat → FieldType
  | 0 => tyX0 | 1 => tyX1 | 2 => tyX2 | 3 => tyX3 | 4 => tyX4 | _ => tyX5
def m_ty (cs : Nat → ClassId) : List (ClassId × FieldType) := [(cs 0, .int), (cs 1, .long), (cs 2, .boolean), (cs 3, .object "MomentDesk$Big"), (cs 4, .object "MomentDesk$Weights")]
def m_A (ad : Nat → Nat) (N : Nat) : Nat → Prop := fun q => ∃ i, i < N ∧ q = ad i
theorem m_wl_at (cs : Nat → ClassId) (ad : Nat → Nat) (sh : mSH) (rf : mRF) (N : Nat) (I : mPI) (J : mPJ) {i : Nat} (h : i < N) : (m_wl cs ad sh rf N I J)[i]? = some (ad i, m_ce cs ad sh rf I J i) := by
  simp [m_wl, h]
theorem m_wl_len (cs : Nat → ClassId) (ad : Nat → Nat) (sh : mSH) (rf : mRF) (N : Nat) (I : mPI) (J : mPJ) : (m_wl cs ad sh rf N I J).length = N := by simp [m_wl]
theorem m_wl_set {cs : Nat → ClassId} {ad : Nat → Nat} {sh : mSH} {rf : mRF} {N : Nat} {I I' : mPI} {J J' : mPJ} {i : Nat} {e : va_E} (he : m_ce cs ad sh rf I' J' i = e) (ho : ∀ j, j ≠ i → m_ce cs ad sh rf I' J' j = m_ce cs ad sh rf I J j) :
    (m_wl cs ad sh rf N I J).set i (ad i, e) = m_wl cs ad sh rf N I' J' := by
  apply List.ext_getElem?
  intro k
  by_cases hk : k < N
  · rw [m_wl_at _ _ _ _ _ _ _ hk]
    by_cases hki : k = i
    · subst hki
      rw [List.getElem?_set_self (by rw [m_wl_len]; exact hk), he]
    · rw [List.getElem?_set_ne (Ne.symm hki), m_wl_at _ _ _ _ _ _ _ hk, ho k hki]
  · rw [List.getElem?_eq_none (by rw [List.length_set, m_wl_len]; omega), List.getElem?_eq_none (by rw [m_wl_len]; omega)]
theorem m_wl_D {ad : Nat → Nat} {N : Nat} (hi : ∀ i j, i < N → j < N → ad i = ad j → i = j) (cs : Nat → ClassId) (sh : mSH) (rf : mRF) (I : mPI) (J : mPJ) : va_D (m_A ad N) (m_wl cs ad sh rf N I J) := by
  have key : ∀ (k : Nat) (q : Nat × va_E), (m_wl cs ad sh rf N I J)[k]? = some q → k < N ∧ q.1 = ad k := by
    intro k q h
    have hk : k < N := by
      have := (List.getElem?_eq_some_iff.mp h).1
      rwa [m_wl_len] at this
    rw [m_wl_at _ _ _ _ _ _ _ hk] at h
    exact ⟨hk, by rw [← Option.some.inj h]⟩
  refine ⟨fun i j x y h1 h2 h3 => ?_, fun k q h => ?_⟩
  · obtain ⟨a1, a2⟩ := key i x h1
    obtain ⟨b1, b2⟩ := key j y h2
    exact hi i j a1 b1 (by rw [← a2, ← b2]; exact h3)
  · obtain ⟨a1, a2⟩ := key k q h
    exact ⟨k, a1, a2⟩
theorem m_ce_I {cs : Nat → ClassId} {ad : Nat → Nat} {sh : mSH} {rf : mRF} {I I' : mPI} {J J' : mPJ} {j : Nat} (h1 : ∀ b, I' j b = I j b) (h2 : ∀ b, J' j b = J j b) : m_ce cs ad sh rf I' J' j = m_ce cs ad sh rf I J j := by
  have e1 : I' j = I j := funext h1
  have e2 : J' j = J j := funext h2
  have e3 : ∀ l k, m_fs ad rf I' j l k = m_fs ad rf I j l k := by
    intro l
    induction l with
    | nil => intro k; rfl
    | cons a l ih => intro k; simp only [m_fs, m_fv, ih, e1]
  unfold m_ce m_ar
  simp only [e1, e2, e3]
theorem m_hty (ci : Nat) (q : vw_C) (h : m_cl[ci]? = some q) : ∀ k, k < q.2.2 → parseFieldDescriptor (q.2.1 k).2.2.1 = some (m_tyf ci k) := by
  match ci, h with
  | 0, h => cases h; exact tyX0_ok
  | 1, h => cases h; exact tyX1_ok
  | 2, h => cases h; exact tyX2_ok
  | 3, h => cases h; exact tyX3_ok
  | 4, h => cases h; exact tyX4_ok
  | 5, h => cases h; exact tyX5_ok
  | k + 6, h => simp [m_cl] at h
theorem m_hnm (ci : Nat) (q : vw_C) (h : m_cl[ci]? = some q) : ∀ a, a < q.2.2 → ∀ b, b < q.2.2 → a ≠ b → (q.2.1 a).2.1 ≠ (q.2.1 b).2.1 := by
  match ci, h with
  | 0, h => cases h; exact nmX0
  | 1, h => cases h; exact nmX1
  | 2, h => cases h; exact nmX2
  | 3, h => cases h; exact nmX3
  | 4, h => cases h; exact nmX4
  | 5, h => cases h; exact nmX5
  | k + 6, h => simp [m_cl] at h
/-! locals -/
def m_lk : mLV → Nat → Option mPV
  | [], _ => none
  | (q, v) :: l, k => match Nat.beq q k with
    | true => some v
    | false => m_lk l k
def m_s1 (lv : mLV) (i : Nat) (v : mPV) : mLV := (i, v) :: lv.filter (fun q => !(q.1 == i) && !(q.1 + 1 == i && m_cat q.2 == 2))
def m_s2 (lv : mLV) (i : Nat) (v : mPV) : mLV := (i, v) :: lv.filter (fun q => !(q.1 == i) && (!(q.1 == i + 1) && !(q.1 + 1 == i && m_cat q.2 == 2)))
def m_el (ad : Nat → Nat) (lv : mLV) : List (Nat × Value) := lv.map (fun q => (q.1, m_ev ad q.2))
theorem m_lk_get : ∀ {lv : mLV} {k : Nat} {v : mPV}, m_lk lv k = some v → ∃ j : Nat, lv[j]? = some (k, v)
  | [], _, _, h => by simp [m_lk] at h
  | (q, v0) :: l, k, v, h => by
    unfold m_lk at h
    split at h
    · rename_i hb
      have hk := Nat.eq_of_beq_eq_true hb
      exact ⟨0, by simp at h; simp [← h, ← hk]⟩
    · obtain ⟨j, hj⟩ := m_lk_get h
      exact ⟨j + 1, by simpa using hj⟩
theorem m_el_get {ad : Nat → Nat} {lv : mLV} {j k : Nat} {v : mPV} (h : lv[j]? = some (k, v)) : (m_el ad lv)[j]? = some (k, m_ev ad v) := by
  simp [m_el, h]
theorem m_at {ad : Nat → Nat} {ls : Array Slot} {nL : Nat} {lv : mLV} {k : Nat} {v : mPV} (hl : lv_has ls nL (m_el ad lv)) (h : m_lk lv k = some v) : ls[k]? = some (.val (m_ev ad v)) := by
  obtain ⟨j, hj⟩ := m_lk_get h
  exact lv_at hl j (m_el_get hj)
theorem m_el_s1 {ad : Nat → Nat} {lv : mLV} {i : Nat} {v : mPV} : (i, m_ev ad v) :: (m_el ad lv).filter (fun q => !(q.1 == i) && !(q.1 + 1 == i && q.2.category == 2)) = m_el ad (m_s1 lv i v) := by
  simp only [m_el, m_s1, List.map_cons, List.filter_map]
  congr 2
  apply List.filter_congr
  intro q _
  simp only [Function.comp, m_cat_ev]
theorem m_el_s2 {ad : Nat → Nat} {lv : mLV} {i : Nat} {v : mPV} : (i, m_ev ad v) :: (m_el ad lv).filter (fun q => !(q.1 == i) && (!(q.1 == i + 1) && !(q.1 + 1 == i && q.2.category == 2))) = m_el ad (m_s2 lv i v) := by
  simp only [m_el, m_s2, List.map_cons, List.filter_map]
  congr 2
  apply List.filter_congr
  intro q _
  simp only [Function.comp, m_cat_ev]
/-- the words that methods carry; the two of nest mates go with the world -/
def m_tb : List Cond := lw_tbl.filter goodWord
def m_nws : List Cond := [Cond.fieldLinkNest RX2 68 "MomentDesk$Big" "negative" "Z" "MomentDesk", Cond.methodLinkNest RX3 56 yX4_power "MomentDesk"]
def m_tw : List Cond := m_nws ++ m_tb
theorem m_tb_pos {w : Cond} {pos : Nat} (h : lw_tbl[pos]? = some w) (h2 : goodWord w = true) : w ∈ m_tb := List.mem_filter.mpr ⟨List.mem_of_getElem? h, h2⟩
theorem m_tb_w {w : Cond} (h : w ∈ m_tb) : w ∈ m_tw := List.mem_append_right _ h
/-! a row of tables: fields (index, class, place, kind, nest, place of its word), constants -/
abbrev mFL : Type := Nat × Nat × Nat × Nat × Nat × Nat
def m_lf : List mFL → Nat → Option (Nat × Nat × Nat)
  | [], _ => none
  | (q, ci, f, kd, _, _) :: l, k => match Nat.beq q k with
    | true => some (ci, f, kd)
    | false => m_lf l k
def m_lc {α : Type} : List (Nat × α × Nat) → Nat → Option α
  | [], _ => none
  | (q, v, _) :: l, k => match Nat.beq q k with
    | true => some v
    | false => m_lc l k
theorem m_in (ci : Nat) (q : vw_C) (h : m_cl[ci]? = some q) : ∀ w ∈ u_ws q.1 q.2.1 q.2.2, w ∈ m_tw := by
  intro w hw
  refine m_tb_w (List.mem_filter.mpr ?_)
  have key : ∀ w ∈ u_ws q.1 q.2.1 q.2.2, w ∈ lw_tbl ∧ goodWord w = true := by
    match ci, h with
    | 0, h => cases h; decide +kernel
    | 1, h => cases h; decide +kernel
    | 2, h => cases h; decide +kernel
    | 3, h => cases h; decide +kernel
    | 4, h => cases h; decide +kernel
    | 5, h => cases h; decide +kernel
    | k + 6, h => simp [m_cl] at h
  exact key w hw
def m_fck (own : String) (q : mFL) : Bool := match m_cl[q.2.1]? with
  | some r => Nat.blt q.2.2.1 r.2.2 && decide ((m_ft q.2.1)[q.2.2.1]? = some q.2.2.2.1) && (Nat.beq q.2.2.2.1 2 || !(r.2.1 q.2.2.1).2.2.2) && decide (m_tyf q.2.1 q.2.2.1 = (if q.2.2.2.1 = 0 then .int else if q.2.2.2.1 = 1 then .boolean else m_tyf q.2.1 q.2.2.1)) && (match q.2.2.2.2.1 with
    | 0 => decide (lw_tbl[q.2.2.2.2.2]? = some (Cond.fieldLink own q.1 (r.2.1 q.2.2.1).1 (r.2.1 q.2.2.1).2.1 (r.2.1 q.2.2.1).2.2.1)) && goodWord (Cond.fieldLink own q.1 (r.2.1 q.2.2.1).1 (r.2.1 q.2.2.1).2.1 (r.2.1 q.2.2.1).2.2.1)
    | _ => decide (Cond.fieldLinkNest own q.1 (r.2.1 q.2.2.1).1 (r.2.1 q.2.2.1).2.1 (r.2.1 q.2.2.1).2.2.1 "MomentDesk" ∈ m_nws))
  | none => false
def m_kck (own : String) (q : Nat × Int32 × Nat) : Bool := decide (lw_tbl[q.2.2]? = some (Cond.constant own q.1 q.2.1)) && goodWord (Cond.constant own q.1 q.2.1)
def m_kckL (own : String) (q : Nat × Int64 × Nat) : Bool := decide (lw_tbl[q.2.2]? = some (Cond.constantLong own q.1 q.2.1)) && goodWord (Cond.constantLong own q.1 q.2.1)
theorem m_lf_mem : ∀ {l : List mFL} {k : Nat} {r : Nat × Nat × Nat}, m_lf l k = some r → ∃ h pos, (k, r.1, r.2.1, r.2.2, h, pos) ∈ l
  | [], _, _, h => by simp [m_lf] at h
  | (q, ci, f, kd, h9, p9) :: l, k, r, h => by
    unfold m_lf at h
    split at h
    · rename_i hb
      have hk := Nat.eq_of_beq_eq_true hb
      have hr := Option.some.inj h
      refine ⟨h9, p9, ?_⟩
      rw [← hr, ← hk]
      exact List.mem_cons_self
    · obtain ⟨a, b, hj⟩ := m_lf_mem h
      exact ⟨a, b, List.mem_cons_of_mem _ hj⟩
theorem m_lc_mem {α : Type} : ∀ {l : List (Nat × α × Nat)} {k : Nat} {r : α}, m_lc l k = some r → ∃ pos, (k, r, pos) ∈ l
  | [], _, _, h => by simp [m_lc] at h
  | (q, v9, p9) :: l, k, r, h => by
    unfold m_lc at h
    split at h
    · rename_i hb
      have hk := Nat.eq_of_beq_eq_true hb
      have hr := Option.some.inj h
      refine ⟨p9, ?_⟩
      rw [← hr, ← hk]
      exact List.mem_cons_self
    · obtain ⟨a, hj⟩ := m_lc_mem h
      exact ⟨a, List.mem_cons_of_mem _ hj⟩
/-! what an instruction asks -/
def m_inb (sh : mSH) (i t : Nat) (j : Int32) : Prop := match sh i with
  | .inr (t', n) => t' = t ∧ vp_in j n
  | _ => False
def m_inr (sh : mSH) (i : Nat) (j : Int32) : Prop := match sh i with
  | .inr (t', n) => (t' = 3 ∨ t' = 4) ∧ vp_in j n
  | _ => False
def m_isa (sh : mSH) (i : Nat) : Prop := match sh i with
  | .inr (t', _) => t' < 5
  | _ => False
def m_len (sh : mSH) (i : Nat) : Int32 := match sh i with
  | .inr (_, n) => Int32.ofNat n
  | _ => 0
def m_gv (rf : mRF) (I : mPI) (i f kd : Nat) : mPV := match kd with
  | 2 => .inr (.inr (rf i f))
  | _ => .inl (I i f)
def m_ol : Option mPV → List mPV
  | none => []
  | some v => [v]
def m_ilen : Instr → Nat
  | .bipush _ | .iload _ | .istore _ | .lload _ | .lstore _ | .aload _ | .astore _ | .ldc _ => 2
  | .sipush _ | .iinc _ _ | .ldc_w _ | .ldc2_w _ | .getfield _ | .putfield _ | .invokevirtual _ | .invokestatic _ | .goto _ | .ifCond _ _ | .if_icmp _ _ | .new _ | .invokespecial _ | .anewarray _ => 3
  | .newarray _ => 2
  | _ => 1
def m_isw : Instr → Bool
  | .tableswitch _ _ _ _ | .lookupswitch _ _ => true
  | _ => false
def m_jck (pc : Nat) (ts : List Nat) : Instr → Bool
  | .goto off => match ts with | [t] => decide ((pc : Int) + off = (t : Int)) | _ => false
  | .ifCond _ off => match ts with | [t] => decide ((pc : Int) + off = (t : Int)) | _ => false
  | .if_icmp _ off => match ts with | [t] => decide ((pc : Int) + off = (t : Int)) | _ => false
  | .tableswitch dflt lo hi offs => match ts with
    | t :: l => decide ((pc : Int) + dflt = (t : Int)) && decide (l.length = offs.size) && decide (lo = 0) && decide (hi + 1 = (offs.size : Int)) && (List.range offs.size).all (fun j => decide (((pc : Int) + (offs.getD j 0)) = ((l.getD j 0 : Nat) : Int)))
    | _ => false
  | .lookupswitch d ps => match ps.toList, ts with
    | [a, b], [t, t1, t2] => decide (a.1 = 1) && decide (b.1 = 2) && decide ((pc : Int) + d = (t : Int)) && decide ((pc : Int) + a.2 = (t1 : Int)) && decide ((pc : Int) + b.2 = (t2 : Int))
    | _, _ => false
  | _ => true
def m_vck (v : Int32) : Instr → Bool
  | .iconst n => decide (Int32.ofInt n = v)
  | .bipush n => decide ((Int8.ofInt n).toInt32 = v)
  | .sipush n => decide ((Int16.ofInt n).toInt32 = v)
  | .iinc _ n => decide (Int32.ofInt n = v)
  | _ => true
def m_ick (cc : ByteArray) (q : mIN) : Bool := decide (decode cc q.1 = .ok (q.2.1, q.2.2.1)) && (Nat.beq (m_ilen q.2.1) q.2.2.1 || m_isw q.2.1) && m_jck q.1 q.2.2.2.1 q.2.1 && m_vck q.2.2.2.2 q.2.1

/-- one instruction: ft goes on behind it, jp at a target -/
def m_sp (nL : Nat) (fl : List mFL) (kI : List (Nat × Int32 × Nat)) (kJ : List (Nat × Int64 × Nat)) (ct : Nat → Option (Nat × Bool × mPT)) (sh : mSH) (rf : mRF) (rk : Nat) (Q : mKT) (ft : mLV → List mPV → mPI → mPJ → Prop) (jp : Nat → mLV → List mPV → mPI → mPJ → Prop) (ins : Instr) (ts : List Nat) (v : Int32) (lv : mLV) (st : List mPV) (I : mPI) (J : mPJ) : Prop :=
  match ins with
  | .iload_n k => match m_lk lv k.val with
    | some (.inl x) => ft lv (.inl x :: st) I J
    | _ => False
  | .iload k => match m_lk lv k with
    | some (.inl x) => ft lv (.inl x :: st) I J
    | _ => False
  | .lload_n k => match m_lk lv k.val with
    | some (.inr (.inl x)) => ft lv (.inr (.inl x) :: st) I J
    | _ => False
  | .lload k => match m_lk lv k with
    | some (.inr (.inl x)) => ft lv (.inr (.inl x) :: st) I J
    | _ => False
  | .aload_n k => match m_lk lv k.val with
    | some (.inr (.inr x)) => ft lv (.inr (.inr x) :: st) I J
    | _ => False
  | .aload k => match m_lk lv k with
    | some (.inr (.inr x)) => ft lv (.inr (.inr x) :: st) I J
    | _ => False
  | .istore_n k => match st with
    | .inl x :: r => match Nat.blt k.val nL with
      | true => ft (m_s1 lv k.val (.inl x)) r I J
      | false => False
    | _ => False
  | .istore k => match st with
    | .inl x :: r => match Nat.blt k nL with
      | true => ft (m_s1 lv k (.inl x)) r I J
      | false => False
    | _ => False
  | .lstore_n k => match st with
    | .inr (.inl x) :: r => match Nat.blt (k.val + 1) nL with
      | true => ft (m_s2 lv k.val (.inr (.inl x))) r I J
      | false => False
    | _ => False
  | .lstore k => match st with
    | .inr (.inl x) :: r => match Nat.blt (k + 1) nL with
      | true => ft (m_s2 lv k (.inr (.inl x))) r I J
      | false => False
    | _ => False
  | .astore_n k => match st with
    | .inr (.inr x) :: r => match Nat.blt k.val nL with
      | true => ft (m_s1 lv k.val (.inr (.inr x))) r I J
      | false => False
    | _ => False
  | .astore k => match st with
    | .inr (.inr x) :: r => match Nat.blt k nL with
      | true => ft (m_s1 lv k (.inr (.inr x))) r I J
      | false => False
    | _ => False
  | .iconst _ => ft lv (.inl v :: st) I J
  | .bipush _ => ft lv (.inl v :: st) I J
  | .sipush _ => ft lv (.inl v :: st) I J
  | .lconst n => ft lv (.inr (.inl (match n.val with | 0 => 0 | _ => 1)) :: st) I J
  | .ldc k => match m_lc kI k with
    | some x => ft lv (.inl x :: st) I J
    | none => False
  | .ldc_w k => match m_lc kI k with
    | some x => ft lv (.inl x :: st) I J
    | none => False
  | .ldc2_w k => match m_lc kJ k with
    | some x => ft lv (.inr (.inl x) :: st) I J
    | none => False
  | .iinc k _ => match m_lk lv k with
    | some (.inl x) => match Nat.blt k nL with
      | true => ft (m_s1 lv k (.inl (x + v))) st I J
      | false => False
    | _ => False
  | .iadd => match st with
    | .inl y :: .inl x :: r => ft lv (.inl (x + y) :: r) I J
    | _ => False
  | .isub => match st with
    | .inl y :: .inl x :: r => ft lv (.inl (x - y) :: r) I J
    | _ => False
  | .imul => match st with
    | .inl y :: .inl x :: r => ft lv (.inl (x * y) :: r) I J
    | _ => False
  | .iand => match st with
    | .inl y :: .inl x :: r => ft lv (.inl (x &&& y) :: r) I J
    | _ => False
  | .ior => match st with
    | .inl y :: .inl x :: r => ft lv (.inl (x ||| y) :: r) I J
    | _ => False
  | .ixor => match st with
    | .inl y :: .inl x :: r => ft lv (.inl (x ^^^ y) :: r) I J
    | _ => False
  | .ishl => match st with
    | .inl y :: .inl x :: r => ft lv (.inl (x <<< (y &&& 31)) :: r) I J
    | _ => False
  | .ishr => match st with
    | .inl y :: .inl x :: r => ft lv (.inl (x >>> (y &&& 31)) :: r) I J
    | _ => False
  | .iushr => match st with
    | .inl y :: .inl x :: r => ft lv (.inl ((x.toUInt32 >>> (y.toUInt32 &&& Int32.toUInt32 31)).toInt32) :: r) I J
    | _ => False
  | .ladd => match st with
    | .inr (.inl y) :: .inr (.inl x) :: r => ft lv (.inr (.inl (x + y)) :: r) I J
    | _ => False
  | .lsub => match st with
    | .inr (.inl y) :: .inr (.inl x) :: r => ft lv (.inr (.inl (x - y)) :: r) I J
    | _ => False
  | .lmul => match st with
    | .inr (.inl y) :: .inr (.inl x) :: r => ft lv (.inr (.inl (x * y)) :: r) I J
    | _ => False
  | .land => match st with
    | .inr (.inl y) :: .inr (.inl x) :: r => ft lv (.inr (.inl (x &&& y)) :: r) I J
    | _ => False
  | .lor => match st with
    | .inr (.inl y) :: .inr (.inl x) :: r => ft lv (.inr (.inl (x ||| y)) :: r) I J
    | _ => False
  | .lshl => match st with
    | .inl y :: .inr (.inl x) :: r => ft lv (.inr (.inl (x <<< (y.toInt64 &&& 63))) :: r) I J
    | _ => False
  | .lshr => match st with
    | .inl y :: .inr (.inl x) :: r => ft lv (.inr (.inl (x >>> (y.toInt64 &&& 63))) :: r) I J
    | _ => False
  | .lushr => match st with
    | .inl y :: .inr (.inl x) :: r => ft lv (.inr (.inl ((x.toUInt64 >>> (y.toInt64.toUInt64 &&& Int64.toUInt64 63)).toInt64)) :: r) I J
    | _ => False
  | .idiv => match st with
    | .inl y :: .inl x :: r => ¬ y = 0 ∧ ft lv (.inl (x / y) :: r) I J
    | _ => False
  | .irem => match st with
    | .inl y :: .inl x :: r => ¬ y = 0 ∧ ft lv (.inl (x - x / y * y) :: r) I J
    | _ => False
  | .ldiv => match st with
    | .inr (.inl y) :: .inr (.inl x) :: r => ¬ y = 0 ∧ ft lv (.inr (.inl (x / y)) :: r) I J
    | _ => False
  | .lrem => match st with
    | .inr (.inl y) :: .inr (.inl x) :: r => ¬ y = 0 ∧ ft lv (.inr (.inl (x - x / y * y)) :: r) I J
    | _ => False
  | .i2l => match st with
    | .inl x :: r => ft lv (.inr (.inl x.toInt64) :: r) I J
    | _ => False
  | .l2i => match st with
    | .inr (.inl x) :: r => ft lv (.inl x.toInt32 :: r) I J
    | _ => False
  | .lcmp => match st with
    | .inr (.inl y) :: .inr (.inl x) :: r => ft lv (.inl (lg_cmp x y) :: r) I J
    | _ => False
  | .ineg => match st with
    | .inl x :: r => ft lv (.inl (-x) :: r) I J
    | _ => False
  | .lneg => match st with
    | .inr (.inl x) :: r => ft lv (.inr (.inl (-x)) :: r) I J
    | _ => False
  | .dup => match st with
    | .inl x :: r => ft lv (.inl x :: .inl x :: r) I J
    | .inr (.inr x) :: r => ft lv (.inr (.inr x) :: .inr (.inr x) :: r) I J
    | _ => False
  | .dup2 => match st with
    | .inl y :: .inr (.inr x) :: r => ft lv (.inl y :: .inr (.inr x) :: .inl y :: .inr (.inr x) :: r) I J
    | _ => False
  | .goto _ => match ts with
    | [t] => jp t lv st I J
    | _ => False
  | .ifCond .eq _ => match ts, st with
    | [t], .inl x :: r => (x = 0 → jp t lv r I J) ∧ (¬ x = 0 → ft lv r I J)
    | _, _ => False
  | .ifCond .ne _ => match ts, st with
    | [t], .inl x :: r => (¬ x = 0 → jp t lv r I J) ∧ (x = 0 → ft lv r I J)
    | _, _ => False
  | .ifCond .lt _ => match ts, st with
    | [t], .inl x :: r => (x < 0 → jp t lv r I J) ∧ (¬ x < 0 → ft lv r I J)
    | _, _ => False
  | .ifCond .ge _ => match ts, st with
    | [t], .inl x :: r => (0 ≤ x → jp t lv r I J) ∧ (¬ 0 ≤ x → ft lv r I J)
    | _, _ => False
  | .ifCond .gt _ => match ts, st with
    | [t], .inl x :: r => (0 < x → jp t lv r I J) ∧ (¬ 0 < x → ft lv r I J)
    | _, _ => False
  | .ifCond .le _ => match ts, st with
    | [t], .inl x :: r => (x ≤ 0 → jp t lv r I J) ∧ (¬ x ≤ 0 → ft lv r I J)
    | _, _ => False
  | .if_icmp .eq _ => match ts, st with
    | [t], .inl y :: .inl x :: r => (x = y → jp t lv r I J) ∧ (¬ x = y → ft lv r I J)
    | _, _ => False
  | .if_icmp .ne _ => match ts, st with
    | [t], .inl y :: .inl x :: r => (¬ x = y → jp t lv r I J) ∧ (x = y → ft lv r I J)
    | _, _ => False
  | .if_icmp .lt _ => match ts, st with
    | [t], .inl y :: .inl x :: r => (x < y → jp t lv r I J) ∧ (¬ x < y → ft lv r I J)
    | _, _ => False
  | .if_icmp .ge _ => match ts, st with
    | [t], .inl y :: .inl x :: r => (y ≤ x → jp t lv r I J) ∧ (¬ y ≤ x → ft lv r I J)
    | _, _ => False
  | .if_icmp .gt _ => match ts, st with
    | [t], .inl y :: .inl x :: r => (y < x → jp t lv r I J) ∧ (¬ y < x → ft lv r I J)
    | _, _ => False
  | .if_icmp .le _ => match ts, st with
    | [t], .inl y :: .inl x :: r => (x ≤ y → jp t lv r I J) ∧ (¬ x ≤ y → ft lv r I J)
    | _, _ => False
  | .tableswitch _ _ hi _ => match ts, st with
    | t :: l, .inl x :: r => (∀ j, j < l.length → x = Int32.ofNat j → jp (l.getD j 0) lv r I J) ∧ ((x < 0 ∨ Int32.ofNat l.length ≤ x) → jp t lv r I J)
    | _, _ => False
  | .lookupswitch _ _ => match ts, st with
    | [t, t1, t2], .inl x :: r => (x = 1 → jp t1 lv r I J) ∧ (x = 2 → jp t2 lv r I J) ∧ ((¬ x = 1 ∧ ¬ x = 2) → jp t lv r I J)
    | _, _ => False
  | .getfield k => match m_lf fl k, st with
    | some (ci, f, kd), .inr (.inr i) :: r => sh i = .inl ci ∧ ft lv (m_gv rf I i f kd :: r) I J
    | _, _ => False
  | .putfield k => match m_lf fl k, st with
    | some (ci, f, 0), .inl x :: .inr (.inr i) :: r => sh i = .inl ci ∧ ft lv r (m_uI I i f x) J
    | some (ci, f, 1), .inl x :: .inr (.inr i) :: r => sh i = .inl ci ∧ (x = 0 ∨ x = 1) ∧ ft lv r (m_uI I i f x) J
    | _, _ => False
  | .iaload => match st with
    | .inl j :: .inr (.inr i) :: r => m_inb sh i 0 j ∧ ft lv (.inl (I i j.toNatClampNeg) :: r) I J
    | _ => False
  | .laload => match st with
    | .inl j :: .inr (.inr i) :: r => m_inb sh i 1 j ∧ ft lv (.inr (.inl (J i j.toNatClampNeg)) :: r) I J
    | _ => False
  | .baload => match st with
    | .inl j :: .inr (.inr i) :: r => m_inb sh i 2 j ∧ ft lv (.inl (I i j.toNatClampNeg) :: r) I J
    | _ => False
  | .aaload => match st with
    | .inl j :: .inr (.inr i) :: r => m_inr sh i j ∧ ft lv (.inr (.inr (rf i j.toNatClampNeg)) :: r) I J
    | _ => False
  | .arraylength => match st with
    | .inr (.inr i) :: r => m_isa sh i ∧ ft lv (.inl (m_len sh i) :: r) I J
    | _ => False
  | .iastore => match st with
    | .inl x :: .inl j :: .inr (.inr i) :: r => m_inb sh i 0 j ∧ ft lv r (m_uI I i j.toNatClampNeg x) J
    | _ => False
  | .bastore => match st with
    | .inl x :: .inl j :: .inr (.inr i) :: r => m_inb sh i 2 j ∧ (x = 0 ∨ x = 1) ∧ ft lv r (m_uI I i j.toNatClampNeg x) J
    | _ => False
  | .lastore => match st with
    | .inr (.inl x) :: .inl j :: .inr (.inr i) :: r => m_inb sh i 1 j ∧ ft lv r I (m_uJ J i j.toNatClampNeg x)
    | _ => False
  | .invokevirtual k => match ct k with
    | some (n, true, pt) => match Nat.ble n st.length && Nat.ble ((st.drop n).map m_cat).sum 8 with
      | true => pt (st.take n).reverse I J (fun r I1 J1 => ft lv (m_ol r ++ st.drop n) I1 J1)
      | false => False
    | _ => False
  | .invokestatic k => match ct k with
    | some (n, false, pt) => match Nat.ble n st.length && Nat.ble ((st.drop n).map m_cat).sum 8 with
      | true => pt (st.take n).reverse I J (fun r I1 J1 => ft lv (m_ol r ++ st.drop n) I1 J1)
      | false => False
    | _ => False
  | .ireturn => match rk, st with
    | 1, [.inl x] => Q (some (.inl x)) I J
    | 3, [.inl x] => (x = 0 ∨ x = 1) ∧ Q (some (.inl x)) I J
    | _, _ => False
  | .lreturn => match rk, st with
    | 2, [.inr (.inl x)] => Q (some (.inr (.inl x))) I J
    | _, _ => False
  | .areturn => match rk, st with
    | 4, [.inr (.inr x)] => Q (some (.inr (.inr x))) I J
    | _, _ => False
  | .return_ => match rk, st with
    | 0, [] => Q none I J
    | _, _ => False
  | _ => False
