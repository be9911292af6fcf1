/-! ===== the JDK's static methods ===== -/
def pt_max (_ : mSH) (_ : mRF) : mPT := fun As I J K => ∃ x y : Int32, As = [.inl x, .inl y] ∧ K (some (.inl (if x < y then y else x))) I J
def pt_min (_ : mSH) (_ : mRF) : mPT := fun As I J K => ∃ x y : Int32, As = [.inl x, .inl y] ∧ K (some (.inl (if y < x then y else x))) I J
def pt_absJ (_ : mSH) (_ : mRF) : mPT := fun As I J K => ∃ x : Int64, As = [.inr (.inl x)] ∧ K (some (.inr (.inl (if 0 < x then x else -x)))) I J
def pt_cmpJ (_ : mSH) (_ : mRF) : mPT := fun As I J K => ∃ x y : Int64, As = [.inr (.inl x), .inr (.inl y)] ∧ K (some (.inl (lg_cmp x y))) I J
section MC
variable {p : Program} {l : Launch} {e : Env} {R : Room} {s : State} {m : MethodId} {args : Array Value} {below : List Frame} {meth : Method} {c : Code} {Q : State → Prop} {cc : ByteArray} {own : String}
variable {D : va_G} {cs : Nat → ClassId} {ad : Nat → Nat} {sh : mSH} {rf : mRF} {N : Nat} {nL : Nat}
theorem m_CG_max (hx : p.tables.exec = Jvm.exec) (hb : c.code = cc) (hml : c.maxLocals = nL) (hown : s.vm.findClass own = some m.cls) (hts : ∀ w ∈ m_tw, w.before args s = true) (hK : va_K D m_cl (m_ty cs) s) (hi : ∀ i j, i < N → j < N → ad i = ad j → i = j) (hN : ∀ i, sh i ≠ .inr (9, 0) → i < N)
    {k : Nat} (hw : ∀ w ∈ [Cond.methodLink own k Lib.Math.max.name, Cond.static Lib.Math.max.name, Cond.initialized "java/lang/Math", Cond.code Lib.Math.max.name Lib.Math.max.code 2 (some .int)], w ∈ m_tb) (hR : 1 ≤ R.frames ∧ 21 ≤ R.locals) :
    m_CG p l e R s m args below meth c Q D cs ad sh rf N nL cc k 2 false (pt_max sh rf) := by
  intro pc hdec As rest lv I J K hlen hcat hpt hk H locs ls hP hS hl
  obtain ⟨x, y, rfl, h8⟩ := hpt
  refine va_mmax hx hb (hml.trans hl.1.symm) hown (hts _ (m_tb_w (hw _ (by simp)))) (hts _ (m_tb_w (hw _ (by simp)))) (hts _ (m_tb_w (hw _ (by simp)))) (hts _ (m_tb_w (hw _ (by simp)))) hR.1 ?_ (Nat.zero_le _) (Nat.zero_le _) hdec (hk _ _ _ h8 H locs ls hP hS hl)
  rw [m_catsum]
  have h9 : (List.map m_cat ([].append rest)).sum ≤ 8 := hcat
  have := hR.2
  omega
end MC
section MC
variable {p : Program} {l : Launch} {e : Env} {R : Room} {s : State} {m : MethodId} {args : Array Value} {below : List Frame} {meth : Method} {c : Code} {Q : State → Prop} {cc : ByteArray} {own : String}
variable {D : va_G} {cs : Nat → ClassId} {ad : Nat → Nat} {sh : mSH} {rf : mRF} {N : Nat} {nL : Nat}
theorem m_CG_min (hx : p.tables.exec = Jvm.exec) (hb : c.code = cc) (hml : c.maxLocals = nL) (hown : s.vm.findClass own = some m.cls) (hts : ∀ w ∈ m_tw, w.before args s = true) (hK : va_K D m_cl (m_ty cs) s) (hi : ∀ i j, i < N → j < N → ad i = ad j → i = j) (hN : ∀ i, sh i ≠ .inr (9, 0) → i < N)
    {k : Nat} (hw : ∀ w ∈ [Cond.methodLink own k Lib.Math.min.name, Cond.static Lib.Math.min.name, Cond.initialized "java/lang/Math", Cond.code Lib.Math.min.name Lib.Math.min.code 2 (some .int)], w ∈ m_tb) (hR : 1 ≤ R.frames ∧ 21 ≤ R.locals) :
    m_CG p l e R s m args below meth c Q D cs ad sh rf N nL cc k 2 false (pt_min sh rf) := by
  intro pc hdec As rest lv I J K hlen hcat hpt hk H locs ls hP hS hl
  obtain ⟨x, y, rfl, h8⟩ := hpt
  refine va_mmin hx hb (hml.trans hl.1.symm) hown (hts _ (m_tb_w (hw _ (by simp)))) (hts _ (m_tb_w (hw _ (by simp)))) (hts _ (m_tb_w (hw _ (by simp)))) (hts _ (m_tb_w (hw _ (by simp)))) hR.1 ?_ (Nat.zero_le _) (Nat.zero_le _) hdec (hk _ _ _ h8 H locs ls hP hS hl)
  rw [m_catsum]
  have h9 : (List.map m_cat ([].append rest)).sum ≤ 8 := hcat
  have := hR.2
  omega
end MC
section MC
variable {p : Program} {l : Launch} {e : Env} {R : Room} {s : State} {m : MethodId} {args : Array Value} {below : List Frame} {meth : Method} {c : Code} {Q : State → Prop} {cc : ByteArray} {own : String}
variable {D : va_G} {cs : Nat → ClassId} {ad : Nat → Nat} {sh : mSH} {rf : mRF} {N : Nat} {nL : Nat}
theorem m_CG_absJ (hx : p.tables.exec = Jvm.exec) (hb : c.code = cc) (hml : c.maxLocals = nL) (hown : s.vm.findClass own = some m.cls) (hts : ∀ w ∈ m_tw, w.before args s = true) (hK : va_K D m_cl (m_ty cs) s) (hi : ∀ i j, i < N → j < N → ad i = ad j → i = j) (hN : ∀ i, sh i ≠ .inr (9, 0) → i < N)
    {k : Nat} (hw : ∀ w ∈ [Cond.methodLink own k Lib.MathLoose.abs_long.x, Cond.static Lib.MathLoose.abs_long.x, Cond.initialized "java/lang/Math", Cond.code Lib.MathLoose.abs_long.x Lib.MathLoose.abs_long.code 2 (some .long)], w ∈ m_tb) (hR : 1 ≤ R.frames ∧ 21 ≤ R.locals) :
    m_CG p l e R s m args below meth c Q D cs ad sh rf N nL cc k 1 false (pt_absJ sh rf) := by
  intro pc hdec As rest lv I J K hlen hcat hpt hk H locs ls hP hS hl
  obtain ⟨x, rfl, h8⟩ := hpt
  refine va_mabs_long hx hb (hml.trans hl.1.symm) hown (hts _ (m_tb_w (hw _ (by simp)))) (hts _ (m_tb_w (hw _ (by simp)))) (hts _ (m_tb_w (hw _ (by simp)))) (hts _ (m_tb_w (hw _ (by simp)))) hR.1 ?_ (Nat.zero_le _) (Nat.zero_le _) hdec (hk _ _ _ h8 H locs ls hP hS hl)
  rw [m_catsum]
  have h9 : (List.map m_cat ([].append rest)).sum ≤ 8 := hcat
  have := hR.2
  omega
end MC
set_option maxHeartbeats 4000000 in
set_option maxRecDepth 100000 in
theorem mt_J13_compare_74951 : m_Mt yJ13_compare_74951 cJ13_compare_74951 4 (some .int) 0 0 pt_cmpJ := by
  refine m_method0 80 (fl := fl_J13) (kI := kI_J13) (kJ := kJ_J13) (ct := ct_none) (cd := cd_J13_compare_74951) (rk := 1) (by decide +kernel) fl_J13_ok kI_J13_ok kJ_J13_ok (ce_none _ _ _ _ _) rfl ck_J13_compare_74951 ⟨_, _, rfl, rfl⟩ ?_
  intro sh rf As I J K hpt
  obtain ⟨x, y, rfl, hK⟩ := hpt
  unfold lg_cmp at hK
  refine ⟨Nat.le_of_ble_eq_true rfl, And.intro (fun h => And.intro (fun h2 => ?_) (fun h2 => ?_)) (fun h => ?_)⟩
  · have e : lg_cmp x y = 1 := by
      unfold lg_cmp at h h2 ⊢
      split
      · rfl
      · rename_i h3
        rw [if_neg h3] at h h2
        split at h2
        · exact absurd rfl h2
        · rename_i h4
          rw [if_neg h4] at h
          exact absurd h (by decide)
    unfold lg_cmp at e
    rw [e] at hK
    exact hK
  · have e : lg_cmp x y = 0 := h2
    unfold lg_cmp at e
    rw [e] at hK
    exact hK
  · have e : lg_cmp x y = -1 := by
      unfold lg_cmp at h ⊢
      split
      · rename_i h3
        rw [if_pos h3] at h
        exact absurd (by decide) h
      · rename_i h3
        rw [if_neg h3] at h
        split
        · rename_i h4
          rw [if_pos h4] at h
          exact absurd (by decide) h
        · rfl
    unfold lg_cmp at e
    rw [e] at hK
    exact hK

