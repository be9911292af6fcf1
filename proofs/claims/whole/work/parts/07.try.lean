theorem t_try (b : Nat) (I : mPI) (J : mPJ) (sh : mSH) (rf : mRF) (K : mKT) : m_wp 1 fl_X0 kI_X0 kJ_X0 (fun _ => none) sh rf 0 K cd_X0_trim [(0, [0])] (fun _ _ _ _ _ => True) 40 cd_X0_trim (m_args 0 [.inr (.inr b)]) [] I J := by
  refine And.intro ?_ ?_
  · sorry
  · refine And.intro ?_ ?_
    · sorry
    · sorry
theorem t_try2 (b : Nat) (I : mPI) (J : mPJ) (sh : mSH) (rf : mRF) (K : mKT) : m_wp 1 fl_X0 kI_X0 kJ_X0 (fun _ => none) sh rf 0 K cd_X0_trim [(0, [0])] (fun _ _ _ _ _ => True) 40 cd_X0_trim (m_args 0 [.inr (.inr b)]) [] I J := by
  simp only [m_wp, cd_X0_trim, m_sp, m_go, m_args, m_lk, m_jmp, m_cu, fl_X0, m_lf, m_gv, m_lks]
  trace_state
  sorry
theorem t_try3 (b : Nat) (I : mPI) (J : mPJ) (sh : mSH) (rf : mRF) (K : mKT) : m_wp 1 fl_X0 kI_X0 kJ_X0 (fun _ => none) sh rf 0 K cd_X0_trim [(0, [0])] (fun _ _ _ _ _ => True) 40 cd_X0_trim (m_args 0 [.inr (.inr b)]) [] I J := by
  show _ ∧ (_ → _) ∧ (_ → _)
  trace_state
  sorry
