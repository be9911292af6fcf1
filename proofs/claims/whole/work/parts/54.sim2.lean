/-! ===== mathematics: what is left, the reference's way ===== -/
def Zl (mo : Nat → Int) (n t e : Nat) : Int := Dt mo n ^ t * mo (n - 1 + t + e) - fs (fun i => sd mo n t i * mo (i + e)) n
theorem sdp_fs (mo : Nat → Int) (n t e : Nat) : ∀ m, fs (fun i => sdp mo n t i * mo (i + e)) (m + 1) = fs (fun i => sd mo n t i * mo (i + (e + 1))) m
  | 0 => by
    rw [fs, fs, fs, sdp, Int.zero_mul]
    rfl
  | m + 1 => by
    rw [fs, sdp_fs mo n t e m, fs, sdp, show m + 1 + e = m + (e + 1) by omega]
theorem Zl_s (mo : Nat → Int) {n : Nat} (hn : 1 ≤ n) (hn5 : n ≤ 5) (t e : Nat) : Zl mo n (t + 1) e = Dt mo n * Zl mo n t (e + 1) + qq mo n t * ofN mo n e (n + 1) := by
  obtain ⟨m, rfl⟩ : ∃ m, n = m + 1 := ⟨n - 1, by omega⟩
  have e1 : fs (fun i => sd mo (m + 1) (t + 1) i * mo (i + e)) (m + 1) = Dt mo (m + 1) * fs (fun i => sdp mo (m + 1) t i * mo (i + e)) (m + 1) + -(qq mo (m + 1) t) * fs (fun i => Nm mo (m + 1) i * mo (i + e)) (m + 1) := by
    rw [← fs_mul, ← fs_mul, ← fs_add]
    refine fs_cg (fun i _ => ?_)
    rw [sd_s]
    unfold qq
    grind
  have e2 := sdp_fs mo (m + 1) t e m
  have e3 : fs (fun i => sd mo (m + 1) t i * mo (i + (e + 1))) (m + 1) = fs (fun i => sd mo (m + 1) t i * mo (i + (e + 1))) m + qq mo (m + 1) t * mo (m + (e + 1)) := rfl
  have e4 : ofN mo (m + 1) e (m + 1 + 1) = fs (fun i => Nm mo (m + 1) i * mo (i + e)) (m + 1) + Dt mo (m + 1) * mo (m + 1 + e) := by
    rw [ofN_fs, fs, Nm_top mo hn5]
  unfold Zl
  rw [e1, e2, e4, e3, Nat.add_sub_cancel, show m + (t + 1) + e = m + t + (e + 1) by omega, show m + 1 + e = m + (e + 1) by omega, Int.pow_succ]
  generalize fs (fun i => sd mo (m + 1) t i * mo (i + (e + 1))) m = S
  generalize fs (fun i => Nm mo (m + 1) i * mo (i + e)) (m + 1) = T
  generalize Dt mo (m + 1) ^ t = P
  grind
theorem Zl_0 (mo : Nat → Int) {n : Nat} (hn : 1 ≤ n) (e : Nat) : Zl mo n 0 e = 0 := by
  obtain ⟨m, rfl⟩ : ∃ m, n = m + 1 := ⟨n - 1, by omega⟩
  unfold Zl
  rw [fs, fs_0 (fun i hi => by rw [sd, if_neg (by omega), Int.zero_mul]), sd, if_pos rfl, Int.pow_zero, Nat.add_sub_cancel, Nat.add_zero]
  omega

