/-! ===== mathematics: products of two of the polynomials ===== -/
theorem prS_fs (mo : Nat → Int) (i j : Nat) : ∀ n, prS mo i j n = fs (fun a => Nm mo i a * ofN mo j a (j + 1)) n
  | 0 => rfl
  | n + 1 => by rw [prS, fs, prS_fs mo i j n]
theorem prS_val (mo : Nat → Int) {i j : Nat} (hi : i ≤ 5) (hj : j ≤ 5) : prS mo i j (i + 1) = if i = j then Dt mo i * Dt mo (i + 1) else 0 := by
  rw [prS_fs]
  by_cases e : i = j
  · subst e
    rw [if_pos rfl, fs, fs_0 (fun a ha => by rw [of_zero mo hi ha, Int.mul_zero]), Nm_top mo hi, of_top mo hi, Int.zero_add]
  · rw [if_neg e]
    rcases Nat.lt_or_ge i j with q | q
    · exact fs_0 (fun a ha => by rw [of_zero mo hj (by omega), Int.mul_zero])
    · have e1 : fs (fun a => Nm mo i a * ofN mo j a (j + 1)) (i + 1) = fs (fun a => fs (fun b => Nm mo j b * (Nm mo i a * mo (a + b))) (j + 1)) (i + 1) := by
        refine fs_cg (fun a _ => ?_)
        rw [ofN_fs, ← fs_mul]
        refine fs_cg (fun b _ => ?_)
        rw [Nat.add_comm b a]
        grind
      rw [e1, fs_swap]
      refine fs_0 (fun b hb => ?_)
      rw [fs_mul, of_eq mo hi (by omega), if_neg (by omega), Int.mul_zero]

