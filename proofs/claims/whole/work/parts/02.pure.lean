/-- what two numbers have in common where their longs are one -/
theorem mi_inj {a b : Nat} (h : lN a = lN b) : a % 2 ^ 64 = b % 2 ^ 64 := by
  have h2 := congrArg (fun z : Int64 => z.toBitVec.toNat) h
  simpa only [wb_tb, BitVec.toNat_ofNat] using h2
/-- the square of an odd number is 1 modulo 8 -/
theorem mi_sq {N : Nat} (h : N % 2 = 1) : (N * N) % 2 ^ 3 = 1 := by
  have h8 : N % 8 = 1 ∨ N % 8 = 3 ∨ N % 8 = 5 ∨ N % 8 = 7 := by omega
  show (N * N) % 8 = 1
  rw [Nat.mul_mod]
  rcases h8 with h8 | h8 | h8 | h8 <;> simp only [h8] <;> decide
/-- a number with its lowest bit set is odd -/
theorem mi_odd (V : Nat) : (V ||| 1) % 2 = 1 := by
  have h : (V ||| 1).testBit 0 = true := by rw [Nat.testBit_or]; simp
  rw [Nat.testBit_zero] at h
  exact of_decide_eq_true h
theorem mi_or1 {V : Nat} (h : V < 2 ^ 64) : lN V ||| 1 = lN (V ||| 1) := wb_or (b := 1) h (by decide)
theorem mi_lt1 {V : Nat} (h : V < 2 ^ 64) : (V ||| 1) < 2 ^ 64 := Nat.or_lt_two_pow h (by decide)
/-- one step of Newton: right modulo P, then right modulo M, where M divides the square of P and 2^64 -/
theorem mi_step {N X Y P M L K : Nat} (hP : P * P = M * L) (hK : 2 ^ 64 = M * K) (h1 : 1 < M) (ha : (N * X) % P = 1) (h : (Y + N * X * X) % 2 ^ 64 = (2 * X) % 2 ^ 64) : (N * Y) % M = 1 := by
  obtain ⟨s, t, e⟩ : ∃ s t : Nat, Y + N * X * X + 2 ^ 64 * s = 2 * X + 2 ^ 64 * t := by
    refine ⟨(2 * X) / 2 ^ 64, (Y + N * X * X) / 2 ^ 64, ?_⟩
    generalize Y + N * X * X = a at h ⊢
    generalize 2 * X = b at h ⊢
    omega
  obtain ⟨q, hq⟩ : ∃ q, N * X = 1 + P * q := ⟨N * X / P, by have := Nat.div_add_mod (N * X) P; omega⟩
  rw [hK] at e
  have e1 : N * Y + (N * X) * (N * X) + M * (K * (N * s)) = 2 * (N * X) + M * (K * (N * t)) := by
    have e3 : N * (Y + N * X * X + M * K * s) = N * (2 * X + M * K * t) := by rw [e]
    clear e h ha hP hK hq h1
    grind
  have e2 : N * Y + M * (L * (q * q) + K * (N * s)) = 1 + M * (K * (N * t)) := by
    rw [hq] at e1
    have e4 : (1 + P * q) * (1 + P * q) = 1 + 2 * (P * q) + M * (L * (q * q)) := by
      have e5 : (P * q) * (P * q) = M * (L * (q * q)) := by
        rw [show (P * q) * (P * q) = (P * P) * (q * q) by ac_rfl, hP, Nat.mul_assoc]
      rw [← e5]
      generalize P * q = z
      clear e1 hq e5 e h ha hP hK h1
      grind
    rw [e4] at e1
    rw [Nat.mul_add]
    omega
  have e6 : (N * Y + M * (L * (q * q) + K * (N * s))) % M = (1 + M * (K * (N * t))) % M := by rw [e2]
  rw [Nat.add_mul_mod_self_left, Nat.add_mul_mod_self_left, Nat.mod_eq_of_lt h1] at e6
  exact e6
/-- the same of longs -/
theorem mi_newton {N X Y P M L K : Nat} (hP : P * P = M * L) (hK : 2 ^ 64 = M * K) (h1 : 1 < M) (ha : (N * X) % P = 1) (h : lN X * (2 - lN N * lN X) = lN Y) : (N * Y) % M = 1 := by
  refine mi_step hP hK h1 ha (mi_inj ?_)
  have e : lN Y + lN N * lN X * lN X = lN 2 * lN X := by
    rw [← h, show lN 2 = (2 : Int64) from rfl]
    clear h ha hP hK h1
    generalize lN X = x
    generalize lN N = n
    grind
  rw [lN_mul, lN_mul, lN_add, lN_mul] at e
  exact e
/-- what is 1 in its c low bits has no bit i, for i between 1 and c -/
theorem mi_one {A c i : Nat} (h : A % 2 ^ c = 1) (hi : 0 < i) (hc : i < c) : A / 2 ^ i % 2 = 0 := by
  have h1 : A % (2 ^ i * 2 ^ (c - i)) / 2 ^ i = A / 2 ^ i % 2 ^ (c - i) := Nat.mod_mul_right_div_self ..
  have h2 : 1 < 2 ^ i := Nat.one_lt_two_pow (by omega)
  rw [← wb_pw (Nat.le_of_lt hc), h, Nat.div_eq_of_lt h2] at h1
  have h3 : A / 2 ^ i % 2 ^ (c - i) % 2 = A / 2 ^ i % 2 := Nat.mod_mod_of_dvd _ ⟨2 ^ (c - i - 1), by rw [← Nat.pow_succ']; congr 1; omega⟩
  rw [← h1] at h3
  exact h3.symm
theorem mi_low {A i : Nat} (hi : i < 64) : A % 2 ^ 64 / 2 ^ i % 2 = A / 2 ^ i % 2 := by
  have h1 : A % (2 ^ i * 2 ^ (64 - i)) / 2 ^ i = A / 2 ^ i % 2 ^ (64 - i) := Nat.mod_mul_right_div_self ..
  rw [wb_pw (Nat.le_of_lt hi), h1]
  exact Nat.mod_mod_of_dvd _ ⟨2 ^ (64 - i - 1), by rw [← Nat.pow_succ']; congr 1; omega⟩
/-- bit i of N * (the i low bits of X) is bit i of X, where N * X is 1 in its c low bits -/
theorem mi_bit {N X c i : Nat} (hN : N % 2 = 1) (h : (N * X) % 2 ^ c = 1) (hi : 0 < i) (hc : i < c) : (N * (X % 2 ^ i)) / 2 ^ i % 2 = X / 2 ^ i % 2 := by
  have d := Nat.mod_add_div X (2 ^ i)
  generalize X % 2 ^ i = r at d ⊢
  generalize X / 2 ^ i = Q at d ⊢
  have h2 := mi_one h hi hc
  rw [← d, Nat.mul_add, Nat.mul_left_comm N (2 ^ i) Q, Nat.add_mul_div_left _ _ (Nat.two_pow_pos i)] at h2
  have h3 : (N * Q) % 2 = Q % 2 := by rw [Nat.mul_mod, hN, Nat.one_mul, Nat.mod_mod]
  omega
/-- the reference's test of bit i, in longs -/
theorem mi_test {N X c i : Nat} (hN : N % 2 = 1) (h : (N * X) % 2 ^ c = 1) (hi : 0 < i) (hc : i < c) (h64 : c ≤ 64) : ((lN N * lN (X % 2 ^ i)).toUInt64 >>> ((nI i).toInt64.toUInt64 &&& Int64.toUInt64 63)).toInt64 &&& 1 = lN (X / 2 ^ i % 2) := by
  rw [lN_mul, wb_mod (N * (X % 2 ^ i)), wb_bit (Nat.mod_lt _ (by decide)) (by omega), mi_low (by omega), mi_bit hN h hi hc]
theorem mi_succ (X i : Nat) : X % 2 ^ (i + 1) = X % 2 ^ i + (X / 2 ^ i % 2) * 2 ^ i := by
  rw [Nat.pow_succ, Nat.mod_mul, Nat.mul_comm]
/-- the reference's storing of bit i, in longs -/
theorem mi_set {X i : Nat} (hi : i < 64) (hb : X / 2 ^ i % 2 = 1) : lN (X % 2 ^ i) ||| (1 : Int64) <<< ((nI i).toInt64 &&& 63) = lN (X % 2 ^ (i + 1)) := by
  have h1 : (1 : Int64) <<< ((nI i).toInt64 &&& 63) = lN (1 * 2 ^ i) := wb_shl 1 hi
  have hl : X % 2 ^ i < 2 ^ i := Nat.mod_lt _ (Nat.two_pow_pos i)
  have h2 : 2 ^ (i + 1) ≤ 2 ^ 64 := Nat.pow_le_pow_right (by decide) (by omega)
  rw [Nat.pow_succ] at h2
  rw [h1, g_or' rfl hl (by omega), mi_succ, hb]
theorem mi_keep {X i : Nat} (hb : X / 2 ^ i % 2 = 0) : X % 2 ^ (i + 1) = X % 2 ^ i := by
  rw [mi_succ, hb, Nat.zero_mul, Nat.add_zero]
/-- the component's mask -/
theorem mi_mask {X c : Nat} (hX : X < 2 ^ 64) (hc : c < 64) : lN X &&& ((1 : Int64) <<< ((nI c).toInt64 &&& 63) - 1) = lN (X % 2 ^ c) := by
  have h1 : (1 : Int64) <<< ((nI c).toInt64 &&& 63) = lN (1 * 2 ^ c) := wb_shl 1 hc
  have h2 : lN (2 ^ c) - 1 = lN (2 ^ c - 1) := lN_sub (b := 1) (Nat.two_pow_pos c)
  rw [h1, Nat.one_mul, h2, wb_mask hX hc]
/-- X is odd -/
theorem mi_x1 {N X c : Nat} (h : (N * X) % 2 ^ c = 1) (hc : 0 < c) : X % 2 ^ 1 = 1 := by
  have h1 : (N * X) % 2 ^ c % 2 = (N * X) % 2 := Nat.mod_mod_of_dvd _ ⟨2 ^ (c - 1), by rw [← Nat.pow_succ']; congr 1; omega⟩
  rw [h, Nat.mul_mod] at h1
  show X % 2 = 1
  have h2 : X % 2 = 0 ∨ X % 2 = 1 := by omega
  rcases h2 with h2 | h2
  · rw [h2, Nat.mul_zero] at h1
    exact absurd h1 (by decide)
  · exact h2
