section
theorem wb_tb (n : Nat) : (lN n).toBitVec = BitVec.ofNat 64 n := rfl
theorem wb_inj {a b : Int64} (h : a.toBitVec = b.toBitVec) : a = b := Int64.toBitVec_inj.mp h
theorem wb_tn {n : Nat} (h : n < 2 ^ 64) : (lN n).toBitVec.toNat = n := by rw [wb_tb, BitVec.toNat_ofNat, Nat.mod_eq_of_lt h]
theorem wb_of (x : Int64) : ∃ n, n < 2 ^ 64 ∧ x = lN n := ⟨x.toBitVec.toNat, x.toBitVec.isLt, wb_inj (by rw [wb_tb]; simp)⟩
theorem wb_c : ∀ k, k < 64 → ((nI k).toInt64 &&& 63) = lN k := by decide +kernel
theorem wb_cu : ∀ k, k < 64 → ((nI k).toInt64.toUInt64 &&& Int64.toUInt64 63) = UInt64.ofNat k := by decide +kernel
theorem wb_sm : ∀ k, k < 64 → (BitVec.ofNat 64 k).smod 64 = BitVec.ofNat 64 k := by decide +kernel
theorem wb_pw {a b : Nat} (h : a ≤ b) : 2 ^ b = 2 ^ a * 2 ^ (b - a) := by rw [← Nat.pow_add]; congr 1; omega
theorem wb_lt2 {a b : Nat} (h : a < b) : 2 ^ a < 2 ^ b := Nat.pow_lt_pow_right (by decide) h
theorem wb_mod (n : Nat) : lN n = lN (n % 2 ^ 64) := wb_inj (by rw [wb_tb, wb_tb]; apply BitVec.eq_of_toNat_eq; rw [BitVec.toNat_ofNat, BitVec.toNat_ofNat, Nat.mod_mod])
theorem wb_shr {n k : Nat} (hn : n < 2 ^ 64) (hk : k < 64) : ((lN n).toUInt64 >>> ((nI k).toInt64.toUInt64 &&& Int64.toUInt64 63)).toInt64 = lN (n / 2 ^ k) := by
  rw [wb_cu k hk]
  apply wb_inj
  apply BitVec.eq_of_toNat_eq
  show ((lN n).toUInt64 >>> UInt64.ofNat k).toNat = (BitVec.ofNat 64 _).toNat
  have h1 : (UInt64.ofNat k).toNat = k := by
    show (BitVec.ofNat 64 k).toNat = k
    rw [BitVec.toNat_ofNat, Nat.mod_eq_of_lt (by omega)]
  have h2 : (lN n).toUInt64.toNat = n := wb_tn hn
  rw [UInt64.toNat_shiftRight, h1, h2, Nat.mod_eq_of_lt hk, Nat.shiftRight_eq_div_pow, BitVec.toNat_ofNat, Nat.mod_eq_of_lt (Nat.lt_of_le_of_lt (Nat.div_le_self _ _) hn)]
theorem wb_shl (n : Nat) {k : Nat} (hk : k < 64) : lN n <<< ((nI k).toInt64 &&& 63) = lN (n * 2 ^ k) := by
  rw [wb_c k hk]
  apply wb_inj
  rw [Int64.toBitVec_shiftLeft, wb_tb, wb_tb, wb_tb, wb_sm k hk]
  apply BitVec.eq_of_toNat_eq
  rw [BitVec.shiftLeft_eq', BitVec.toNat_shiftLeft, BitVec.toNat_ofNat, BitVec.toNat_ofNat, BitVec.toNat_ofNat, Nat.mod_eq_of_lt (show k < 2 ^ 64 by omega), Nat.shiftLeft_eq, Nat.mul_mod, Nat.mod_mod, ← Nat.mul_mod]
theorem wb_and {a b : Nat} (ha : a < 2 ^ 64) (hb : b < 2 ^ 64) : lN a &&& lN b = lN (a &&& b) := by
  apply wb_inj
  rw [Int64.toBitVec_and, wb_tb, wb_tb, wb_tb]
  apply BitVec.eq_of_toNat_eq
  rw [BitVec.toNat_and, BitVec.toNat_ofNat, BitVec.toNat_ofNat, BitVec.toNat_ofNat, Nat.mod_eq_of_lt ha, Nat.mod_eq_of_lt hb, Nat.mod_eq_of_lt (Nat.and_lt_two_pow _ hb)]
theorem wb_or {a b : Nat} (ha : a < 2 ^ 64) (hb : b < 2 ^ 64) : lN a ||| lN b = lN (a ||| b) := by
  apply wb_inj
  rw [Int64.toBitVec_or, wb_tb, wb_tb, wb_tb]
  apply BitVec.eq_of_toNat_eq
  rw [BitVec.toNat_or, BitVec.toNat_ofNat, BitVec.toNat_ofNat, BitVec.toNat_ofNat, Nat.mod_eq_of_lt ha, Nat.mod_eq_of_lt hb, Nat.mod_eq_of_lt (Nat.or_lt_two_pow ha hb)]
theorem wb_mask {n k : Nat} (hn : n < 2 ^ 64) (hk : k < 64) : lN n &&& lN (2 ^ k - 1) = lN (n % 2 ^ k) := by
  rw [wb_and hn (by have := wb_lt2 hk; omega), Nat.and_two_pow_sub_one_eq_mod]
theorem wb_a1 {n : Nat} (hn : n < 2 ^ 64) : lN n &&& 1 = lN (n % 2) := wb_mask (k := 1) hn (by decide)
theorem wb_bit {n k : Nat} (hn : n < 2 ^ 64) (hk : k < 64) : ((lN n).toUInt64 >>> ((nI k).toInt64.toUInt64 &&& Int64.toUInt64 63)).toInt64 &&& 1 = lN (n / 2 ^ k % 2) := by
  rw [wb_shr hn hk, wb_a1 (Nat.lt_of_le_of_lt (Nat.div_le_self _ _) hn)]
theorem u_tn {n : Nat} (h : n < 2 ^ 64) : (UInt64.ofNat n).toNat = n := Nat.mod_eq_of_lt h
theorem g_or {k p a b : Nat} (hp : 2 ^ k = p) (ha : a < p) (h : b * p + a < 2 ^ 64) : lN (b * p) ||| lN a = lN (b * p + a) := by
  subst hp
  have h1 : b * 2 ^ k ||| a = b * 2 ^ k + a := by rw [← Nat.shiftLeft_eq, Nat.shiftLeft_add_eq_or_of_lt ha]
  have h3 : UInt64.ofNat (b * 2 ^ k) ||| UInt64.ofNat a = UInt64.ofNat (b * 2 ^ k + a) := UInt64.toNat_inj.mp (by rw [UInt64.toNat_or, u_tn (by omega), u_tn (by omega), u_tn h, h1])
  have h2 := congrArg UInt64.toInt64 h3
  exact h2
theorem g_or' {k p a b : Nat} (hp : 2 ^ k = p) (ha : a < p) (h : a + b * p < 2 ^ 64) : lN a ||| lN (b * p) = lN (a + b * p) := by
  rw [Int64.or_comm, g_or hp ha (by omega), Nat.add_comm]
theorem pk_nb (z : Int32) : narrow .byte (.int z.toInt8.toInt32) = .int z.toInt8.toInt32 := congrArg Value.int (by simp)
theorem pk_fb (r : Int32) : fits .byte (.int r.toInt8.toInt32) = true := by
  have ⟨a, b⟩ := lg_i2b_range r
  have h1 : (-128 : Int32).toInt = -128 := by decide
  have h2 : (127 : Int32).toInt = 127 := by decide
  simp only [fits, Bool.and_eq_true, decide_eq_true_eq, Int32.le_iff_toInt_le, h1, h2]
  omega
end
section
/-- what two numbers have in common where their longs are one -/
theorem mi_inj {a b : Nat} (h : lN a = lN b) : a % 2 ^ 64 = b % 2 ^ 64 := by
  have h2 := congrArg (fun z : Int64 => z.toBitVec.toNat) h
  simpa only [wb_tb, BitVec.toNat_ofNat] using h2
/-- the square of an odd number is 1 modulo 8 -/
theorem mi_sq {N : Nat} (h : N % 2 = 1) : (N * N) % 2 ^ 3 = 1 := by
  have h8 : N % 8 = 1 ∨ N % 8 = 3 ∨ N % 8 = 5 ∨ N % 8 = 7 := by omega
  show (N * N) % 8 = 1
  rw [Nat.mul_mod]
  rcases h8 with h8 | h8 | h8 | h8 <;> simp only [h8] <;> decide
/-- a number with its lowest bit set is odd -/
theorem mi_odd (V : Nat) : (V ||| 1) % 2 = 1 := by
  have h : (V ||| 1).testBit 0 = true := by rw [Nat.testBit_or]; simp
  rw [Nat.testBit_zero] at h
  exact of_decide_eq_true h
theorem mi_or1 {V : Nat} (h : V < 2 ^ 64) : lN V ||| 1 = lN (V ||| 1) := wb_or (b := 1) h (by decide)
theorem mi_lt1 {V : Nat} (h : V < 2 ^ 64) : (V ||| 1) < 2 ^ 64 := Nat.or_lt_two_pow h (by decide)
/-- one step of Newton: right modulo P, then right modulo M, where M divides the square of P and 2^64 -/
theorem mi_step {N X Y P M L K : Nat} (hP : P * P = M * L) (hK : 2 ^ 64 = M * K) (h1 : 1 < M) (ha : (N * X) % P = 1) (h : (Y + N * X * X) % 2 ^ 64 = (2 * X) % 2 ^ 64) : (N * Y) % M = 1 := by
  obtain ⟨s, t, e⟩ : ∃ s t : Nat, Y + N * X * X + 2 ^ 64 * s = 2 * X + 2 ^ 64 * t := by
    refine ⟨(2 * X) / 2 ^ 64, (Y + N * X * X) / 2 ^ 64, ?_⟩
    generalize Y + N * X * X = a at h ⊢
    generalize 2 * X = b at h ⊢
    omega
  obtain ⟨q, hq⟩ : ∃ q, N * X = 1 + P * q := ⟨N * X / P, by have := Nat.div_add_mod (N * X) P; omega⟩
  rw [hK] at e
  have e1 : N * Y + (N * X) * (N * X) + M * (K * (N * s)) = 2 * (N * X) + M * (K * (N * t)) := by
    have e3 : N * (Y + N * X * X + M * K * s) = N * (2 * X + M * K * t) := by rw [e]
    clear e h ha hP hK hq h1
    grind
  have e2 : N * Y + M * (L * (q * q) + K * (N * s)) = 1 + M * (K * (N * t)) := by
    rw [hq] at e1
    have e4 : (1 + P * q) * (1 + P * q) = 1 + 2 * (P * q) + M * (L * (q * q)) := by
      have e5 : (P * q) * (P * q) = M * (L * (q * q)) := by
        rw [show (P * q) * (P * q) = (P * P) * (q * q) by ac_rfl, hP, Nat.mul_assoc]
      rw [← e5]
      generalize P * q = z
      clear e1 hq e5 e h ha hP hK h1
      grind
    rw [e4] at e1
    rw [Nat.mul_add]
    omega
  have e6 : (N * Y + M * (L * (q * q) + K * (N * s))) % M = (1 + M * (K * (N * t))) % M := by rw [e2]
  rw [Nat.add_mul_mod_self_left, Nat.add_mul_mod_self_left, Nat.mod_eq_of_lt h1] at e6
  exact e6
/-- the same of longs -/
theorem mi_newton {N X Y P M L K : Nat} (hP : P * P = M * L) (hK : 2 ^ 64 = M * K) (h1 : 1 < M) (ha : (N * X) % P = 1) (h : lN X * (2 - lN N * lN X) = lN Y) : (N * Y) % M = 1 := by
  refine mi_step hP hK h1 ha (mi_inj ?_)
  have e : lN Y + lN N * lN X * lN X = lN 2 * lN X := by
    rw [← h, show lN 2 = (2 : Int64) from rfl]
    clear h ha hP hK h1
    generalize lN X = x
    generalize lN N = n
    grind
  rw [lN_mul, lN_mul, lN_add, lN_mul] at e
  exact e
/-- what is 1 in its c low bits has no bit i, for i between 1 and c -/
theorem mi_one {A c i : Nat} (h : A % 2 ^ c = 1) (hi : 0 < i) (hc : i < c) : A / 2 ^ i % 2 = 0 := by
  have h1 : A % (2 ^ i * 2 ^ (c - i)) / 2 ^ i = A / 2 ^ i % 2 ^ (c - i) := Nat.mod_mul_right_div_self ..
  have h2 : 1 < 2 ^ i := Nat.one_lt_two_pow (by omega)
  rw [← wb_pw (Nat.le_of_lt hc), h, Nat.div_eq_of_lt h2] at h1
  have h3 : A / 2 ^ i % 2 ^ (c - i) % 2 = A / 2 ^ i % 2 := Nat.mod_mod_of_dvd _ ⟨2 ^ (c - i - 1), by rw [← Nat.pow_succ']; congr 1; omega⟩
  rw [← h1] at h3
  exact h3.symm
theorem mi_low {A i : Nat} (hi : i < 64) : A % 2 ^ 64 / 2 ^ i % 2 = A / 2 ^ i % 2 := by
  have h1 : A % (2 ^ i * 2 ^ (64 - i)) / 2 ^ i = A / 2 ^ i % 2 ^ (64 - i) := Nat.mod_mul_right_div_self ..
  rw [wb_pw (Nat.le_of_lt hi), h1]
  exact Nat.mod_mod_of_dvd _ ⟨2 ^ (64 - i - 1), by rw [← Nat.pow_succ']; congr 1; omega⟩
/-- bit i of N * (the i low bits of X) is bit i of X, where N * X is 1 in its c low bits -/
theorem mi_bit {N X c i : Nat} (hN : N % 2 = 1) (h : (N * X) % 2 ^ c = 1) (hi : 0 < i) (hc : i < c) : (N * (X % 2 ^ i)) / 2 ^ i % 2 = X / 2 ^ i % 2 := by
  have d := Nat.mod_add_div X (2 ^ i)
  generalize X % 2 ^ i = r at d ⊢
  generalize X / 2 ^ i = Q at d ⊢
  have h2 := mi_one h hi hc
  rw [← d, Nat.mul_add, Nat.mul_left_comm N (2 ^ i) Q, Nat.add_mul_div_left _ _ (Nat.two_pow_pos i)] at h2
  have h3 : (N * Q) % 2 = Q % 2 := by rw [Nat.mul_mod, hN, Nat.one_mul, Nat.mod_mod]
  omega
/-- the reference's test of bit i, in longs -/
theorem mi_test {N X c i : Nat} (hN : N % 2 = 1) (h : (N * X) % 2 ^ c = 1) (hi : 0 < i) (hc : i < c) (h64 : c ≤ 64) : ((lN N * lN (X % 2 ^ i)).toUInt64 >>> ((nI i).toInt64.toUInt64 &&& Int64.toUInt64 63)).toInt64 &&& 1 = lN (X / 2 ^ i % 2) := by
  rw [lN_mul, wb_mod (N * (X % 2 ^ i)), wb_bit (Nat.mod_lt _ (by decide)) (by omega), mi_low (by omega), mi_bit hN h hi hc]
theorem mi_succ (X i : Nat) : X % 2 ^ (i + 1) = X % 2 ^ i + (X / 2 ^ i % 2) * 2 ^ i := by
  rw [Nat.pow_succ, Nat.mod_mul, Nat.mul_comm]
/-- the reference's storing of bit i, in longs -/
theorem mi_set {X i : Nat} (hi : i < 64) (hb : X / 2 ^ i % 2 = 1) : lN (X % 2 ^ i) ||| (1 : Int64) <<< ((nI i).toInt64 &&& 63) = lN (X % 2 ^ (i + 1)) := by
  have h1 : (1 : Int64) <<< ((nI i).toInt64 &&& 63) = lN (1 * 2 ^ i) := wb_shl 1 hi
  have hl : X % 2 ^ i < 2 ^ i := Nat.mod_lt _ (Nat.two_pow_pos i)
  have h2 : 2 ^ (i + 1) ≤ 2 ^ 64 := Nat.pow_le_pow_right (by decide) (by omega)
  rw [Nat.pow_succ] at h2
  rw [h1, g_or' rfl hl (by omega), mi_succ, hb]
theorem mi_keep {X i : Nat} (hb : X / 2 ^ i % 2 = 0) : X % 2 ^ (i + 1) = X % 2 ^ i := by
  rw [mi_succ, hb, Nat.zero_mul, Nat.add_zero]
/-- the component's mask -/
theorem mi_mask {X c : Nat} (hX : X < 2 ^ 64) (hc : c < 64) : lN X &&& ((1 : Int64) <<< ((nI c).toInt64 &&& 63) - 1) = lN (X % 2 ^ c) := by
  have h1 : (1 : Int64) <<< ((nI c).toInt64 &&& 63) = lN (1 * 2 ^ c) := wb_shl 1 hc
  have h2 : lN (2 ^ c) - 1 = lN (2 ^ c - 1) := lN_sub (b := 1) (Nat.two_pow_pos c)
  rw [h1, Nat.one_mul, h2, wb_mask hX hc]
/-- X is odd -/
theorem mi_x1 {N X c : Nat} (h : (N * X) % 2 ^ c = 1) (hc : 0 < c) : X % 2 ^ 1 = 1 := by
  have h1 : (N * X) % 2 ^ c % 2 = (N * X) % 2 := Nat.mod_mod_of_dvd _ ⟨2 ^ (c - 1), by rw [← Nat.pow_succ']; congr 1; omega⟩
  rw [h, Nat.mul_mod] at h1
  show X % 2 = 1
  have h2 : X % 2 = 0 ∨ X % 2 = 1 := by omega
  rcases h2 with h2 | h2
  · rw [h2, Nat.mul_zero] at h1
    exact absurd h1 (by decide)
  · exact h2
end
section
/-- the numbers of bits that a lifting goes through -/
def mi_c (c : Nat) : Prop := c = 3 ∨ c = 6 ∨ c = 12 ∨ c = 24 ∨ c = 48 ∨ c = 64
/-- both sides hold the same n, x and number of bits c; n is odd, and x is its inverse modulo 2^c -/
def i_Rel (_ : Nat) (u : SX) (v : SY) : Prop := ∃ N X c : Nat, N % 2 = 1 ∧ X < 2 ^ 64 ∧ (N * X) % 2 ^ c = 1 ∧ mi_c c ∧ u = (lN N, lN X, nI c) ∧ v = (lN N, lN X, nI c)
theorem i_up {k : Nat} {u : SX} {v : SY} (h : i_Rel k u v) : i_Rel (k + 3) u v := h
theorem i_vc0 : wpX_init (fun u => wpY_init (fun v => i_Rel 0 u v)) := by
  show i_Rel 0 (1, 1, 3) (1, 1, 3)
  exact ⟨1, 1, 3, by decide, by decide, by decide, Or.inl rfl, rfl, rfl⟩
theorem i_vc_seed {k : Nat} {u : SX} {v : SY} (I : i_Rel k u v) (hk : k + 3 ≤ 1536) (a0 : Int64) : wpX_seed (fun r u' => wpY_seed (fun r' v' => r' = r ∧ i_Rel (k + 3) u' v') v a0) u a0 := by
  obtain ⟨N, X, c, hN, hX, h1, hc, rfl, rfl⟩ := I
  obtain ⟨V, hV, rfl⟩ := wb_of a0
  show ∀ n1 : Int64, n1 = lN V ||| 1 → ∀ x2 : Int64, x2 = lN V ||| 1 → ((3 : Int32) = 3 ∧ i_Rel (k + 3) (lN V ||| 1, lN V ||| 1, 3) (n1, x2, 3))
  intro n1 e1 x2 e2
  rw [e1, e2, mi_or1 hV]
  exact ⟨rfl, V ||| 1, V ||| 1, 3, mi_odd V, mi_lt1 hV, mi_sq (mi_odd V), Or.inl rfl, rfl, rfl⟩
/-- a lift from c to d = 2 c bits, d at most 64 -/
theorem mi_liftLo {k N X : Nat} (c d L K : Nat) (hN : N % 2 = 1) (h1 : (N * X) % 2 ^ c = 1) (hd : mi_c d) (a1 : ¬ nI c = 64) (a2 : nI c < 64) (a3 : 2 * nI c = nI d) (a4 : nI d ≤ 64) (a5 : (nI c <<< ((1 : Int32) &&& 31)).toInt8.toInt32 = nI d) (hP : 2 ^ c * 2 ^ c = 2 ^ d * L) (hK : 2 ^ 64 = 2 ^ d * K) (hM : 1 < 2 ^ d) : wpX_lift (fun r u' => wpY_lift (fun r' v' => r' = r ∧ i_Rel (k + 3) u' v') (lN N, lN X, nI c)) (lN N, lN X, nI c) := by
  obtain ⟨Y, hY, e⟩ := wb_of (lN X * (2 - lN N * lN X))
  have a6 : narrow .byte (.int (nI d)) = .int (nI d) := by rw [← a5]; exact pk_nb _
  have a7 : fits .byte (.int (nI d)) = true := by rw [← a5]; exact pk_fb _
  unfold wpX_lift wpX_doubledCount wpY_lift
  dsimp only
  refine br_f a1 (nm_r e (nm_r a3 (br_t a4 ?_)))
  refine br_t a2 (nm_r e (nm_r a5 ⟨a6, a7, nm_r a5 (br_t a4 ?_)⟩))
  exact ⟨rfl, N, Y, d, hN, hY, mi_newton hP hK hM h1 e, hd, rfl, rfl⟩
/-- the lift from 48 bits to 64 -/
theorem mi_liftHi {k N X : Nat} (hN : N % 2 = 1) (h1 : (N * X) % 2 ^ 48 = 1) : wpX_lift (fun r u' => wpY_lift (fun r' v' => r' = r ∧ i_Rel (k + 3) u' v') (lN N, lN X, nI 48)) (lN N, lN X, nI 48) := by
  obtain ⟨Y, hY, e⟩ := wb_of (lN X * (2 - lN N * lN X))
  have a3 : 2 * nI 48 = nI 96 := by decide +kernel
  have a4 : ¬ nI 96 ≤ 64 := by decide +kernel
  have a5 : (nI 48 <<< ((1 : Int32) &&& 31)).toInt8.toInt32 = nI 96 := by decide +kernel
  have a6 : narrow .byte (.int (nI 96)) = .int (nI 96) := by rw [← a5]; exact pk_nb _
  have a7 : fits .byte (.int (nI 96)) = true := by rw [← a5]; exact pk_fb _
  unfold wpX_lift wpX_doubledCount wpY_lift
  dsimp only
  refine br_f (by decide +kernel) (nm_r e (nm_r a3 (br_f a4 ?_)))
  refine br_t (by decide +kernel) (nm_r e (nm_r a5 ⟨a6, a7, nm_r a5 (br_f a4 ?_)⟩))
  exact ⟨rfl, N, Y, 64, hN, hY, mi_newton (P := 2 ^ 48) (M := 2 ^ 64) (L := 2 ^ 32) (K := 1) (by decide) (by decide) (by decide) h1 e, Or.inr (Or.inr (Or.inr (Or.inr (Or.inr rfl)))), rfl, rfl⟩
theorem i_vc_lift {k : Nat} {u : SX} {v : SY} (I : i_Rel k u v) (hk : k + 3 ≤ 1536) : wpX_lift (fun r u' => wpY_lift (fun r' v' => r' = r ∧ i_Rel (k + 3) u' v') v) u := by
  have J : i_Rel (k + 3) u v := I
  obtain ⟨N, X, c, hN, hX, h1, hc, rfl, rfl⟩ := I
  rcases hc with rfl | rfl | rfl | rfl | rfl | rfl
  · exact mi_liftLo 3 6 1 (2 ^ 58) hN h1 (Or.inr (Or.inl rfl)) (by decide +kernel) (by decide +kernel) (by decide +kernel) (by decide +kernel) (by decide +kernel) (by decide) (by decide) (by decide)
  · exact mi_liftLo 6 12 1 (2 ^ 52) hN h1 (Or.inr (Or.inr (Or.inl rfl))) (by decide +kernel) (by decide +kernel) (by decide +kernel) (by decide +kernel) (by decide +kernel) (by decide) (by decide) (by decide)
  · exact mi_liftLo 12 24 1 (2 ^ 40) hN h1 (Or.inr (Or.inr (Or.inr (Or.inl rfl)))) (by decide +kernel) (by decide +kernel) (by decide +kernel) (by decide +kernel) (by decide +kernel) (by decide) (by decide) (by decide)
  · exact mi_liftLo 24 48 1 (2 ^ 16) hN h1 (Or.inr (Or.inr (Or.inr (Or.inr (Or.inl rfl))))) (by decide +kernel) (by decide +kernel) (by decide +kernel) (by decide +kernel) (by decide +kernel) (by decide) (by decide) (by decide)
  · exact mi_liftHi hN h1
  · exact br_t (by decide +kernel) (br_f (by decide +kernel) ⟨rfl, J⟩)
theorem i_vc_check {k : Nat} {u : SX} {v : SY} (I : i_Rel k u v) (hk : k + 3 ≤ 1536) : wpX_check (fun r => wpY_check (fun r' => r' = r ∧ i_Rel (k + 3) u v) v) u := by
  have J : i_Rel (k + 3) u v := I
  obtain ⟨N, X, c, hN, hX, h1, hc, rfl, rfl⟩ := I
  show lN N * lN X = lN N * lN X ∧ i_Rel (k + 3) (lN N, lN X, nI c) (lN N, lN X, nI c)
  exact ⟨rfl, J⟩
/-- the reference's loop: ahead of turn i it holds the i low bits of X -/
theorem mi_loop {N X c : Nat} (hN : N % 2 = 1) (h1 : (N * X) % 2 ^ c = 1) (hc : c ≤ 64) (f : Int64) (post : Int64 → Prop) (hp : post (lN (X % 2 ^ c))) : ∀ d i : Nat, 0 < i → i + d = c → wY_inverse_4 post (lN N) f (nI c) (d + 1) (lN (X % 2 ^ i)) (nI i) := by
  intro d
  induction d with
  | zero =>
    intro i hi e
    have e' : i = c := by omega
    subst e'
    exact br_t (nI_le (Nat.le_refl _) (by omega)) hp
  | succ d ih =>
    intro i hi e
    have hlt : i < c := by omega
    have hge : ¬ nI c ≤ nI i := nI_ge hlt (by omega)
    have ht := mi_test hN h1 hi hlt hc
    rcases Nat.mod_two_eq_zero_or_one (X / 2 ^ i) with hb | hb
    · rw [hb] at ht
      refine br_f hge (br_t ht (nm_r (nI_1 i) ?_))
      rw [← mi_keep hb]
      exact ih (i + 1) (by omega) (by omega)
    · rw [hb] at ht
      refine br_f hge (br_f (by rw [ht]; decide) (nm_r (mi_set (by omega) hb) (nm_r (nI_1 i) ?_)))
      exact ih (i + 1) (by omega) (by omega)
theorem i_vc_inverse {k : Nat} {u : SX} {v : SY} (I : i_Rel k u v) (hk : k + 3 ≤ 1536) : wpX_inverse (fun r => wpY_inverse (fun r' => r' = r ∧ i_Rel (k + 3) u v) v) u := by
  have J : i_Rel (k + 3) u v := I
  obtain ⟨N, X, c, hN, hX, h1, hc, rfl, rfl⟩ := I
  have hc1 : 3 ≤ c ∧ c ≤ 64 := by unfold mi_c at hc; omega
  have hY : ∀ post : Int64 → Prop, post (lN (X % 2 ^ c)) → wpY_inverse post (lN N, lN X, nI c) := by
    intro post hp
    have h := mi_loop hN h1 hc1.2 (lN X) post hp (c - 1) 1 (by decide) (by omega)
    rw [mi_x1 h1 (by omega)] at h
    show ∃ n4 : Nat, wY_inverse_4 post (lN N) (lN X) (nI c) n4 1 1
    exact ⟨c - 1 + 1, h⟩
  by_cases e64 : c = 64
  · subst e64
    refine br_t (by decide +kernel) (hY _ ⟨?_, J⟩)
    rw [Nat.mod_eq_of_lt hX]
  · have hlt : c < 64 := by omega
    have h2 : ¬ nI c = 64 := fun h => e64 ((nI_eq (b := 64) (by omega) (by decide)).mp h)
    exact br_f h2 (hY _ ⟨(mi_mask hX hlt).symm, J⟩)
end
