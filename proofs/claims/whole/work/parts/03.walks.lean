/-- the numbers of bits that a lifting goes through -/
def mi_c (c : Nat) : Prop := c = 3 ∨ c = 6 ∨ c = 12 ∨ c = 24 ∨ c = 48 ∨ c = 64
/-- both sides hold the same n, x and number of bits c; n is odd, and x is its inverse modulo 2^c -/
def i_Rel (_ : Nat) (u : SX) (v : SY) : Prop := ∃ N X c : Nat, N % 2 = 1 ∧ X < 2 ^ 64 ∧ (N * X) % 2 ^ c = 1 ∧ mi_c c ∧ u = (lN N, lN X, nI c) ∧ v = (lN N, lN X, nI c)
theorem i_up {k : Nat} {u : SX} {v : SY} (h : i_Rel k u v) : i_Rel (k + 3) u v := h
theorem i_vc0 : wpX_init (fun u => wpY_init (fun v => i_Rel 0 u v)) := by
  show i_Rel 0 (1, 1, 3) (1, 1, 3)
  exact ⟨1, 1, 3, by decide, by decide, by decide, Or.inl rfl, rfl, rfl⟩
theorem i_vc_seed {k : Nat} {u : SX} {v : SY} (I : i_Rel k u v) (hk : k + 3 ≤ 1536) (a0 : Int64) : wpX_seed (fun r u' => wpY_seed (fun r' v' => r' = r ∧ i_Rel (k + 3) u' v') v a0) u a0 := by
  obtain ⟨N, X, c, hN, hX, h1, hc, rfl, rfl⟩ := I
  obtain ⟨V, hV, rfl⟩ := wb_of a0
  show ∀ n1 : Int64, n1 = lN V ||| 1 → ∀ x2 : Int64, x2 = lN V ||| 1 → ((3 : Int32) = 3 ∧ i_Rel (k + 3) (lN V ||| 1, lN V ||| 1, 3) (n1, x2, 3))
  intro n1 e1 x2 e2
  rw [e1, e2, mi_or1 hV]
  exact ⟨rfl, V ||| 1, V ||| 1, 3, mi_odd V, mi_lt1 hV, mi_sq (mi_odd V), Or.inl rfl, rfl, rfl⟩
/-- a lift from c to d = 2 c bits, d at most 64 -/
theorem mi_liftLo {k N X : Nat} (c d L K : Nat) (hN : N % 2 = 1) (h1 : (N * X) % 2 ^ c = 1) (hd : mi_c d) (a1 : ¬ nI c = 64) (a2 : nI c < 64) (a3 : 2 * nI c = nI d) (a4 : nI d ≤ 64) (a5 : (nI c <<< ((1 : Int32) &&& 31)).toInt8.toInt32 = nI d) (hP : 2 ^ c * 2 ^ c = 2 ^ d * L) (hK : 2 ^ 64 = 2 ^ d * K) (hM : 1 < 2 ^ d) : wpX_lift (fun r u' => wpY_lift (fun r' v' => r' = r ∧ i_Rel (k + 3) u' v') (lN N, lN X, nI c)) (lN N, lN X, nI c) := by
  obtain ⟨Y, hY, e⟩ := wb_of (lN X * (2 - lN N * lN X))
  have a6 : narrow .byte (.int (nI d)) = .int (nI d) := by rw [← a5]; exact pk_nb _
  have a7 : fits .byte (.int (nI d)) = true := by rw [← a5]; exact pk_fb _
  unfold wpX_lift wpX_doubledCount wpY_lift
  dsimp only
  refine br_f a1 (nm_r e (nm_r a3 (br_t a4 ?_)))
  refine br_t a2 (nm_r e (nm_r a5 ⟨a6, a7, nm_r a5 (br_t a4 ?_)⟩))
  exact ⟨rfl, N, Y, d, hN, hY, mi_newton hP hK hM h1 e, hd, rfl, rfl⟩
/-- the lift from 48 bits to 64 -/
theorem mi_liftHi {k N X : Nat} (hN : N % 2 = 1) (h1 : (N * X) % 2 ^ 48 = 1) : wpX_lift (fun r u' => wpY_lift (fun r' v' => r' = r ∧ i_Rel (k + 3) u' v') (lN N, lN X, nI 48)) (lN N, lN X, nI 48) := by
  obtain ⟨Y, hY, e⟩ := wb_of (lN X * (2 - lN N * lN X))
  have a3 : 2 * nI 48 = nI 96 := by decide +kernel
  have a4 : ¬ nI 96 ≤ 64 := by decide +kernel
  have a5 : (nI 48 <<< ((1 : Int32) &&& 31)).toInt8.toInt32 = nI 96 := by decide +kernel
  have a6 : narrow .byte (.int (nI 96)) = .int (nI 96) := by rw [← a5]; exact pk_nb _
  have a7 : fits .byte (.int (nI 96)) = true := by rw [← a5]; exact pk_fb _
  unfold wpX_lift wpX_doubledCount wpY_lift
  dsimp only
  refine br_f (by decide +kernel) (nm_r e (nm_r a3 (br_f a4 ?_)))
  refine br_t (by decide +kernel) (nm_r e (nm_r a5 ⟨a6, a7, nm_r a5 (br_f a4 ?_)⟩))
  exact ⟨rfl, N, Y, 64, hN, hY, mi_newton (P := 2 ^ 48) (M := 2 ^ 64) (L := 2 ^ 32) (K := 1) (by decide) (by decide) (by decide) h1 e, Or.inr (Or.inr (Or.inr (Or.inr (Or.inr rfl)))), rfl, rfl⟩
theorem i_vc_lift {k : Nat} {u : SX} {v : SY} (I : i_Rel k u v) (hk : k + 3 ≤ 1536) : wpX_lift (fun r u' => wpY_lift (fun r' v' => r' = r ∧ i_Rel (k + 3) u' v') v) u := by
  have J : i_Rel (k + 3) u v := I
  obtain ⟨N, X, c, hN, hX, h1, hc, rfl, rfl⟩ := I
  rcases hc with rfl | rfl | rfl | rfl | rfl | rfl
  · exact mi_liftLo 3 6 1 (2 ^ 58) hN h1 (Or.inr (Or.inl rfl)) (by decide +kernel) (by decide +kernel) (by decide +kernel) (by decide +kernel) (by decide +kernel) (by decide) (by decide) (by decide)
  · exact mi_liftLo 6 12 1 (2 ^ 52) hN h1 (Or.inr (Or.inr (Or.inl rfl))) (by decide +kernel) (by decide +kernel) (by decide +kernel) (by decide +kernel) (by decide +kernel) (by decide) (by decide) (by decide)
  · exact mi_liftLo 12 24 1 (2 ^ 40) hN h1 (Or.inr (Or.inr (Or.inr (Or.inl rfl)))) (by decide +kernel) (by decide +kernel) (by decide +kernel) (by decide +kernel) (by decide +kernel) (by decide) (by decide) (by decide)
  · exact mi_liftLo 24 48 1 (2 ^ 16) hN h1 (Or.inr (Or.inr (Or.inr (Or.inr (Or.inl rfl))))) (by decide +kernel) (by decide +kernel) (by decide +kernel) (by decide +kernel) (by decide +kernel) (by decide) (by decide) (by decide)
  · exact mi_liftHi hN h1
  · exact br_t (by decide +kernel) (br_f (by decide +kernel) ⟨rfl, J⟩)
theorem i_vc_check {k : Nat} {u : SX} {v : SY} (I : i_Rel k u v) (hk : k + 3 ≤ 1536) : wpX_check (fun r => wpY_check (fun r' => r' = r ∧ i_Rel (k + 3) u v) v) u := by
  have J : i_Rel (k + 3) u v := I
  obtain ⟨N, X, c, hN, hX, h1, hc, rfl, rfl⟩ := I
  show lN N * lN X = lN N * lN X ∧ i_Rel (k + 3) (lN N, lN X, nI c) (lN N, lN X, nI c)
  exact ⟨rfl, J⟩
/-- the reference's loop: ahead of turn i it holds the i low bits of X -/
theorem mi_loop {N X c : Nat} (hN : N % 2 = 1) (h1 : (N * X) % 2 ^ c = 1) (hc : c ≤ 64) (f : Int64) (post : Int64 → Prop) (hp : post (lN (X % 2 ^ c))) : ∀ d i : Nat, 0 < i → i + d = c → wY_inverse_4 post (lN N) f (nI c) (d + 1) (lN (X % 2 ^ i)) (nI i) := by
  intro d
  induction d with
  | zero =>
    intro i hi e
    have e' : i = c := by omega
    subst e'
    exact br_t (nI_le (Nat.le_refl _) (by omega)) hp
  | succ d ih =>
    intro i hi e
    have hlt : i < c := by omega
    have hge : ¬ nI c ≤ nI i := nI_ge hlt (by omega)
    have ht := mi_test hN h1 hi hlt hc
    rcases Nat.mod_two_eq_zero_or_one (X / 2 ^ i) with hb | hb
    · rw [hb] at ht
      refine br_f hge (br_t ht (nm_r (nI_1 i) ?_))
      rw [← mi_keep hb]
      exact ih (i + 1) (by omega) (by omega)
    · rw [hb] at ht
      refine br_f hge (br_f (by rw [ht]; decide) (nm_r (mi_set (by omega) hb) (nm_r (nI_1 i) ?_)))
      exact ih (i + 1) (by omega) (by omega)
theorem i_vc_inverse {k : Nat} {u : SX} {v : SY} (I : i_Rel k u v) (hk : k + 3 ≤ 1536) : wpX_inverse (fun r => wpY_inverse (fun r' => r' = r ∧ i_Rel (k + 3) u v) v) u := by
  have J : i_Rel (k + 3) u v := I
  obtain ⟨N, X, c, hN, hX, h1, hc, rfl, rfl⟩ := I
  have hc1 : 3 ≤ c ∧ c ≤ 64 := by unfold mi_c at hc; omega
  have hY : ∀ post : Int64 → Prop, post (lN (X % 2 ^ c)) → wpY_inverse post (lN N, lN X, nI c) := by
    intro post hp
    have h := mi_loop hN h1 hc1.2 (lN X) post hp (c - 1) 1 (by decide) (by omega)
    rw [mi_x1 h1 (by omega)] at h
    show ∃ n4 : Nat, wY_inverse_4 post (lN N) (lN X) (nI c) n4 1 1
    exact ⟨c - 1 + 1, h⟩
  by_cases e64 : c = 64
  · subst e64
    refine br_t (by decide +kernel) (hY _ ⟨?_, J⟩)
    rw [Nat.mod_eq_of_lt hX]
  · have hlt : c < 64 := by omega
    have h2 : ¬ nI c = 64 := fun h => e64 ((nI_eq (b := 64) (by omega) (by decide)).mp h)
    exact br_f h2 (hY _ ⟨(mi_mask hX hlt).symm, J⟩)
