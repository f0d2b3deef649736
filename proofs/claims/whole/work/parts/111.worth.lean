/-! houses as plain data: (persons, ring, best place, step, kind, liking) -/
abbrev HD : Type := Nat × Nat × (Nat → Nat) × (Nat → Nat) × (Nat → Nat) × (Nat → Nat → Nat)
def HOK (D : HD) : Prop := 2 ≤ D.1 ∧ D.1 ≤ 6 ∧ D.2.1 ≤ 1 ∧ (∀ i, i < D.1 → D.2.2.1 i < D.1) ∧ (∀ i, i < D.1 → D.2.2.2.1 i ≤ 20) ∧ (∀ i, i < D.1 → D.2.2.2.2.1 i ≤ 4) ∧ (∀ i, i < D.1 → ∀ j, j < D.1 → D.2.2.2.2.2 i j ≤ 99)
/-- the class's rows hold the data -/
def HX (D : HD) (bp sc kd lk : Nat → Int32) : Prop := (∀ i, i < D.1 → bp i = nI (D.2.2.1 i)) ∧ (∀ i, i < D.1 → sc i = nI (D.2.2.2.1 i)) ∧ (∀ i, i < D.1 → kd i = nI (D.2.2.2.2.1 i)) ∧ (∀ i, i < D.1 → ∀ j, j < D.1 → lk (8 * i + j) = nI (D.2.2.2.2.2 i j))
/-- the reference's rows hold the data -/
def HY (D : HD) (mn bs st kd lk rg : Nat → Int32) : Prop := mn 0 = nI D.1 ∧ rg 0 = nI D.2.1 ∧ (∀ i, i < D.1 → bs i = nI (D.2.2.1 i)) ∧ (∀ i, i < D.1 → st i = nI (D.2.2.2.1 i)) ∧ (∀ i, i < D.1 → kd i = nI (D.2.2.2.2.1 i)) ∧ (∀ i, i < D.1 → ∀ j, j < D.1 → lk (6 * i + j) = nI (D.2.2.2.2.2 i j))
/-- the reference's tables -/
def TB (n : Nat) (allMany : Int32) (all numbers : Nat → Int32) : Prop := allMany = nI (NN n) ∧ (∀ a, a < NN n → ∀ p, p < n → all (6 * a + p) = nI (dg n a p)) ∧ (∀ a, a < NN n → numbers (cd_ n a) = nI a)
def far_ (n rg x y : Nat) : Nat := if rg = 1 ∧ n - (if x < y then y - x else x - y) < (if x < y then y - x else x - y) then n - (if x < y then y - x else x - y) else (if x < y then y - x else x - y)
def lft (n p : Nat) : Nat := if p = 0 then n - 1 else p - 1
def kk (n rg : Nat) : Nat := if rg = 0 then n - 1 else n
/-- the worth, at arrangement a, of who is at place p -/
def wth (D : HD) (a p : Nat) : Int := 100 - (D.2.2.2.1 (dg D.1 a p) : Int) * (far_ D.1 D.2.1 p (D.2.2.1 (dg D.1 a p)) : Int) + (if D.2.1 = 1 ∨ 0 < p then (D.2.2.2.2.2 (dg D.1 a p) (dg D.1 a (lft D.1 p)) : Int) - 50 else 0) + (if (D.2.1 = 1 ∧ aft D.1 p ≠ lft D.1 p) ∨ (D.2.1 = 0 ∧ p < aft D.1 p) then (D.2.2.2.2.2 (dg D.1 a p) (dg D.1 a (aft D.1 p)) : Int) - 50 else 0)
theorem E_after : ∀ n, n < 7 → ∀ p, p < n → f_X2_after (nI p) (nI n) = some (nI (aft n p)) := by decide +kernel
theorem E_far : ∀ n, n < 7 → ∀ rg, rg < 2 → ∀ x, x < n → ∀ y, y < n → f_X2_far (nI x) (nI y) (nI n) (nI rg) = some (nI (far_ n rg x y)) := by decide +kernel
theorem E_count : ∀ n, n < 7 → 2 ≤ n → ∀ rg, rg < 2 → f_X2_changeCount (nI n) (nI rg) = some (nI (kk n rg)) := by decide +kernel
theorem far_le : ∀ n, n < 7 → ∀ rg, rg < 2 → ∀ x, x < n → ∀ y, y < n → far_ n rg x y < n := by decide +kernel
theorem aft_lt : ∀ n, n < 7 → ∀ p, p < n → aft n p < n := by decide +kernel
theorem lft_lt : ∀ n, n < 7 → ∀ p, p < n → lft n p < n := by decide +kernel
theorem aft_up : ∀ n, n < 7 → ∀ p, p < n → (p < aft n p ↔ p + 1 < n) := by decide +kernel
theorem E_liking {n i j : Nat} (lk : Nat → Int32) (hi : i < n) (hj : j < n) (hn : n ≤ 6) : f_X2_liking (nI i) (nI j) lk = some (lk (8 * i + j)) := by
  unfold f_X2_liking
  rw [show (8 : Int32) * nI i + nI j = nI (8 * i + j) from nI_ma 8 i j, bdn _ (by omega) (by omega), nI_cl (by omega)]
theorem E_worthAt {D : HD} {bp sc kd lk : Nat → Int32} (ok : HOK D) (hx : HX D bp sc kd lk) {a p : Nat} (ha : a < NN D.1) (hp : p < D.1) : f_X2_worthAt (nI (rw_ D.1 a)) (nI p) (nI D.1) (nI D.2.1) bp sc lk = some (iI (wth D a p)) := by
  obtain ⟨n, rg, bst, stp, knd, lik⟩ := D
  obtain ⟨h2, h6, hr, hb, hs, hk, hl⟩ := ok
  obtain ⟨xb, xs, xk, xl⟩ := hx
  dsimp only at h2 h6 hr hb hs hk hl xb xs xk xl ha hp ⊢
  have n7 : n < 7 := by omega
  have hi := tb_dg n a ha p hp
  have hlf := lft_lt n n7 p hp
  have haf := aft_lt n n7 p hp
  have il := tb_dg n a ha _ hlf
  have ir := tb_dg n a ha _ haf
  have e1 : f_X2_worthAt (nI (rw_ n a)) (nI p) (nI n) (nI rg) bp sc lk = f_X2_worthAt_b22 (nI n) (nI rg) bp sc lk (nI (rw_ n a)) (nI p) (nI (dg n a p)) (nI (lft n p)) := by
    unfold f_X2_worthAt lft
    rw [tb_who n a ha p hp, Option.bind_some]
    by_cases hp0 : p = 0
    · rw [if_pos ((nI_le0 (by omega)).mpr hp0), if_pos hp0, nI_s1 (by omega)]
    · rw [if_neg (fun h => hp0 ((nI_le0 (by omega)).mp h)), if_neg hp0, nI_s1 (by omega)]
  rw [e1]
  unfold f_X2_worthAt_b22
  rw [E_after n n7 p hp, Option.bind_some, bdn _ (by omega) (by omega), bdn _ (by omega) (by omega), nI_cl (by omega), xb _ hi, E_far n n7 rg (by omega) p hp _ (hb _ hi), Option.bind_some, xs _ hi]
  have e2 : (100 : Int32) - nI (stp (dg n a p)) * nI (far_ n rg p (bst (dg n a p))) = iI (100 - (stp (dg n a p) : Int) * (far_ n rg p (bst (dg n a p)) : Int)) := by
    rw [nI_iI, nI_iI, iI_mul, show (100 : Int32) = iI 100 from rfl, iI_sub]
  rw [e2]
  have e3 : ∀ z : Int, f_X2_worthAt_b107 (nI n) (nI rg) bp sc lk (nI (rw_ n a)) (nI (dg n a p)) (nI (aft n p)) (iI z) = some (iI (z + ((lik (dg n a p) (dg n a (aft n p)) : Int) - 50))) := by
    intro z
    unfold f_X2_worthAt_b107
    rw [tb_who n a ha _ haf, Option.bind_some, E_liking lk hi ir h6, Option.bind_some, xl _ hi _ ir, nI_iI, show (50 : Int32) = iI 50 from rfl, iI_sub, iI_add]
  have e4 : ∀ z : Int, f_X2_worthAt_b84 (nI n) (nI rg) bp sc lk (nI (rw_ n a)) (nI p) (nI (dg n a p)) (nI (lft n p)) (nI (aft n p)) (iI z) = some (iI (z + (if (rg = 1 ∧ aft n p ≠ lft n p) ∨ (rg = 0 ∧ p < aft n p) then (lik (dg n a p) (dg n a (aft n p)) : Int) - 50 else 0))) := by
    intro z
    unfold f_X2_worthAt_b84
    rcases (show rg = 0 ∨ rg = 1 by omega) with rfl | rfl
    · rw [if_pos (show nI 0 = 0 from rfl)]
      by_cases h : aft n p ≤ p
      · rw [if_pos ((nI_leI (by omega) (by omega)).mpr h), if_neg (by omega)]
        simp
      · rw [if_neg (fun q => h ((nI_leI (by omega) (by omega)).mp q)), if_pos (Or.inr ⟨rfl, by omega⟩), e3]
    · rw [if_neg (show ¬ nI 1 = 0 by decide)]
      by_cases h : aft n p = lft n p
      · rw [if_pos (by rw [h]), if_neg (by rintro (⟨_, q⟩ | ⟨q, _⟩); exact q h; exact absurd q (by omega))]
        simp
      · rw [if_neg (fun q => h ((nI_eq (by omega) (by omega)).mp q)), if_pos (Or.inl ⟨rfl, h⟩), e3]
  have e5 : ∀ z : Int, f_X2_worthAt_b65 (nI n) (nI rg) bp sc lk (nI (rw_ n a)) (nI p) (nI (dg n a p)) (nI (lft n p)) (nI (aft n p)) (iI z) = some (iI (z + ((lik (dg n a p) (dg n a (lft n p)) : Int) - 50) + (if (rg = 1 ∧ aft n p ≠ lft n p) ∨ (rg = 0 ∧ p < aft n p) then (lik (dg n a p) (dg n a (aft n p)) : Int) - 50 else 0))) := by
    intro z
    unfold f_X2_worthAt_b65
    rw [tb_who n a ha _ hlf, Option.bind_some, E_liking lk hi il h6, Option.bind_some, xl _ hi _ il, nI_iI (lik _ _), show (50 : Int32) = iI 50 from rfl, iI_sub, iI_add, e4]
  unfold wth
  dsimp only
  rcases (show rg = 0 ∨ rg = 1 by omega) with rfl | rfl
  · rw [if_pos (show nI 0 = 0 from rfl)]
    by_cases hp0 : p = 0
    · rw [if_pos ((nI_le0 (by omega)).mpr hp0), e4, if_neg (show ¬ (0 = 1 ∨ 0 < p) by omega), Int.add_zero]
    · rw [if_neg (fun h => hp0 ((nI_le0 (by omega)).mp h)), e5, if_pos (show (0 = 1 ∨ 0 < p) by omega)]
  · rw [if_neg (show ¬ nI 1 = 0 by decide), e5, if_pos (show (1 = 1 ∨ 0 < p) from Or.inl rfl)]
