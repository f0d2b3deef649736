theorem iI_eq0 {a : Int} (h1 : -1073741824 ≤ a) (h2 : a ≤ 1073741824) : iI a = 0 ↔ a = 0 := iI_eq (b := 0) h1 h2 (by omega) (by omega)
theorem wth_bd {D : HD} (ok : HOK D) {a p : Nat} (ha : a < NN D.1) (hp : p < D.1) : -200 ≤ wth D a p ∧ wth D a p ≤ 200 := by
  obtain ⟨n, rg, bst, stp, knd, lik⟩ := D
  obtain ⟨h2, h6, hr, hb, hs, hk, hl⟩ := ok
  dsimp only at h2 h6 hr hb hs hk hl ha hp
  unfold wth
  dsimp only
  have n7 : n < 7 := by omega
  have hi := tb_dg n a ha p hp
  have il := tb_dg n a ha _ (lft_lt n n7 p hp)
  have ir := tb_dg n a ha _ (aft_lt n n7 p hp)
  have l1 := hl _ hi _ il
  have l2 := hl _ hi _ ir
  have f1 := far_le n n7 rg (by omega) p hp _ (hb _ hi)
  have m1 : stp (dg n a p) * far_ n rg p (bst (dg n a p)) ≤ 20 * 5 := Nat.mul_le_mul (hs _ hi) (by omega)
  have m2 : ((stp (dg n a p) : Int) * (far_ n rg p (bst (dg n a p)) : Int)) = ((stp (dg n a p) * far_ n rg p (bst (dg n a p)) : Nat) : Int) := by push_cast; rfl
  rw [m2]
  generalize stp (dg n a p) * far_ n rg p (bst (dg n a p)) = z at m1 ⊢
  split <;> split <;> omega
/-- whether one of that kind agrees -/
def agr (k : Nat) (x y : Int) : Bool := if k = 0 then decide (x < y) else if k = 1 then decide (x ≤ y) else if k = 2 then decide (x + 10 ≤ y) else if k = 3 then false else true
def bI (b : Bool) : Int32 := if b then 1 else 0
theorem bI_01 (b : Bool) : bI b = 0 ∨ bI b = 1 := by cases b <;> simp [bI]
theorem bI_t : bI true = 1 := rfl
theorem bI_f : bI false = 0 := rfl
/-- what is missing for a yes, -1: never -/
def mis (k : Nat) (g : Int) : Int := if k = 0 then (if 0 < 1 - g then 1 - g else 0) else if k = 1 then (if 0 < -g then -g else 0) else if k = 2 then (if 0 < 10 - g then 10 - g else 0) else if k = 3 then -1 else 0
theorem E_missing {k : Nat} {g : Int} (hk : k ≤ 4) (h1 : -10000 ≤ g) (h2 : g ≤ 10000) : f_X2_missing (nI k) (iI g) = some (iI (mis k g)) := by
  unfold f_X2_missing mis
  have z : (0 : Int32) = iI 0 := rfl
  have o : (1 : Int32) = iI 1 := rfl
  have t : (10 : Int32) = iI 10 := rfl
  rcases (show k = 0 ∨ k = 1 ∨ k = 2 ∨ k = 3 ∨ k = 4 by omega) with rfl | rfl | rfl | rfl | rfl
  · rw [if_pos (show nI 0 = (0 : Int32) from rfl), if_pos (show (0 : Nat) = 0 from rfl), o, z, iI_sub]
    by_cases h : 0 < 1 - g
    · rw [if_pos ((iI_lt (by omega) (by omega) (by omega) (by omega)).mpr h), if_pos h]
    · rw [if_neg (fun q => h ((iI_lt (by omega) (by omega) (by omega) (by omega)).mp q)), if_neg h]
  · rw [if_neg (show ¬ nI 1 = (0 : Int32) by decide), if_pos (show nI 1 = (1 : Int32) from rfl), if_neg (show ¬ (1 : Nat) = 0 by omega), if_pos (show (1 : Nat) = 1 from rfl), z, iI_neg]
    by_cases h : 0 < -g
    · rw [if_pos ((iI_lt (by omega) (by omega) (by omega) (by omega)).mpr h), if_pos h]
    · rw [if_neg (fun q => h ((iI_lt (by omega) (by omega) (by omega) (by omega)).mp q)), if_neg h]
  · rw [if_neg (show ¬ nI 2 = (0 : Int32) by decide), if_neg (show ¬ nI 2 = (1 : Int32) by decide), if_pos (show nI 2 = (2 : Int32) from rfl), if_neg (show ¬ (2 : Nat) = 0 by omega), if_neg (show ¬ (2 : Nat) = 1 by omega), if_pos (show (2 : Nat) = 2 from rfl), z, t, iI_sub]
    by_cases h : 0 < 10 - g
    · rw [if_pos ((iI_lt (by omega) (by omega) (by omega) (by omega)).mpr h), if_pos h]
    · rw [if_neg (fun q => h ((iI_lt (by omega) (by omega) (by omega) (by omega)).mp q)), if_neg h]
  · rfl
  · rfl
theorem mis_0 {k : Nat} {x y : Int} (hk : k ≤ 4) : mis k (y - x) = 0 ↔ agr k x y = true := by
  unfold mis agr
  rcases (show k = 0 ∨ k = 1 ∨ k = 2 ∨ k = 3 ∨ k = 4 by omega) with rfl | rfl | rfl | rfl | rfl <;> simp <;> (try split) <;> omega
theorem mis_bd {k : Nat} {g : Int} (h1 : -10000 ≤ g) (h2 : g ≤ 10000) : -20000 ≤ mis k g ∧ mis k g ≤ 20000 := by
  unfold mis
  split
  · split <;> omega
  split
  · split <;> omega
  split
  · split <;> omega
  split <;> omega
theorem E_agrees {D : HD} {bp sc kd lk : Nat → Int32} (ok : HOK D) (hx : HX D bp sc kd lk) {a b p q : Nat} (ha : a < NN D.1) (hb : b < NN D.1) (hp : p < D.1) (hq : q < D.1) : f_X2_agrees (nI (rw_ D.1 a)) (nI (rw_ D.1 b)) (nI p) (nI q) (nI D.1) (nI D.2.1) bp sc kd lk = some (bI (agr (D.2.2.2.2.1 (dg D.1 a p)) (wth D a p) (wth D b q))) := by
  have w1 := wth_bd ok ha hp
  have w2 := wth_bd ok hb hq
  have hi := tb_dg D.1 a ha p hp
  have hk := ok.2.2.2.2.2.1 _ hi
  have h6 := ok.2.1
  unfold f_X2_agrees
  rw [E_worthAt ok hx hb hq, Option.bind_some, E_worthAt ok hx ha hp, Option.bind_some, tb_who D.1 a ha p hp, Option.bind_some, bdn _ (by omega) (by omega), nI_cl (by omega), hx.2.2.1 _ hi, iI_sub, E_missing hk (by omega) (by omega), Option.bind_some]
  have hm := mis_bd (k := D.2.2.2.2.1 (dg D.1 a p)) (g := wth D b q - wth D a p) (by omega) (by omega)
  have h0 := mis_0 (k := D.2.2.2.2.1 (dg D.1 a p)) (x := wth D a p) (y := wth D b q) hk
  by_cases h : agr (D.2.2.2.2.1 (dg D.1 a p)) (wth D a p) (wth D b q) = true
  · rw [if_pos (by rw [h0.mpr h]; rfl), h]; rfl
  · rw [if_neg (fun q => h (h0.mp ((iI_eq0 (by omega) (by omega)).mp q)))]
    rw [Bool.not_eq_true] at h
    rw [h]; rfl
/-- the change at x suits both -/
def suitB (D : HD) (a x : Nat) : Bool := agr (D.2.2.2.2.1 (dg D.1 a x)) (wth D a x) (wth D (chg D.1 a x) (aft D.1 x)) && agr (D.2.2.2.2.1 (dg D.1 a (aft D.1 x))) (wth D a (aft D.1 x)) (wth D (chg D.1 a x) x)
def roundB (D : HD) (a x : Nat) : Bool := agr (D.2.2.2.2.1 (dg D.1 a x)) (wth D a x) (wth D (trn D.1 a x) (aft D.1 x)) && (agr (D.2.2.2.2.1 (dg D.1 a (aft D.1 x))) (wth D a (aft D.1 x)) (wth D (trn D.1 a x) (aft D.1 (aft D.1 x))) && agr (D.2.2.2.2.1 (dg D.1 a (aft D.1 (aft D.1 x)))) (wth D a (aft D.1 (aft D.1 x))) (wth D (trn D.1 a x) x))
theorem E_changed {n a x : Nat} (hn : n ≤ 6) (ha : a < NN n) (hx : x < n) : f_X2_changed (nI (rw_ n a)) (nI x) (nI n) = some (nI (rw_ n (chg n a x))) := by
  unfold f_X2_changed
  rw [E_after n (by omega) x hx, Option.bind_some, tb_swapped n a ha x hx, Option.bind_some]
theorem aft_inj2 : ∀ n, n < 7 → 2 ≤ n → ∀ x, x < n → aft n x ≠ x := by decide +kernel
theorem tb_swr_sym : ∀ n, n < 7 → ∀ x, x < n → aft n x < n := by decide +kernel
theorem trn_lt {n a x : Nat} (hn : n ≤ 6) (ha : a < NN n) (hx : x < n) : trn n a x < NN n := tb_chg n _ (tb_chg n a ha _ (aft_lt n (by omega) x hx)) x hx
theorem E_turned {n a x : Nat} (hn : n ≤ 6) (ha : a < NN n) (hx : x < n) : f_X2_turned (nI (rw_ n a)) (nI x) (nI n) = some (nI (rw_ n (trn n a x))) := by
  have hy := aft_lt n (by omega) x hx
  unfold f_X2_turned trn
  rw [E_after n (by omega) x hx, Option.bind_some, E_after n (by omega) _ hy, Option.bind_some, tb_swapped n a ha _ hy, Option.bind_some, tb_swapped n _ (tb_chg n a ha _ hy) x hx, Option.bind_some]
theorem E_changeSuits {D : HD} {bp sc kd lk : Nat → Int32} (ok : HOK D) (hx : HX D bp sc kd lk) {a x : Nat} (ha : a < NN D.1) (hp : x < D.1) : f_X2_changeSuits (nI (rw_ D.1 a)) (nI x) (nI D.1) (nI D.2.1) bp sc kd lk = some (bI (suitB D a x)) := by
  have h6 := ok.2.1
  have hy := aft_lt D.1 (by omega) x hp
  have hc := tb_chg D.1 a ha x hp
  unfold f_X2_changeSuits suitB
  rw [E_after D.1 (by omega) x hp, Option.bind_some, E_changed h6 ha hp, Option.bind_some, E_agrees ok hx ha hc hp hy, Option.bind_some]
  cases agr (D.2.2.2.2.1 (dg D.1 a x)) (wth D a x) (wth D (chg D.1 a x) (aft D.1 x))
  · rfl
  · rw [if_neg (by decide), E_agrees ok hx ha hc hy hp, Option.bind_some]
    cases agr (D.2.2.2.2.1 (dg D.1 a (aft D.1 x))) (wth D a (aft D.1 x)) (wth D (chg D.1 a x) x) <;> rfl
theorem E_roundSuits {D : HD} {bp sc kd lk : Nat → Int32} (ok : HOK D) (hx : HX D bp sc kd lk) {a x : Nat} (ha : a < NN D.1) (hp : x < D.1) : f_X2_roundSuits (nI (rw_ D.1 a)) (nI x) (nI D.1) (nI D.2.1) bp sc kd lk = some (bI (roundB D a x)) := by
  have h6 := ok.2.1
  have hy := aft_lt D.1 (by omega) x hp
  have hz := aft_lt D.1 (by omega) _ hy
  have hc := trn_lt h6 ha hp
  unfold f_X2_roundSuits roundB
  rw [E_after D.1 (by omega) x hp, Option.bind_some, E_after D.1 (by omega) _ hy, Option.bind_some, E_turned h6 ha hp, Option.bind_some, E_agrees ok hx ha hc hp hy, Option.bind_some]
  cases agr (D.2.2.2.2.1 (dg D.1 a x)) (wth D a x) (wth D (trn D.1 a x) (aft D.1 x))
  · rfl
  · rw [if_neg (by decide), E_agrees ok hx ha hc hy hz, Option.bind_some]
    cases agr (D.2.2.2.2.1 (dg D.1 a (aft D.1 x))) (wth D a (aft D.1 x)) (wth D (trn D.1 a x) (aft D.1 (aft D.1 x)))
    · rfl
    · rw [if_neg (by decide), E_agrees ok hx ha hc hz hp, Option.bind_some]
      cases agr (D.2.2.2.2.1 (dg D.1 a (aft D.1 (aft D.1 x)))) (wth D a (aft D.1 (aft D.1 x))) (wth D (trn D.1 a x) x) <;> rfl
theorem E_worthOf {D : HD} {bp sc kd lk : Nat → Int32} (ok : HOK D) (hx : HX D bp sc kd lk) {a i : Nat} (ha : a < NN D.1) (hi : i < D.1) : f_X2_worthOf (nI (rw_ D.1 a)) (nI i) (nI D.1) (nI D.2.1) bp sc lk = some (iI (wth D a (ps D.1 a i))) := by
  unfold f_X2_worthOf
  rw [tb_place D.1 a ha i hi, Option.bind_some, E_worthAt ok hx ha (tb_ps D.1 a ha i hi).1, Option.bind_some]
