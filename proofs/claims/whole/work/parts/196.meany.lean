/-! the mean, in the reference -/
def iL (z : Int) : Int64 := Int64.ofInt z
theorem lN_iL (k : Nat) : lN k = iL (k : Int) := Int64.ofInt_eq_ofNat.symm
theorem iL_add (a b : Int) : iL a + iL b = iL (a + b) := (Int64.ofInt_add a b).symm
theorem iL_mul (a b : Int) : iL a * iL b = iL (a * b) := (Int64.ofInt_mul a b).symm
theorem iL_neg (a : Int) : - iL a = iL (-a) := (Int64.ofInt_neg a).symm
theorem iL_i (a : Int) : (iL a).toInt32 = iI a := Int64.toInt32_ofInt
theorem iI_l {z : Int} (h1 : -1000000000 ≤ z) (h2 : z ≤ 1000000000) : (iI z).toInt64 = iL z := by
  have e1 : Int32.minValue.toInt = -2147483648 := by decide
  have e2 : Int32.maxValue.toInt = 2147483647 := by decide
  exact Int32.toInt64_ofInt (by omega) (by omega)
theorem iL_div {z : Int} {g : Nat} (h1 : -1000000000 ≤ z) (h2 : z ≤ 1000000000) (hg : g ≤ 1000000000) : iL z / lN g = iL (z.tdiv g) := by
  rw [lN_iL]
  have e1 : Int64.minValue.toInt = -9223372036854775808 := by decide
  have e2 : Int64.maxValue.toInt = 9223372036854775807 := by decide
  exact (Int64.ofInt_tdiv (by omega) (by omega) (by omega) (by omega)).symm
theorem iL_ge0 {z : Int} (h1 : -1000000000 ≤ z) (h2 : z ≤ 1000000000) : (0 : Int64) ≤ iL z ↔ 0 ≤ z := by
  rw [Int64.le_iff_toInt_le, show (iL z).toInt = z from Int64.toInt_ofInt_of_le (by omega) (by omega)]
  exact Iff.rfl
theorem lN_0 {k : Nat} (h : k < 1000000) : lN k = 0 ↔ k = 0 := by
  rw [show (0 : Int64) = lN 0 from rfl, lN_eq (by omega) (by omega)]
section MY
variable {N K : Nat} {S : Nat → Nat → Bool} {T : Nat → Nat → Nat} {mn bs st yk yl ri wh all num tr we : Nat → Int32}
theorem E_m90 (hN : N ≤ 720) {x1 x2 x3 x6 : Int32} {x4 : Int64} {wy : Nat → Int64} (K81 : Int32 → Int32 → Int32 → Int64 → Int32 → (Nat → Int32) → (Nat → Int32) → (Nat → Int64) → (Nat → Int64) → Option (Int32 × (Nat → Int32) × (Nat → Int32) × (Nat → Int64) × (Nat → Int64))) : ∀ (j k f : Nat) (nx : Nat → Int64), k + j = N → j < f → (∀ b, b < k → nx b = lN 0) → ∃ nx', f_X10_mean_l90 (nI N) mn bs st yk yl ri wh all num K81 f x1 x2 x3 x4 x6 (nI k) tr we wy nx = f_X10_mean_l116 (nI N) mn bs st yk yl ri wh all num K81 NF x1 x2 x3 x4 x6 (nI 0) tr we wy nx' ∧ ∀ b, b < N → nx' b = lN 0 := by
  intro j
  induction j with
  | zero =>
    intro k f nx hk hf h
    obtain ⟨f, rfl⟩ : ∃ q, f = q + 1 := ⟨f - 1, by omega⟩
    obtain rfl : k = N := by omega
    refine ⟨nx, ?_, h⟩
    rw [f_X10_mean_l90.eq_2, if_pos (nI_le (Nat.le_refl _) (by omega))]
    rfl
  | succ j ih =>
    intro k f nx hk hf h
    obtain ⟨f, rfl⟩ : ∃ q, f = q + 1 := ⟨f - 1, by omega⟩
    rw [f_X10_mean_l90.eq_2, if_neg (nI_ge (by omega) (by omega)), bdn _ (show k < 720 by omega) (by omega), nI_cl (by omega), show nI k + (1 : Int32) = nI (k + 1) from nI_1 k]
    refine ih (k + 1) f _ (by omega) (by omega) (fun b hb => ?_)
    by_cases c : b = k
    · subst c; exact pk_uLs
    · rw [pk_uLn c]; exact h b (by omega)
theorem E_m128 (hN : N ≤ 720) (hK : K ≤ 6) (hT : ∀ a, a < N → ∀ x, x < K → T a x < N) (hc : f_X10_changeMany mn ri = some (nI K)) (hwe : ∀ a, a < N → ∀ x, x < K → we (6 * a + x) = if S a x then nI (T a x) else -4) {x1 x2 x3 x6 : Int32} {x4 : Int64} {wy : Nat → Int64} {w acc : Nat → Nat} {s : Nat} (hs : s < N) (hw : wy s = lN (w s)) (K81 : Int32 → Int32 → Int32 → Int64 → Int32 → (Nat → Int32) → (Nat → Int32) → (Nat → Int64) → (Nat → Int64) → Option (Int32 × (Nat → Int32) × (Nat → Int32) × (Nat → Int64) × (Nat → Int64))) (K116 : Int32 → Int32 → Int32 → Int64 → Int32 → Int32 → (Nat → Int32) → (Nat → Int32) → (Nat → Int64) → (Nat → Int64) → Option (Int32 × (Nat → Int32) × (Nat → Int32) × (Nat → Int64) × (Nat → Int64))) : ∀ (j x f : Nat) (nx : Nat → Int64), x + j = K → j < f → (∀ b, b < N → nx b = lN (ax S T w s acc x b)) → ∃ nx', f_X10_mean_l128 (nI N) mn bs st yk yl ri wh all num K81 K116 f x1 x2 x3 x4 x6 (nI s) (nI x) tr we wy nx = K116 x1 x2 x3 x4 x6 (nI (s + 1)) tr we wy nx' ∧ ∀ b, b < N → nx' b = lN (ax S T w s acc K b) := by
  intro j
  induction j with
  | zero =>
    intro x f nx hx hf h
    obtain ⟨f, rfl⟩ : ∃ q, f = q + 1 := ⟨f - 1, by omega⟩
    obtain rfl : x = K := by omega
    refine ⟨nx, ?_, h⟩
    rw [f_X10_mean_l128.eq_2, hc, Option.bind_some, if_pos (nI_le (Nat.le_refl _) (by omega)), show nI s + (1 : Int32) = nI (s + 1) from nI_1 s]
  | succ j ih =>
    intro x f nx hx hf h
    obtain ⟨f, rfl⟩ : ∃ q, f = q + 1 := ⟨f - 1, by omega⟩
    have hxK : x < K := by omega
    rw [f_X10_mean_l128.eq_2, hc, Option.bind_some, if_neg (nI_ge (by omega) (by omega)), show (6 : Int32) * nI s + nI x = nI (6 * s + x) from nI_ma 6 s x, bdn _ (show 6 * s + x < 4320 by omega) (by omega), nI_cl (by omega), hwe s hs x hxK]
    have hd := dst_lt (S := S) hT hs hxK
    have hgo : ∃ nx', f_X10_mean_b168 (nI N) mn bs st yk yl ri wh all num K81 K116 (f_X10_mean_l128 (nI N) mn bs st yk yl ri wh all num K81 K116 f) x1 x2 x3 x4 x6 (nI s) (nI x) (nI (dst S T s x)) tr we wy nx = K116 x1 x2 x3 x4 x6 (nI (s + 1)) tr we wy nx' ∧ ∀ b, b < N → nx' b = lN (ax S T w s acc K b) := by
      unfold f_X10_mean_b168
      rw [bdn _ (show dst S T s x < 720 by omega) (by omega), bdn _ (show s < 720 by omega) (by omega), bdn _ (show dst S T s x < 720 by omega) (by omega), nI_cl (by omega), nI_cl (by omega), hw, h _ hd, lN_add, show nI x + (1 : Int32) = nI (x + 1) from nI_1 x]
      refine ih (x + 1) f _ (by omega) (by omega) (fun b hb => ?_)
      by_cases c : b = dst S T s x
      · subst c
        rw [pk_uLs, ax, show bump (ax S T w s acc x) (dst S T s x) (w s) (dst S T s x) = ax S T w s acc x (dst S T s x) + w s from if_pos rfl]
      · rw [pk_uLn c, h b hb, ax, show bump (ax S T w s acc x) (dst S T s x) (w s) b = ax S T w s acc x b from if_neg c]
    cases hsx : S s x with
    | false =>
      rw [show (if false = true then nI (T s x) else (-4 : Int32)) = -4 from rfl, if_neg (show ¬ (0 : Int32) ≤ -4 by decide)]
      rw [show dst S T s x = s from by unfold dst; rw [hsx]; rfl] at hgo
      exact hgo
    | true =>
      have hts := hT s hs x hxK
      rw [show (if true = true then nI (T s x) else (-4 : Int32)) = nI (T s x) from rfl, if_pos (nI_ge0 (by omega))]
      rw [show dst S T s x = T s x from by unfold dst; rw [hsx]; rfl] at hgo
      exact hgo
theorem E_m116 (hN : N ≤ 720) (hK : K ≤ 6) (hT : ∀ a, a < N → ∀ x, x < K → T a x < N) (hc : f_X10_changeMany mn ri = some (nI K)) (hwe : ∀ a, a < N → ∀ x, x < K → we (6 * a + x) = if S a x then nI (T a x) else -4) {x1 x2 x3 x6 : Int32} {x4 : Int64} {wy : Nat → Int64} {w : Nat → Nat} (hw : ∀ b, b < N → wy b = lN (w b)) (K81 : Int32 → Int32 → Int32 → Int64 → Int32 → (Nat → Int32) → (Nat → Int32) → (Nat → Int64) → (Nat → Int64) → Option (Int32 × (Nat → Int32) × (Nat → Int32) × (Nat → Int64) × (Nat → Int64))) : ∀ (j s f : Nat) (nx : Nat → Int64), s + j = N → j < f → (∀ b, b < N → nx b = lN (asx K S T w s b)) → ∃ nx', f_X10_mean_l116 (nI N) mn bs st yk yl ri wh all num K81 f x1 x2 x3 x4 x6 (nI s) tr we wy nx = f_X10_mean_l194 (nI N) mn bs st yk yl ri wh all num K81 NF x1 x2 x3 x4 x6 (nI 0) tr we wy nx' ∧ ∀ b, b < N → nx' b = lN (asx K S T w N b) := by
  have h0 := NF_big
  intro j
  induction j with
  | zero =>
    intro s f nx hs hf h
    obtain ⟨f, rfl⟩ : ∃ q, f = q + 1 := ⟨f - 1, by omega⟩
    obtain rfl : s = N := by omega
    refine ⟨nx, ?_, h⟩
    rw [f_X10_mean_l116.eq_2, if_pos (nI_le (Nat.le_refl _) (by omega))]
    rfl
  | succ j ih =>
    intro s f nx hs hf h
    obtain ⟨f, rfl⟩ : ∃ q, f = q + 1 := ⟨f - 1, by omega⟩
    have hsN : s < N := by omega
    obtain ⟨nx1, e1, h1⟩ := E_m128 (bs := bs) (st := st) (yk := yk) (yl := yl) (wh := wh) (all := all) (num := num) (tr := tr) (x1 := x1) (x2 := x2) (x3 := x3) (x4 := x4) (x6 := x6) (w := w) hN hK hT hc hwe hsN (hw s hsN) K81 (f_X10_mean_l116 (nI N) mn bs st yk yl ri wh all num K81 f) K 0 NF nx (by omega) (by omega) h
    obtain ⟨nx2, e2, h2⟩ := ih (s + 1) f nx1 (by omega) (by omega) h1
    refine ⟨nx2, ?_, h2⟩
    rw [f_X10_mean_l116.eq_2, if_neg (nI_ge hsN (by omega))]
    exact e1.trans e2
theorem E_m194 (hN : N ≤ 720) (hK : K ≤ 6) (hc : f_X10_changeMany mn ri = some (nI K)) {x1 x2 x3 x6 : Int32} {x4 : Int64} {nx : Nat → Int64} (K81 : Int32 → Int32 → Int32 → Int64 → Int32 → (Nat → Int32) → (Nat → Int32) → (Nat → Int64) → (Nat → Int64) → Option (Int32 × (Nat → Int32) × (Nat → Int32) × (Nat → Int64) × (Nat → Int64))) : ∀ (j k f : Nat) (wy : Nat → Int64), k + j = N → j < f → (∀ b, b < k → wy b = nx b) → ∃ wy', f_X10_mean_l194 (nI N) mn bs st yk yl ri wh all num K81 f x1 x2 x3 x4 x6 (nI k) tr we wy nx = K81 x1 x2 x3 (x4 * lN K) (x6 + 1) tr we wy' nx ∧ ∀ b, b < N → wy' b = nx b := by
  intro j
  induction j with
  | zero =>
    intro k f wy hk hf h
    obtain ⟨f, rfl⟩ : ∃ q, f = q + 1 := ⟨f - 1, by omega⟩
    obtain rfl : k = N := by omega
    refine ⟨wy, ?_, h⟩
    rw [f_X10_mean_l194.eq_2, if_pos (nI_le (Nat.le_refl _) (by omega)), hc, Option.bind_some, nI_l (by omega)]
  | succ j ih =>
    intro k f wy hk hf h
    obtain ⟨f, rfl⟩ : ∃ q, f = q + 1 := ⟨f - 1, by omega⟩
    rw [f_X10_mean_l194.eq_2, if_neg (nI_ge (by omega) (by omega)), bdn _ (show k < 720 by omega) (by omega), bdn _ (show k < 720 by omega) (by omega), nI_cl (by omega), show nI k + (1 : Int32) = nI (k + 1) from nI_1 k]
    refine ih (k + 1) f _ (by omega) (by omega) (fun b hb => ?_)
    by_cases c : b = k
    · subst c; exact pk_uLs
    · rw [pk_uLn c]; exact h b (by omega)
theorem E_m81 (hN : N ≤ 720) (hK : K ≤ 6) (hT : ∀ a, a < N → ∀ x, x < K → T a x < N) (hc : f_X10_changeMany mn ri = some (nI K)) (hwe : ∀ a, a < N → ∀ x, x < K → we (6 * a + x) = if S a x then nI (T a x) else -4) {x1 x3 : Int32} {a n : Nat} (hn : n ≤ 6) : ∀ (j t f : Nat) (wy nx : Nat → Int64), t + j = n → j < f → (∀ b, b < N → wy b = lN (wt N K S T a t b)) → ∃ wy' nx', f_X10_mean_l81 (nI N) mn bs st yk yl ri wh all num f x1 (nI n) x3 (lN (K ^ t)) (nI t) tr we wy nx = f_X10_mean_l245 (nI N) mn bs st yk yl ri wh all num NF x1 x3 (lN (K ^ n)) 0 (nI 0) tr we wy' nx' ∧ ∀ b, b < N → wy' b = lN (wt N K S T a n b) := by
  have h0 := NF_big
  intro j
  induction j with
  | zero =>
    intro t f wy nx ht hf h
    obtain ⟨f, rfl⟩ : ∃ q, f = q + 1 := ⟨f - 1, by omega⟩
    obtain rfl : t = n := by omega
    refine ⟨wy, nx, ?_, h⟩
    rw [f_X10_mean_l81.eq_2, if_pos (nI_le (Nat.le_refl _) (by omega))]
    rfl
  | succ j ih =>
    intro t f wy nx ht hf h
    obtain ⟨f, rfl⟩ : ∃ q, f = q + 1 := ⟨f - 1, by omega⟩
    obtain ⟨nx1, e1, h1⟩ := E_m90 (mn := mn) (bs := bs) (st := st) (yk := yk) (yl := yl) (ri := ri) (wh := wh) (all := all) (num := num) (tr := tr) (we := we) (x1 := x1) (x2 := nI n) (x3 := x3) (x6 := nI t) (x4 := lN (K ^ t)) (wy := wy) hN (f_X10_mean_l81 (nI N) mn bs st yk yl ri wh all num f) N 0 NF nx (by omega) (by omega) (fun b hb => absurd hb (by omega))
    obtain ⟨nx2, e2, h2⟩ := E_m116 (bs := bs) (st := st) (yk := yk) (yl := yl) (wh := wh) (all := all) (num := num) (tr := tr) (x1 := x1) (x2 := nI n) (x3 := x3) (x6 := nI t) (x4 := lN (K ^ t)) (wy := wy) hN hK hT hc hwe h (f_X10_mean_l81 (nI N) mn bs st yk yl ri wh all num f) N 0 NF nx1 (by omega) (by omega) h1
    obtain ⟨wy3, e3, h3⟩ := E_m194 (bs := bs) (st := st) (yk := yk) (yl := yl) (wh := wh) (all := all) (num := num) (tr := tr) (we := we) (x1 := x1) (x2 := nI n) (x3 := x3) (x6 := nI t) (x4 := lN (K ^ t)) (nx := nx2) hN hK hc (f_X10_mean_l81 (nI N) mn bs st yk yl ri wh all num f) N 0 NF wy (by omega) (by omega) (fun b hb => absurd hb (by omega))
    obtain ⟨wy4, nx4, e4, h4⟩ := ih (t + 1) f wy3 nx2 (by omega) (by omega) (fun b hb => (h3 b hb).trans (h2 b hb))
    refine ⟨wy4, nx4, ?_, h4⟩
    rw [f_X10_mean_l81.eq_2, if_neg (nI_ge (by omega) (by omega))]
    refine (e1.trans (e2.trans e3)).trans ?_
    rw [show nI t + (1 : Int32) = nI (t + 1) from nI_1 t, lN_mul, ← Nat.pow_succ]
    exact e4
theorem E_m39 (hN : N ≤ 720) {x1 x2 x3 : Int32} {nx : Nat → Int64} {a : Nat} (ha : a < N) (hnow : f_X10_now mn wh num = some (nI a)) : ∀ (j k f : Nat) (wy : Nat → Int64), k + j = N → j < f → (∀ b, b < k → wy b = lN (wt N K S T a 0 b)) → ∃ wy', f_X10_mean_l39 (nI N) mn bs st yk yl ri wh all num f x1 x2 x3 (nI k) tr we wy nx = f_X10_mean_l81 (nI N) mn bs st yk yl ri wh all num NF x1 x2 x3 1 (nI 0) tr we wy' nx ∧ ∀ b, b < N → wy' b = lN (wt N K S T a 0 b) := by
  intro j
  induction j with
  | zero =>
    intro k f wy hk hf h
    obtain ⟨f, rfl⟩ : ∃ q, f = q + 1 := ⟨f - 1, by omega⟩
    obtain rfl : k = N := by omega
    refine ⟨wy, ?_, h⟩
    rw [f_X10_mean_l39.eq_2, if_pos (nI_le (Nat.le_refl _) (by omega))]
    rfl
  | succ j ih =>
    intro k f wy hk hf h
    obtain ⟨f, rfl⟩ : ∃ q, f = q + 1 := ⟨f - 1, by omega⟩
    have hgo : ∀ v : Int64, v = lN (wt N K S T a 0 k) → ∃ wy', f_X10_mean_b68 (nI N) mn bs st yk yl ri wh all num (f_X10_mean_l39 (nI N) mn bs st yk yl ri wh all num f) x1 x2 x3 (nI k) v (nI k) tr we wy nx = f_X10_mean_l81 (nI N) mn bs st yk yl ri wh all num NF x1 x2 x3 1 (nI 0) tr we wy' nx ∧ ∀ b, b < N → wy' b = lN (wt N K S T a 0 b) := by
      intro v hv
      unfold f_X10_mean_b68
      rw [bdn _ (show k < 720 by omega) (by omega), nI_cl (by omega), show nI k + (1 : Int32) = nI (k + 1) from nI_1 k]
      refine ih (k + 1) f _ (by omega) (by omega) (fun b hb => ?_)
      by_cases c : b = k
      · subst c; rw [pk_uLs]; exact hv
      · rw [pk_uLn c]; exact h b (by omega)
    rw [f_X10_mean_l39.eq_2, if_neg (nI_ge (by omega) (by omega)), hnow, Option.bind_some]
    by_cases c : k = a
    · rw [if_pos (by rw [c])]
      exact hgo 1 (by show (1 : Int64) = lN (if k = a then 1 else 0); rw [if_pos c]; rfl)
    · rw [if_neg (fun e => c ((nI_eq (by omega) (by omega)).mp e))]
      exact hgo 0 (by show (0 : Int64) = lN (if k = a then 1 else 0); rw [if_neg c]; rfl)
theorem E_m318 {x3 : Int32} {M z : Int64} {wy nx : Nat → Int64} {aM : Int32} : ∀ (f x y : Nat), y < f → x < 4611686018427387904 → y < 4611686018427387904 → f_X10_mean_l318 aM mn bs st yk yl ri wh all num f x3 M z (lN x) (lN y) tr we wy nx = (if x3 = 0 then dzL (lN (Nat.gcd x y)) (some (((100000000 : Int64) + z / lN (Nat.gcd x y)).toInt32, tr, we, wy, nx)) else dzL (lN (Nat.gcd x y)) (some ((M / lN (Nat.gcd x y)).toInt32, tr, we, wy, nx))) := by
  intro f
  induction f with
  | zero => intro x y hy; exact absurd hy (by omega)
  | succ f ih =>
    intro x y hy hx hy2
    rw [f_X10_mean_l318.eq_2]
    by_cases c : y = 0
    · subst c
      rw [if_pos (show lg_cmp (lN 0) 0 = 0 from (lg_cmp_eq _ _).mpr rfl), Nat.gcd_zero_right]
    · have hn : ¬ lN y = 0 := fun e => c ((pk_lEQ (b := 0) (by omega) (by omega)).mp e)
      have hr : x % y < y := Nat.mod_lt _ (by omega)
      rw [if_neg (fun e => hn ((lg_cmp_eq _ _).mp e)), dzL_ok _ hn, pk_lRem (by omega) (by omega) (by omega), gcd_st x y]
      exact ih y (x % y) (by omega) (by omega) (by omega)
theorem E_m245 {D : HD} {am : Int32} (ok : HOK D) (hy : HY D mn bs st yk yl ri) (tb : TB D.1 am all num) {w : Nat → Nat} {wy nx : Nat → Int64} {i : Nat} {x3 : Int32} {M : Int64} (hi : i < D.1) (hw : ∀ b, b < NN D.1 → wy b = lN (w b)) (hwb : ∀ b, b < NN D.1 → w b ≤ 100000) : ∀ (j s f : Nat), s + j = NN D.1 → j < f → f_X10_mean_l245 (nI (NN D.1)) mn bs st yk yl ri wh all num f (nI i) x3 M (iL (wsum D w i s)) (nI s) tr we wy nx = (if 0 ≤ lg_cmp (iL (wsum D w i (NN D.1))) 0 then f_X10_mean_l318 (nI (NN D.1)) mn bs st yk yl ri wh all num NF x3 M (iL (wsum D w i (NN D.1))) (iL (wsum D w i (NN D.1))) M tr we wy nx else f_X10_mean_l318 (nI (NN D.1)) mn bs st yk yl ri wh all num NF x3 M (iL (wsum D w i (NN D.1))) (- iL (wsum D w i (NN D.1))) M tr we wy nx) := by
  have hN := NN_le D.1
  intro j
  induction j with
  | zero =>
    intro s f hs hf
    obtain ⟨f, rfl⟩ : ∃ q, f = q + 1 := ⟨f - 1, by omega⟩
    obtain rfl : s = NN D.1 := by omega
    rw [f_X10_mean_l245.eq_2, if_pos (nI_le (Nat.le_refl _) (by omega))]
    rfl
  | succ j ih =>
    intro s f hs hf
    obtain ⟨f, rfl⟩ : ∃ q, f = q + 1 := ⟨f - 1, by omega⟩
    have hsN : s < NN D.1 := by omega
    have hb := hwb s hsN
    have hstep : wsum D w i (s + 1) = wsum D w i s + (w s : Int) * wth D s (ps D.1 s i) := rfl
    have hwt := wth_bd ok hsN (tb_ps D.1 s hsN i hi).1
    rw [f_X10_mean_l245.eq_2, if_neg (nI_ge hsN (by omega)), bdn _ (show s < 720 by omega) (by omega), nI_cl (by omega), hw s hsN]
    unfold f_X10_mean_b288
    rw [show nI s + (1 : Int32) = nI (s + 1) from nI_1 s]
    by_cases h0 : w s = 0
    · rw [if_pos ((lg_cmp_eq _ _).mpr ((lN_0 (by omega)).mpr h0))]
      have e : wsum D w i s = wsum D w i (s + 1) := by rw [hstep, h0]; simp
      rw [show iL (wsum D w i s) + (0 : Int64) = iL (wsum D w i (s + 1)) from by rw [show (0 : Int64) = iL 0 from rfl, iL_add, Int.add_zero, e]]
      exact ih (s + 1) f (by omega) (by omega)
    · rw [if_neg (fun e => h0 ((lN_0 (by omega)).mp ((lg_cmp_eq _ _).mp e))), bdn _ (show s < 720 by omega) (by omega), E_worthIn ok hy tb hsN hi, Option.bind_some, iI_l (by omega) (by omega), lN_iL (w s), iL_mul, iL_add, ← hstep]
      exact ih (s + 1) f (by omega) (by omega)
theorem E_meanY {D : HD} {am : Int32} (ok : HOK D) (hy : HY D mn bs st yk yl ri) (tb : TB D.1 am all num) (hW : WOK D we) {a i n : Nat} {part : Int32} (hpart : part = 0 ∨ part = 1) (hi : i < D.1) (hn : n ≤ 6) (ha : a < NN D.1) (hwh : ∀ p, p < D.1 → wh p = nI (dg D.1 a p)) (wy nx : Nat → Int64) : ∃ wy' nx', f_X10_mean_l39 am mn bs st yk yl ri wh all num NF (nI i) (nI n) part (0 : Int32) tr we wy nx = some (if part = 0 then iI ((wsum D (wt (NN D.1) (kk D.1 D.2.1) (suitB D) (chg D.1) a n) i (NN D.1)).tdiv (Nat.gcd (wsum D (wt (NN D.1) (kk D.1 D.2.1) (suitB D) (chg D.1) a n) i (NN D.1)).natAbs ((kk D.1 D.2.1) ^ n))) + (100000000 : Int32) else nI ((kk D.1 D.2.1) ^ n / Nat.gcd (wsum D (wt (NN D.1) (kk D.1 D.2.1) (suitB D) (chg D.1) a n) i (NN D.1)).natAbs ((kk D.1 D.2.1) ^ n)), tr, we, wy', nx') := by
  have h0 := NF_big
  have hN := NN_le D.1
  have hK := kk6 ok
  have hK1 := (kk_bd (rg := D.2.1) ok.1 ok.2.1).1
  have hT := chg_in ok
  have hc := E_countY hy.1 hy.2.1 ok.1 ok.2.1 ok.2.2.1
  have hnow := E_now tb hy.1 ok.2.1 ha hwh
  obtain ⟨wy1, e1, h1⟩ := E_m39 (K := kk D.1 D.2.1) (S := suitB D) (T := chg D.1) (bs := bs) (st := st) (yk := yk) (yl := yl) (ri := ri) (all := all) (tr := tr) (we := we) (x1 := nI i) (x2 := nI n) (x3 := part) (nx := nx) hN ha hnow (NN D.1) 0 NF wy (by omega) (by omega) (fun b hb => absurd hb (by omega))
  obtain ⟨wy2, nx2, e2, h2⟩ := E_m81 (bs := bs) (st := st) (yk := yk) (yl := yl) (wh := wh) (all := all) (num := num) (tr := tr) (x1 := nI i) (x3 := part) hN hK hT hc hW hn n 0 NF wy1 nx (by omega) (by omega) h1
  have e3 := E_m245 (wh := wh) (tr := tr) (we := we) (nx := nx2) (x3 := part) (M := lN (kk D.1 D.2.1 ^ n)) ok hy tb hi h2 (fun b hb => by have := wt_le (S := suitB D) hK hT ha hn hb; omega) (NN D.1) 0 NF (by omega) (by omega)
  refine ⟨wy2, nx2, ?_⟩
  rw [tb.1]
  refine e1.trans (e2.trans (Eq.trans (show _ = f_X10_mean_l245 (nI (NN D.1)) mn bs st yk yl ri wh all num NF (nI i) part (lN (kk D.1 D.2.1 ^ n)) (iL (wsum D (wt (NN D.1) (kk D.1 D.2.1) (suitB D) (chg D.1) a n) i 0)) (nI 0) tr we wy2 nx2 from rfl) (e3.trans ?_)))
  have hbd := wsum_bd (w := wt (NN D.1) (kk D.1 D.2.1) (suitB D) (chg D.1) a n) ok hi (NN D.1) (Nat.le_refl _)
  rw [SN_wt hT ha n] at hbd
  have hp := pw_le hK hn
  have hp1 : 0 < kk D.1 D.2.1 ^ n := Nat.pow_pos (by omega)
  generalize wsum D (wt (NN D.1) (kk D.1 D.2.1) (suitB D) (chg D.1) a n) i (NN D.1) = z at hbd ⊢
  generalize kk D.1 D.2.1 ^ n = M at hbd hp hp1 ⊢
  have hz1 : -1000000000 ≤ z := by omega
  have hz2 : z ≤ 1000000000 := by omega
  have habs : (if 0 ≤ lg_cmp (iL z) 0 then f_X10_mean_l318 (nI (NN D.1)) mn bs st yk yl ri wh all num NF part (lN M) (iL z) (iL z) (lN M) tr we wy2 nx2 else f_X10_mean_l318 (nI (NN D.1)) mn bs st yk yl ri wh all num NF part (lN M) (iL z) (- iL z) (lN M) tr we wy2 nx2) = f_X10_mean_l318 (nI (NN D.1)) mn bs st yk yl ri wh all num NF part (lN M) (iL z) (lN z.natAbs) (lN M) tr we wy2 nx2 := by
    rw [lN_iL z.natAbs]
    by_cases c : 0 ≤ z
    · rw [if_pos ((lg_cmp_ge _ _).mpr ((iL_ge0 hz1 hz2).mpr c)), show (z.natAbs : Int) = z by omega]
    · rw [if_neg (fun e => c ((iL_ge0 hz1 hz2).mp ((lg_cmp_ge _ _).mp e))), iL_neg, show (z.natAbs : Int) = -z by omega]
  rw [habs, E_m318 NF z.natAbs M (by omega) (by omega) (by omega)]
  have hg1 : 0 < Nat.gcd z.natAbs M := Nat.gcd_pos_of_pos_right _ (by omega)
  have hg2 : Nat.gcd z.natAbs M ≤ M := Nat.gcd_le_right _ (by omega)
  generalize Nat.gcd z.natAbs M = g at hg1 hg2 ⊢
  have hn0 : ¬ lN g = 0 := fun e => by have := (lN_0 (by omega)).mp e; omega
  rw [dzL_ok _ hn0, dzL_ok _ hn0]
  rcases hpart with rfl | rfl
  · rw [if_pos rfl, if_pos rfl, iL_div hz1 hz2 (by omega), show (100000000 : Int64) = iL 100000000 from rfl, iL_add, iL_i, show (100000000 : Int32) = iI 100000000 from by decide, iI_add, Int.add_comm]
  · rw [if_neg (by decide), if_neg (by decide), pk_lDiv (by omega) hg1 (by omega), lN_i]
end MY
theorem op_mean : ∀ (y1 : Int32) (y2 : Int32) (y3 : Int32) (X : ZX9) (Y : ZX10), Inv X Y → ∃ (r : Int32) (X1 : ZX9) (Y1 : ZX10), xo_mean y1 y2 y3 X = some (r, X1) ∧ yo_mean y1 y2 y3 Y = some (r, Y1) ∧ Inv X1 Y1 := by
  intro y1 y2 y3 X Y hI
  obtain ⟨⟨tby, tle, tnu⟩, ⟨pe, ri, hto, bp, sc, kd, lk⟩, dr, row, ⟨ton, tos⟩, ⟨don, dos⟩, ⟨ken, kes⟩, ⟨sw, sf, st, sy, ss⟩, gr, gd, se, ev, wa⟩ := X
  obtain ⟨yle, ytx, ymn, ybs, yst, ykd, ylk, yri, yli, ywh, ykm, yun, yum, yrm, yrw, ysm, yso, ysf, ysg, ysy, ypl, yto, yam, yal, ynu, ytr, ywe, ywt, ylo, yre, ywa, ynx⟩ := Y
  obtain ⟨D, a, hI⟩ := hI
  have hI0 : InvC D a tby tle pe ri bp sc kd lk row ton tos don dos ken kes sw sf st sy ss gr gd yle ytx ymn ybs yst ykd ylk yri ywh ykm yun yum yrm yrw ysm yso ysf ysg ysy yam yal ynu := hI
  obtain ⟨ok, ha, hT, hpe, hri, hHX, hHY, hTB, hrow, hwh, hR, hU, hK, hS, hG⟩ := id hI0
  have h2 := ok.1
  have h6 := ok.2.1
  have hg := ok.2.2.1
  subst hpe hri hrow
  have h0 := NF_big
  have hN := NN_le D.1
  have eY : ∀ x : Int32, f_X10_in x.toInt64 0 6 = some (if x < 0 then 0 else if nI 6 < x then 0 else 1) := fun x => in_eq x (k := 6) (by omega)
  rcases place_cases hHY.1 h2 h6 y1 with ⟨a1, a2⟩ | ⟨i, hi, rfl, a1, a2⟩
  · have hX : f_X9_mean y1 y2 y3 (nI (rw_ D.1 a)) gd (nI D.1) (nI D.2.1) bp sc kd lk gr.2.2.1 gr.2.2.2.1 gr.2.2.2.2.1 gr.2.2.2.2.2.1 gr.2.2.2.2.2.2 gr.1 gr.2.1 ev.2.2.1 ev.2.2.2 ev.1 ev.2.1 = some (-1, gd, gr.2.2.1, gr.2.2.2.1, gr.2.2.2.2.1, gr.2.2.2.2.2.1, gr.2.2.2.2.2.2, gr.1, gr.2.1, ev.2.2.1, ev.2.2.2, ev.1, ev.2.1) := by unfold f_X9_mean; rw [a1, Option.bind_some, if_pos rfl]
    have hY : f_X10_mean y1 y2 y3 yam ymn ybs yst ykd ylk yri ywh yal ynu ytr ywe ywa ynx = some (-1, ytr, ywe, ywa, ynx) := by unfold f_X10_mean; rw [a2, Option.bind_some, if_pos rfl]
    exact ⟨_, _, _, xo_of hX rfl, xo_of hY rfl, D, a, hI0⟩
  rcases nI_range y2 (n := 7) (by omega) with h | ⟨hn0, h⟩ | ⟨n, hn, rfl⟩
  · have hX : f_X9_mean (nI i) y2 y3 (nI (rw_ D.1 a)) gd (nI D.1) (nI D.2.1) bp sc kd lk gr.2.2.1 gr.2.2.2.1 gr.2.2.2.2.1 gr.2.2.2.2.2.1 gr.2.2.2.2.2.2 gr.1 gr.2.1 ev.2.2.1 ev.2.2.2 ev.1 ev.2.1 = some (-1, gd, gr.2.2.1, gr.2.2.2.1, gr.2.2.2.2.1, gr.2.2.2.2.2.1, gr.2.2.2.2.2.2, gr.1, gr.2.1, ev.2.2.1, ev.2.2.2, ev.1, ev.2.1) := by unfold f_X9_mean; rw [a1, Option.bind_some, if_neg (by decide), if_pos h]
    have hY : f_X10_mean (nI i) y2 y3 yam ymn ybs yst ykd ylk yri ywh yal ynu ytr ywe ywa ynx = some (-1, ytr, ywe, ywa, ynx) := by unfold f_X10_mean; rw [a2, Option.bind_some, if_neg (by decide), eY, if_pos h, Option.bind_some, if_pos rfl]
    exact ⟨_, _, _, xo_of hX rfl, xo_of hY rfl, D, a, hI0⟩
  · have hu : nI 6 < y2 := Int32.lt_of_lt_of_le (show nI 6 < nI 7 by decide) h
    have hX : f_X9_mean (nI i) y2 y3 (nI (rw_ D.1 a)) gd (nI D.1) (nI D.2.1) bp sc kd lk gr.2.2.1 gr.2.2.2.1 gr.2.2.2.2.1 gr.2.2.2.2.2.1 gr.2.2.2.2.2.2 gr.1 gr.2.1 ev.2.2.1 ev.2.2.2 ev.1 ev.2.1 = some (-1, gd, gr.2.2.1, gr.2.2.2.1, gr.2.2.2.2.1, gr.2.2.2.2.2.1, gr.2.2.2.2.2.2, gr.1, gr.2.1, ev.2.2.1, ev.2.2.2, ev.1, ev.2.1) := by unfold f_X9_mean; rw [a1, Option.bind_some, if_neg (by decide), if_neg hn0, if_pos (show (6 : Int32) < y2 from hu)]
    have hY : f_X10_mean (nI i) y2 y3 yam ymn ybs yst ykd ylk yri ywh yal ynu ytr ywe ywa ynx = some (-1, ytr, ywe, ywa, ynx) := by unfold f_X10_mean; rw [a2, Option.bind_some, if_neg (by decide), eY, if_neg hn0, if_pos hu, Option.bind_some, if_pos rfl]
    exact ⟨_, _, _, xo_of hX rfl, xo_of hY rfl, D, a, hI0⟩
  have hna : ¬ nI n < 0 := nI_lt0 (by omega)
  have hnb : ¬ (6 : Int32) < nI n := nI_nlt (a := 6) (by omega) (by omega)
  have hnb' : ¬ nI 6 < nI n := hnb
  rcases either_cases y3 with ⟨e3, e4⟩ | ⟨hw, e3, e4⟩
  · have hX : f_X9_mean (nI i) (nI n) y3 (nI (rw_ D.1 a)) gd (nI D.1) (nI D.2.1) bp sc kd lk gr.2.2.1 gr.2.2.2.1 gr.2.2.2.2.1 gr.2.2.2.2.2.1 gr.2.2.2.2.2.2 gr.1 gr.2.1 ev.2.2.1 ev.2.2.2 ev.1 ev.2.1 = some (-1, gd, gr.2.2.1, gr.2.2.2.1, gr.2.2.2.2.1, gr.2.2.2.2.2.1, gr.2.2.2.2.2.2, gr.1, gr.2.1, ev.2.2.1, ev.2.2.2, ev.1, ev.2.1) := by unfold f_X9_mean; rw [a1, Option.bind_some, if_neg (by decide), if_neg hna, if_neg hnb, e3, Option.bind_some, if_pos rfl]
    have hY : f_X10_mean (nI i) (nI n) y3 yam ymn ybs yst ykd ylk yri ywh yal ynu ytr ywe ywa ynx = some (-1, ytr, ywe, ywa, ynx) := by unfold f_X10_mean; rw [a2, Option.bind_some, if_neg (by decide), eY, if_neg hna, if_neg hnb', Option.bind_some, if_neg (by decide), e4, Option.bind_some, if_pos rfl]
    exact ⟨_, _, _, xo_of hX rfl, xo_of hY rfl, D, a, hI0⟩
  obtain ⟨rows, edges, hd, hG0⟩ := E_drawGraph ok hHX hG
  obtain ⟨tr', we', hwb, hW⟩ := E_layWeb ok hHY hTB ytr ywe
  have hK6 := kk6 ok
  have hTn := chg_in ok
  have hK1 := (kk_bd (rg := D.2.1) ok.1 ok.2.1).1
  obtain ⟨now', th', hps, hnw⟩ := E_pass hN hK6 hTn (ld_B ok hG0) ha (show n ≤ 6 by omega) ev.2.2.2 ev.1 ev.2.1
  have hp := pw_le hK6 (show n ≤ 6 by omega)
  have hp1 : 0 < kk D.1 D.2.1 ^ n := Nat.pow_pos (by omega)
  have htm := E_takeMean (M := kk D.1 D.2.1 ^ n) ok hHX hG0 hi hnw (fun b hb => by have := wt_le (S := suitB D) hK6 hTn ha (show n ≤ 6 by omega) hb; omega) (by omega) hp (by rw [SN_wt hTn ha n]; exact hp) ev.2.2.1
  obtain ⟨wy', nx', hmy⟩ := E_meanY (tr := tr') (part := y3) ok hHY hTB hW hw hi (show n ≤ 6 by omega) ha hwh ywa ynx
  have hY : f_X10_mean (nI i) (nI n) y3 yam ymn ybs yst ykd ylk yri ywh yal ynu ytr ywe ywa ynx = some (if y3 = 0 then iI ((wsum D (wt (NN D.1) (kk D.1 D.2.1) (suitB D) (chg D.1) a n) i (NN D.1)).tdiv (Nat.gcd (wsum D (wt (NN D.1) (kk D.1 D.2.1) (suitB D) (chg D.1) a n) i (NN D.1)).natAbs ((kk D.1 D.2.1) ^ n))) + (100000000 : Int32) else nI ((kk D.1 D.2.1) ^ n / Nat.gcd (wsum D (wt (NN D.1) (kk D.1 D.2.1) (suitB D) (chg D.1) a n) i (NN D.1)).natAbs ((kk D.1 D.2.1) ^ n)), tr', we', wy', nx') := by
    unfold f_X10_mean
    rw [a2, Option.bind_some, if_neg (by decide), eY, if_neg hna, if_neg hnb', Option.bind_some, if_neg (by decide), e4, Option.bind_some, if_neg (by decide), hwb, Option.bind_some]
    exact hmy
  have hX : f_X9_mean (nI i) (nI n) y3 (nI (rw_ D.1 a)) gd (nI D.1) (nI D.2.1) bp sc kd lk gr.2.2.1 gr.2.2.2.1 gr.2.2.2.2.1 gr.2.2.2.2.2.1 gr.2.2.2.2.2.2 gr.1 gr.2.1 ev.2.2.1 ev.2.2.2 ev.1 ev.2.1 = some (if y3 = 0 then iI ((wsum D (wt (NN D.1) (kk D.1 D.2.1) (suitB D) (chg D.1) a n) i (NN D.1)).tdiv (Nat.gcd (wsum D (wt (NN D.1) (kk D.1 D.2.1) (suitB D) (chg D.1) a n) i (NN D.1)).natAbs ((kk D.1 D.2.1) ^ n))) + (100000000 : Int32) else nI ((kk D.1 D.2.1) ^ n / Nat.gcd (wsum D (wt (NN D.1) (kk D.1 D.2.1) (suitB D) (chg D.1) a n) i (NN D.1)).natAbs ((kk D.1 D.2.1) ^ n)), (1 : Int32), nI D.1, nI (NN D.1), nI (kk D.1 D.2.1), nI (rests D 0 (NN D.1)), frest D 0 (NN D.1), rows, edges, iI ((wsum D (wt (NN D.1) (kk D.1 D.2.1) (suitB D) (chg D.1) a n) i (NN D.1)).tdiv (Nat.gcd (wsum D (wt (NN D.1) (kk D.1 D.2.1) (suitB D) (chg D.1) a n) i (NN D.1)).natAbs ((kk D.1 D.2.1) ^ n))), nI ((kk D.1 D.2.1) ^ n / Nat.gcd (wsum D (wt (NN D.1) (kk D.1 D.2.1) (suitB D) (chg D.1) a n) i (NN D.1)).natAbs ((kk D.1 D.2.1) ^ n)), now', th') := by
    unfold f_X9_mean
    rw [a1, Option.bind_some, if_neg (by decide), if_neg hna, if_neg hnb, e3, Option.bind_some, if_neg (by decide), hd, Option.bind_some]
    show Option.bind (f_X1_stateOf (nI (rw_ D.1 a)) (nI D.1) (nI (NN D.1))) _ = _
    rw [E_stateOf ha, Option.bind_some]
    show Option.bind (f_X0_pass (nI a) (nI n) ev.2.2.2 ev.1 ev.2.1 (nI D.1) (nI (NN D.1)) (nI (kk D.1 D.2.1)) rows edges) _ = _
    rw [hps, Option.bind_some]
    show Option.bind (f_X0_takeMean (nI i) ev.2.2.1 (nI (kk D.1 D.2.1 ^ n)) now' (nI (NN D.1)) rows (nI D.1) (nI D.2.1) bp sc lk) _ = _
    rw [htm, Option.bind_some]
    rcases hw with rfl | rfl
    · rw [if_pos rfl, if_pos rfl]
    · rw [if_neg (by decide), if_neg (by decide)]
  exact ⟨_, _, _, xo_of hX rfl, xo_of hY rfl, D, a, ok, ha, hT, rfl, rfl, hHX, hHY, hTB, rfl, hwh, hR, hU, hK, hS, Or.inr ⟨rfl, rfl, rfl, rfl, hG0.1, hG0.2, rfl, rfl⟩⟩
