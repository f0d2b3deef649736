/-! likings as they must be by what was said -/
section FI
variable {D : HD} {bp sc kd lk mn bs st ykd ylk ri : Nat → Int32}
/-- one thing seen: of another, or as he would say it -/
def oneB (D : HD) (ei ex ey : Nat → Nat) (ez : Nat → Bool) (i b k : Nat) : Bool := !decide (ei k = i) || (agr (D.2.2.2.2.1 i) (-((D.2.2.2.1 i : Int) * (far_ D.1 D.2.1 (ex k) b : Int))) (-((D.2.2.2.1 i : Int) * (far_ D.1 D.2.1 (ey k) b : Int))) == ez k)
def fitB (D : HD) (ei ex ey : Nat → Nat) (ez : Nat → Bool) (i b : Nat) : Nat → Bool
  | 0 => true
  | k + 1 => fitB D ei ex ey ez i b k && oneB D ei ex ey ez i b k
theorem fitB_no {ei ex ey : Nat → Nat} {ez : Nat → Bool} {i b k : Nat} (h : fitB D ei ex ey ez i b k = false) : ∀ j, fitB D ei ex ey ez i b (k + j) = false
  | 0 => h
  | j + 1 => by rw [← Nat.add_assoc, fitB, fitB_no h j]; rfl
theorem E_allow_l (ok : HOK D) (hx : HX D bp sc kd lk) {sw sf st' sy : Nat → Int32} {ei ex ey : Nat → Nat} {ez : Nat → Bool} {K i b : Nat} (hK : K ≤ 8) (hi : i < D.1) (hb : b < D.1) (hS : ∀ j, j < K → ei j < D.1 ∧ ex j < D.1 ∧ ey j < D.1 ∧ sw j = nI (ei j) ∧ sf j = nI (ex j) ∧ st' j = nI (ey j) ∧ sy j = bI (ez j)) : ∀ (j k f : Nat), k + j = K → j < f → fitB D ei ex ey ez i b k = true → f_X6_allow_l3 (nI K) sw sf st' sy (nI D.1) (nI D.2.1) sc kd f (nI i) (nI b) (nI k) = some (bI (fitB D ei ex ey ez i b K)) := by
  have h2 := ok.1
  have h6 := ok.2.1
  have hg := ok.2.2.1
  intro j
  induction j with
  | zero =>
    intro k f hk hf ht
    obtain ⟨f, rfl⟩ : ∃ g, f = g + 1 := ⟨f - 1, by omega⟩
    rw [f_X6_allow_l3.eq_2, if_pos (nI_le (by omega) (by omega)), show K = k by omega, ht]; rfl
  | succ j ih =>
    intro k f hk hf ht
    obtain ⟨f, rfl⟩ : ∃ g, f = g + 1 := ⟨f - 1, by omega⟩
    obtain ⟨p1, p2, p3, p4, p5, p6, p7⟩ := hS k (by omega)
    have f1 := far_le D.1 (by omega) D.2.1 (by omega) _ p2 b hb
    have f2 := far_le D.1 (by omega) D.2.1 (by omega) _ p3 b hb
    have hs := ok.2.2.2.2.1 i hi
    have hkd := ok.2.2.2.2.2.1 i hi
    have m1 : D.2.2.2.1 i * far_ D.1 D.2.1 (ex k) b ≤ 20 * 6 := Nat.mul_le_mul hs (by omega)
    have m2 : D.2.2.2.1 i * far_ D.1 D.2.1 (ey k) b ≤ 20 * 6 := Nat.mul_le_mul hs (by omega)
    have q1 : ((D.2.2.2.1 i : Int) * (far_ D.1 D.2.1 (ex k) b : Int)) = ((D.2.2.2.1 i * far_ D.1 D.2.1 (ex k) b : Nat) : Int) := by push_cast; rfl
    have q2 : ((D.2.2.2.1 i : Int) * (far_ D.1 D.2.1 (ey k) b : Int)) = ((D.2.2.2.1 i * far_ D.1 D.2.1 (ey k) b : Nat) : Int) := by push_cast; rfl
    have q3 : (D.2.2.2.1 i : Int) * ((far_ D.1 D.2.1 (ex k) b : Int) - (far_ D.1 D.2.1 (ey k) b : Int)) = -((D.2.2.2.1 i : Int) * (far_ D.1 D.2.1 (ey k) b : Int)) - -((D.2.2.2.1 i : Int) * (far_ D.1 D.2.1 (ex k) b : Int)) := by rw [Int.mul_sub]; omega
    rw [f_X6_allow_l3.eq_2, if_neg (nI_ge (by omega) (by omega)), bdn _ (by omega) (by omega), nI_cl (by omega), p5, E_far D.1 (by omega) D.2.1 (by omega) _ p2 b hb, Option.bind_some, bdn _ (by omega) (by omega), p6, E_far D.1 (by omega) D.2.1 (by omega) _ p3 b hb, Option.bind_some, bdn _ (by omega) (by omega), bdn _ (by omega) (by omega), nI_cl (by omega), hx.2.1 i hi, hx.2.2.1 i hi, nI_iI (D.2.2.2.1 i), nI_iI (far_ D.1 D.2.1 (ex k) b), nI_iI (far_ D.1 D.2.1 (ey k) b), iI_sub, iI_mul, q3, E_missing hkd (by omega) (by omega), Option.bind_some]
    have mb := mis_bd (k := D.2.2.2.2.1 i) (g := -((D.2.2.2.1 i : Int) * (far_ D.1 D.2.1 (ey k) b : Int)) - -((D.2.2.2.1 i : Int) * (far_ D.1 D.2.1 (ex k) b : Int))) (by omega) (by omega)
    have m0 := mis_0 (k := D.2.2.2.2.1 i) (x := -((D.2.2.2.1 i : Int) * (far_ D.1 D.2.1 (ex k) b : Int))) (y := -((D.2.2.2.1 i : Int) * (far_ D.1 D.2.1 (ey k) b : Int))) hkd
    have hone : fitB D ei ex ey ez i b (k + 1) = oneB D ei ex ey ez i b k := by rw [fitB, ht, Bool.true_and]
    have hgo : oneB D ei ex ey ez i b k = true → f_X6_allow_b96 (nI K) sw sf st' sy (nI D.1) (nI D.2.1) sc kd (f_X6_allow_l3 (nI K) sw sf st' sy (nI D.1) (nI D.2.1) sc kd f) (nI i) (nI b) (nI k) = some (bI (fitB D ei ex ey ez i b K)) := by
      intro h1
      unfold f_X6_allow_b96
      rw [show nI k + (1 : Int32) = nI (k + 1) from nI_1 k]
      exact ih (k + 1) f (by omega) (by omega) (by rw [hone]; exact h1)
    have hno : oneB D ei ex ey ez i b k = false → some (0 : Int32) = some (bI (fitB D ei ex ey ez i b K)) := by
      intro h1
      have := fitB_no (k := k + 1) (by rw [hone]; exact h1) j
      rw [show k + 1 + j = K by omega] at this
      rw [this]; rfl
    have hb69 : ∀ t : Bool, t = agr (D.2.2.2.2.1 i) (-((D.2.2.2.1 i : Int) * (far_ D.1 D.2.1 (ex k) b : Int))) (-((D.2.2.2.1 i : Int) * (far_ D.1 D.2.1 (ey k) b : Int))) → f_X6_allow_b69 (nI K) sw sf st' sy (nI D.1) (nI D.2.1) sc kd (f_X6_allow_l3 (nI K) sw sf st' sy (nI D.1) (nI D.2.1) sc kd f) (nI i) (nI b) (nI k) (bI t) = some (bI (fitB D ei ex ey ez i b K)) := by
      intro t e
      unfold f_X6_allow_b69
      rw [bdn _ (by omega) (by omega), nI_cl (by omega), p4, bdn _ (by omega) (by omega), p7]
      unfold oneB at hgo hno
      rw [← e] at hgo hno
      by_cases hw : ei k = i
      · rw [if_pos (by rw [hw])]
        rw [decide_eq_true hw] at hgo hno
        cases t <;> cases hz : ez k <;> rw [hz] at hgo hno
        · rw [if_pos rfl]; exact hgo rfl
        · rw [if_neg (by decide)]; exact hno rfl
        · rw [if_neg (by decide)]; exact hno rfl
        · rw [if_pos rfl]; exact hgo rfl
      · rw [if_neg (fun q => hw ((nI_eq (by omega) (by omega)).mp q))]
        rw [decide_eq_false hw] at hgo
        exact hgo rfl
    by_cases h : agr (D.2.2.2.2.1 i) (-((D.2.2.2.1 i : Int) * (far_ D.1 D.2.1 (ex k) b : Int))) (-((D.2.2.2.1 i : Int) * (far_ D.1 D.2.1 (ey k) b : Int))) = true
    · rw [if_pos ((iI_eq0 (by omega) (by omega)).mpr (m0.mpr h))]
      exact hb69 true h.symm
    · rw [if_neg (fun q => h (m0.mp ((iI_eq0 (by omega) (by omega)).mp q)))]
      rw [Bool.not_eq_true] at h
      exact hb69 false h.symm
theorem E_isFit_l (ok : HOK D) (hy : HY D mn bs st ykd ylk ri) {yso ysf ysg ysy : Nat → Int32} {ei ex ey : Nat → Nat} {ez : Nat → Bool} {K i b : Nat} (hK : K ≤ 8) (hi : i < D.1) (hb : b < D.1) (hS : ∀ j, j < K → ei j < D.1 ∧ ex j < D.1 ∧ ey j < D.1 ∧ yso j = nI (ei j) ∧ ysf j = nI (ex j) ∧ ysg j = nI (ey j) ∧ ysy j = bI (ez j)) : ∀ (j k f : Nat), k + j = K → j < f → f_X10_isFit_l5 (nI K) mn st ykd ri yso ysf ysg ysy f (nI i) (nI b) (bI (fitB D ei ex ey ez i b k)) (nI k) = some (bI (fitB D ei ex ey ez i b K)) := by
  have h2 := ok.1
  have h6 := ok.2.1
  have hg := ok.2.2.1
  intro j
  induction j with
  | zero =>
    intro k f hk hf
    obtain ⟨f, rfl⟩ : ∃ g, f = g + 1 := ⟨f - 1, by omega⟩
    rw [f_X10_isFit_l5.eq_2, if_pos (nI_le (by omega) (by omega)), zb_ok _ (bI_01 _), show K = k by omega]
  | succ j ih =>
    intro k f hk hf
    obtain ⟨f, rfl⟩ : ∃ g, f = g + 1 := ⟨f - 1, by omega⟩
    obtain ⟨p1, p2, p3, p4, p5, p6, p7⟩ := hS k (by omega)
    have f1 := far_le D.1 (by omega) D.2.1 (by omega) _ p2 b hb
    have f2 := far_le D.1 (by omega) D.2.1 (by omega) _ p3 b hb
    have hs := ok.2.2.2.2.1 i hi
    have hkd := ok.2.2.2.2.2.1 i hi
    have m1 : D.2.2.2.1 i * far_ D.1 D.2.1 (ex k) b ≤ 20 * 6 := Nat.mul_le_mul hs (by omega)
    have m2 : D.2.2.2.1 i * far_ D.1 D.2.1 (ey k) b ≤ 20 * 6 := Nat.mul_le_mul hs (by omega)
    have q1 : ((D.2.2.2.1 i : Int) * (far_ D.1 D.2.1 (ex k) b : Int)) = ((D.2.2.2.1 i * far_ D.1 D.2.1 (ex k) b : Nat) : Int) := by push_cast; rfl
    have q2 : ((D.2.2.2.1 i : Int) * (far_ D.1 D.2.1 (ey k) b : Int)) = ((D.2.2.2.1 i * far_ D.1 D.2.1 (ey k) b : Nat) : Int) := by push_cast; rfl
    have hstep := ih (k + 1) f (by omega) (by omega)
    rw [show fitB D ei ex ey ez i b (k + 1) = (fitB D ei ex ey ez i b k && oneB D ei ex ey ez i b k) from rfl] at hstep
    rw [f_X10_isFit_l5.eq_2, if_neg (nI_ge (by omega) (by omega)), bdn _ (by omega) (by omega), bdn _ (by omega) (by omega), bdn _ (by omega) (by omega), nI_cl (by omega), p5, E_farY hy.1 hy.2.1 (by omega) (by omega) p2 hb, Option.bind_some, bdn _ (by omega) (by omega), bdn _ (by omega) (by omega), p6, E_farY hy.1 hy.2.1 (by omega) (by omega) p3 hb, Option.bind_some, nI_cl (by omega), hy.2.2.2.1 i hi, hy.2.2.2.2.1 i hi, nI_iI (D.2.2.2.1 i), nI_iI (far_ D.1 D.2.1 (ex k) b), nI_iI (far_ D.1 D.2.1 (ey k) b), iI_neg, iI_mul, iI_mul, Int.neg_mul, Int.neg_mul, E_agreesY hkd (by omega) (by omega) (by omega) (by omega), Option.bind_some]
    unfold f_X10_isFit_b105 f_X10_isFit_b98 f_X10_isFit_b101 f_X10_isFit_b105 f_X10_isFit_b106
    rw [show nI k + (1 : Int32) = nI (k + 1) from nI_1 k, bdn _ (by omega) (by omega), bdn _ (by omega) (by omega), p4, p7]
    unfold oneB at hstep
    generalize fitB D ei ex ey ez i b k = ft at hstep ⊢
    generalize agr (D.2.2.2.2.1 i) (-((D.2.2.2.1 i : Int) * (far_ D.1 D.2.1 (ex k) b : Int))) (-((D.2.2.2.1 i : Int) * (far_ D.1 D.2.1 (ey k) b : Int))) = ag at hstep ⊢
    cases ft with
    | false => rw [if_pos (show bI false = 0 from rfl)]; exact hstep
    | true =>
      rw [if_neg (show ¬ bI true = 0 by decide)]
      rw [Bool.true_and] at hstep
      by_cases hw : ei k = i
      · rw [if_pos (by rw [hw])]
        rw [decide_eq_true hw] at hstep
        cases ag <;> cases hz : ez k <;> rw [hz] at hstep
        · rw [if_neg (show ¬ bI false = 1 by decide), if_pos (show bI false = 0 from rfl)]; exact hstep
        · rw [if_pos (show bI true = 1 from rfl), if_neg (show ¬ bI false = 1 by decide)]; exact hstep
        · rw [if_neg (show ¬ bI false = 1 by decide), if_neg (show ¬ bI true = 0 by decide)]; exact hstep
        · rw [if_pos (show bI true = 1 from rfl), if_pos (show bI true = 1 from rfl)]; exact hstep
      · rw [if_neg (fun q => hw ((nI_eq (by omega) (by omega)).mp q))]
        rw [decide_eq_false hw] at hstep
        exact hstep
theorem E_fits_l (ok : HOK D) (hx : HX D bp sc kd lk) (hy : HY D mn bs st ykd ylk ri) {sw sf st' sy yso ysf ysg ysy : Nat → Int32} {ei ex ey : Nat → Nat} {ez : Nat → Bool} {K i : Nat} (hK : K ≤ 8) (hi : i < D.1) (hS : ∀ j, j < K → ei j < D.1 ∧ ex j < D.1 ∧ ey j < D.1 ∧ sw j = nI (ei j) ∧ sf j = nI (ex j) ∧ st' j = nI (ey j) ∧ sy j = bI (ez j)) (hT : ∀ j, j < K → ei j < D.1 ∧ ex j < D.1 ∧ ey j < D.1 ∧ yso j = nI (ei j) ∧ ysf j = nI (ex j) ∧ ysg j = nI (ey j) ∧ ysy j = bI (ez j)) {w : Int32} : ∀ (m f g : Nat) (c v : Int32), m ≤ D.1 → m < f → m < g → ∃ r, f_X9_fits_l37 (nI D.1) (nI D.2.1) sc kd (nI K) sw sf st' sy f (nI i) w c v (nI m - 1) = some r ∧ f_X10_fits_l36 (nI K) mn st ykd ri yso ysf ysg ysy g (nI i) w c v (nI m - 1) = some r := by
  have h6 := ok.2.1
  have h0 := NF_big
  intro m
  induction m with
  | zero =>
    intro f g c v hm hf hg
    obtain ⟨f, rfl⟩ : ∃ q, f = q + 1 := ⟨f - 1, by omega⟩
    obtain ⟨g, rfl⟩ : ∃ q, g = q + 1 := ⟨g - 1, by omega⟩
    rw [f_X9_fits_l37.eq_2, f_X10_fits_l36.eq_2, if_pos (show nI 0 - 1 < (0 : Int32) by decide), if_pos (show nI 0 - 1 < (0 : Int32) by decide)]
    by_cases h : w = 0
    · exact ⟨c, if_pos h, if_pos h⟩
    · exact ⟨v, if_neg h, if_neg h⟩
  | succ m ih =>
    intro f g c v hm hf hg
    obtain ⟨f, rfl⟩ : ∃ q, f = q + 1 := ⟨f - 1, by omega⟩
    obtain ⟨g, rfl⟩ : ∃ q, g = q + 1 := ⟨g - 1, by omega⟩
    have e : nI m + (-1 : Int32) = nI m - 1 := (Int32.sub_eq_add_neg (nI m) 1).symm
    have eX : f_X6_allow (nI i) (nI m) (nI K) sw sf st' sy (nI D.1) (nI D.2.1) sc kd = some (bI (fitB D ei ex ey ez i m K)) := E_allow_l ok hx hK hi (show m < D.1 by omega) hS K 0 NF (by omega) (by omega) rfl
    have eY : f_X10_isFit (nI i) (nI m) (nI K) mn st ykd ri yso ysf ysg ysy = some (bI (fitB D ei ex ey ez i m K)) := E_isFit_l ok hy hK hi (show m < D.1 by omega) hT K 0 NF (by omega) (by omega)
    rw [f_X9_fits_l37.eq_2, f_X10_fits_l36.eq_2, nI_s1 (by omega), show m + 1 - 1 = m by omega, if_neg (nI_lt0 (by omega)), if_neg (nI_lt0 (by omega)), eX, Option.bind_some, eY, Option.bind_some]
    unfold f_X9_fits_b66 f_X10_fits_b57 f_X10_fits_b76
    rw [eY, Option.bind_some, e]
    cases fitB D ei ex ey ez i m K
    · rw [if_pos (show bI false = 0 from rfl), if_pos (show bI false = 0 from rfl), if_pos (show bI false = 0 from rfl), show c + (0 : Int32) = c from Int32.add_zero c]
      exact ih f g c v (by omega) (by omega) (by omega)
    · rw [if_neg (show ¬ bI true = 0 by decide), if_neg (show ¬ bI true = 0 by decide), Option.bind_some, if_neg (show ¬ bI true = 0 by decide)]
      exact ih f g (c + 1) (nI m) (by omega) (by omega) (by omega)
end FI
