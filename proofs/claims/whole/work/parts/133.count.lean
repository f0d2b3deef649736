/-! counting what suits; writing; judging -/
def scnt (D : HD) (a : Nat) : Nat → Nat
  | 0 => 0
  | k + 1 => scnt D a k + (if suitB D a k then 1 else 0)
section CN
variable {D : HD} {bp sc kd lk mn bs st ykd ylk ri all num : Nat → Int32} {am : Int32}
theorem E_suitingCount_l (ok : HOK D) (hx : HX D bp sc kd lk) {a : Nat} (ha : a < NN D.1) : ∀ (j k f : Nat), k + j = kk D.1 D.2.1 → j < f → f_X2_suitingCount_l4 (nI D.1) (nI D.2.1) bp sc kd lk f (nI (rw_ D.1 a)) (nI (scnt D a k)) (nI k) = some (nI (scnt D a (kk D.1 D.2.1))) := by
  have h2 := ok.1
  have h6 := ok.2.1
  have hg := ok.2.2.1
  have hkk := (kk_bd (rg := D.2.1) h2 h6).2
  intro j
  induction j with
  | zero =>
    intro k f hk hf
    obtain ⟨f, rfl⟩ : ∃ g, f = g + 1 := ⟨f - 1, by omega⟩
    rw [f_X2_suitingCount_l4.eq_2, E_count D.1 (by omega) h2 D.2.1 (by omega), Option.bind_some, if_pos (nI_le (by omega) (by omega)), show k = kk D.1 D.2.1 by omega]
  | succ j ih =>
    intro k f hk hf
    obtain ⟨f, rfl⟩ : ∃ g, f = g + 1 := ⟨f - 1, by omega⟩
    have hstep := ih (k + 1) f (by omega) (by omega)
    rw [f_X2_suitingCount_l4.eq_2, E_count D.1 (by omega) h2 D.2.1 (by omega), Option.bind_some, if_neg (nI_ge (by omega) (by omega)), E_changeSuits ok hx ha (by omega), Option.bind_some]
    unfold f_X2_suitingCount_b24
    rw [show nI k + (1 : Int32) = nI (k + 1) from nI_1 k]
    rw [show scnt D a (k + 1) = scnt D a k + (if suitB D a k then 1 else 0) from rfl] at hstep
    cases hs : suitB D a k
    · rw [if_pos (show bI false = 0 from rfl)]
      rw [hs] at hstep
      exact hstep
    · rw [if_neg (show ¬ bI true = 0 by decide), show nI (scnt D a k) + (1 : Int32) = nI (scnt D a k + 1) from nI_1 _]
      rw [hs] at hstep
      exact hstep
theorem E_suitMany_l (ok : HOK D) (hy : HY D mn bs st ykd ylk ri) (tb : TB D.1 am all num) {a : Nat} {wh : Nat → Int32} (ha : a < NN D.1) (hw : ∀ p, p < D.1 → wh p = nI (dg D.1 a p)) : ∀ (j k f : Nat) (tr : Nat → Int32), k + j = kk D.1 D.2.1 → j < f → ∃ tr', f_X10_suitMany_l4 mn bs st ykd ylk ri wh all num f (nI (scnt D a k)) (nI k) tr = some (nI (scnt D a (kk D.1 D.2.1)), tr') := by
  have h2 := ok.1
  have h6 := ok.2.1
  have hg := ok.2.2.1
  have hkk := (kk_bd (rg := D.2.1) h2 h6).2
  intro j
  induction j with
  | zero =>
    intro k f tr hk hf
    obtain ⟨f, rfl⟩ : ∃ g, f = g + 1 := ⟨f - 1, by omega⟩
    refine ⟨tr, ?_⟩
    rw [f_X10_suitMany_l4.eq_2, E_countY hy.1 hy.2.1 h2 h6 hg, Option.bind_some, if_pos (nI_le (by omega) (by omega)), show k = kk D.1 D.2.1 by omega]
  | succ j ih =>
    intro k f tr hk hf
    obtain ⟨f, rfl⟩ : ∃ g, f = g + 1 := ⟨f - 1, by omega⟩
    obtain ⟨tr1, hd⟩ := E_doesSuit0 (tr := tr) ok hy tb ha (show k < D.1 by omega)
    obtain ⟨tr2, hstep⟩ := ih (k + 1) f tr1 (by omega) (by omega)
    refine ⟨tr2, ?_⟩
    rw [f_X10_suitMany_l4.eq_2, E_countY hy.1 hy.2.1 h2 h6 hg, Option.bind_some, if_neg (nI_ge (by omega) (by omega)), E_now tb hy.1 h6 ha hw, Option.bind_some, hd, Option.bind_some]
    unfold f_X10_suitMany_b31
    rw [show nI k + (1 : Int32) = nI (k + 1) from nI_1 k]
    rw [show scnt D a (k + 1) = scnt D a k + (if suitB D a k then 1 else 0) from rfl] at hstep
    cases hs : suitB D a k
    · rw [if_pos (show bI false = 0 from rfl), show nI (scnt D a k) + (0 : Int32) = nI (scnt D a k) from nI_add _ 0]
      rw [hs] at hstep
      exact hstep
    · rw [if_neg (show ¬ bI true = 0 by decide), show nI (scnt D a k) + (1 : Int32) = nI (scnt D a k + 1) from nI_1 _]
      rw [hs] at hstep
      exact hstep
theorem E_judge_l (ok : HOK D) (hx : HX D bp sc kd lk) (hy : HY D mn bs st ykd ylk ri) (tb : TB D.1 am all num) {K : Nat} {r0 : Int32} {ton yrw wh : Nat → Int32} (hK : K ≤ 12) (hR : ∀ j, j < K → ∃ x, x < kk D.1 D.2.1 ∧ ton j = nI x ∧ yrw j = nI x) : ∀ (j k f g b : Nat) (tr : Nat → Int32), k + j = K → j < f → j < g → b < NN D.1 → ∃ r tr', f_X9_judge_l7 12 r0 (nI D.1) (nI D.2.1) bp sc kd lk (nI K) ton f (nI (rw_ D.1 b)) (nI k) = some r ∧ f_X10_judge_l7 (nI K) mn bs st ykd ylk ri wh yrw all num g (nI b) (nI k) tr = some (r, tr') := by
  have h2 := ok.1
  have h6 := ok.2.1
  have hkk := (kk_bd (rg := D.2.1) h2 h6).2
  intro j
  induction j with
  | zero =>
    intro k f g b tr hk hf hg hb
    obtain ⟨f, rfl⟩ : ∃ q, f = q + 1 := ⟨f - 1, by omega⟩
    obtain ⟨g, rfl⟩ : ∃ q, g = q + 1 := ⟨g - 1, by omega⟩
    refine ⟨-4, tr, ?_, ?_⟩
    · rw [f_X9_judge_l7.eq_2, if_pos (nI_le (by omega) (by omega))]
    · rw [f_X10_judge_l7.eq_2, if_pos (nI_le (by omega) (by omega))]
  | succ j ih =>
    intro k f g b tr hk hf hg hb
    obtain ⟨f, rfl⟩ : ∃ q, f = q + 1 := ⟨f - 1, by omega⟩
    obtain ⟨g, rfl⟩ : ∃ q, g = q + 1 := ⟨g - 1, by omega⟩
    obtain ⟨x, x1, x2, x3⟩ := hR k (by omega)
    have hxn : x < D.1 := by omega
    obtain ⟨tr1, hd⟩ := E_doesSuit0 (tr := tr) ok hy tb hb hxn
    obtain ⟨tr2, hbh⟩ := E_behind0 (tr := tr1) tb hy.1 h2 h6 hb hxn
    have gt : f_X3_get (nI k) 12 (nI K) ton = some (nI x) := by
      unfold f_X3_get
      rw [if_neg (nI_lt0 (by omega)), if_neg (nI_ge (by omega) (by omega)), bdn _ (by omega) (by omega), nI_cl (by omega), x2]
    obtain ⟨r, tr3, i1, i2⟩ := ih (k + 1) f g (chg D.1 b x) tr2 (by omega) (by omega) (by omega) (tb_chg D.1 b hb x hxn)
    have eX : f_X9_judge_l7 12 r0 (nI D.1) (nI D.2.1) bp sc kd lk (nI K) ton (f + 1) (nI (rw_ D.1 b)) (nI k) = if bI (suitB D b x) = 0 then some (nI k) else f_X9_judge_l7 12 r0 (nI D.1) (nI D.2.1) bp sc kd lk (nI K) ton f (nI (rw_ D.1 (chg D.1 b x))) (nI (k + 1)) := by
      rw [f_X9_judge_l7.eq_2, if_neg (nI_ge (by omega) (by omega)), gt, Option.bind_some, E_changeSuits ok hx hb hxn, Option.bind_some, E_changed h6 hb hxn, Option.bind_some, show nI k + (1 : Int32) = nI (k + 1) from nI_1 k]
    have eY : f_X10_judge_l7 (nI K) mn bs st ykd ylk ri wh yrw all num (g + 1) (nI b) (nI k) tr = if bI (suitB D b x) = 0 then some (nI k, tr1) else f_X10_judge_l7 (nI K) mn bs st ykd ylk ri wh yrw all num g (nI (chg D.1 b x)) (nI (k + 1)) tr2 := by
      rw [f_X10_judge_l7.eq_2, if_neg (nI_ge (by omega) (by omega)), bdn _ (by omega) (by omega), nI_cl (by omega), x3, hd, Option.bind_some, bdn _ (by omega) (by omega), hbh, Option.bind_some, show nI k + (1 : Int32) = nI (k + 1) from nI_1 k]
    rw [eX, eY]
    cases suitB D b x
    · exact ⟨nI k, tr1, if_pos rfl, if_pos rfl⟩
    · exact ⟨r, tr3, by rw [if_neg (by decide)]; exact i1, by rw [if_neg (by decide)]; exact i2⟩
end CN
theorem toI32_and (z : Int64) : z.toInt32 &&& (255 : Int32) = (z &&& (255 : Int64)).toInt32 := by
  rw [Int64.toInt32_and]; rfl
theorem E_write_l (v : Int64) : ∀ (j k f g : Nat) (by_ : Nat → Int32), k + j ≤ 300 → j < f → j < g → ∃ by', f_X7_append_l19 f v (nI j - 1) (nI k) by_ = some (1, nI (k + j), by') ∧ f_X10_write_l34 g v (nI j - 1) (nI k) by_ = some (nI (k + j), nI (k + j), by') := by
  intro j
  induction j with
  | zero =>
    intro k f g b hk hf hg
    obtain ⟨f, rfl⟩ : ∃ q, f = q + 1 := ⟨f - 1, by omega⟩
    obtain ⟨g, rfl⟩ : ∃ q, g = q + 1 := ⟨g - 1, by omega⟩
    refine ⟨b, ?_, ?_⟩
    · rw [f_X7_append_l19.eq_2, if_pos (by decide), Nat.add_zero]
    · rw [f_X10_write_l34.eq_2, if_pos (by decide), Nat.add_zero]
  | succ j ih =>
    intro k f g b hk hf hg
    obtain ⟨f, rfl⟩ : ∃ q, f = q + 1 := ⟨f - 1, by omega⟩
    obtain ⟨g, rfl⟩ : ∃ q, g = q + 1 := ⟨g - 1, by omega⟩
    obtain ⟨b', i1, i2⟩ := ih (k + 1) f g (upd b k ((v >>> ((8 * nI j).toInt64 &&& 63)).toInt32 &&& (255 : Int32))) (by omega) (by omega) (by omega)
    have e : nI j + (-1 : Int32) = nI j - 1 := (Int32.sub_eq_add_neg (nI j) 1).symm
    refine ⟨b', ?_, ?_⟩
    · rw [f_X7_append_l19.eq_2, nI_s1 (by omega), show j + 1 - 1 = j by omega, if_neg (nI_lt0 (by omega)), bdn _ (by omega) (by omega), nI_cl (by omega), show nI k + (1 : Int32) = nI (k + 1) from nI_1 k, e, i1, show k + 1 + j = k + (j + 1) by omega]
    · rw [f_X10_write_l34.eq_2, nI_s1 (by omega), show j + 1 - 1 = j by omega, if_neg (nI_lt0 (by omega)), bdn _ (by omega) (by omega), nI_cl (by omega), show nI k + (1 : Int32) = nI (k + 1) from nI_1 k, e, ← toI32_and, i2, show k + 1 + j = k + (j + 1) by omega]
theorem in_eq2 (x : Int32) {lo k : Nat} (hl : lo < 2147483648) (hk : k < 2147483648) : f_X10_in (x.toInt64) (nI lo).toInt64 (nI k).toInt64 = some (if x < nI lo then 0 else if nI k < x then 0 else 1) := by
  unfold f_X10_in
  have h1 : (lg_cmp x.toInt64 (nI lo).toInt64 < 0) ↔ x < nI lo := by
    rw [lg_cmp_lt, Int64.lt_iff_toInt_lt, Int32.toInt_toInt64, Int32.toInt_toInt64, ← Int32.lt_iff_toInt_lt]
  have h2 : (0 < lg_cmp x.toInt64 (nI k).toInt64) ↔ nI k < x := by
    rw [lg_cmp_gt, Int64.lt_iff_toInt_lt, Int32.toInt_toInt64, Int32.toInt_toInt64, ← Int32.lt_iff_toInt_lt]
  simp only [h1, h2]
  split
  · rfl
  · split <;> rfl
