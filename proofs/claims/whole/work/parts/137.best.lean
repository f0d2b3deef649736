/-! sums, and the best arrangement -/
def Sm (f : Nat → Int) : Nat → Int
  | 0 => 0
  | k + 1 => Sm f k + f k
theorem Sm_cong {f g : Nat → Int} : ∀ {n : Nat}, (∀ k, k < n → f k = g k) → Sm f n = Sm g n
  | 0, _ => rfl
  | n + 1, h => by rw [Sm, Sm, Sm_cong (fun k hk => h k (by omega)), h n (by omega)]
theorem Sm_add (f g : Nat → Int) : ∀ n, Sm (fun k => f k + g k) n = Sm f n + Sm g n
  | 0 => rfl
  | n + 1 => by rw [Sm, Sm, Sm, Sm_add f g n]; omega
theorem Sm_zero : ∀ n, Sm (fun _ => 0) n = 0
  | 0 => rfl
  | n + 1 => by rw [Sm, Sm_zero n]; rfl
theorem Sm_swap (g : Nat → Nat → Int) (m : Nat) : ∀ n, Sm (fun i => Sm (fun p => g i p) m) n = Sm (fun p => Sm (fun i => g i p) n) m
  | 0 => (Sm_zero m).symm
  | n + 1 => by
    rw [Sm, Sm_swap g m n, ← Sm_add]
    exact Sm_cong (fun p _ => rfl)
theorem Sm_one (f : Nat → Int) {q : Nat} : ∀ {n : Nat}, q < n → Sm (fun p => if p = q then f p else 0) n = f q
  | 0, h => absurd h (by omega)
  | n + 1, h => by
    rw [Sm]
    by_cases e : n = q
    · subst e
      rw [if_pos rfl, Sm_cong (g := fun _ => 0) (fun k hk => if_neg (by omega)), Sm_zero, Int.zero_add]
    · rw [if_neg e, Int.add_zero, Sm_one f (by omega)]
/-- a sum over persons is the sum over places -/
theorem Sm_perm (f : Nat → Int) {n : Nat} {s t : Nat → Nat} (hs : ∀ i, i < n → s i < n) (ht : ∀ p, p < n → t p < n) (h1 : ∀ i, i < n → t (s i) = i) (h2 : ∀ p, p < n → s (t p) = p) : Sm (fun i => f (s i)) n = Sm f n := by
  have e1 : Sm (fun i => f (s i)) n = Sm (fun i => Sm (fun p => if p = s i then f p else 0) n) n := Sm_cong (fun i hi => (Sm_one f (hs i hi)).symm)
  rw [e1, Sm_swap (fun i p => if p = s i then f p else 0)]
  refine Sm_cong (fun p hp => ?_)
  have e2 : Sm (fun i => if p = s i then f p else 0) n = Sm (fun i => if i = t p then f p else 0) n := by
    refine Sm_cong (fun i hi => ?_)
    by_cases h : p = s i
    · rw [if_pos h, if_pos (by rw [h, h1 i hi])]
    · rw [if_neg h, if_neg (fun q => h (by rw [q, h2 p hp]))]
  rw [e2]
  exact Sm_one (fun _ => f p) (ht p hp)
def smw (D : HD) (a : Nat) : Int := Sm (wth D a) D.1
theorem Sm_bd {f : Nat → Int} {c : Int} (hc : 0 ≤ c) : ∀ {n : Nat}, (∀ k, k < n → -c ≤ f k ∧ f k ≤ c) → -(n * c) ≤ Sm f n ∧ Sm f n ≤ n * c
  | 0, _ => by simp [Sm]
  | n + 1, h => by
    have h1 := Sm_bd (n := n) hc (fun k hk => h k (by omega))
    have h2 := h n (by omega)
    have e : ((n + 1 : Nat) : Int) * c = n * c + c := by push_cast; rw [Int.add_mul, Int.one_mul]
    rw [Sm, e]
    omega
theorem smw_bd {D : HD} (ok : HOK D) {a : Nat} (ha : a < NN D.1) : -1200 ≤ smw D a ∧ smw D a ≤ 1200 := by
  have h := Sm_bd (f := wth D a) (c := 200) (by omega) (n := D.1) (fun k hk => wth_bd ok ha hk)
  have h6 := ok.2.1
  unfold smw
  omega
/-- the best of the first k arrangements, the lowest -/
def bst_ (D : HD) : Nat → Nat
  | 0 => 0
  | k + 1 => if smw D (bst_ D k) < smw D k then k else bst_ D k
theorem bst_lt (D : HD) : ∀ k, 0 < k → bst_ D k < k
  | 0, h => absurd h (by omega)
  | 1, _ => by unfold bst_; split <;> (try unfold bst_) <;> omega
  | k + 2, _ => by
    have := bst_lt D (k + 1) (by omega)
    unfold bst_
    split <;> omega
section BE
variable {D : HD} {bp sc kd lk mn bs st ykd ylk ri all num : Nat → Int32} {am : Int32}
theorem E_sum_l (ok : HOK D) (hx : HX D bp sc kd lk) {a : Nat} (ha : a < NN D.1) : ∀ (j k f : Nat), k + j = D.1 → j < f → f_X2_sumOfWorths_l4 (nI D.1) (nI D.2.1) bp sc lk f (nI (rw_ D.1 a)) (iI (Sm (wth D a) k)) (nI k) = some (iI (smw D a)) := by
  have h6 := ok.2.1
  intro j
  induction j with
  | zero =>
    intro k f hk hf
    obtain ⟨f, rfl⟩ : ∃ g, f = g + 1 := ⟨f - 1, by omega⟩
    rw [f_X2_sumOfWorths_l4.eq_2, if_pos (nI_le (by omega) (by omega)), show k = D.1 by omega]; rfl
  | succ j ih =>
    intro k f hk hf
    obtain ⟨f, rfl⟩ : ∃ g, f = g + 1 := ⟨f - 1, by omega⟩
    rw [f_X2_sumOfWorths_l4.eq_2, if_neg (nI_ge (by omega) (by omega)), E_worthAt ok hx ha (by omega), Option.bind_some, iI_add, show nI k + (1 : Int32) = nI (k + 1) from nI_1 k]
    exact ih (k + 1) f (by omega) (by omega)
theorem E_sum (ok : HOK D) (hx : HX D bp sc kd lk) {a : Nat} (ha : a < NN D.1) : f_X2_sumOfWorths (nI (rw_ D.1 a)) (nI D.1) (nI D.2.1) bp sc lk = some (iI (smw D a)) := by
  have h0 := NF_big
  have h6 := ok.2.1
  exact E_sum_l ok hx ha D.1 0 NF (by omega) (by omega)
def nxt (n k : Nat) : Int32 := if k < NN n then nI (rw_ n k) else -1
theorem E_best_l (ok : HOK D) (hx : HX D bp sc kd lk) {x1 : Int32} : ∀ (j k f : Nat), k + j = NN D.1 → 1 ≤ k → j < f → f_X9_best_l46 (nI D.1) (nI D.2.1) bp sc lk f x1 (nI (rw_ D.1 (bst_ D k))) (iI (smw D (bst_ D k))) (nxt D.1 k) (nI k) = f_X9_best_b102 (nI D.1) (nI D.2.1) bp sc lk x1 (nI (rw_ D.1 (bst_ D (NN D.1)))) (iI (smw D (bst_ D (NN D.1)))) := by
  have h6 := ok.2.1
  have hN := NN_le D.1
  intro j
  induction j with
  | zero =>
    intro k f hk h1 hf
    obtain ⟨f, rfl⟩ : ∃ g, f = g + 1 := ⟨f - 1, by omega⟩
    have e : k = NN D.1 := by omega
    rw [f_X9_best_l46.eq_2]
    by_cases h : (720 : Int32) ≤ nI k
    · rw [if_pos h, e]
    · rw [if_neg h, if_pos (show nxt D.1 k < 0 by unfold nxt; rw [if_neg (by omega)]; decide), e]
  | succ j ih =>
    intro k f hk h1 hf
    obtain ⟨f, rfl⟩ : ∃ g, f = g + 1 := ⟨f - 1, by omega⟩
    have hkN : k < NN D.1 := by omega
    have hb := bst_lt D k (by omega)
    have s1 := smw_bd ok hkN
    have s2 := smw_bd ok (show bst_ D k < NN D.1 by omega)
    have rs := tb_small D.1 k hkN
    have e1 : nxt D.1 k = nI (rw_ D.1 k) := by unfold nxt; rw [if_pos hkN]
    have e2 : f_X4_following (nI (rw_ D.1 k)) (nI D.1) = some (nxt D.1 (k + 1)) := tb_next D.1 k hkN
    have hstep := ih (k + 1) f (by omega) (by omega) (by omega)
    rw [show bst_ D (k + 1) = if smw D (bst_ D k) < smw D k then k else bst_ D k from rfl] at hstep
    rw [f_X9_best_l46.eq_2, if_neg (show ¬ (720 : Int32) ≤ nI k from nI_ge (b := 720) (by omega) (by omega)), e1, if_neg (nI_lt0 (by omega)), E_sum ok hx hkN, Option.bind_some]
    unfold f_X9_best_b82
    rw [e2, Option.bind_some, show nI k + (1 : Int32) = nI (k + 1) from nI_1 k]
    by_cases h : smw D (bst_ D k) < smw D k
    · rw [if_pos h] at hstep
      rw [if_neg (fun q => absurd ((iI_le (by omega) (by omega) (by omega) (by omega)).mp q) (by omega))]
      exact hstep
    · rw [if_neg h] at hstep
      rw [if_pos ((iI_le (by omega) (by omega) (by omega) (by omega)).mpr (by omega))]
      exact hstep
theorem E_bestY_i (ok : HOK D) (hy : HY D mn bs st ykd ylk ri) (tb : TB D.1 am all num) {a : Nat} {x1 x2 x3 : Int32} {aM : Int32} (ha : a < NN D.1) (K : Int32 → Int32 → Int32 → Int32 → Option Int32) : ∀ (j k f : Nat), k + j = D.1 → j < f → f_X10_best_l38 aM mn bs st ylk ri all K f x1 x2 x3 (nI a) (iI (Sm (fun i => wth D a (ps D.1 a i)) k)) (nI k) = (if iI (smw D a) ≤ x3 then K x1 x2 x3 (nI (a + 1)) else K x1 (nI a) (iI (smw D a)) (nI (a + 1))) := by
  have h6 := ok.2.1
  intro j
  induction j with
  | zero =>
    intro k f hk hf
    obtain ⟨f, rfl⟩ : ∃ g, f = g + 1 := ⟨f - 1, by omega⟩
    have e : Sm (fun i => wth D a (ps D.1 a i)) k = smw D a := by
      rw [show k = D.1 by omega]
      exact Sm_perm (wth D a) (s := ps D.1 a) (t := dg D.1 a) (fun i hi => (tb_ps D.1 a ha i hi).1) (fun p hp => tb_dg D.1 a ha p hp) (fun i hi => (tb_ps D.1 a ha i hi).2) (fun p hp => ps_dg ha hp)
    rw [f_X10_best_l38.eq_2, bd0, c0, hy.1, if_pos (nI_le (by omega) (by omega)), e]
    unfold f_X10_best_b80 f_X10_best_b93
    rw [show nI a + (1 : Int32) = nI (a + 1) from nI_1 a]
    by_cases h : iI (smw D a) ≤ x3
    · simp only [if_pos h]
    · simp only [if_neg h]
  | succ j ih =>
    intro k f hk hf
    obtain ⟨f, rfl⟩ : ∃ g, f = g + 1 := ⟨f - 1, by omega⟩
    rw [f_X10_best_l38.eq_2, bd0, c0, hy.1, if_neg (nI_ge (by omega) (by omega)), E_worthIn ok hy tb ha (by omega), Option.bind_some, iI_add, show nI k + (1 : Int32) = nI (k + 1) from nI_1 k]
    exact ih (k + 1) f (by omega) (by omega)
theorem E_bestY_l (ok : HOK D) (hy : HY D mn bs st ykd ylk ri) (tb : TB D.1 am all num) {x1 : Int32} : ∀ (j k f : Nat), k + j = NN D.1 → 1 ≤ k → j < f → f_X10_best_l23 am mn bs st ylk ri all f x1 (nI (bst_ D k)) (iI (smw D (bst_ D k))) (nI k) = (if 0 ≤ x1 then Option.bind (f_X10_whoIn (nI (bst_ D (NN D.1))) x1 all) (fun u => some u) else some ((10000 : Int32) + iI (smw D (bst_ D (NN D.1))))) := by
  have h6 := ok.2.1
  have hN := NN_le D.1
  have h0 := NF_big
  intro j
  induction j with
  | zero =>
    intro k f hk h1 hf
    obtain ⟨f, rfl⟩ : ∃ g, f = g + 1 := ⟨f - 1, by omega⟩
    have e : k = NN D.1 := by omega
    rw [f_X10_best_l23.eq_2, tb.1, if_pos (nI_le (by omega) (by omega)), e]
  | succ j ih =>
    intro k f hk h1 hf
    obtain ⟨f, rfl⟩ : ∃ g, f = g + 1 := ⟨f - 1, by omega⟩
    have hkN : k < NN D.1 := by omega
    have hb := bst_lt D k (by omega)
    have s1 := smw_bd ok hkN
    have s2 := smw_bd ok (show bst_ D k < NN D.1 by omega)
    have hstep := ih (k + 1) f (by omega) (by omega) (by omega)
    rw [show bst_ D (k + 1) = if smw D (bst_ D k) < smw D k then k else bst_ D k from rfl] at hstep
    rw [f_X10_best_l23.eq_2, tb.1, if_neg (nI_ge (by omega) (by omega))]
    rw [tb.1] at hstep
    have ei := E_bestY_i (x1 := x1) (x2 := nI (bst_ D k)) (x3 := iI (smw D (bst_ D k))) (aM := nI (NN D.1)) ok hy tb hkN (f_X10_best_l23 (nI (NN D.1)) mn bs st ylk ri all f) D.1 0 NF (by omega) (by omega)
    rw [show f_X10_best_l38 (nI (NN D.1)) mn bs st ylk ri all (f_X10_best_l23 (nI (NN D.1)) mn bs st ylk ri all f) NF x1 (nI (bst_ D k)) (iI (smw D (bst_ D k))) (nI k) (0 : Int32) (0 : Int32) = _ from ei]
    by_cases h : smw D (bst_ D k) < smw D k
    · rw [if_pos h] at hstep
      rw [if_neg (fun q => absurd ((iI_le (by omega) (by omega) (by omega) (by omega)).mp q) (by omega))]
      exact hstep
    · rw [if_neg h] at hstep
      rw [if_pos ((iI_le (by omega) (by omega) (by omega) (by omega)).mpr (by omega))]
      exact hstep
end BE
theorem all_cases {n : Nat} {mn : Nat → Int32} (hm : mn 0 = nI n) (h2 : 2 ≤ n) (h6 : n ≤ 6) (x : Int32) : (x ≠ -1 ∧ f_X9_isPlaceOrAll x (nI n) = some 0 ∧ f_X10_isPlace x mn = some 0) ∨ (x = -1 ∧ f_X9_isPlaceOrAll x (nI n) = some 1) ∨ ∃ j, j < n ∧ x = nI j ∧ x ≠ -1 ∧ f_X9_isPlaceOrAll x (nI n) = some 1 ∧ f_X10_isPlace x mn = some 1 := by
  unfold f_X9_isPlaceOrAll f_X9_isPlaceOrAll_b16
  by_cases h : x = -1
  · exact Or.inr (Or.inl ⟨h, if_pos h⟩)
  · rcases place_cases hm h2 h6 x with ⟨e1, e2⟩ | ⟨j, hj, e0, e1, e2⟩
    · refine Or.inl ⟨h, ?_, e2⟩
      rw [if_neg h, e1, Option.bind_some, if_pos rfl]
    · refine Or.inr (Or.inr ⟨j, hj, e0, h, ?_, e2⟩)
      rw [if_neg h, e1, Option.bind_some, if_neg (by decide)]
theorem NN_1 : ∀ n, n < 7 → 2 ≤ n → 1 < NN n := by decide +kernel
section BE2
variable {D : HD} {bp sc kd lk mn bs st ykd ylk ri all num : Nat → Int32} {am : Int32}
theorem E_best_x (ok : HOK D) (hx : HX D bp sc kd lk) {x1 : Int32} : Option.bind (f_X4_ordered (nI D.1)) (fun u_14 => Option.bind (f_X2_sumOfWorths u_14 (nI D.1) (nI D.2.1) bp sc lk) (fun u_16 => Option.bind (f_X4_following u_14 (nI D.1)) (fun u_18 => f_X9_best_l46 (nI D.1) (nI D.2.1) bp sc lk NF x1 u_14 u_16 u_18 (1 : Int32)))) = f_X9_best_b102 (nI D.1) (nI D.2.1) bp sc lk x1 (nI (rw_ D.1 (bst_ D (NN D.1)))) (iI (smw D (bst_ D (NN D.1)))) := by
  have h2 := ok.1
  have h6 := ok.2.1
  have h0 := NF_big
  have hN := NN_le D.1
  have h1 := NN_1 D.1 (by omega) h2
  have b1 : bst_ D 1 = 0 := by unfold bst_; split <;> rfl
  have e := E_best_l (x1 := x1) ok hx (NN D.1 - 1) 1 NF (by omega) (by omega) (by omega)
  rw [b1] at e
  rw [tb_first D.1 (by omega) h2, Option.bind_some, E_sum ok hx (by omega), Option.bind_some, show f_X4_following (nI (rw_ D.1 0)) (nI D.1) = some (nxt D.1 1) from tb_next D.1 0 (by omega), Option.bind_some]
  exact e
theorem E_best_y (ok : HOK D) (hy : HY D mn bs st ykd ylk ri) (tb : TB D.1 am all num) {x1 : Int32} : f_X10_best_b15 am mn bs st ylk ri all x1 = (if 0 ≤ x1 then Option.bind (f_X10_whoIn (nI (bst_ D (NN D.1))) x1 all) (fun u => some u) else some ((10000 : Int32) + iI (smw D (bst_ D (NN D.1))))) := by
  have h2 := ok.1
  have h6 := ok.2.1
  have h0 := NF_big
  have hN := NN_le D.1
  have h1 := NN_1 D.1 (by omega) h2
  have b1 : bst_ D 1 = 0 := by unfold bst_; split <;> rfl
  obtain ⟨f, hNF⟩ : ∃ g, NF = g + 1 := ⟨NF - 1, by omega⟩
  have s0 := smw_bd ok (show 0 < NN D.1 by omega)
  have ei := E_bestY_i (x1 := x1) (x2 := (0 : Int32)) (x3 := (-1000000 : Int32)) (aM := nI (NN D.1)) ok hy tb (show 0 < NN D.1 by omega) (f_X10_best_l23 (nI (NN D.1)) mn bs st ylk ri all f) D.1 0 NF (by omega) (by omega)
  have el := E_bestY_l (x1 := x1) ok hy tb (NN D.1 - 1) 1 f (by omega) (by omega) (by omega)
  rw [b1, tb.1] at el
  unfold f_X10_best_b15
  rw [show f_X10_best_l23 am mn bs st ylk ri all NF x1 (0 : Int32) (-1000000 : Int32) (0 : Int32) = f_X10_best_l38 (nI (NN D.1)) mn bs st ylk ri all (f_X10_best_l23 (nI (NN D.1)) mn bs st ylk ri all f) NF x1 (0 : Int32) (-1000000 : Int32) (0 : Int32) (0 : Int32) (0 : Int32) by
    rw [hNF, f_X10_best_l23.eq_2, tb.1, if_neg (show ¬ nI (NN D.1) ≤ (0 : Int32) from nI_ge (a := 0) (by omega) (by omega)), ← hNF]]
  rw [show f_X10_best_l38 (nI (NN D.1)) mn bs st ylk ri all (f_X10_best_l23 (nI (NN D.1)) mn bs st ylk ri all f) NF x1 (0 : Int32) (-1000000 : Int32) (0 : Int32) (0 : Int32) (0 : Int32) = _ from ei]
  rw [if_neg (show ¬ iI (smw D 0) ≤ (-1000000 : Int32) from fun q => absurd ((iI_le (b := -1000000) (by omega) (by omega) (by omega) (by omega)).mp q) (by omega))]
  exact el
end BE2
