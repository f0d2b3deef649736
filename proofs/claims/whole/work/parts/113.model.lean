/-! the reference's own functions, over its tables -/
theorem E_whoIn {n a p : Nat} {am : Int32} {all num : Nat → Int32} (tb : TB n am all num) (hn : n ≤ 6) (ha : a < NN n) (hp : p < n) : f_X10_whoIn (nI a) (nI p) all = some (nI (dg n a p)) := by
  have h7 := NN_le n
  unfold f_X10_whoIn
  rw [show (6 : Int32) * nI a + nI p = nI (6 * a + p) from nI_ma 6 a p, bdn _ (by omega) (by omega), nI_cl (by omega), tb.2.1 a ha p hp]
theorem E_placeIn_l {n a i : Nat} {am : Int32} {all num : Nat → Int32} (tb : TB n am all num) (hn : n ≤ 6) (ha : a < NN n) (hi : i < n) : ∀ (j p f : Nat), p + j = ps n a i → j < f → f_X10_placeIn_l2 all f (nI a) (nI i) (nI p) = some (nI (ps n a i)) := by
  obtain ⟨h1, h2⟩ := tb_ps n a ha i hi
  intro j
  induction j with
  | zero =>
    intro p f hp hf
    obtain ⟨f, rfl⟩ : ∃ g, f = g + 1 := ⟨f - 1, by omega⟩
    have hp' : p = ps n a i := by omega
    rw [f_X10_placeIn_l2.eq_2, E_whoIn tb hn ha (by omega), Option.bind_some, hp', h2, if_pos rfl]
  | succ j ih =>
    intro p f hp hf
    obtain ⟨f, rfl⟩ : ∃ g, f = g + 1 := ⟨f - 1, by omega⟩
    have hpn : p < n := by omega
    have hd := tb_dg n a ha p hpn
    rw [f_X10_placeIn_l2.eq_2, E_whoIn tb hn ha hpn, Option.bind_some, if_neg, show nI p + (1 : Int32) = nI (p + 1) from nI_1 p, ih (p + 1) f (by omega) (by omega)]
    intro h
    have h3 := (nI_eq (by omega) (by omega)).mp h
    have h4 := tb_inj n a ha p hpn _ h1 (by rw [h2]; exact h3)
    omega
theorem NF_big : 47000 < NF := by decide
theorem E_placeIn {n a i : Nat} {am : Int32} {all num : Nat → Int32} (tb : TB n am all num) (hn : n ≤ 6) (ha : a < NN n) (hi : i < n) : f_X10_placeIn (nI a) (nI i) all = some (nI (ps n a i)) := by
  unfold f_X10_placeIn
  have h1 := (tb_ps n a ha i hi).1
  have h2 := NF_big
  exact E_placeIn_l tb hn ha hi (ps n a i) 0 NF (by omega) (by omega)
/-- the code of the first k digits -/
def cdk (q : Nat → Nat) : Nat → Nat
  | 0 => 0
  | k + 1 => 6 * cdk q k + q k
theorem cdk_fold (r : Nat) : ∀ k, (List.range k).foldl (fun v p => 6 * v + wd r p) 0 = cdk (wd r) k
  | 0 => rfl
  | k + 1 => by rw [List.range_succ, List.foldl_append, cdk_fold r k]; rfl
theorem cdk_cong {q q' : Nat → Nat} : ∀ {k : Nat}, (∀ p, p < k → q p = q' p) → cdk q k = cdk q' k
  | 0, _ => rfl
  | k + 1, h => by rw [cdk, cdk, cdk_cong (fun p hp => h p (by omega)), h k (by omega)]
theorem cdk_cd {n a : Nat} (ha : a < NN n) : cdk (dg n a) n = cd_ n a := by
  rw [← (tb_code n a ha).1]
  exact (cdk_fold (rw_ n a) n).symm
theorem E_code_l {n nq : Nat} {mn q : Nat → Int32} {w : Nat → Nat} (hm : mn 0 = nI n) (hn : n ≤ 6) (hq : n ≤ nq) (hq2 : nq ≤ 100) (hw : ∀ p, p < n → q p = nI (w p)) : ∀ (j k f : Nat), k + j = n → j < f → f_X10_code_l5 nq mn q f (0 : Int32) (nI (cdk w k)) (nI k) = some (nI (cdk w n)) := by
  intro j
  induction j with
  | zero =>
    intro k f hk hf
    obtain ⟨f, rfl⟩ : ∃ g, f = g + 1 := ⟨f - 1, by omega⟩
    have : k = n := by omega
    subst this
    rw [f_X10_code_l5.eq_2, bd0, c0, hm, if_pos (nI_le (Nat.le_refl _) (by omega))]
  | succ j ih =>
    intro k f hk hf
    obtain ⟨f, rfl⟩ : ∃ g, f = g + 1 := ⟨f - 1, by omega⟩
    rw [f_X10_code_l5.eq_2, bd0, c0, hm, if_neg (nI_ge (by omega) (by omega)), show (0 : Int32) + nI k = nI k by rw [show (0 : Int32) = nI 0 from rfl, nI_add, Nat.zero_add], bdn _ (by omega) (by omega), nI_cl (by omega), hw k (by omega), show (6 : Int32) * nI (cdk w k) + nI (w k) = nI (cdk w (k + 1)) from nI_ma 6 _ _, show nI k + (1 : Int32) = nI (k + 1) from nI_1 k, ih (k + 1) f (by omega) (by omega)]
theorem E_code {n nq : Nat} {mn q : Nat → Int32} {w : Nat → Nat} (hm : mn 0 = nI n) (hn : n ≤ 6) (hq : n ≤ nq) (hq2 : nq ≤ 100) (hw : ∀ p, p < n → q p = nI (w p)) : f_X10_code (0 : Int32) nq mn q = some (nI (cdk w n)) := by
  unfold f_X10_code
  have h2 := NF_big
  exact E_code_l hm hn hq hq2 hw n 0 NF (by omega) (by omega)
theorem E_now {n a : Nat} {am : Int32} {all num mn wh : Nat → Int32} (tb : TB n am all num) (hm : mn 0 = nI n) (hn : n ≤ 6) (ha : a < NN n) (hw : ∀ p, p < n → wh p = nI (dg n a p)) : f_X10_now mn wh num = some (nI a) := by
  unfold f_X10_now
  have hc := (tb_code n a ha).2
  rw [E_code hm hn (by omega) (by omega) hw, Option.bind_some, cdk_cd ha, bdn _ hc (by omega), nI_cl (by omega), tb.2.2 a ha]
theorem nI_rem {n x : Nat} (h : x < 1000) (hn : 0 < n) (h6 : n < 1000) : nI x - nI x / nI n * nI n = nI (x % n) := pk_rem (by omega) hn (by omega)
theorem mod1 : ∀ n, n < 7 → ∀ x, x < n → (x + 1) % n = aft n x := by decide +kernel
theorem mod2 : ∀ n, n < 7 → ∀ x, x < n → (x + 2) % n = aft n (aft n x) := by decide +kernel
theorem mod0 : ∀ n, n < 7 → ∀ x, x < n → (x + 0) % n = x := by decide +kernel
/-- filling the trial row -/
theorem E_behind_l {n a x : Nat} {t3 am : Int32} {all num mn : Nat → Int32} (tb : TB n am all num) (hn : n ≤ 6) (ha : a < NN n) (P : Option (Int32 × (Nat → Int32)) → Prop) :
    ∀ (j p f : Nat) (tr : Nat → Int32), p + j = n → j < f → (∀ q, q < p → tr q = nI (dg n a q)) → (∀ (g : Nat) (tr' : Nat → Int32), (∀ q, q < n → tr' q = nI (dg n a q)) → P (f_X10_behind_l11 mn all num (g + 1) (nI a) (nI x) t3 (nI n) (nI n) tr')) → P (f_X10_behind_l11 mn all num f (nI a) (nI x) t3 (nI n) (nI p) tr) := by
  intro j
  induction j with
  | zero =>
    intro p f tr hp hf ht hk
    obtain ⟨f, rfl⟩ : ∃ g, f = g + 1 := ⟨f - 1, by omega⟩
    have : p = n := by omega
    subst this
    exact hk f tr ht
  | succ j ih =>
    intro p f tr hp hf ht hk
    obtain ⟨f, rfl⟩ : ∃ g, f = g + 1 := ⟨f - 1, by omega⟩
    rw [f_X10_behind_l11.eq_2, if_neg (nI_ge (by omega) (by omega)), E_whoIn tb hn ha (by omega), Option.bind_some, bdn _ (by omega) (by omega), nI_cl (by omega), show nI p + (1 : Int32) = nI (p + 1) from nI_1 p]
    refine ih (p + 1) f _ (by omega) (by omega) (fun q hq => ?_) hk
    by_cases h : q = p
    · subst h; exact pk_us
    · rw [pk_un h]; exact ht q (by omega)
theorem E_behind_b {n b : Nat} {am : Int32} {all num mn tr : Nat → Int32} (tb : TB n am all num) (hm : mn 0 = nI n) (hn : n ≤ 6) (hb : b < NN n) (ht : ∀ p, p < n → tr p = nI (dg n b p)) : f_X10_behind_b127 mn all num tr = some (nI b, tr) := by
  unfold f_X10_behind_b127
  have hc := (tb_code n b hb).2
  rw [E_code hm hn (by omega) (by omega) ht, Option.bind_some, cdk_cd hb, bdn _ hc (by omega), nI_cl (by omega), tb.2.2 b hb]
theorem E_behind0 {n a x : Nat} {am : Int32} {all num mn tr : Nat → Int32} (tb : TB n am all num) (hm : mn 0 = nI n) (h2 : 2 ≤ n) (hn : n ≤ 6) (ha : a < NN n) (hx : x < n) : ∃ tr', f_X10_behind (nI a) (nI x) (0 : Int32) mn all num tr = some (nI (chg n a x), tr') := by
  have hy := aft_lt n (by omega) x hx
  have hne := aft_inj2 n (by omega) h2 x hx
  have hb := tb_chg n a ha x hx
  have hNF := NF_big
  unfold f_X10_behind
  rw [bd0, c0, hm]
  refine E_behind_l tb hn ha (fun o => ∃ t, o = some (nI (chg n a x), t)) n 0 NF tr (by omega) (by omega) (fun q hq => absurd hq (by omega)) (fun g tr' ht => ?_)
  have hz : ¬ nI n = 0 := nI_ne0 (by omega) (by omega)
  rw [f_X10_behind_l11.eq_2, if_pos (nI_le (Nat.le_refl _) (by omega)), dz_ok _ hz, dz_ok _ hz, if_pos rfl, E_whoIn tb hn ha hx, Option.bind_some, show nI x + (1 : Int32) = nI (x + 1) from nI_1 x, nI_rem (by omega) (by omega) (by omega), mod1 n (by omega) x hx, bdn _ (by omega) (by omega), E_whoIn tb hn ha hy, Option.bind_some, bdn _ (by omega) (by omega), nI_cl (by omega), nI_cl (by omega)]
  refine ⟨_, E_behind_b tb hm hn hb (fun p hp => ?_)⟩
  rw [tb_dch n a ha x hx p hp]
  by_cases h1 : p = x
  · subst h1; rw [pk_us, if_pos rfl]
  · rw [pk_un h1, if_neg h1]
    by_cases h3 : p = aft n x
    · subst h3; rw [pk_us, if_pos rfl]
    · rw [pk_un h3, if_neg h3]; exact ht p hp
theorem aft3 : ∀ n, n < 7 → 3 ≤ n → ∀ x, x < n → aft n (aft n x) ≠ x ∧ aft n (aft n x) ≠ aft n x ∧ aft n x ≠ x := by decide +kernel
theorem E_behind1 {n a x : Nat} {am t3 : Int32} {all num mn tr : Nat → Int32} (h3 : ¬ t3 = 0) (tb : TB n am all num) (hm : mn 0 = nI n) (h2 : 3 ≤ n) (hn : n ≤ 6) (ha : a < NN n) (hx : x < n) : ∃ tr', f_X10_behind (nI a) (nI x) t3 mn all num tr = some (nI (trn n a x), tr') := by
  have hy := aft_lt n (by omega) x hx
  have hz' := aft_lt n (by omega) _ hy
  obtain ⟨k1, k2, k3⟩ := aft3 n (by omega) h2 x hx
  have hc := tb_chg n a ha _ hy
  have hb := trn_lt hn ha hx
  have hNF := NF_big
  unfold f_X10_behind
  rw [bd0, c0, hm]
  refine E_behind_l tb hn ha (fun o => ∃ t, o = some (nI (trn n a x), t)) n 0 NF tr (by omega) (by omega) (fun q hq => absurd hq (by omega)) (fun g tr' ht => ?_)
  have hz : ¬ nI n = 0 := nI_ne0 (by omega) (by omega)
  rw [f_X10_behind_l11.eq_2, if_pos (nI_le (Nat.le_refl _) (by omega)), dz_ok _ hz, dz_ok _ hz, if_neg h3, E_whoIn tb hn ha hx, Option.bind_some, show nI x + (1 : Int32) = nI (x + 1) from nI_1 x, show nI x + (2 : Int32) = nI (x + 2) from nI_add x 2, nI_rem (by omega) (by omega) (by omega), nI_rem (by omega) (by omega) (by omega), mod1 n (by omega) x hx, mod2 n (by omega) x hx, bdn _ (by omega) (by omega), E_whoIn tb hn ha hy, Option.bind_some, bdn _ (by omega) (by omega), E_whoIn tb hn ha hz', Option.bind_some, bdn _ (by omega) (by omega), nI_cl (by omega), nI_cl (by omega), nI_cl (by omega)]
  refine ⟨_, E_behind_b tb hm hn hb (fun p hp => ?_)⟩
  show _ = nI (dg n (chg n (chg n a (aft n x)) x) p)
  rw [tb_dch n _ hc x hx p hp]
  by_cases h1 : p = x
  · subst h1
    rw [pk_us, if_pos rfl, tb_dch n a ha _ hy _ hy, if_pos rfl]
  · rw [pk_un h1, if_neg h1]
    by_cases h4 : p = aft n x
    · subst h4
      rw [if_pos rfl, pk_un (Ne.symm k2), pk_us, tb_dch n a ha _ hy x hx, if_neg (Ne.symm k3), if_neg (Ne.symm k1)]
    · rw [if_neg h4, tb_dch n a ha _ hy p hp, if_neg h4]
      by_cases h5 : p = aft n (aft n x)
      · subst h5; rw [if_pos rfl, pk_us]
      · rw [if_neg h5, pk_un h5, pk_un h4]; exact ht p hp
theorem E_farY {n rg x y : Nat} {mn ri : Nat → Int32} (hm : mn 0 = nI n) (hr : ri 0 = nI rg) (hn : n < 7) (hg : rg < 2) (hx : x < n) (hy : y < n) : f_X10_far (nI x) (nI y) mn ri = some (nI (far_ n rg x y)) := by
  have h := E_far n hn rg hg x hx y hy
  rw [← h]
  unfold f_X10_far f_X2_far f_X10_far_b14 f_X2_far_b14
  simp only [bd0, c0, hm, hr]
  rcases (show rg = 0 ∨ rg = 1 by omega) with rfl | rfl
  · rw [if_neg (show ¬ nI 0 = 1 by decide), if_neg (show ¬ nI 0 = 1 by decide), if_pos (show nI 0 = 0 from rfl), if_pos (show nI 0 = 0 from rfl)]
  · rw [if_pos (show nI 1 = 1 from rfl), if_pos (show nI 1 = 1 from rfl), if_neg (show ¬ nI 1 = 0 by decide), if_neg (show ¬ nI 1 = 0 by decide)]
theorem E_worthIn {D : HD} {mn bs st kd lk ri all num : Nat → Int32} {am : Int32} (ok : HOK D) (hy : HY D mn bs st kd lk ri) (tb : TB D.1 am all num) {a i : Nat} (ha : a < NN D.1) (hi : i < D.1) : f_X10_worthIn (nI a) (nI i) mn bs st lk ri all = some (iI (wth D a (ps D.1 a i))) := by
  obtain ⟨n, rg, bst, stp, knd, lik⟩ := D
  obtain ⟨h2, h6, hr, hb, hs, hk, hl⟩ := ok
  obtain ⟨ym, yr, yb, ys, yk, yl⟩ := hy
  dsimp only at h2 h6 hr hb hs hk hl ym yr yb ys yk yl ha hi tb ⊢
  have n7 : n < 7 := by omega
  obtain ⟨hp, hpd⟩ := tb_ps n a ha i hi
  generalize hpe : ps n a i = p at hp hpd ⊢
  have hlf := lft_lt n n7 p hp
  have haf := aft_lt n n7 p hp
  have il := tb_dg n a ha _ hlf
  have ir := tb_dg n a ha _ haf
  have e2 : (100 : Int32) - nI (stp i) * nI (far_ n rg p (bst i)) = iI (100 - (stp i : Int) * (far_ n rg p (bst i) : Int)) := by
    rw [nI_iI, nI_iI, iI_mul, show (100 : Int32) = iI 100 from rfl, iI_sub]
  have eL : ∀ q, q < n → ∀ k : Int32 → Option Int32, (Option.bind (f_X10_whoIn (nI a) (nI q) all) (fun u => bd ((6 : Int32) * nI i + u) 72 (k (lk ((6 : Int32) * nI i + u).toNatClampNeg - (50 : Int32))))) = k (iI ((lik i (dg n a q) : Int) - 50)) := by
    intro q hq k
    have iq := tb_dg n a ha q hq
    rw [E_whoIn tb h6 ha hq, Option.bind_some, show (6 : Int32) * nI i + nI (dg n a q) = nI (6 * i + dg n a q) from nI_ma 6 _ _, bdn _ (by omega) (by omega), nI_cl (by omega), yl _ hi _ iq, nI_iI, show (50 : Int32) = iI 50 from rfl, iI_sub]
  unfold f_X10_worthIn
  rw [bd0, E_placeIn tb h6 ha hi, hpe, Option.bind_some, bdn _ (by omega) (by omega), bdn _ (by omega) (by omega), nI_cl (by omega), c0, yb _ hi, E_farY ym yr n7 (by omega) hp (hb _ hi), Option.bind_some, ys _ hi, e2, ym, yr, bd0, show nI p + (1 : Int32) = nI (p + 1) from nI_1 p]
  -- what the left brings, behind the right
  have eB : ∀ (x6 : Int32) (z1 z2 : Int), f_X10_worthIn_b135 mn bs st lk ri all (nI a) (nI i) x6 (-4 : Int32) (iI z1) (iI z2) = some (iI (z2 + z1)) := by
    intro x6 z1 z2
    unfold f_X10_worthIn_b135 f_X10_worthIn_b175 f_X10_worthIn_b176
    rw [if_pos (by decide), iI_add, show (0 : Int32) = iI 0 from rfl, iI_add, Int.add_zero]
  have eC : ∀ (x6 : Int32) (z1 z2 : Int), f_X10_worthIn_b135 mn bs st lk ri all (nI a) (nI i) x6 (nI (lft n p)) (iI z1) (iI z2) = some (iI (z2 + z1 + (if nI (lft n p) = x6 then 0 else (lik i (dg n a (lft n p)) : Int) - 50))) := by
    intro x6 z1 z2
    unfold f_X10_worthIn_b135 f_X10_worthIn_b175 f_X10_worthIn_b176
    rw [if_neg (nI_lt0 (by omega))]
    by_cases h : nI (lft n p) = x6
    · rw [if_pos h, if_pos h, iI_add, show (0 : Int32) = iI 0 from rfl, iI_add]
    · rw [if_neg h, if_neg h, eL _ hlf (fun t => some (iI z2 + iI z1 + t)), iI_add, iI_add]
  have eD : ∀ (x5 : Int) (t0 : Int32), f_X10_worthIn_b102 mn bs st lk ri all (nI a) (nI i) (iI x5) (-4 : Int32) t0 = f_X10_worthIn_b135 mn bs st lk ri all (nI a) (nI i) (-4 : Int32) t0 (iI 0) (iI x5) := by
    intro x5 t0
    unfold f_X10_worthIn_b102
    rw [if_pos (by decide), zI]
  have eE : ∀ (x5 : Int) (t0 : Int32), f_X10_worthIn_b102 mn bs st lk ri all (nI a) (nI i) (iI x5) (nI (aft n p)) t0 = f_X10_worthIn_b135 mn bs st lk ri all (nI a) (nI i) (nI (aft n p)) t0 (iI ((lik i (dg n a (aft n p)) : Int) - 50)) (iI x5) := by
    intro x5 t0
    unfold f_X10_worthIn_b102
    rw [if_neg (nI_lt0 (by omega)), eL _ haf (fun t => f_X10_worthIn_b135 mn bs st lk ri all (nI a) (nI i) (nI (aft n p)) t0 t (iI x5))]
  simp only [f_X10_worthIn_b70, bd0, c0, yr]
  unfold wth
  dsimp only
  rw [hpd]
  have w1 : p ≠ 0 → nI p - (1 : Int32) = nI (lft n p) := by
    intro h
    unfold lft
    rw [if_neg h]; exact nI_s1 (by omega)
  have w0 : p = 0 → nI n - (1 : Int32) = nI (lft n p) := by
    intro h
    unfold lft
    rw [if_pos h]; exact nI_s1 (by omega)
  have a1 : p + 1 < n → nI (p + 1) = nI (aft n p) := by
    intro h; unfold aft; rw [if_pos h]
  have a0 : ¬ p + 1 < n → (0 : Int32) = nI (aft n p) := by
    intro h; unfold aft; rw [if_neg h]; rfl
  have cm : ∀ x y : Int, x = y → some (iI x) = some (iI y) := fun x y h => by rw [h]
  have up := aft_up n n7 p hp
  generalize (100 - (stp i : Int) * (far_ n rg p (bst i) : Int)) = z
  generalize hL : (lik i (dg n a (lft n p)) : Int) - 50 = lv at eC ⊢
  generalize hRr : (lik i (dg n a (aft n p)) : Int) - 50 = rv at eE ⊢
  generalize hw : (z + (if rg = 1 ∨ 0 < p then lv else 0) + (if (rg = 1 ∧ aft n p ≠ lft n p) ∨ (rg = 0 ∧ p < aft n p) then rv else 0)) = w
  have same : lft n p = aft n p → lv = rv := fun h => by rw [← hL, ← hRr, h]
  rcases (show rg = 0 ∨ rg = 1 by omega) with hg | hg
  · have g0 : ¬ nI rg = (1 : Int32) := by rw [hg]; decide
    simp only [if_neg g0]
    by_cases h1 : p + 1 < n
    · rw [if_neg (nI_ge h1 (by omega))]
      by_cases h0 : p = 0
      · rw [if_pos ((nI_le0 (by omega)).mpr h0), a1 h1, eE, eB]
        refine cm _ _ ?_
        rw [← hw, if_neg (by omega), if_pos (Or.inr ⟨hg, up.mpr h1⟩)]
        omega
      · have hne : ¬ nI (lft n p) = nI (aft n p) := by
          intro h
          have h := (nI_eq (by omega) (by omega)).mp h
          have q1 := up.mpr h1
          unfold lft at h
          rw [if_neg h0] at h
          omega
        rw [if_neg (fun h => h0 ((nI_le0 (by omega)).mp h)), w1 h0, a1 h1, eE, eC, if_neg hne]
        refine cm _ _ ?_
        rw [← hw, if_pos (Or.inr (by omega)), if_pos (Or.inr ⟨hg, up.mpr h1⟩)]
        omega
    · rw [if_pos (nI_le (by omega) (by omega))]
      have h0 : p ≠ 0 := by omega
      rw [if_neg (fun h => h0 ((nI_le0 (by omega)).mp h)), w1 h0, eD, eC, if_neg (show ¬ nI (lft n p) = (-4 : Int32) from fun h => absurd (show nI (lft n p) < 0 by rw [h]; decide) (nI_lt0 (by omega)))]
      refine cm _ _ ?_
      rw [← hw, if_pos (Or.inr (by omega)), if_neg (by rintro (⟨q, _⟩ | ⟨_, q⟩); exact absurd q (by omega); exact h1 (up.mp q))]
      omega
  · have g1 : nI rg = (1 : Int32) := by rw [hg]; rfl
    simp only [if_pos g1]
    have fin : f_X10_worthIn_b102 mn bs st lk ri all (nI a) (nI i) (iI z) (nI (aft n p)) (nI (lft n p)) = some (iI w) := by
      rw [eE, eC]
      refine cm _ _ ?_
      by_cases h : lft n p = aft n p
      · have := same h
        rw [← hw, if_pos (by rw [h]), if_pos (Or.inl hg), if_neg (by rintro (⟨_, q⟩ | ⟨q, _⟩); exact q h.symm; exact absurd q (by omega))]
        omega
      · rw [← hw, if_neg (fun q => h ((nI_eq (by omega) (by omega)).mp q)), if_pos (Or.inl hg), if_pos (Or.inl ⟨hg, fun q => h q.symm⟩)]
        omega
    by_cases h1 : p + 1 < n
    · rw [if_neg (nI_ge h1 (by omega)), a1 h1]
      by_cases h0 : p = 0
      · rw [if_pos ((nI_le0 (by omega)).mpr h0), w0 h0]; exact fin
      · rw [if_neg (fun h => h0 ((nI_le0 (by omega)).mp h)), w1 h0]; exact fin
    · have h0 : p ≠ 0 := by omega
      have q0 : ¬ nI p ≤ 0 := fun h => h0 ((nI_le0 (by omega)).mp h)
      rw [if_pos (nI_le (by omega) (by omega)), if_neg q0, a0 h1, w1 h0]; exact fin
