/-! what suits, in the reference -/
theorem ps_dg {n a p : Nat} (ha : a < NN n) (hp : p < n) : ps n a (dg n a p) = p := by
  have hi := tb_dg n a ha p hp
  obtain ⟨h1, h2⟩ := tb_ps n a ha _ hi
  exact tb_inj n a ha _ h1 p hp h2
theorem ps_of {n a p i : Nat} (ha : a < NN n) (hp : p < n) (h : dg n a p = i) : ps n a i = p := by rw [← h]; exact ps_dg ha hp
theorem E_agreesY {k : Nat} {x y : Int} (hk : k ≤ 4) (h1 : -10000 ≤ x) (h2 : x ≤ 10000) (h3 : -10000 ≤ y) (h4 : y ≤ 10000) : f_X10_agrees (nI k) (iI x) (iI y) = some (bI (agr k x y)) := by
  unfold f_X10_agrees agr
  rcases (show k = 0 ∨ k = 1 ∨ k = 2 ∨ k = 3 ∨ k = 4 by omega) with rfl | rfl | rfl | rfl | rfl
  · rw [if_pos (show nI 0 = (0 : Int32) from rfl), if_pos (show (0 : Nat) = 0 from rfl)]
    by_cases h : x < y
    · rw [if_neg (fun q => absurd ((iI_le (by omega) (by omega) (by omega) (by omega)).mp q) (by omega)), decide_eq_true h]; rfl
    · rw [if_pos ((iI_le (by omega) (by omega) (by omega) (by omega)).mpr (by omega)), decide_eq_false h]; rfl
  · rw [if_neg (show ¬ nI 1 = (0 : Int32) by decide), if_pos (show nI 1 = (1 : Int32) from rfl), if_neg (show ¬ (1 : Nat) = 0 by omega), if_pos (show (1 : Nat) = 1 from rfl)]
    by_cases h : x ≤ y
    · rw [if_neg (fun q => absurd ((iI_lt (by omega) (by omega) (by omega) (by omega)).mp q) (by omega)), decide_eq_true h]; rfl
    · rw [if_pos ((iI_lt (by omega) (by omega) (by omega) (by omega)).mpr (by omega)), decide_eq_false h]; rfl
  · rw [if_neg (show ¬ nI 2 = (0 : Int32) by decide), if_neg (show ¬ nI 2 = (1 : Int32) by decide), if_pos (show nI 2 = (2 : Int32) from rfl), if_neg (show ¬ (2 : Nat) = 0 by omega), if_neg (show ¬ (2 : Nat) = 1 by omega), if_pos (show (2 : Nat) = 2 from rfl), show (10 : Int32) = iI 10 from rfl, iI_add]
    by_cases h : x + 10 ≤ y
    · rw [if_neg (fun q => absurd ((iI_lt (by omega) (by omega) (by omega) (by omega)).mp q) (by omega)), decide_eq_true h]; rfl
    · rw [if_pos ((iI_lt (by omega) (by omega) (by omega) (by omega)).mpr (by omega)), decide_eq_false h]; rfl
  · rfl
  · rfl
section MS
variable {D : HD} {mn bs st kd lk ri all num : Nat → Int32} {am : Int32}
/-- one more person asked -/
def ask (D : HD) (a b x k : Nat) : Bool := agr (D.2.2.2.2.1 (dg D.1 a ((x + k) % D.1))) (wth D a ((x + k) % D.1)) (wth D b (ps D.1 b (dg D.1 a ((x + k) % D.1))))
theorem E_ds_b (ok : HOK D) (hy : HY D mn bs st kd lk ri) (tb : TB D.1 am all num) {a b x k lim : Nat} {t3 : Int32} {tr : Nat → Int32} {s : Bool} (ha : a < NN D.1) (hb : b < NN D.1) (hx : x < D.1) (hk : k < lim) (hl : lim ≤ 3) (K : Int32 → Int32 → Int32 → Int32 → Int32 → Int32 → (Nat → Int32) → Option (Int32 × (Nat → Int32))) :
    f_X10_doesSuit_b26 mn bs st kd lk ri all num K (nI a) (nI x) t3 (nI b) (bI s) (nI k) (nI lim) (nI k) tr = K (nI a) (nI x) t3 (nI b) (bI (s && ask D a b x k)) (nI (k + 1)) tr := by
  have h2 := ok.1
  have h6 := ok.2.1
  have hq : (x + k) % D.1 < D.1 := Nat.mod_lt _ (by omega)
  have hi := tb_dg D.1 a ha _ hq
  have hkd := ok.2.2.2.2.2.1 _ hi
  have hz : ¬ nI D.1 = 0 := nI_ne0 (by omega) (by omega)
  obtain ⟨hpb, -⟩ := tb_ps D.1 b hb _ hi
  have w1 := wth_bd ok ha hq
  have w2 := wth_bd ok hb hpb
  unfold f_X10_doesSuit_b26 f_X10_doesSuit_b84 f_X10_doesSuit_b85
  rw [if_neg (nI_ge hk (by omega)), bd0, c0, hy.1, dz_ok _ hz, nI_add, nI_rem (by omega) (by omega) (by omega), E_whoIn tb h6 ha hq, Option.bind_some, show nI k + (1 : Int32) = nI (k + 1) from nI_1 k]
  cases s with
  | false => rw [if_pos (show bI false = 0 from rfl)]; rfl
  | true =>
    rw [if_neg (show ¬ bI true = 0 by decide), bdn _ (by omega) (by omega), E_worthIn ok hy tb ha hi, Option.bind_some, E_worthIn ok hy tb hb hi, Option.bind_some, nI_cl (by omega), hy.2.2.2.2.1 _ hi, ps_dg ha hq, E_agreesY hkd (by omega) (by omega) (by omega) (by omega), Option.bind_some, Bool.true_and]
    unfold ask
    cases agr (D.2.2.2.2.1 (dg D.1 a ((x + k) % D.1))) (wth D a ((x + k) % D.1)) (wth D b (ps D.1 b (dg D.1 a ((x + k) % D.1))))
    · rw [if_pos (show bI false = 0 from rfl)]; rfl
    · rw [if_neg (show ¬ bI true = 0 by decide)]; rfl
theorem E_ds_e {a b x lim : Nat} {t3 : Int32} {tr : Nat → Int32} {s : Bool} (hl : lim ≤ 3) (K : Int32 → Int32 → Int32 → Int32 → Int32 → Int32 → (Nat → Int32) → Option (Int32 × (Nat → Int32))) :
    f_X10_doesSuit_b26 mn bs st kd lk ri all num K (nI a) (nI x) t3 (nI b) (bI s) (nI lim) (nI lim) (nI lim) tr = some (bI s, tr) := by
  unfold f_X10_doesSuit_b26
  rw [if_pos (nI_le (Nat.le_refl _) (by omega)), zb_ok _ (bI_01 s)]
theorem E_doesSuit0 (ok : HOK D) (hy : HY D mn bs st kd lk ri) (tb : TB D.1 am all num) {a x : Nat} {tr : Nat → Int32} (ha : a < NN D.1) (hx : x < D.1) : ∃ tr', f_X10_doesSuit (nI a) (nI x) (0 : Int32) mn bs st kd lk ri all num tr = some (bI (suitB D a x), tr') := by
  have h2 := ok.1
  have h6 := ok.2.1
  obtain ⟨tr', hbh⟩ := E_behind0 (tr := tr) tb hy.1 h2 h6 ha hx
  refine ⟨tr', ?_⟩
  have hb := tb_chg D.1 a ha x hx
  have hyy := aft_lt D.1 (by omega) x hx
  have hne := aft_inj2 D.1 (by omega) h2 x hx
  obtain ⟨f, hNF⟩ : ∃ g, NF = g + 3 := ⟨NF - 3, by have := NF_big; omega⟩
  unfold f_X10_doesSuit
  rw [hbh, Option.bind_some, hNF]
  show f_X10_doesSuit_l15 mn bs st kd lk ri all num (f + 2 + 1) (nI a) (nI x) 0 (nI (chg D.1 a x)) (bI true) (nI 0) tr' = _
  rw [f_X10_doesSuit_l15.eq_2, if_pos rfl, show (2 : Int32) = nI 2 from rfl, E_ds_b (lim := 2) ok hy tb ha hb hx (by omega) (by omega), f_X10_doesSuit_l15.eq_2, if_pos rfl, show (2 : Int32) = nI 2 from rfl, E_ds_b (lim := 2) ok hy tb ha hb hx (by omega) (by omega), f_X10_doesSuit_l15.eq_2, if_pos rfl, show (2 : Int32) = nI 2 from rfl, E_ds_e (lim := 2) (by omega)]
  have e0 : ask D a (chg D.1 a x) x 0 = agr (D.2.2.2.2.1 (dg D.1 a x)) (wth D a x) (wth D (chg D.1 a x) (aft D.1 x)) := by
    unfold ask
    rw [mod0 D.1 (by omega) x hx, ps_of hb hyy (by rw [tb_dch D.1 a ha x hx _ hyy, if_neg hne, if_pos rfl])]
  have e1 : ask D a (chg D.1 a x) x 1 = agr (D.2.2.2.2.1 (dg D.1 a (aft D.1 x))) (wth D a (aft D.1 x)) (wth D (chg D.1 a x) x) := by
    unfold ask
    rw [mod1 D.1 (by omega) x hx, ps_of hb hx (by rw [tb_dch D.1 a ha x hx x hx, if_pos rfl])]
  rw [e0, Nat.zero_add, e1, Bool.true_and]
  rfl
theorem E_doesSuit1 (ok : HOK D) (hy : HY D mn bs st kd lk ri) (tb : TB D.1 am all num) {a x : Nat} {tr : Nat → Int32} (h3 : 3 ≤ D.1) (ha : a < NN D.1) (hx : x < D.1) : ∃ tr', f_X10_doesSuit (nI a) (nI x) (1 : Int32) mn bs st kd lk ri all num tr = some (bI (roundB D a x), tr') := by
  have h2 := ok.1
  have h6 := ok.2.1
  have g1 : ¬ (1 : Int32) = 0 := by decide
  obtain ⟨tr', hbh⟩ := E_behind1 (tr := tr) g1 tb hy.1 h3 h6 ha hx
  refine ⟨tr', ?_⟩
  have hb := trn_lt h6 ha hx
  have hyy := aft_lt D.1 (by omega) x hx
  have hz := aft_lt D.1 (by omega) _ hyy
  have hc := tb_chg D.1 a ha _ hyy
  obtain ⟨k1, k2, k3⟩ := aft3 D.1 (by omega) h3 x hx
  obtain ⟨f, hNF⟩ : ∃ g, NF = g + 4 := ⟨NF - 4, by have := NF_big; omega⟩
  unfold f_X10_doesSuit
  rw [hbh, Option.bind_some, hNF]
  show f_X10_doesSuit_l15 mn bs st kd lk ri all num (f + 3 + 1) (nI a) (nI x) 1 (nI (trn D.1 a x)) (bI true) (nI 0) tr' = _
  rw [f_X10_doesSuit_l15.eq_2, if_neg g1, show (3 : Int32) = nI 3 from rfl, E_ds_b (lim := 3) ok hy tb ha hb hx (by omega) (by omega), f_X10_doesSuit_l15.eq_2, if_neg g1, show (3 : Int32) = nI 3 from rfl, E_ds_b (lim := 3) ok hy tb ha hb hx (by omega) (by omega), f_X10_doesSuit_l15.eq_2, if_neg g1, show (3 : Int32) = nI 3 from rfl, E_ds_b (lim := 3) ok hy tb ha hb hx (by omega) (by omega), f_X10_doesSuit_l15.eq_2, if_neg g1, show (3 : Int32) = nI 3 from rfl, E_ds_e (lim := 3) (by omega)]
  have d0 : dg D.1 (trn D.1 a x) (aft D.1 x) = dg D.1 a x := by
    unfold trn
    rw [tb_dch D.1 _ hc x hx _ hyy, if_neg k3, if_pos rfl, tb_dch D.1 a ha _ hyy x hx, if_neg (Ne.symm k3), if_neg (Ne.symm k1)]
  have d1 : dg D.1 (trn D.1 a x) (aft D.1 (aft D.1 x)) = dg D.1 a (aft D.1 x) := by
    unfold trn
    rw [tb_dch D.1 _ hc x hx _ hz, if_neg k1, if_neg k2, tb_dch D.1 a ha _ hyy _ hz, if_neg k2, if_pos rfl]
  have d2 : dg D.1 (trn D.1 a x) x = dg D.1 a (aft D.1 (aft D.1 x)) := by
    unfold trn
    rw [tb_dch D.1 _ hc x hx x hx, if_pos rfl, tb_dch D.1 a ha _ hyy _ hyy, if_pos rfl]
  have e0 : ask D a (trn D.1 a x) x 0 = agr (D.2.2.2.2.1 (dg D.1 a x)) (wth D a x) (wth D (trn D.1 a x) (aft D.1 x)) := by
    unfold ask
    rw [mod0 D.1 (by omega) x hx, ps_of hb hyy d0]
  have e1 : ask D a (trn D.1 a x) x 1 = agr (D.2.2.2.2.1 (dg D.1 a (aft D.1 x))) (wth D a (aft D.1 x)) (wth D (trn D.1 a x) (aft D.1 (aft D.1 x))) := by
    unfold ask
    rw [mod1 D.1 (by omega) x hx, ps_of hb hz d1]
  have e2 : ask D a (trn D.1 a x) x 2 = agr (D.2.2.2.2.1 (dg D.1 a (aft D.1 (aft D.1 x)))) (wth D a (aft D.1 (aft D.1 x))) (wth D (trn D.1 a x) x) := by
    unfold ask
    rw [mod2 D.1 (by omega) x hx, ps_of hb hx d2]
  rw [e0, Nat.zero_add, e1, e2, Bool.true_and, Bool.and_assoc]
  rfl
end MS
