/-! prices and deals -/
def plw (n x w : Nat) : Nat := if w = 0 then x else aft n x
/-- what it brings to who is at that end of the change -/
def gn (D : HD) (a x w : Nat) : Int := wth D (chg D.1 a x) (plw D.1 x (1 - w)) - wth D a (plw D.1 x w)
def prc (k : Nat) (x y : Int) : Int := if agr k x y then 0 else if k = 3 then -4 else x - y + (if k = 0 then 1 else if k = 2 then 10 else 0)
theorem mis_prc {k : Nat} {x y : Int} (hk : k ≤ 4) : mis k (y - x) = (if k = 3 then -1 else prc k x y) ∧ (k ≠ 3 → 0 ≤ prc k x y) ∧ (k = 3 → prc k x y = -4) := by
  unfold mis prc agr
  rcases (show k = 0 ∨ k = 1 ∨ k = 2 ∨ k = 3 ∨ k = 4 by omega) with rfl | rfl | rfl | rfl | rfl <;> simp <;> (repeat' split) <;> omega
theorem prc_bd {k : Nat} {x y : Int} (h1 : -200 ≤ x) (h2 : x ≤ 200) (h3 : -200 ≤ y) (h4 : y ≤ 200) : -1000 ≤ prc k x y ∧ prc k x y ≤ 1000 := by
  unfold prc
  repeat' split
  all_goals omega
theorem plw_lt {n x w : Nat} (hn : n < 7) (hx : x < n) : plw n x w < n := by
  unfold plw
  split
  · exact hx
  · exact aft_lt n hn x hx
section PX
variable {D : HD} {bp sc kd lk mn bs st ykd ylk ri all num : Nat → Int32} {am : Int32}
theorem gn_bd (ok : HOK D) {a x w : Nat} (ha : a < NN D.1) (hx : x < D.1) : -1000 ≤ gn D a x w ∧ gn D a x w ≤ 1000 := by
  have h6 := ok.2.1
  have h1 := wth_bd ok (tb_chg D.1 a ha x hx) (plw_lt (w := 1 - w) (by omega) hx)
  have h2 := wth_bd ok ha (plw_lt (w := w) (by omega) hx)
  unfold gn
  omega
theorem E_gainOf (ok : HOK D) (hx : HX D bp sc kd lk) {a x w : Nat} (ha : a < NN D.1) (hxn : x < D.1) (hw : w ≤ 1) : f_X9_gainOf (nI x) (nI w) (nI (rw_ D.1 a)) (nI D.1) (nI D.2.1) bp sc lk = some (iI (gn D a x w)) := by
  have h6 := ok.2.1
  have hy := aft_lt D.1 (by omega) x hxn
  have hb := tb_chg D.1 a ha x hxn
  unfold f_X9_gainOf f_X9_gainOf_b18 f_X9_gainOf_b29 gn plw
  rw [E_after D.1 (by omega) x hxn, Option.bind_some]
  rcases (show w = 0 ∨ w = 1 by omega) with h | h
  · subst h
    rw [if_pos (show nI 0 = (0 : Int32) from rfl), if_pos (show nI 0 = (0 : Int32) from rfl), E_changed h6 ha hxn, Option.bind_some, E_worthAt ok hx hb hy, Option.bind_some, E_worthAt ok hx ha hxn, Option.bind_some, iI_sub, if_neg (by omega), if_pos rfl]
  · subst h
    rw [if_neg (show ¬ nI 1 = (0 : Int32) by decide), if_neg (show ¬ nI 1 = (0 : Int32) by decide), E_changed h6 ha hxn, Option.bind_some, E_worthAt ok hx hb hxn, Option.bind_some, E_worthAt ok hx ha hy, Option.bind_some, iI_sub, if_pos (by omega), if_neg (by omega)]
theorem E_priceOf (ok : HOK D) (hx : HX D bp sc kd lk) {a x w : Nat} (ha : a < NN D.1) (hxn : x < D.1) (hw : w ≤ 1) : f_X9_priceOf (nI x) (nI w) (nI (rw_ D.1 a)) (nI D.1) (nI D.2.1) bp sc kd lk = some (iI (mis (D.2.2.2.2.1 (dg D.1 a (plw D.1 x w))) (gn D a x w))) := by
  have h6 := ok.2.1
  have hp := plw_lt (w := w) (show D.1 < 7 by omega) hxn
  have hi := tb_dg D.1 a ha _ hp
  have hg := gn_bd (w := w) ok ha hxn
  have e : f_X9_priceOf (nI x) (nI w) (nI (rw_ D.1 a)) (nI D.1) (nI D.2.1) bp sc kd lk = f_X9_priceOf_b16 (nI (rw_ D.1 a)) (nI D.1) (nI D.2.1) bp sc kd lk (nI x) (nI w) (nI (plw D.1 x w)) := by
    unfold f_X9_priceOf plw
    rcases (show w = 0 ∨ w = 1 by omega) with h | h
    · subst h
      rw [if_pos (show nI 0 = (0 : Int32) from rfl), if_pos rfl]
    · subst h
      rw [if_neg (show ¬ nI 1 = (0 : Int32) by decide), if_neg (by omega), E_after D.1 (by omega) x hxn, Option.bind_some]
  rw [e]
  unfold f_X9_priceOf_b16
  rw [tb_who D.1 a ha _ hp, Option.bind_some, bdn _ (by omega) (by omega), E_gainOf ok hx ha hxn hw, Option.bind_some, nI_cl (by omega), hx.2.2.1 _ hi, E_missing (ok.2.2.2.2.2.1 _ hi) (by omega) (by omega), Option.bind_some]
theorem E_priceOfY (ok : HOK D) (hy : HY D mn bs st ykd ylk ri) (tb : TB D.1 am all num) {a b i : Nat} (ha : a < NN D.1) (hb : b < NN D.1) (hi : i < D.1) : f_X10_priceOf (nI a) (nI b) (nI i) mn bs st ykd ylk ri all = some (iI (prc (D.2.2.2.2.1 i) (wth D a (ps D.1 a i)) (wth D b (ps D.1 b i)))) := by
  have h6 := ok.2.1
  have hk := ok.2.2.2.2.2.1 _ hi
  have w1 := wth_bd ok ha (tb_ps D.1 a ha i hi).1
  have w2 := wth_bd ok hb (tb_ps D.1 b hb i hi).1
  unfold f_X10_priceOf f_X10_priceOf_b83
  rw [E_worthIn ok hy tb ha hi, Option.bind_some, E_worthIn ok hy tb hb hi, Option.bind_some, bdn _ (by omega) (by omega), nI_cl (by omega), hy.2.2.2.2.1 _ hi, E_agreesY hk (by omega) (by omega) (by omega) (by omega), Option.bind_some, bdn _ (by omega) (by omega), bdn _ (by omega) (by omega), bdn _ (by omega) (by omega)]
  unfold prc
  generalize wth D a (ps D.1 a i) = u
  generalize wth D b (ps D.1 b i) = v
  cases agr (D.2.2.2.2.1 i) u v
  · rw [if_pos (show bI false = 0 from rfl), if_neg (show ¬ false = true by decide)]
    generalize D.2.2.2.2.1 i = k at hk ⊢
    rcases (show k = 0 ∨ k = 1 ∨ k = 2 ∨ k = 3 ∨ k = 4 by omega) with rfl | rfl | rfl | rfl | rfl
    · rw [if_neg (show ¬ nI 0 = (3 : Int32) by decide), if_pos (show nI 0 = (0 : Int32) from rfl), if_neg (show ¬ (0 : Nat) = 3 by omega), if_pos (show (0 : Nat) = 0 from rfl), iI_sub, show (1 : Int32) = iI 1 from rfl, iI_add]
    · rw [if_neg (show ¬ nI 1 = (3 : Int32) by decide), if_neg (show ¬ nI 1 = (0 : Int32) by decide), if_neg (show ¬ nI 1 = (2 : Int32) by decide), if_neg (show ¬ (1 : Nat) = 3 by omega), if_neg (show ¬ (1 : Nat) = 0 by omega), if_neg (show ¬ (1 : Nat) = 2 by omega), iI_sub, zI, iI_add]
    · rw [if_neg (show ¬ nI 2 = (3 : Int32) by decide), if_neg (show ¬ nI 2 = (0 : Int32) by decide), if_pos (show nI 2 = (2 : Int32) from rfl), if_neg (show ¬ (2 : Nat) = 3 by omega), if_neg (show ¬ (2 : Nat) = 0 by omega), if_pos (show (2 : Nat) = 2 from rfl), iI_sub, show (10 : Int32) = iI 10 from rfl, iI_add]
    · rw [if_pos (show nI 3 = (3 : Int32) from rfl), if_pos (show (3 : Nat) = 3 from rfl)]; rfl
    · rw [if_neg (show ¬ nI 4 = (3 : Int32) by decide), if_neg (show ¬ nI 4 = (0 : Int32) by decide), if_neg (show ¬ nI 4 = (2 : Int32) by decide), if_neg (show ¬ (4 : Nat) = 3 by omega), if_neg (show ¬ (4 : Nat) = 0 by omega), if_neg (show ¬ (4 : Nat) = 2 by omega), iI_sub, zI, iI_add]
  · rw [if_neg (show ¬ bI true = 0 by decide), if_pos rfl]; rfl
/-- in the arrangement behind the change, who was at one end is at the other -/
theorem ps_plw {n a x w : Nat} (h2 : 2 ≤ n) (h6 : n ≤ 6) (ha : a < NN n) (hx : x < n) (hw : w ≤ 1) : ps n (chg n a x) (dg n a (plw n x w)) = plw n x (1 - w) := by
  have hy := aft_lt n (by omega) x hx
  have hb := tb_chg n a ha x hx
  have hne := aft_inj2 n (by omega) h2 x hx
  refine ps_of hb (plw_lt (by omega) hx) ?_
  rcases (show w = 0 ∨ w = 1 by omega) with rfl | rfl
  · show dg n (chg n a x) (aft n x) = dg n a x
    rw [tb_dch n a ha x hx _ hy, if_neg hne, if_pos rfl]
  · show dg n (chg n a x) x = dg n a (aft n x)
    rw [tb_dch n a ha x hx x hx, if_pos rfl]
theorem mod_plw {n x w : Nat} (h6 : n < 7) (hx : x < n) (hw : w ≤ 1) : (x + w) % n = plw n x w := by
  rcases (show w = 0 ∨ w = 1 by omega) with rfl | rfl
  · exact mod0 n h6 x hx
  · exact mod1 n h6 x hx
end PX
def prw (D : HD) (a x w : Nat) : Int := prc (D.2.2.2.2.1 (dg D.1 a (plw D.1 x w))) (wth D a (plw D.1 x w)) (wth D (chg D.1 a x) (plw D.1 x (1 - w)))
def payB (D : HD) (a x w : Nat) : Bool := agr (D.2.2.2.2.1 (dg D.1 a (plw D.1 x w))) (wth D a (plw D.1 x w)) (wth D (chg D.1 a x) (plw D.1 x (1 - w))) && (decide (0 ≤ prw D a x (1 - w)) && decide (prw D a x (1 - w) + 1 ≤ gn D a x w))
section PX2
variable {D : HD} {bp sc kd lk mn bs st ykd ylk ri all num : Nat → Int32} {am : Int32}
theorem E_pays (ok : HOK D) (hx : HX D bp sc kd lk) {a x w : Nat} (ha : a < NN D.1) (hxn : x < D.1) (hw : w ≤ 1) : f_X9_pays (nI x) (nI w) (nI (rw_ D.1 a)) (nI D.1) (nI D.2.1) bp sc kd lk = some (bI (payB D a x w)) := by
  have h6 := ok.2.1
  have hp := plw_lt (w := w) (show D.1 < 7 by omega) hxn
  have hp' := plw_lt (w := 1 - w) (show D.1 < 7 by omega) hxn
  have hb := tb_chg D.1 a ha x hxn
  have k1 := ok.2.2.2.2.2.1 _ (tb_dg D.1 a ha _ hp)
  have k2 := ok.2.2.2.2.2.1 _ (tb_dg D.1 a ha _ hp')
  have g1 := gn_bd (w := w) ok ha hxn
  have g2 := gn_bd (w := 1 - w) ok ha hxn
  have m1 := mis_0 (k := D.2.2.2.2.1 (dg D.1 a (plw D.1 x w))) (x := wth D a (plw D.1 x w)) (y := wth D (chg D.1 a x) (plw D.1 x (1 - w))) k1
  obtain ⟨m2, m3, m4⟩ := mis_prc (k := D.2.2.2.2.1 (dg D.1 a (plw D.1 x (1 - w)))) (x := wth D a (plw D.1 x (1 - w))) (y := wth D (chg D.1 a x) (plw D.1 x (1 - (1 - w)))) k2
  have b1 := mis_bd (k := D.2.2.2.2.1 (dg D.1 a (plw D.1 x w))) (g := gn D a x w) (by omega) (by omega)
  have b2 := mis_bd (k := D.2.2.2.2.1 (dg D.1 a (plw D.1 x (1 - w)))) (g := gn D a x (1 - w)) (by omega) (by omega)
  unfold f_X9_pays
  have e1 : (1 : Int32) - nI w = nI (1 - w) := pk_sub (a := 1) hw
  rw [e1, E_priceOf ok hx ha hxn (by omega), Option.bind_some, E_priceOf ok hx ha hxn hw, Option.bind_some, E_gainOf ok hx ha hxn hw, Option.bind_some]
  unfold payB
  change mis (D.2.2.2.2.1 (dg D.1 a (plw D.1 x w))) (gn D a x w) = 0 ↔ _ at m1
  change mis (D.2.2.2.2.1 (dg D.1 a (plw D.1 x (1 - w)))) (gn D a x (1 - w)) = (if _ then -1 else prw D a x (1 - w)) at m2
  change _ → 0 ≤ prw D a x (1 - w) at m3
  change _ → prw D a x (1 - w) = -4 at m4
  generalize mis (D.2.2.2.2.1 (dg D.1 a (plw D.1 x w))) (gn D a x w) = M1 at m1 b1 ⊢
  generalize mis (D.2.2.2.2.1 (dg D.1 a (plw D.1 x (1 - w)))) (gn D a x (1 - w)) = M2 at m2 b2 ⊢
  generalize prw D a x (1 - w) = Pr at m2 m3 m4 ⊢
  generalize gn D a x w = G at g1 ⊢
  generalize D.2.2.2.2.1 (dg D.1 a (plw D.1 x (1 - w))) = K at m2 m3 m4
  cases hag : agr (D.2.2.2.2.1 (dg D.1 a (plw D.1 x w))) (wth D a (plw D.1 x w)) (wth D (chg D.1 a x) (plw D.1 x (1 - w)))
  · rw [hag] at m1
    rw [if_neg (fun q => absurd (m1.mp ((iI_eq0 (by omega) (by omega)).mp q)) (by decide))]
    rfl
  · rw [hag] at m1
    rw [if_pos ((iI_eq0 (by omega) (by omega)).mpr (m1.mpr rfl)), Bool.true_and, show (0 : Int32) = iI 0 from zI, show (1 : Int32) = iI 1 from rfl, iI_add]
    by_cases hK : K = 3
    · rw [if_pos hK] at m2
      have := m4 hK
      rw [if_pos ((iI_lt (by omega) (by omega) (by omega) (by omega)).mpr (by omega)), decide_eq_false (by omega), Bool.false_and]
      rfl
    · rw [if_neg hK] at m2
      have := m3 hK
      rw [if_neg (fun q => absurd ((iI_lt (by omega) (by omega) (by omega) (by omega)).mp q) (by omega)), decide_eq_true this, Bool.true_and]
      by_cases hG : Pr + 1 ≤ G
      · rw [if_neg (fun q => absurd ((iI_lt (by omega) (by omega) (by omega) (by omega)).mp q) (by omega)), decide_eq_true hG]; rfl
      · rw [if_pos ((iI_lt (by omega) (by omega) (by omega) (by omega)).mpr (by omega)), decide_eq_false hG]; rfl
theorem E_deal_s (ok : HOK D) (hy : HY D mn bs st ykd ylk ri) (tb : TB D.1 am all num) {a x w : Nat} {f : Nat} {wh tr : Nat → Int32} {d : Bool} (ha : a < NN D.1) (hxn : x < D.1) (hw : w ≤ 1) : f_X10_deal_l29 mn bs st ykd ylk ri wh all num (f + 1) (nI x) (nI a) (nI (chg D.1 a x)) (bI d) (nI w) tr = f_X10_deal_l29 mn bs st ykd ylk ri wh all num f (nI x) (nI a) (nI (chg D.1 a x)) (bI (payB D a x w || d)) (nI (w + 1)) tr := by
  have h2 := ok.1
  have h6 := ok.2.1
  have hz : ¬ nI D.1 = 0 := nI_ne0 (by omega) (by omega)
  have hp := plw_lt (w := w) (show D.1 < 7 by omega) hxn
  have hp' := plw_lt (w := 1 - w) (show D.1 < 7 by omega) hxn
  have hb := tb_chg D.1 a ha x hxn
  have i1 := tb_dg D.1 a ha _ hp
  have i2 := tb_dg D.1 a ha _ hp'
  have w1 := wth_bd ok ha hp
  have w2 := wth_bd ok hb hp'
  have w3 := wth_bd ok ha hp'
  have w4 := wth_bd ok hb (plw_lt (w := 1 - (1 - w)) (show D.1 < 7 by omega) hxn)
  have g1 := gn_bd (w := w) ok ha hxn
  have pb := prc_bd (k := D.2.2.2.2.1 (dg D.1 a (plw D.1 x (1 - w)))) w3.1 w3.2 w4.1 w4.2
  change -1000 ≤ prw D a x (1 - w) ∧ prw D a x (1 - w) ≤ 1000 at pb
  rw [f_X10_deal_l29.eq_2, if_neg (show ¬ (2 : Int32) ≤ nI w from nI_ge (b := 2) (by omega) (by omega))]
  simp only [bd0, c0, hy.1]
  rw [dz_ok _ hz, nI_add, nI_rem (by omega) (by omega) (by omega), mod_plw (by omega) hxn hw, E_whoIn tb h6 ha hp, Option.bind_some, dz_ok _ hz, show nI x + (1 : Int32) - nI w = nI (x + (1 - w)) by rw [show nI x + (1 : Int32) = nI (x + 1) from nI_1 x, pk_sub (by omega), show x + 1 - w = x + (1 - w) by omega], nI_rem (by omega) (by omega) (by omega), mod_plw (by omega) hxn (by omega), E_whoIn tb h6 ha hp', Option.bind_some, E_priceOfY ok hy tb ha hb i2, Option.bind_some, E_worthIn ok hy tb hb i1, Option.bind_some, E_worthIn ok hy tb ha i1, Option.bind_some, bdn _ (by omega) (by omega), Option.bind_some, Option.bind_some, nI_cl (by omega), hy.2.2.2.2.1 _ i1, ps_dg ha hp, ps_dg ha hp', ps_plw h2 h6 ha hxn hw, ps_plw h2 h6 ha hxn (by omega), E_agreesY (ok.2.2.2.2.2.1 _ i1) (by omega) (by omega) (by omega) (by omega), Option.bind_some, iI_sub]
  unfold f_X10_deal_b145 f_X10_deal_b146 f_X10_deal_b159 payB
  rw [show nI w + (1 : Int32) = nI (w + 1) from nI_1 w]
  change (if _ then _ else if iI (prw D a x (1 - w)) < 0 then _ else if iI (gn D a x w) < iI (prw D a x (1 - w)) + 1 then _ else _) = _
  generalize prw D a x (1 - w) = Pr at pb ⊢
  generalize gn D a x w = G at g1 ⊢
  cases agr (D.2.2.2.2.1 (dg D.1 a (plw D.1 x w))) (wth D a (plw D.1 x w)) (wth D (chg D.1 a x) (plw D.1 x (1 - w)))
  · rw [if_pos (show bI false = 0 from rfl), if_pos (show (0 : Int32) = 0 from rfl)]; rfl
  · rw [if_neg (show ¬ bI true = 0 by decide), Bool.true_and, show iI Pr + (1 : Int32) = iI (Pr + 1) from iI_add Pr 1]
    by_cases h1 : 0 ≤ Pr
    · rw [if_neg (show ¬ iI Pr < (0 : Int32) from fun q => absurd ((iI_lt (b := 0) (by omega) (by omega) (by omega) (by omega)).mp q) (by omega)), decide_eq_true h1, Bool.true_and]
      by_cases hG : Pr + 1 ≤ G
      · rw [if_neg (fun q => absurd ((iI_lt (by omega) (by omega) (by omega) (by omega)).mp q) (by omega)), decide_eq_true hG, if_neg (show ¬ (1 : Int32) = 0 by decide)]; rfl
      · rw [if_pos ((iI_lt (by omega) (by omega) (by omega) (by omega)).mpr (by omega)), decide_eq_false hG, if_pos (show (0 : Int32) = 0 from rfl)]; rfl
    · rw [if_pos (show iI Pr < (0 : Int32) from (iI_lt (b := 0) (by omega) (by omega) (by omega) (by omega)).mpr (by omega)), decide_eq_false h1, if_pos (show (0 : Int32) = 0 from rfl)]; rfl
end PX2
