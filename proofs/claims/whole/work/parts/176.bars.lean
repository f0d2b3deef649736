/-! who bars the way -/
def setK (D : HD) (i v : Nat) : HD := (D.1, D.2.1, D.2.2.1, D.2.2.2.1, (fun j => if j = i then v else D.2.2.2.2.1 j), D.2.2.2.2.2)
section BA
variable {D : HD} {bp sc kd lk mn bs st ykd ylk ri all num : Nat → Int32} {am : Int32}
theorem setK_ok (ok : HOK D) {i v : Nat} (hv : v ≤ 4) : HOK (setK D i v) := by
  obtain ⟨h1, h2, h3, h4, h5, h6, h7⟩ := ok
  refine ⟨h1, h2, h3, h4, h5, fun j hj => ?_, h7⟩
  show (if j = i then v else D.2.2.2.2.1 j) ≤ 4
  split
  · exact hv
  · exact h6 j hj
theorem setK_Y (hy : HY D mn bs st ykd ylk ri) {i v : Nat} : HY (setK D i v) mn bs st (upd ykd i (nI v)) ylk ri := by
  refine ⟨hy.1, hy.2.1, hy.2.2.1, hy.2.2.2.1, fun j hj => ?_, hy.2.2.2.2.2⟩
  show upd ykd i (nI v) j = nI (if j = i then v else D.2.2.2.2.1 j)
  by_cases h : j = i
  · rw [h, pk_us, if_pos rfl]
  · rw [pk_un h, if_neg h]; exact hy.2.2.2.2.1 j hj
theorem backK_Y (hy : HY D mn bs st ykd ylk ri) {i : Nat} {v : Int32} : HY D mn bs st (upd (upd ykd i v) i (ykd i)) ylk ri := by
  refine ⟨hy.1, hy.2.1, hy.2.2.1, hy.2.2.2.1, fun j hj => ?_, hy.2.2.2.2.2⟩
  by_cases h : j = i
  · rw [h, pk_us]; rw [h] at hj; exact hy.2.2.2.2.1 i hj
  · rw [pk_un h, pk_un h]; exact hy.2.2.2.2.1 j hj
theorem setK_wth (D : HD) (i v a p : Nat) : wth (setK D i v) a p = wth D a p := rfl
theorem agr4 (x y : Int) : agr 4 x y = true := rfl
theorem setK_lef (D : HD) (i a x : Nat) : lefB (setK D i 4) a x = (lefB D a x || decide (dg D.1 a x = i)) := by
  show agr (if dg D.1 a x = i then 4 else D.2.2.2.2.1 (dg D.1 a x)) (wth D a x) (wth D (chg D.1 a x) (aft D.1 x)) = _
  by_cases h : dg D.1 a x = i
  · rw [if_pos h, agr4, decide_eq_true h, Bool.or_true]
  · rw [if_neg h, decide_eq_false h, Bool.or_false]; rfl
theorem setK_rig (D : HD) (i a x : Nat) : rigB (setK D i 4) a x = (rigB D a x || decide (dg D.1 a (aft D.1 x) = i)) := by
  show agr (if dg D.1 a (aft D.1 x) = i then 4 else D.2.2.2.2.1 (dg D.1 a (aft D.1 x))) (wth D a (aft D.1 x)) (wth D (chg D.1 a x) x) = _
  by_cases h : dg D.1 a (aft D.1 x) = i
  · rw [if_pos h, agr4, decide_eq_true h, Bool.or_true]
  · rw [if_neg h, decide_eq_false h, Bool.or_false]; rfl
theorem setK_suit (D : HD) (i a x : Nat) : suitB (setK D i 4) a x = suitM D i a x := by
  rw [suitB_lr, setK_lef, setK_rig]; rfl
theorem E_bars_l (ok : HOK D) (tb : TB D.1 am all num) {rows edges : Nat → Int32} (hG : GOK0 D rows edges) {wh : Nat → Int32} {a i p : Nat} {rcn frs : Int32} (ha : a < NN D.1) (hi : i < D.1) (hp : p < D.1) (hwh : ∀ p, p < D.1 → wh p = nI (dg D.1 a p)) : ∀ (j k f f' : Nat) (r0 : Int32) (qu s' fi ykd tr we rc : Nat → Int32), k + j = D.1 → j < f → j < f' → HY D mn bs st ykd ylk ri → ∃ r r1 qu1 s1 fi1 kd1 tr1 we1 rc1, f_X9_bars_l43 (nI (rw_ D.1 a)) (nI D.1) (nI D.2.1) bp sc kd lk f (nI i) (nI p) (nI k) 1 (nI D.1) (nI (NN D.1)) (nI (kk D.1 D.2.1)) rcn frs rows edges r0 qu s' fi = some (r, 1, nI D.1, nI (NN D.1), nI (kk D.1 D.2.1), rcn, frs, rows, edges, r1, qu1, s1, fi1) ∧ f_X10_bars_l40 am mn bs st ylk ri wh all num f' (nI i) (nI p) (nI k) ykd tr we rc = some (r, kd1, tr1, we1, rc1) ∧ HY D mn bs st kd1 ylk ri := by
  have h6 := ok.2.1
  intro j
  induction j with
  | zero =>
    intro k f f' r0 qu s' fi ykd tr we rc hk hf hf' hy
    obtain ⟨f, rfl⟩ : ∃ q, f = q + 1 := ⟨f - 1, by omega⟩
    obtain ⟨f', rfl⟩ : ∃ q, f' = q + 1 := ⟨f' - 1, by omega⟩
    refine ⟨-4, r0, qu, s', fi, ykd, tr, we, rc, ?_, ?_, hy⟩
    · rw [f_X9_bars_l43.eq_2, if_pos (nI_le (by omega) (by omega))]
    · rw [f_X10_bars_l40.eq_2, bd0, c0, hy.1, if_pos (nI_le (by omega) (by omega))]
  | succ j ih =>
    intro k f f' r0 qu s' fi ykd tr we rc hk hf hf' hy
    obtain ⟨f, rfl⟩ : ∃ q, f = q + 1 := ⟨f - 1, by omega⟩
    obtain ⟨f', rfl⟩ : ∃ q, f' = q + 1 := ⟨f' - 1, by omega⟩
    have hkn : k < D.1 := by omega
    have hyK := setK_Y (i := k) (v := 4) hy
    have okK := setK_ok (i := k) (v := 4) ok (by omega)
    obtain ⟨tr1, we1, hwb, hW⟩ := E_layWeb (D := setK D k 4) okK hyK tb tr we
    have hWm : ∀ a, a < NN D.1 → ∀ x, x < kk D.1 D.2.1 → we1 (6 * a + x) = if suitM D k a x then nI (chg D.1 a x) else -4 := fun s hs x hx => by
      have h := hW s hs x hx
      rw [setK_suit] at h
      exact h
    have hyb := backK_Y (i := k) (v := 4) hy
    rw [f_X9_bars_l43.eq_2, f_X10_bars_l40.eq_2, bd0, c0, hy.1, if_neg (nI_ge hkn (by omega)), if_neg (nI_ge hkn (by omega)), bdn _ (show k < 12 by omega) (by omega), bdn _ (show k < 12 by omega) (by omega), nI_cl (by omega), show upd ykd k (4 : Int32) = upd ykd k (nI 4) from rfl, hwb, Option.bind_some]
    have hgo : ∀ (r0' : Int32) (qu' s'' fi' rc' : Nat → Int32), ∃ r r1 qu1 s1 fi1 kd1 tr2 we2 rc1, f_X9_bars_b71 (nI (rw_ D.1 a)) (nI D.1) (nI D.2.1) bp sc kd lk (f_X9_bars_l43 (nI (rw_ D.1 a)) (nI D.1) (nI D.2.1) bp sc kd lk f) (nI i) (nI p) (nI k) 1 (nI D.1) (nI (NN D.1)) (nI (kk D.1 D.2.1)) rcn frs rows edges r0' qu' s'' fi' = some (r, 1, nI D.1, nI (NN D.1), nI (kk D.1 D.2.1), rcn, frs, rows, edges, r1, qu1, s1, fi1) ∧ f_X10_bars_b91 am mn bs st ylk ri wh all num (f_X10_bars_l40 am mn bs st ylk ri wh all num f') (nI i) (nI p) (nI k) (ykd k) (upd ykd k (nI 4)) tr1 we1 rc' = some (r, kd1, tr2, we2, rc1) ∧ HY D mn bs st kd1 ylk ri := by
      intro r0' qu' s'' fi' rc'
      unfold f_X9_bars_b71 f_X10_bars_b91 f_X10_bars_b92
      rw [bdn _ (show k < 12 by omega) (by omega), nI_cl (by omega), if_pos rfl, show nI k + (1 : Int32) = nI (k + 1) from nI_1 k]
      exact ih (k + 1) f f' r0' qu' s'' fi' _ tr1 we1 rc' (by omega) (by omega) (by omega) hyb
    by_cases hki : k = i
    · subst hki
      rw [if_pos rfl, if_pos rfl]
      exact hgo r0 qu s' fi rc
    · have hne : ¬ nI k = nI i := fun e => hki ((nI_eq (by omega) (by omega)).mp e)
      obtain ⟨r, R, qu', s'', fi', q, d, g, hsw, hF, hNR⟩ := E_stateWith ok hG hi hp ha (ld_M ok hG hkn) r0 qu s' fi
      have hWK := WK_with (S := suitM D k) ok hy tb hWm hi hp
      obtain ⟨n, rc2, hfe, hfw⟩ := E_fewest hWK ha rc
      have hnow := E_now tb hy.1 h6 ha hwh
      have hfe' : f_X10_fewestFrom (nI a) (nI i) (nI p) am mn ri all we1 rc = some (n, rc2) := by rw [tb.1]; exact hfe
      rw [if_neg hne, if_neg hne, hsw, Option.bind_some, hnow, Option.bind_some]
      show ∃ r1 r2 qu1 s1 fi1 kd1 tr2 we2 rc1, (if r < 0 then _ else _) = _ ∧ Option.bind (f_X10_fewestFrom (nI a) (nI i) (nI p) am mn ri all we1 rc) _ = _ ∧ _
      rw [hfe', Option.bind_some]
      rcases ways_eq hWK.1 hWK.2.1 hWK.2.2.1 ha hF hNR hfw with ⟨rfl, rfl⟩ | ⟨s, m, hs, rfl, e1, rfl, hm, _⟩
      · rw [if_pos (show (-1 : Int32) < 0 by decide)]
        show ∃ r1 r2 qu1 s1 fi1 kd1 tr2 we2 rc1, _ = _ ∧ (if (-4 : Int32) < 0 then _ else _) = _ ∧ _
        rw [if_pos (show (-4 : Int32) < 0 by decide)]
        exact hgo _ qu' s'' fi' rc2
      · have hN := NN_le D.1
        rw [if_neg (nI_lt0 (by omega))]
        show ∃ r1 r2 qu1 s1 fi1 kd1 tr2 we2 rc1, _ = _ ∧ (if nI m < 0 then _ else _) = _ ∧ _
        rw [if_neg (nI_lt0 (by omega))]
        unfold f_X10_bars_b92
        rw [bdn _ (show k < 12 by omega) (by omega), nI_cl (by omega), if_neg (show ¬ (1 : Int32) = 0 by decide)]
        exact ⟨_, _, _, _, _, _, _, _, _, rfl, rfl, hyb⟩
end BA
theorem op_bars : ∀ (y1 : Int32) (y2 : Int32) (X : ZX9) (Y : ZX10), Inv X Y → ∃ (r : Int32) (X1 : ZX9) (Y1 : ZX10), xo_bars y1 y2 X = some (r, X1) ∧ yo_bars y1 y2 Y = some (r, Y1) ∧ Inv X1 Y1 := by
  intro y1 y2 X Y hI
  obtain ⟨⟨tby, tle, tnu⟩, ⟨pe, ri, hto, bp, sc, kd, lk⟩, dr, row, ⟨ton, tos⟩, ⟨don, dos⟩, ⟨ken, kes⟩, ⟨sw, sf, st, sy, ss⟩, gr, gd, se, ev, wa⟩ := X
  obtain ⟨yle, ytx, ymn, ybs, yst, ykd, ylk, yri, yli, ywh, ykm, yun, yum, yrm, yrw, ysm, yso, ysf, ysg, ysy, ypl, yto, yam, yal, ynu, ytr, ywe, ywt, ylo, yre, ywa, ynx⟩ := Y
  obtain ⟨D, a, hI⟩ := hI
  have hI0 : InvC D a tby tle pe ri bp sc kd lk row ton tos don dos ken kes sw sf st sy ss gr gd yle ytx ymn ybs yst ykd ylk yri ywh ykm yun yum yrm yrw ysm yso ysf ysg ysy yam yal ynu := hI
  obtain ⟨ok, ha, hT, hpe, hri, hHX, hHY, hTB, hrow, hwh, hR, hU, hK, hS, hG⟩ := id hI0
  have h2 := ok.1
  have h6 := ok.2.1
  have hg := ok.2.2.1
  subst hpe hri hrow
  have h0 := NF_big
  have hN := NN_le D.1
  rcases place_cases hHY.1 h2 h6 y1 with ⟨a1, a2⟩ | ⟨i, hi, rfl, a1, a2⟩
  · have hX : f_X9_bars y1 y2 (nI (rw_ D.1 a)) gd (nI D.1) (nI D.2.1) bp sc kd lk gr.2.2.1 gr.2.2.2.1 gr.2.2.2.2.1 gr.2.2.2.2.2.1 gr.2.2.2.2.2.2 gr.1 gr.2.1 se.2.2.2.2 se.1 se.2.1 se.2.2.1 = some (-1, gd, gr.2.2.1, gr.2.2.2.1, gr.2.2.2.2.1, gr.2.2.2.2.2.1, gr.2.2.2.2.2.2, gr.1, gr.2.1, se.2.2.2.2, se.1, se.2.1, se.2.2.1) := by unfold f_X9_bars; rw [a1, Option.bind_some, if_pos rfl]
    have hY : f_X10_bars y1 y2 yam ymn ybs yst ykd ylk yri ywh yal ynu ytr ywe yre = some (-1, ykd, ytr, ywe, yre) := by unfold f_X10_bars; rw [a2, Option.bind_some, if_pos rfl]
    exact ⟨_, _, _, xo_of hX rfl, xo_of hY rfl, D, a, hI0⟩
  rcases place_cases hHY.1 h2 h6 y2 with ⟨b1, b2⟩ | ⟨p, hp, rfl, b1, b2⟩
  · have hX : f_X9_bars (nI i) y2 (nI (rw_ D.1 a)) gd (nI D.1) (nI D.2.1) bp sc kd lk gr.2.2.1 gr.2.2.2.1 gr.2.2.2.2.1 gr.2.2.2.2.2.1 gr.2.2.2.2.2.2 gr.1 gr.2.1 se.2.2.2.2 se.1 se.2.1 se.2.2.1 = some (-1, gd, gr.2.2.1, gr.2.2.2.1, gr.2.2.2.2.1, gr.2.2.2.2.2.1, gr.2.2.2.2.2.2, gr.1, gr.2.1, se.2.2.2.2, se.1, se.2.1, se.2.2.1) := by unfold f_X9_bars; rw [a1, Option.bind_some, if_neg (by decide), b1, Option.bind_some, if_pos rfl]
    have hY : f_X10_bars (nI i) y2 yam ymn ybs yst ykd ylk yri ywh yal ynu ytr ywe yre = some (-1, ykd, ytr, ywe, yre) := by unfold f_X10_bars; rw [a2, Option.bind_some, if_neg (by decide), b2, Option.bind_some, if_pos rfl]
    exact ⟨_, _, _, xo_of hX rfl, xo_of hY rfl, D, a, hI0⟩
  obtain ⟨rows, edges, hd, hG0⟩ := E_drawGraph ok hHX hG
  obtain ⟨tr', we', hwb, hW⟩ := E_layWeb ok hHY hTB ytr ywe
  obtain ⟨r, R, qu, st', fi, q, d, g, hsw, hF, hNR⟩ := E_stateWith ok hG0 hi hp ha (ld_B ok hG0) se.2.2.2.2 se.1 se.2.1 se.2.2.1
  have hWK := WK_with (S := suitB D) ok hHY hTB hW hi hp
  obtain ⟨n, rc, hfe, hfw⟩ := E_fewest hWK ha yre
  have hnow := E_now hTB hHY.1 h6 ha hwh
  have hX0 : f_X9_bars (nI i) (nI p) (nI (rw_ D.1 a)) gd (nI D.1) (nI D.2.1) bp sc kd lk gr.2.2.1 gr.2.2.2.1 gr.2.2.2.2.1 gr.2.2.2.2.2.1 gr.2.2.2.2.2.2 gr.1 gr.2.1 se.2.2.2.2 se.1 se.2.1 se.2.2.1 = if r < 0 then f_X9_bars_l43 (nI (rw_ D.1 a)) (nI D.1) (nI D.2.1) bp sc kd lk NF (nI i) (nI p) (nI 0) 1 (nI D.1) (nI (NN D.1)) (nI (kk D.1 D.2.1)) (nI (rests D 0 (NN D.1))) (frest D 0 (NN D.1)) rows edges (nI R) qu st' fi else some (-4, (1 : Int32), nI D.1, nI (NN D.1), nI (kk D.1 D.2.1), nI (rests D 0 (NN D.1)), frest D 0 (NN D.1), rows, edges, nI R, qu, st', fi) := by
    unfold f_X9_bars
    rw [a1, Option.bind_some, if_neg (by decide), b1, Option.bind_some, if_neg (by decide), hd, Option.bind_some]
    show Option.bind (f_X9_stateWith (nI i) (nI p) (-1) (nI (rw_ D.1 a)) (nI D.1) (nI (NN D.1)) (nI (kk D.1 D.2.1)) rows edges se.2.2.2.2 se.1 se.2.1 se.2.2.1) _ = _
    rw [hsw, Option.bind_some]
    rfl
  have hY0 : f_X10_bars (nI i) (nI p) yam ymn ybs yst ykd ylk yri ywh yal ynu ytr ywe yre = if n < 0 then f_X10_bars_l40 yam ymn ybs yst ylk yri ywh yal ynu NF (nI i) (nI p) (nI 0) ykd tr' we' rc else some (-4, ykd, tr', we', rc) := by
    unfold f_X10_bars
    have hfe' : f_X10_fewestFrom (nI a) (nI i) (nI p) yam ymn yri yal we' yre = some (n, rc) := by rw [hTB.1]; exact hfe
    rw [a2, Option.bind_some, if_neg (by decide), b2, Option.bind_some, if_neg (by decide), hwb, Option.bind_some, hnow, Option.bind_some]
    show Option.bind (f_X10_fewestFrom (nI a) (nI i) (nI p) yam ymn yri yal we' yre) _ = _
    rw [hfe', Option.bind_some]
    rfl
  rcases ways_eq hWK.1 hWK.2.1 hWK.2.2.1 ha hF hNR hfw with ⟨rfl, rfl⟩ | ⟨s, m, hs, rfl, e1, rfl, hm, _⟩
  · rw [if_pos (show (-1 : Int32) < 0 by decide)] at hX0
    rw [if_pos (show (-4 : Int32) < 0 by decide)] at hY0
    obtain ⟨r, r1, qu1, s1, fi1, kd1, tr1, we1, rc1, z1, z2, z3⟩ := E_bars_l (bp := bp) (sc := sc) (kd := kd) (lk := lk) (rcn := nI (rests D 0 (NN D.1))) (frs := frest D 0 (NN D.1)) ok hTB hG0 ha hi hp hwh D.1 0 NF NF (nI R) qu st' fi ykd tr' we' rc (by omega) (by omega) (by omega) hHY
    exact ⟨_, _, _, xo_of (hX0.trans z1) rfl, xo_of (hY0.trans z2) rfl, D, a, ok, ha, hT, rfl, rfl, hHX, z3, hTB, rfl, hwh, hR, hU, hK, hS, Or.inr ⟨rfl, rfl, rfl, rfl, hG0.1, hG0.2, rfl, rfl⟩⟩
  · rw [if_neg (nI_lt0 (by omega))] at hX0
    rw [if_neg (nI_lt0 (by omega))] at hY0
    exact ⟨_, _, _, xo_of hX0 rfl, xo_of hY0 rfl, D, a, ok, ha, hT, rfl, rfl, hHX, hHY, hTB, rfl, hwh, hR, hU, hK, hS, Or.inr ⟨rfl, rfl, rfl, rfl, hG0.1, hG0.2, rfl, rfl⟩⟩
