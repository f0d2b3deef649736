theorem E_spreadB {D : HD} (ok : HOK D) {rows edges : Nat → Int32} (hG : GOK0 D rows edges) {a : Nat} (ha : a < NN D.1) (r0 : Int32) (qu st fi : Nat → Int32) : ∃ R qu' st' fi' q d g, f_X5_spread (nI a) (-1) r0 qu st fi (nI D.1) (nI (NN D.1)) (nI (kk D.1 D.2.1)) rows edges = some (nI R, qu', st', fi') ∧ SF (NN D.1) (kk D.1 D.2.1) (suitB D) (chg D.1) a R qu' st' fi' q d g :=
  E_spread (NN_le D.1) (kk6 ok) (chg_in ok) (fun s hs x hx => by
    have h := E_leads0 (mk := D.1) ok hG hs hx
    have hkk := (kk_bd (rg := D.2.1) ok.1 ok.2.1).2
    rw [show mkI D.1 D.1 = -1 from if_neg (by omega)] at h
    rw [h]
    unfold ldM
    rw [suitM_no hs ok.2.1 (by omega) (Nat.le_refl _)]) ha r0 qu st fi
theorem SF_q {N K : Nat} {S : Nat → Nat → Bool} {T : Nat → Nat → Nat} {a R : Nat} {qu st fi : Nat → Int32} {q d g : Nat → Nat} (hF : SF N K S T a R qu st fi q d g) : R ≤ N ∧ ∀ j, j < R → q j < N ∧ qu j = nI (q j) :=
  ⟨SQ_le hF.1, fun j hj => ⟨(hF.1.2.2.2.2.1 j hj).1, (hF.1.2.2.2.2.1 j hj).2.1⟩⟩
theorem op_shortest : ∀ (y1 : Int32) (X : ZX9) (Y : ZX10), Inv X Y → ∃ (r : Int32) (X1 : ZX9) (Y1 : ZX10), xo_shortest y1 X = some (r, X1) ∧ yo_shortest y1 Y = some (r, Y1) ∧ Inv X1 Y1 := by
  intro y1 X Y hI
  obtain ⟨⟨tby, tle, tnu⟩, ⟨pe, ri, hto, bp, sc, kd, lk⟩, dr, row, ⟨ton, tos⟩, ⟨don, dos⟩, ⟨ken, kes⟩, ⟨sw, sf, st, sy, ss⟩, gr, gd, se, ev, wa⟩ := X
  obtain ⟨yle, ytx, ymn, ybs, yst, ykd, ylk, yri, yli, ywh, ykm, yun, yum, yrm, yrw, ysm, yso, ysf, ysg, ysy, ypl, yto, yam, yal, ynu, ytr, ywe, ywt, ylo, yre, ywa, ynx⟩ := Y
  obtain ⟨D, a, hI⟩ := hI
  have hI0 : InvC D a tby tle pe ri bp sc kd lk row ton tos don dos ken kes sw sf st sy ss gr gd yle ytx ymn ybs yst ykd ylk yri ywh ykm yun yum yrm yrw ysm yso ysf ysg ysy yam yal ynu := hI
  obtain ⟨ok, ha, hT, hpe, hri, hHX, hHY, hTB, hrow, hwh, hR, hU, hK, hS, hG⟩ := id hI0
  have h2 := ok.1
  have h6 := ok.2.1
  have hg := ok.2.2.1
  subst hpe hri hrow
  have h0 := NF_big
  have hN := NN_le D.1
  rcases either_cases y1 with ⟨e3, e4⟩ | ⟨hw, e3, e4⟩
  · have hX : f_X9_shortest y1 (nI (rw_ D.1 a)) gd (nI D.1) (nI D.2.1) bp sc kd lk gr.2.2.1 gr.2.2.2.1 gr.2.2.2.2.1 gr.2.2.2.2.2.1 gr.2.2.2.2.2.2 gr.1 gr.2.1 se.2.2.2.2 se.1 se.2.1 se.2.2.1 = some (-1, gd, gr.2.2.1, gr.2.2.2.1, gr.2.2.2.2.1, gr.2.2.2.2.2.1, gr.2.2.2.2.2.2, gr.1, gr.2.1, se.2.2.2.2, se.1, se.2.1, se.2.2.1) := by unfold f_X9_shortest; rw [e3, Option.bind_some, if_pos rfl]
    have hY : f_X10_shortest y1 yam ymn ybs yst ykd ylk yri ywh yal ynu ytr ywe yre = some (-1, ytr, ywe, yre) := by unfold f_X10_shortest; rw [e4, Option.bind_some, if_pos rfl]
    exact ⟨_, _, _, xo_of hX rfl, xo_of hY rfl, D, a, hI0⟩
  · obtain ⟨rows, edges, hd, hG0⟩ := E_drawGraph ok hHX hG
    obtain ⟨tr', we', hwb, hW⟩ := E_layWeb ok hHY hTB ytr ywe
    obtain ⟨R, qu, st', fi, q, d, g, hsp, hF⟩ := E_spreadB ok hG0 ha se.2.2.2.2 se.1 se.2.1 se.2.2.1
    obtain ⟨hRN, hq⟩ := SF_q hF
    obtain ⟨r, hnr, hNR⟩ := E_nearRest ok hG0 (show R ≤ 720 by omega) hq R 0 NF (by omega) (by omega) (fun i hi => absurd hi (by omega))
    have hWK := WK_rest ok hHY hTB hW
    obtain ⟨n, rc, hfe, hfw⟩ := E_fewest hWK ha yre
    have hnow := E_now hTB hHY.1 h6 ha hwh
    obtain ⟨v, rc', x1, x2⟩ := ways_ans (wh := ywh) (num := ynu) hWK ha hF hNR hfw hnow hw (fun u => (u, (1 : Int32), nI D.1, nI (NN D.1), nI (kk D.1 D.2.1), nI (rests D 0 (NN D.1)), frest D 0 (NN D.1), rows, edges, nI R, qu, st', fi)) (fun u rc => (u, tr', we', rc)) rc
    have hX : f_X9_shortest y1 (nI (rw_ D.1 a)) gd (nI D.1) (nI D.2.1) bp sc kd lk gr.2.2.1 gr.2.2.2.1 gr.2.2.2.2.1 gr.2.2.2.2.2.1 gr.2.2.2.2.2.2 gr.1 gr.2.1 se.2.2.2.2 se.1 se.2.1 se.2.2.1 = some (v, (1 : Int32), nI D.1, nI (NN D.1), nI (kk D.1 D.2.1), nI (rests D 0 (NN D.1)), frest D 0 (NN D.1), rows, edges, nI R, qu, st', fi) := by
      unfold f_X9_shortest
      rw [e3, Option.bind_some, if_neg (by decide), hd, Option.bind_some]
      show Option.bind (f_X1_stateOf (nI (rw_ D.1 a)) (nI D.1) (nI (NN D.1))) _ = _
      rw [E_stateOf ha, Option.bind_some]
      show Option.bind (f_X5_spread (nI a) (-1) se.2.2.2.2 se.1 se.2.1 se.2.2.1 (nI D.1) (nI (NN D.1)) (nI (kk D.1 D.2.1)) rows edges) _ = _
      rw [hsp, Option.bind_some]
      show Option.bind (f_X5_nearestRest_l2 (nI R) qu (nI D.1) (nI (NN D.1)) (nI (kk D.1 D.2.1)) rows edges NF (nI 0)) _ = _
      rw [hnr, Option.bind_some]
      exact x1
    have hY : f_X10_shortest y1 yam ymn ybs yst ykd ylk yri ywh yal ynu ytr ywe yre = some (v, tr', we', rc') := by
      unfold f_X10_shortest
      rw [e4, Option.bind_some, if_neg (by decide), hwb, Option.bind_some, hnow, Option.bind_some, hTB.1]
      show Option.bind (f_X10_fewestFrom (nI a) (0 : Int32) (-4 : Int32) (nI (NN D.1)) ymn yri yal we' yre) _ = _
      rw [hfe, Option.bind_some]
      exact x2
    exact ⟨_, _, _, xo_of hX rfl, xo_of hY rfl, D, a, ok, ha, hT, rfl, rfl, hHX, hHY, hTB, rfl, hwh, hR, hU, hK, hS, Or.inr ⟨rfl, rfl, rfl, rfl, hG0.1, hG0.2, rfl, rfl⟩⟩
theorem E_stateWith {D : HD} {S : Nat → Nat → Bool} (ok : HOK D) {rows edges : Nat → Int32} (hG : GOK0 D rows edges) {a i p : Nat} {mk : Int32} (hi : i < D.1) (hp : p < D.1) (ha : a < NN D.1) (hl : ∀ a, a < NN D.1 → ∀ x, x < kk D.1 D.2.1 → f_X1_leadsTo (nI a) (nI x) mk (nI D.1) (nI (NN D.1)) (nI (kk D.1 D.2.1)) rows edges = some (if S a x then nI (chg D.1 a x) else -1)) (r0 : Int32) (qu st fi : Nat → Int32) : ∃ r R qu' st' fi' q d g, f_X9_stateWith (nI i) (nI p) mk (nI (rw_ D.1 a)) (nI D.1) (nI (NN D.1)) (nI (kk D.1 D.2.1)) rows edges r0 qu st fi = some (r, nI R, qu', st', fi') ∧ SF (NN D.1) (kk D.1 D.2.1) S (chg D.1) a R qu' st' fi' q d g ∧ NR (fun s => decide (dg D.1 s p = i)) R q r := by
  have h0 := NF_big
  have hN := NN_le D.1
  obtain ⟨R, qu', st', fi', q, d, g, hsp, hF⟩ := E_spread (hN := NN_le D.1) (kk6 ok) (chg_in ok) hl ha r0 qu st fi
  obtain ⟨hRN, hq⟩ := SF_q hF
  obtain ⟨r, hnr, hNR⟩ := E_nearWith hG hp ok.2.1 hi (show R ≤ 720 by omega) hq R 0 NF (by omega) (by omega) (fun i hi => absurd hi (by omega))
  refine ⟨r, R, qu', st', fi', q, d, g, ?_, hF, hNR⟩
  unfold f_X9_stateWith
  rw [E_stateOf ha, Option.bind_some, hsp, Option.bind_some]
  show Option.bind (f_X5_nearestWith_l3 (nI R) qu' (nI (NN D.1)) rows NF (nI i) (nI p) (nI 0)) _ = _
  rw [hnr, Option.bind_some]
theorem ld_B {D : HD} (ok : HOK D) {rows edges : Nat → Int32} (hG : GOK0 D rows edges) : ∀ a, a < NN D.1 → ∀ x, x < kk D.1 D.2.1 → f_X1_leadsTo (nI a) (nI x) (-1) (nI D.1) (nI (NN D.1)) (nI (kk D.1 D.2.1)) rows edges = some (if suitB D a x then nI (chg D.1 a x) else -1) := fun s hs x hx => by
  have h := E_leads0 (mk := D.1) ok hG hs hx
  have hkk := (kk_bd (rg := D.2.1) ok.1 ok.2.1).2
  rw [show mkI D.1 D.1 = -1 from if_neg (by omega)] at h
  rw [h]
  unfold ldM
  rw [suitM_no hs ok.2.1 (by omega) (Nat.le_refl _)]
theorem ld_M {D : HD} (ok : HOK D) {rows edges : Nat → Int32} (hG : GOK0 D rows edges) {mk : Nat} (hm : mk < D.1) : ∀ a, a < NN D.1 → ∀ x, x < kk D.1 D.2.1 → f_X1_leadsTo (nI a) (nI x) (nI mk) (nI D.1) (nI (NN D.1)) (nI (kk D.1 D.2.1)) rows edges = some (if suitM D mk a x then nI (chg D.1 a x) else -1) := fun s hs x hx => by
  have h := E_leads0 (mk := mk) ok hG hs hx
  rw [show mkI D.1 mk = nI mk from if_pos hm] at h
  exact h
theorem op_comes : ∀ (y1 : Int32) (y2 : Int32) (y3 : Int32) (X : ZX9) (Y : ZX10), Inv X Y → ∃ (r : Int32) (X1 : ZX9) (Y1 : ZX10), xo_comes y1 y2 y3 X = some (r, X1) ∧ yo_comes y1 y2 y3 Y = some (r, Y1) ∧ Inv X1 Y1 := by
  intro y1 y2 y3 X Y hI
  obtain ⟨⟨tby, tle, tnu⟩, ⟨pe, ri, hto, bp, sc, kd, lk⟩, dr, row, ⟨ton, tos⟩, ⟨don, dos⟩, ⟨ken, kes⟩, ⟨sw, sf, st, sy, ss⟩, gr, gd, se, ev, wa⟩ := X
  obtain ⟨yle, ytx, ymn, ybs, yst, ykd, ylk, yri, yli, ywh, ykm, yun, yum, yrm, yrw, ysm, yso, ysf, ysg, ysy, ypl, yto, yam, yal, ynu, ytr, ywe, ywt, ylo, yre, ywa, ynx⟩ := Y
  obtain ⟨D, a, hI⟩ := hI
  have hI0 : InvC D a tby tle pe ri bp sc kd lk row ton tos don dos ken kes sw sf st sy ss gr gd yle ytx ymn ybs yst ykd ylk yri ywh ykm yun yum yrm yrw ysm yso ysf ysg ysy yam yal ynu := hI
  obtain ⟨ok, ha, hT, hpe, hri, hHX, hHY, hTB, hrow, hwh, hR, hU, hK, hS, hG⟩ := id hI0
  have h2 := ok.1
  have h6 := ok.2.1
  have hg := ok.2.2.1
  subst hpe hri hrow
  have h0 := NF_big
  have hN := NN_le D.1
  rcases place_cases hHY.1 h2 h6 y1 with ⟨a1, a2⟩ | ⟨i, hi, rfl, a1, a2⟩
  · have hX : f_X9_comes y1 y2 y3 (nI (rw_ D.1 a)) gd (nI D.1) (nI D.2.1) bp sc kd lk gr.2.2.1 gr.2.2.2.1 gr.2.2.2.2.1 gr.2.2.2.2.2.1 gr.2.2.2.2.2.2 gr.1 gr.2.1 se.2.2.2.2 se.1 se.2.1 se.2.2.1 = some (-1, gd, gr.2.2.1, gr.2.2.2.1, gr.2.2.2.2.1, gr.2.2.2.2.2.1, gr.2.2.2.2.2.2, gr.1, gr.2.1, se.2.2.2.2, se.1, se.2.1, se.2.2.1) := by unfold f_X9_comes; rw [a1, Option.bind_some, if_pos rfl]
    have hY : f_X10_comes y1 y2 y3 yam ymn ybs yst ykd ylk yri ywh yal ynu ytr ywe yre = some (-1, ytr, ywe, yre) := by unfold f_X10_comes; rw [a2, Option.bind_some, if_pos rfl]
    exact ⟨_, _, _, xo_of hX rfl, xo_of hY rfl, D, a, hI0⟩
  rcases place_cases hHY.1 h2 h6 y2 with ⟨b1, b2⟩ | ⟨p, hp, rfl, b1, b2⟩
  · have hX : f_X9_comes (nI i) y2 y3 (nI (rw_ D.1 a)) gd (nI D.1) (nI D.2.1) bp sc kd lk gr.2.2.1 gr.2.2.2.1 gr.2.2.2.2.1 gr.2.2.2.2.2.1 gr.2.2.2.2.2.2 gr.1 gr.2.1 se.2.2.2.2 se.1 se.2.1 se.2.2.1 = some (-1, gd, gr.2.2.1, gr.2.2.2.1, gr.2.2.2.2.1, gr.2.2.2.2.2.1, gr.2.2.2.2.2.2, gr.1, gr.2.1, se.2.2.2.2, se.1, se.2.1, se.2.2.1) := by unfold f_X9_comes; rw [a1, Option.bind_some, if_neg (by decide), b1, Option.bind_some, if_pos rfl]
    have hY : f_X10_comes (nI i) y2 y3 yam ymn ybs yst ykd ylk yri ywh yal ynu ytr ywe yre = some (-1, ytr, ywe, yre) := by unfold f_X10_comes; rw [a2, Option.bind_some, if_neg (by decide), b2, Option.bind_some, if_pos rfl]
    exact ⟨_, _, _, xo_of hX rfl, xo_of hY rfl, D, a, hI0⟩
  rcases either_cases y3 with ⟨e3, e4⟩ | ⟨hw, e3, e4⟩
  · have hX : f_X9_comes (nI i) (nI p) y3 (nI (rw_ D.1 a)) gd (nI D.1) (nI D.2.1) bp sc kd lk gr.2.2.1 gr.2.2.2.1 gr.2.2.2.2.1 gr.2.2.2.2.2.1 gr.2.2.2.2.2.2 gr.1 gr.2.1 se.2.2.2.2 se.1 se.2.1 se.2.2.1 = some (-1, gd, gr.2.2.1, gr.2.2.2.1, gr.2.2.2.2.1, gr.2.2.2.2.2.1, gr.2.2.2.2.2.2, gr.1, gr.2.1, se.2.2.2.2, se.1, se.2.1, se.2.2.1) := by unfold f_X9_comes; rw [a1, Option.bind_some, if_neg (by decide), b1, Option.bind_some, if_neg (by decide), e3, Option.bind_some, if_pos rfl]
    have hY : f_X10_comes (nI i) (nI p) y3 yam ymn ybs yst ykd ylk yri ywh yal ynu ytr ywe yre = some (-1, ytr, ywe, yre) := by unfold f_X10_comes; rw [a2, Option.bind_some, if_neg (by decide), b2, Option.bind_some, if_neg (by decide), e4, Option.bind_some, if_pos rfl]
    exact ⟨_, _, _, xo_of hX rfl, xo_of hY rfl, D, a, hI0⟩
  · obtain ⟨rows, edges, hd, hG0⟩ := E_drawGraph ok hHX hG
    obtain ⟨tr', we', hwb, hW⟩ := E_layWeb ok hHY hTB ytr ywe
    obtain ⟨r, R, qu, st', fi, q, d, g, hsw, hF, hNR⟩ := E_stateWith ok hG0 hi hp ha (ld_B ok hG0) se.2.2.2.2 se.1 se.2.1 se.2.2.1
    have hWK := WK_with (S := suitB D) ok hHY hTB hW hi hp
    obtain ⟨n, rc, hfe, hfw⟩ := E_fewest hWK ha yre
    have hnow := E_now hTB hHY.1 h6 ha hwh
    obtain ⟨v, rc', x1, x2⟩ := ways_ans (wh := ywh) (num := ynu) hWK ha hF hNR hfw hnow hw (fun u => (u, (1 : Int32), nI D.1, nI (NN D.1), nI (kk D.1 D.2.1), nI (rests D 0 (NN D.1)), frest D 0 (NN D.1), rows, edges, nI R, qu, st', fi)) (fun u rc => (u, tr', we', rc)) rc
    have hX : f_X9_comes (nI i) (nI p) y3 (nI (rw_ D.1 a)) gd (nI D.1) (nI D.2.1) bp sc kd lk gr.2.2.1 gr.2.2.2.1 gr.2.2.2.2.1 gr.2.2.2.2.2.1 gr.2.2.2.2.2.2 gr.1 gr.2.1 se.2.2.2.2 se.1 se.2.1 se.2.2.1 = some (v, (1 : Int32), nI D.1, nI (NN D.1), nI (kk D.1 D.2.1), nI (rests D 0 (NN D.1)), frest D 0 (NN D.1), rows, edges, nI R, qu, st', fi) := by
      unfold f_X9_comes
      rw [a1, Option.bind_some, if_neg (by decide), b1, Option.bind_some, if_neg (by decide), e3, Option.bind_some, if_neg (by decide), hd, Option.bind_some]
      show Option.bind (f_X9_stateWith (nI i) (nI p) (-1) (nI (rw_ D.1 a)) (nI D.1) (nI (NN D.1)) (nI (kk D.1 D.2.1)) rows edges se.2.2.2.2 se.1 se.2.1 se.2.2.1) _ = _
      rw [hsw, Option.bind_some]
      exact x1
    have hY : f_X10_comes (nI i) (nI p) y3 yam ymn ybs yst ykd ylk yri ywh yal ynu ytr ywe yre = some (v, tr', we', rc') := by
      unfold f_X10_comes
      rw [a2, Option.bind_some, if_neg (by decide), b2, Option.bind_some, if_neg (by decide), e4, Option.bind_some, if_neg (by decide), hwb, Option.bind_some, hnow, Option.bind_some, hTB.1]
      show Option.bind (f_X10_fewestFrom (nI a) (nI i) (nI p) (nI (NN D.1)) ymn yri yal we' yre) _ = _
      rw [hfe, Option.bind_some]
      exact x2
    exact ⟨_, _, _, xo_of hX rfl, xo_of hY rfl, D, a, ok, ha, hT, rfl, rfl, hHX, hHY, hTB, rfl, hwh, hR, hU, hK, hS, Or.inr ⟨rfl, rfl, rfl, rfl, hG0.1, hG0.2, rfl, rfl⟩⟩
