/-! what can be laid -/
section LY
variable {n : Nat} {B : Nat → Nat} {li : Int32} {mn bs : Nat → Int32}
theorem E_at0 (h6 : n ≤ 6) (hm : mn 1 = nI n) : ∀ (j k f : Nat), k + j = n → j < f → f_X10_areThere_l31 li mn bs f 0 (nI k) = some 0 := by
  intro j
  induction j with
  | zero =>
    intro k f hk hf
    obtain ⟨f, rfl⟩ : ∃ q, f = q + 1 := ⟨f - 1, by omega⟩
    rw [f_X10_areThere_l31.eq_2, bd12, cl1, hm, if_pos (nI_le (by omega) (by omega))]
    exact zb_ok _ (Or.inl rfl)
  | succ j ih =>
    intro k f hk hf
    obtain ⟨f, rfl⟩ : ∃ q, f = q + 1 := ⟨f - 1, by omega⟩
    rw [f_X10_areThere_l31.eq_2, bd12, cl1, hm, if_neg (nI_ge (by omega) (by omega)), if_pos rfl]
    unfold f_X10_areThere_b67 f_X10_areThere_b68
    rw [show nI k + (1 : Int32) = nI (k + 1) from nI_1 k]
    exact ih (k + 1) f (by omega) (by omega)
theorem E_at1 (h6 : n ≤ 6) (hm : mn 1 = nI n) (hb : ∀ i, i < n → B i ≤ 5 ∧ bs (6 + i) = nI (B i)) : ∀ (j k f : Nat), k + j = n → j < f → ((∀ i, k ≤ i → i < n → B i < n) → f_X10_areThere_l31 li mn bs f 1 (nI k) = some 1) ∧ ((∃ i, k ≤ i ∧ i < n ∧ n ≤ B i) → f_X10_areThere_l31 li mn bs f 1 (nI k) = some 0) := by
  intro j
  induction j with
  | zero =>
    intro k f hk hf
    obtain ⟨f, rfl⟩ : ∃ q, f = q + 1 := ⟨f - 1, by omega⟩
    refine ⟨fun _ => ?_, fun ⟨i, i1, i2, _⟩ => absurd i2 (by omega)⟩
    rw [f_X10_areThere_l31.eq_2, bd12, cl1, hm, if_pos (nI_le (by omega) (by omega))]
    exact zb_ok _ (Or.inr rfl)
  | succ j ih =>
    intro k f hk hf
    obtain ⟨f, rfl⟩ : ∃ q, f = q + 1 := ⟨f - 1, by omega⟩
    obtain ⟨b1, b2⟩ := hb k (by omega)
    have e : f_X10_areThere_l31 li mn bs (f + 1) 1 (nI k) = if nI n ≤ nI (B k) then f_X10_areThere_l31 li mn bs f 0 (nI (k + 1)) else f_X10_areThere_l31 li mn bs f 1 (nI (k + 1)) := by
      rw [f_X10_areThere_l31.eq_2, bd12, cl1, hm, if_neg (nI_ge (by omega) (by omega)), if_neg (by decide), show (6 : Int32) + nI k = nI (6 + k) from nI_add 6 k, bdn _ (show 6 + k < 12 by omega) (by omega), bd12, nI_cl (by omega), b2]
      unfold f_X10_areThere_b67 f_X10_areThere_b68
      rw [show nI k + (1 : Int32) = nI (k + 1) from nI_1 k]
    obtain ⟨i1, i2⟩ := ih (k + 1) f (by omega) (by omega)
    rw [e]
    by_cases c : n ≤ B k
    · rw [if_pos (nI_le c (by omega)), E_at0 h6 hm j (k + 1) f (by omega) (by omega)]
      exact ⟨fun h => absurd (h k (by omega) (by omega)) (by omega), fun _ => rfl⟩
    · rw [if_neg (nI_ge (by omega) (by omega))]
      refine ⟨fun h => i1 (fun i a1 a2 => h i (by omega) a2), fun ⟨i, a1, a2, a3⟩ => i2 ⟨i, ?_, a2, a3⟩⟩
      by_cases q : i = k
      · subst q; exact absurd a3 c
      · omega
end LY
theorem E_can {E : HD} {h hl : Nat} {p rg ht : Int32} {bp sc kd lk : Nat → Int32} {li : Int32} {mn bs st yk yl yr : Nat → Int32} (hR : DR E h hl p rg ht bp sc kd lk li mn bs st yk yl yr) : (f_X2_canBeLaid p ht = some 0 ∧ f_X10_areThere li mn bs = some 0) ∨ (2 ≤ E.1 ∧ h < E.1 ∧ f_X2_canBeLaid p ht = some 1 ∧ f_X10_areThere li mn bs = some 1) := by
  have h0 := NF_big
  obtain ⟨r1, r2, r3, r4, rfl, r6, rfl, r8, r9, r10, rfl, rfl, r13, r14, r15, r16⟩ := hR
  have hat := E_at1 (n := E.1) (B := E.2.2.1) (li := nI hl) (mn := mn) (bs := bs) r1 r6 (fun i hi => ⟨(r3 i hi).1, (r9 i hi).1.2⟩) E.1 0 NF (by omega) (by omega)
  have hat0 := E_at0 (li := nI hl) (bs := bs) r1 r6 E.1 0 NF (by omega) (by omega)
  unfold f_X2_canBeLaid f_X10_areThere f_X10_areThere_b27 f_X10_areThere_b28
  rw [bd12, bd12, cl1, r6]
  by_cases c1 : E.1 < 2
  · left
    rw [if_pos (show nI E.1 < (2 : Int32) from nI_lt (b := 2) c1 (by omega)), if_pos (show nI E.1 < (2 : Int32) from nI_lt (b := 2) c1 (by omega))]
    exact ⟨rfl, hat0⟩
  · rw [if_neg (show ¬ nI E.1 < (2 : Int32) from nI_nlt (b := 2) (by omega) (by omega)), if_neg (show ¬ nI E.1 < (2 : Int32) from nI_nlt (b := 2) (by omega) (by omega))]
    by_cases c2 : E.1 ≤ h
    · left
      rw [if_pos (nI_le c2 (by omega))]
      refine ⟨rfl, ?_⟩
      by_cases c3 : E.1 ≤ hl
      · rw [if_pos (nI_le c3 (by omega))]
        exact hat0
      · rw [if_neg (nI_ge (by omega) (by omega))]
        refine hat.2 ?_
        rcases r16 with e | ⟨i, i1, i2⟩
        · omega
        · exact ⟨i, by omega, i1, by omega⟩
    · right
      rw [if_neg (nI_ge (by omega) (by omega)), if_neg (nI_ge (by omega) (by omega))]
      exact ⟨by omega, by omega, rfl, hat.1 (fun i _ hi => by have := r15 i hi; omega)⟩
section LZ
variable {n : Nat} {ln : Int32} {tx mn bs st yk yr to : Nat → Int32} {li pl : Int32}
theorem E_lay104 (hm : mn 0 = nI n) (h2 : 2 ≤ n) (h6 : n ≤ 6) {lk0 : Nat → Int32} {a1 a2 a3 a4 aM : Int32} {wh al nu tr : Nat → Int32} : ∀ (j k f : Nat) (lk : Nat → Int32), k + j = 36 → j < f → (∀ q, q < k → lk q = lk0 (36 + q)) → (∀ q, 36 ≤ q → lk q = lk0 q) → ∃ lk' wh' al' nu' tr', f_X10_lay_l104 ln tx f (nI k) li a1 a2 a3 a4 pl aM mn bs st yk lk yr wh to al nu tr = some (nI n, li, 0, 0, 0, 0, pl, nI (NN n), mn, bs, st, yk, lk', yr, wh', to, al', nu', tr') ∧ (∀ q, q < 36 → lk' q = lk0 (36 + q)) ∧ (∀ p, p < 6 → wh' p = nI p) ∧ TB n (nI (NN n)) al' nu' := by
  intro j
  induction j with
  | zero =>
    intro k f lk hk hf h1 h3
    obtain ⟨f, rfl⟩ : ∃ q, f = q + 1 := ⟨f - 1, by omega⟩
    obtain ⟨wh', al', nu', tr', e1, e2, e3⟩ := E_layHouses hm h2 h6 a1 a2 a3 a4 aM wh al nu tr
    refine ⟨lk, wh', al', nu', tr', ?_, fun q hq => h1 q (by omega), e2, e3⟩
    rw [f_X10_lay_l104.eq_2, if_pos (show (36 : Int32) ≤ nI k from nI_le (a := 36) (by omega) (by omega)), e1, Option.bind_some, bd0, c0, hm]
  | succ j ih =>
    intro k f lk hk hf h1 h3
    obtain ⟨f, rfl⟩ : ∃ q, f = q + 1 := ⟨f - 1, by omega⟩
    rw [f_X10_lay_l104.eq_2, if_neg (show ¬ (36 : Int32) ≤ nI k from nI_ge (b := 36) (by omega) (by omega)), show (36 : Int32) + nI k = nI (36 + k) from nI_add 36 k, bdn _ (show 36 + k < 72 by omega) (by omega), bdn _ (show k < 72 by omega) (by omega), nI_cl (by omega), nI_cl (by omega), show nI k + (1 : Int32) = nI (k + 1) from nI_1 k]
    refine ih (k + 1) f _ (by omega) (by omega) (fun q hq => ?_) (fun q hq => ?_)
    · by_cases c : q = k
      · subst c; rw [pk_us]; exact h3 _ (by omega)
      · rw [pk_un c]; exact h1 q (by omega)
    · rw [pk_un (by omega)]; exact h3 q hq
theorem E_lay45 (hm : mn 0 = nI n) (h2 : 2 ≤ n) (h6 : n ≤ 6) {bs0 st0 yk0 lk0 : Nat → Int32} {a1 a2 a3 a4 aM : Int32} {wh al nu tr : Nat → Int32} : ∀ (j k f : Nat) (bs st yk : Nat → Int32), k + j = 6 → j < f → (∀ q, q < k → bs q = bs0 (6 + q) ∧ st q = st0 (6 + q) ∧ yk q = yk0 (6 + q)) → (∀ q, 6 ≤ q → bs q = bs0 q ∧ st q = st0 q ∧ yk q = yk0 q) → ∃ bs' st' yk' lk' wh' al' nu' tr', f_X10_lay_l45 ln tx f (nI k) li a1 a2 a3 a4 pl aM mn bs st yk lk0 yr wh to al nu tr = some (nI n, li, 0, 0, 0, 0, pl, nI (NN n), mn, bs', st', yk', lk', yr, wh', to, al', nu', tr') ∧ (∀ q, q < 6 → bs' q = bs0 (6 + q) ∧ st' q = st0 (6 + q) ∧ yk' q = yk0 (6 + q)) ∧ (∀ q, q < 36 → lk' q = lk0 (36 + q)) ∧ (∀ p, p < 6 → wh' p = nI p) ∧ TB n (nI (NN n)) al' nu' := by
  have h0 := NF_big
  intro j
  induction j with
  | zero =>
    intro k f bs st yk hk hf h1 h3
    obtain ⟨f, rfl⟩ : ∃ q, f = q + 1 := ⟨f - 1, by omega⟩
    obtain ⟨lk', wh', al', nu', tr', e1, e2, e3, e4⟩ := E_lay104 (ln := ln) (tx := tx) (bs := bs) (st := st) (yk := yk) (yr := yr) (to := to) (li := li) (pl := pl) (lk0 := lk0) (a1 := a1) (a2 := a2) (a3 := a3) (a4 := a4) (aM := aM) (wh := wh) (al := al) (nu := nu) (tr := tr) hm h2 h6 36 0 NF lk0 (by omega) (by omega) (fun q hq => absurd hq (by omega)) (fun q _ => rfl)
    refine ⟨bs, st, yk, lk', wh', al', nu', tr', ?_, fun q hq => h1 q (by omega), e2, e3, e4⟩
    rw [f_X10_lay_l45.eq_2, if_pos (show (6 : Int32) ≤ nI k from nI_le (a := 6) (by omega) (by omega))]
    exact e1
  | succ j ih =>
    intro k f bs st yk hk hf h1 h3
    obtain ⟨f, rfl⟩ : ∃ q, f = q + 1 := ⟨f - 1, by omega⟩
    rw [f_X10_lay_l45.eq_2, if_neg (show ¬ (6 : Int32) ≤ nI k from nI_ge (b := 6) (by omega) (by omega)), show (6 : Int32) + nI k = nI (6 + k) from nI_add 6 k, bdn _ (show 6 + k < 12 by omega) (by omega), bdn _ (show k < 12 by omega) (by omega), bdn _ (show 6 + k < 12 by omega) (by omega), bdn _ (show k < 12 by omega) (by omega), bdn _ (show 6 + k < 12 by omega) (by omega), bdn _ (show k < 12 by omega) (by omega), nI_cl (by omega), nI_cl (by omega), show nI k + (1 : Int32) = nI (k + 1) from nI_1 k]
    obtain ⟨g1, g2, g3⟩ := h3 (6 + k) (by omega)
    refine ih (k + 1) f _ _ _ (by omega) (by omega) (fun q hq => ?_) (fun q hq => ?_)
    · by_cases c : q = k
      · subst c; rw [pk_us, pk_us, pk_us]; exact ⟨g1, g2, g3⟩
      · rw [pk_un c, pk_un c, pk_un c]; exact h1 q (by omega)
    · rw [pk_un (by omega), pk_un (by omega), pk_un (by omega)]; exact h3 q hq
end LZ
theorem op_lay : ∀ (X : ZX9) (Y : ZX10), Inv X Y → ∃ (r : Int32) (X1 : ZX9) (Y1 : ZX10), xo_lay  X = some (r, X1) ∧ yo_lay  Y = some (r, Y1) ∧ Inv X1 Y1 := by
  intro X Y hI
  obtain ⟨⟨tby, tle, tnu⟩, ⟨pe, ri, hto, bp, sc, kd, lk⟩, dr, row, ⟨ton, tos⟩, ⟨don, dos⟩, ⟨ken, kes⟩, ⟨sw, sf, st, sy, ss⟩, gr, gd, se, ev, wa⟩ := X
  obtain ⟨yle, ytx, ymn, ybs, yst, ykd, ylk, yri, yli, ywh, ykm, yun, yum, yrm, yrw, ysm, yso, ysf, ysg, ysy, ypl, yto, yam, yal, ynu, ytr, ywe, ywt, ylo, yre, ywa, ynx⟩ := Y
  obtain ⟨D, a, hI⟩ := hI
  have hI0 : InvC D a tby tle pe ri bp sc kd lk row ton tos don dos ken kes sw sf st sy ss gr gd yle ytx ymn ybs yst ykd ylk yri ywh ykm yun yum yrm yrw ysm yso ysf ysg ysy yam yal ynu := hI
  obtain ⟨ok, ha, hT, hpe, hri, hHX, hHY, hTB, hrow, hwh, hR, hU, hK, hS, hG⟩ := id hI0
  obtain ⟨L, hL, rfl, rfl, rfl⟩ := id hT
  rcases E_read (tx := tby) hL ok.2.1 tnu dr.1 dr.2.1 dr.2.2.1 dr.2.2.2.1 dr.2.2.2.2.1 dr.2.2.2.2.2.1 dr.2.2.2.2.2.2 yli ypl ymn ybs yst ykd ylk yri yto hHY with ⟨m, nu, p, rg, ht, bp', sc', kd', lk', li, pl, mn', bs', st', yk', yl', yr', to', hm, e1, e2, hy⟩ | ⟨E, h, hl, nu, p, rg, ht, bp', sc', kd', lk', li, pl, mn', bs', st', yk', yl', yr', to', e1, e2, hDR, hy⟩
  · have hX : f_X9_lay 0 1 row gd (nI L) tby tnu dr.1 dr.2.1 dr.2.2.1 dr.2.2.2.1 dr.2.2.2.2.1 dr.2.2.2.2.2.1 dr.2.2.2.2.2.2 tos dos kes ss = some (-2, 0, 1, row, gd, nu, p, rg, ht, bp', sc', kd', lk', tos, dos, kes, ss) := by
      unfold f_X9_lay
      rw [e1, Option.bind_some]
      exact if_pos (show (0 : Int32) ≤ nI m from nI_ge0 (by omega))
    have hY : f_X10_lay (nI L) yli ykm yum yrm ysm ypl yam tby ymn ybs yst ykd ylk yri ywh yto yal ynu ytr = some (-2, li, ykm, yum, yrm, ysm, pl, yam, mn', bs', st', yk', yl', yr', ywh, to', yal, ynu, ytr) := by
      unfold f_X10_lay
      rw [e2, Option.bind_some]
      exact if_neg (show ¬ nI m = (-4 : Int32) from fun q => absurd (show (0 : Int32) ≤ -4 from q ▸ nI_ge0 (by omega)) (by decide))
    exact ⟨_, _, _, xo_of hX rfl, xo_of hY rfl, D, a, ok, ha, hT, hpe, hri, hHX, hy, hTB, hrow, hwh, hR, hU, hK, hS, hG⟩
  · rcases E_can hDR with ⟨c1, c2⟩ | ⟨n2, hn, c1, c2⟩
    · have hX : f_X9_lay 0 1 row gd (nI L) tby tnu dr.1 dr.2.1 dr.2.2.1 dr.2.2.2.1 dr.2.2.2.2.1 dr.2.2.2.2.2.1 dr.2.2.2.2.2.2 tos dos kes ss = some (-2, 0, 1, row, gd, nu, p, rg, ht, bp', sc', kd', lk', tos, dos, kes, ss) := by
        unfold f_X9_lay
        rw [e1, Option.bind_some]
        refine (if_neg (show ¬ (0 : Int32) ≤ -1 by decide)).trans ?_
        show Option.bind (f_X2_canBeLaid p ht) _ = _
        rw [c1, Option.bind_some]
        exact if_pos rfl
      have hY : f_X10_lay (nI L) yli ykm yum yrm ysm ypl yam tby ymn ybs yst ykd ylk yri ywh yto yal ynu ytr = some (-2, li, ykm, yum, yrm, ysm, pl, yam, mn', bs', st', yk', yl', yr', ywh, to', yal, ynu, ytr) := by
        unfold f_X10_lay
        rw [e2, Option.bind_some]
        refine (if_pos rfl).trans ?_
        show Option.bind (f_X10_areThere li mn' bs') _ = _
        rw [c2, Option.bind_some]
        exact if_pos rfl
      exact ⟨_, _, _, xo_of hX rfl, xo_of hY rfl, D, a, ok, ha, hT, hpe, hri, hHX, hy, hTB, hrow, hwh, hR, hU, hK, hS, hG⟩
    · obtain ⟨r1, r2, r3, r4, rfl, r6, rfl, r8, r9, r10, rfl, rfl, r13, r14, r15, r16⟩ := hDR
      have h0 := NF_big
      obtain ⟨bs2, st2, yk2, yl2, wh2, al2, nu2, tr2, z1, z2, z3, z4, z5⟩ := E_lay45 (n := E.1) (ln := nI L) (tx := tby) (mn := upd mn' 0 (mn' 1)) (yr := upd yr' 0 (yr' 1)) (to := to') (li := nI hl) (pl := pl) (bs0 := bs') (st0 := st') (yk0 := yk') (lk0 := yl') (a1 := ykm) (a2 := yum) (a3 := yrm) (a4 := ysm) (aM := yam) (wh := ywh) (al := yal) (nu := ynu) (tr := ytr) (by rw [pk_us]; exact r6) n2 r1 6 0 NF bs' st' yk' (by omega) (by omega) (fun q hq => absurd hq (by omega)) (fun q _ => ⟨rfl, rfl, rfl⟩)
      have hX : f_X9_lay 0 1 row gd (nI L) tby tnu dr.1 dr.2.1 dr.2.2.1 dr.2.2.2.1 dr.2.2.2.2.1 dr.2.2.2.2.2.1 dr.2.2.2.2.2.2 tos dos kes ss = some (nI E.1, 1, 0, nI (rw_ E.1 0), 0, nu, nI E.1, nI E.2.1, nI h, bp', sc', kd', lk', 0, 0, 0, 0) := by
        unfold f_X9_lay
        rw [e1, Option.bind_some]
        refine (if_neg (show ¬ (0 : Int32) ≤ -1 by decide)).trans ?_
        show Option.bind (f_X2_canBeLaid (nI E.1) (nI h)) _ = _
        rw [c1, Option.bind_some]
        refine (if_neg (by decide)).trans ?_
        show Option.bind (f_X4_ordered (nI E.1)) _ = _
        rw [tb_first E.1 (by omega) n2, Option.bind_some]
      have hY : f_X10_lay (nI L) yli ykm yum yrm ysm ypl yam tby ymn ybs yst ykd ylk yri ywh yto yal ynu ytr = some (nI E.1, nI hl, 0, 0, 0, 0, pl, nI (NN E.1), upd mn' 0 (mn' 1), bs2, st2, yk2, yl2, upd yr' 0 (yr' 1), wh2, to', al2, nu2, tr2) := by
        unfold f_X10_lay
        rw [e2, Option.bind_some]
        refine (if_pos rfl).trans ?_
        show Option.bind (f_X10_areThere (nI hl) mn' bs') _ = _
        rw [c2, Option.bind_some]
        refine (if_neg (by decide)).trans ?_
        rw [bd12, bd0, bd12, bd0]
        exact z1
      have hokE : HOK E := ⟨n2, r1, r2, fun i hi => by have := r15 i hi; omega, fun i hi => (r3 i hi).2.1, fun i hi => (r3 i hi).2.2, fun i hi j hj => r4 i (by omega) j (by omega)⟩
      have hNN := NN_1 E.1 (by omega) n2
      have hHX2 : HX E bp' sc' kd' lk' := ⟨fun i hi => (r9 i hi).1.1, fun i hi => (r9 i hi).2.1.1, fun i hi => (r9 i hi).2.2.1, fun i hi j hj => (r10 i (by omega) j (by omega)).1⟩
      have hHY2 : HY E (upd mn' 0 (mn' 1)) bs2 st2 yk2 yl2 (upd yr' 0 (yr' 1)) := by
        refine ⟨by rw [pk_us]; exact r6, by rw [pk_us]; exact r8, fun i hi => (z2 i (by omega)).1.trans (r9 i hi).1.2, fun i hi => (z2 i (by omega)).2.1.trans (r9 i hi).2.1.2, fun i hi => (z2 i (by omega)).2.2.trans (r9 i hi).2.2.2, fun i hi j hj => (z3 (6 * i + j) (by omega)).trans ?_⟩
        have := (r10 i (by omega) j (by omega)).2
        rw [show 36 + (6 * i + j) = 36 + 6 * i + j by omega]
        exact this
      have hwh2 : ∀ q, q < E.1 → wh2 q = nI (dg E.1 0 q) := fun q hq => by
        rw [tb_id E.1 (by omega) n2 q hq]
        exact z4 q (by omega)
      exact ⟨_, _, _, xo_of hX rfl, xo_of hY rfl, E, 0, hokE, by omega, hT, rfl, rfl, hHX2, hHY2, z5, rfl, hwh2, ⟨0, by omega, rfl, rfl, fun j hj => absurd hj (by omega)⟩, ⟨0, by omega, rfl, rfl, fun j hj => absurd hj (by omega)⟩, ⟨0, by omega, rfl, rfl, fun j hj => absurd hj (by omega)⟩, ⟨0, by omega, rfl, rfl, fun j hj => absurd hj (by omega)⟩, Or.inl rfl⟩
