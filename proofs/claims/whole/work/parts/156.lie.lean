/-! who gains by a lie -/
def setB (D : HD) (i b : Nat) : HD := (D.1, D.2.1, (fun j => if j = i then b else D.2.2.1 j), D.2.2.2.1, D.2.2.2.2.1, D.2.2.2.2.2)
theorem setB_own (D : HD) (i : Nat) : setB D i (D.2.2.1 i) = D := by
  have e : (fun j => if j = i then D.2.2.1 i else D.2.2.1 j) = D.2.2.1 := by
    funext j
    by_cases h : j = i
    · rw [if_pos h, h]
    · rw [if_neg h]
  unfold setB
  rw [e]
section LI
variable {D : HD} {bp sc kd lk mn bs st ykd ylk ri all num : Nat → Int32} {am : Int32}
theorem setB_ok (ok : HOK D) {i b : Nat} (hb : b < D.1) : HOK (setB D i b) := by
  obtain ⟨h1, h2, h3, h4, h5, h6, h7⟩ := ok
  refine ⟨h1, h2, h3, fun j hj => ?_, h5, h6, h7⟩
  show (if j = i then b else D.2.2.1 j) < D.1
  split
  · exact hb
  · exact h4 j hj
theorem setB_X (hx : HX D bp sc kd lk) {i b : Nat} : HX (setB D i b) (upd bp i (nI b)) sc kd lk := by
  refine ⟨fun j hj => ?_, hx.2.1, hx.2.2.1, hx.2.2.2⟩
  show upd bp i (nI b) j = nI (if j = i then b else D.2.2.1 j)
  by_cases h : j = i
  · rw [h, pk_us, if_pos rfl]
  · rw [pk_un h, if_neg h]; exact hx.1 j hj
theorem setB_Y (hy : HY D mn bs st ykd ylk ri) {i b : Nat} : HY (setB D i b) mn (upd bs i (nI b)) st ykd ylk ri := by
  refine ⟨hy.1, hy.2.1, fun j hj => ?_, hy.2.2.2.1, hy.2.2.2.2.1, hy.2.2.2.2.2⟩
  show upd bs i (nI b) j = nI (if j = i then b else D.2.2.1 j)
  by_cases h : j = i
  · rw [h, pk_us, if_pos rfl]
  · rw [pk_un h, if_neg h]; exact hy.2.2.1 j hj
theorem back_X (hx : HX D bp sc kd lk) {i : Nat} {v : Int32} : HX D (upd (upd bp i v) i (bp i)) sc kd lk := by
  refine ⟨fun j hj => ?_, hx.2.1, hx.2.2.1, hx.2.2.2⟩
  by_cases h : j = i
  · rw [h, pk_us]; rw [h] at hj; exact hx.1 i hj
  · rw [pk_un h, pk_un h]; exact hx.1 j hj
theorem back_Y (hy : HY D mn bs st ykd ylk ri) {i : Nat} {v w : Int32} (hw : i < D.1 → w = nI (D.2.2.1 i)) : HY D mn (upd (upd bs i v) i w) st ykd ylk ri := by
  refine ⟨hy.1, hy.2.1, fun j hj => ?_, hy.2.2.2.1, hy.2.2.2.2.1, hy.2.2.2.2.2⟩
  by_cases h : j = i
  · rw [h, pk_us]; exact hw (by omega)
  · rw [pk_un h, pk_un h]; exact hy.2.2.1 j hj
/-- his true worth where it ends, if he says b -/
def wsay (D : HD) (i a b m : Nat) : Int := wth D (itr (setB D i b) a m) (ps D.1 (itr (setB D i b) a m) i)
theorem wsay_bd (ok : HOK D) {i a b m : Nat} (hi : i < D.1) (hb : b < D.1) (ha : a < NN D.1) : -200 ≤ wsay D i a b m ∧ wsay D i a b m ≤ 200 := by
  have h : itr (setB D i b) a m < NN D.1 := itr_lt (setB_ok ok hb) ha m
  exact wth_bd ok h (tb_ps D.1 _ h i hi).1
theorem E_wbs (ok : HOK D) (hx : HX D bp sc kd lk) {i a b : Nat} {os oe : Int32} (hi : i < D.1) (hb : b < D.1) (ha : a < NN D.1) : ∃ v bp' st' en', f_X9_worthBySaying (nI i) (nI b) (nI (rw_ D.1 a)) (nI D.1) (nI D.2.1) bp sc kd lk os oe = some (v, bp', st', en') ∧ HX D bp' sc kd lk ∧ ((∃ m, RestAt (setB D i b) a m ∧ v = iI (wsay D i a b m)) ∨ (v = -1000000 ∧ NoRest (setB D i b) a)) := by
  have h6 := ok.2.1
  obtain ⟨c, st', en', x1, x2⟩ := E_comes (D := setB D i b) (os := os) (oe := oe) (setB_ok ok hb) (setB_X hx) ha
  have x1' : f_X8_comesToRest (nI (rw_ D.1 a)) os oe (nI D.1) (nI D.2.1) (upd bp i (nI b)) sc kd lk = some (c, st', en') := x1
  have hbk := back_X (i := i) (v := nI b) hx
  unfold f_X9_worthBySaying
  rw [bdn _ (by omega) (by omega), bdn _ (by omega) (by omega), nI_cl (by omega), x1', Option.bind_some, bdn _ (by omega) (by omega)]
  rcases x2 with ⟨rfl, m, hm, rfl, rfl⟩ | ⟨rfl, hno⟩
  · have hi' : itr (setB D i b) a m < NN D.1 := itr_lt (setB_ok ok hb) ha m
    refine ⟨iI (wsay D i a b m), _, nI m, nI (rw_ D.1 (itr (setB D i b) a m)), ?_, hbk, Or.inl ⟨m, hm, rfl⟩⟩
    refine (if_neg (show ¬ (1 : Int32) = 0 by decide)).trans ?_
    show Option.bind (f_X2_worthOf (nI (rw_ D.1 (itr (setB D i b) a m))) (nI i) (nI D.1) (nI D.2.1) (upd (upd bp i (nI b)) i (bp i)) sc lk) _ = _
    rw [E_worthOf ok hbk hi' hi, Option.bind_some]
    rfl
  · exact ⟨-1000000, _, st', en', if_pos rfl, hbk, Or.inr ⟨rfl, hno⟩⟩
theorem E_lie_l (ok : HOK D) {i a : Nat} {what tru : Int32} {wh : Nat → Int32} (tb : TB D.1 am all num) (hi : i < D.1) (ha : a < NN D.1) (hwh : ∀ p, p < D.1 → wh p = nI (dg D.1 a p)) {m0 : Nat} (hm0 : RestAt D a m0) : ∀ (j k f g : Nat) (top said most : Int32) (bp bs : Nat → Int32) (os oe wt : Int32) (tr we : Nat → Int32), k + j = D.1 → j < f → j < g → HX D bp sc kd lk → HY D mn bs st ykd ylk ri → ((said = -4 ∧ top = -1000000 ∧ k ≤ D.2.2.1 i) ∨ ∃ (s : Nat) (t : Int), s < D.1 ∧ said = nI s ∧ top = iI t ∧ most = iI t ∧ -200 ≤ t ∧ t ≤ 200) →
    ∃ r bp' os' oe' wt' bs' tr' we', f_X9_lie_l57 (nI (rw_ D.1 a)) (nI D.1) (nI D.2.1) sc kd lk f (nI i) what tru top said (nI k) bp os oe = some (r, bp', os', oe') ∧ f_X10_lie_l58 am mn st ykd ylk ri wh all num g (nI i) what tru (nI (D.2.2.1 i)) said most (nI k) wt bs tr we = some (r, wt', bs', tr', we') ∧ HX D bp' sc kd lk ∧ HY D mn bs' st ykd ylk ri := by
  have h2 := ok.1
  have h6 := ok.2.1
  have hown := ok.2.2.2.1 i hi
  intro j
  induction j with
  | zero =>
    intro k f g top said most bp bs os oe wt tr we hk hf hg hx hy hrel
    obtain ⟨f, rfl⟩ : ∃ q, f = q + 1 := ⟨f - 1, by omega⟩
    obtain ⟨g, rfl⟩ : ∃ q, g = q + 1 := ⟨g - 1, by omega⟩
    rw [f_X9_lie_l57.eq_2, f_X10_lie_l58.eq_2, bd0, c0, hy.1, if_pos (nI_le (by omega) (by omega)), if_pos (nI_le (by omega) (by omega))]
    rcases hrel with ⟨_, _, q⟩ | ⟨s, t, hs, rfl, rfl, rfl, t1, t2⟩
    · omega
    · by_cases hw : what = 0
      · exact ⟨_, _, _, _, _, _, _, _, if_pos hw, if_pos hw, hx, hy⟩
      · exact ⟨_, _, _, _, _, _, _, _, if_neg hw, if_neg hw, hx, hy⟩
  | succ j ih =>
    intro k f g top said most bp bs os oe wt tr we hk hf hg hx hy hrel
    obtain ⟨f, rfl⟩ : ∃ q, f = q + 1 := ⟨f - 1, by omega⟩
    obtain ⟨g, rfl⟩ : ∃ q, g = q + 1 := ⟨g - 1, by omega⟩
    have hkn : k < D.1 := by omega
    obtain ⟨v, bp', st', en', x1, x2, x3⟩ := E_wbs (os := os) (oe := oe) ok hx hi hkn ha
    obtain ⟨r0, wt', tr', we', z1, z2⟩ := E_goOn (D := setB D i k) (wt := wt) (setB_ok ok hkn) (setB_Y hy) tb ha hwh tr we
    have z1' : f_X10_goOn am wt mn (upd bs i (nI k)) st ykd ylk ri wh all num tr we = some (r0, wt', tr', we') := z1
    have hbk := back_Y (i := i) (v := nI k) (w := nI (D.2.2.1 i)) hy (fun _ => rfl)
    rw [f_X9_lie_l57.eq_2, f_X10_lie_l58.eq_2, bd0, c0, hy.1, if_neg (nI_ge (by omega) (by omega)), if_neg (nI_ge (by omega) (by omega)), x1, Option.bind_some, bdn _ (by omega) (by omega), nI_cl (by omega), z1', Option.bind_some, bdn _ (by omega) (by omega)]
    unfold f_X9_lie_b93 f_X10_lie_b119 f_X10_lie_b124 f_X10_lie_b138 f_X10_lie_b152 f_X10_lie_b154
    rw [show nI k + (1 : Int32) = nI (k + 1) from nI_1 k]
    rcases x3 with ⟨m, hm, rfl⟩ | ⟨rfl, hno⟩
    · obtain ⟨rfl, rfl⟩ : r0 = nI m ∧ wt' = nI (itr (setB D i k) a m) := by
        rcases z2 with ⟨m', hm', q1, q2⟩ | ⟨_, hno⟩
        · rw [RestAt_uniq hm hm']; exact ⟨q1, q2⟩
        · exact absurd (RestAt_no hm hno) (fun h => h)
      have hmb := hm.1
      have wb := wsay_bd (m := m) ok hi hkn ha
      have hit : itr (setB D i k) a m < NN D.1 := itr_lt (setB_ok ok hkn) ha m
      have eW : f_X10_worthIn (nI (itr (setB D i k) a m)) (nI i) mn (upd (upd bs i (nI k)) i (nI (D.2.2.1 i))) st ylk ri all = some (iI (wsay D i a k m)) := E_worthIn ok hbk tb hit hi
      have nxt1 := ih (k + 1) f g (iI (wsay D i a k m)) (nI k) (iI (wsay D i a k m)) bp' (upd (upd bs i (nI k)) i (nI (D.2.2.1 i))) st' en' (nI (itr (setB D i k) a m)) tr' we' (by omega) (by omega) (by omega) x2 hbk (Or.inr ⟨k, _, hkn, rfl, rfl, rfl, wb.1, wb.2⟩)
      show ∃ r bp'' os' oe' wt'' bs' tr'' we'', (if iI (wsay D i a k m) ≤ top then _ else _) = _ ∧ (if nI m < 0 then _ else Option.bind (f_X10_worthIn (nI (itr (setB D i k) a m)) (nI i) mn (upd (upd bs i (nI k)) i (nI (D.2.2.1 i))) st ylk ri all) _) = _ ∧ _ ∧ _
      rw [if_neg (nI_lt0 (by omega)), eW, Option.bind_some]
      rcases hrel with ⟨rfl, rfl, q⟩ | ⟨s, t, hs, rfl, rfl, rfl, t1, t2⟩
      · rw [if_neg (show ¬ iI (wsay D i a k m) ≤ (-1000000 : Int32) from fun q => absurd ((iI_le (b := -1000000) (by omega) (by omega) (by omega) (by omega)).mp q) (by omega)), if_pos (show (-4 : Int32) < 0 by decide)]
        simp only [if_neg (show ¬ (1 : Int32) = 0 by decide)]
        exact nxt1
      · rw [if_neg (show ¬ nI s < 0 from nI_lt0 (by omega))]
        by_cases hle : wsay D i a k m ≤ t
        · have c1 : iI (wsay D i a k m) ≤ iI t := (iI_le (by omega) (by omega) (by omega) (by omega)).mpr hle
          rw [if_pos c1, if_pos c1]
          simp only [if_pos (show (0 : Int32) = 0 from rfl)]
          exact ih (k + 1) f g (iI t) (nI s) (iI t) bp' _ st' en' _ tr' we' (by omega) (by omega) (by omega) x2 hbk (Or.inr ⟨s, t, hs, rfl, rfl, rfl, t1, t2⟩)
        · have c1 : ¬ iI (wsay D i a k m) ≤ iI t := fun q => hle ((iI_le (by omega) (by omega) (by omega) (by omega)).mp q)
          rw [if_neg c1, if_neg c1]
          simp only [if_neg (show ¬ (1 : Int32) = 0 by decide)]
          exact nxt1
    · obtain rfl : r0 = -4 := by
        rcases z2 with ⟨m', hm', q1, q2⟩ | ⟨q, _⟩
        · exact absurd (RestAt_no hm' hno) (fun h => h)
        · exact q
      have hkne : k ≠ D.2.2.1 i := by
        intro e
        rw [e, setB_own] at hno
        exact RestAt_no hm0 hno
      have hrel' : ((said = -4 ∧ top = -1000000 ∧ k + 1 ≤ D.2.2.1 i) ∨ ∃ (s : Nat) (t : Int), s < D.1 ∧ said = nI s ∧ top = iI t ∧ most = iI t ∧ -200 ≤ t ∧ t ≤ 200) := by
        rcases hrel with ⟨q1, q2, q3⟩ | q
        · exact Or.inl ⟨q1, q2, by omega⟩
        · exact Or.inr q
      have hle : (-1000000 : Int32) ≤ top := by
        rcases hrel with ⟨_, rfl, _⟩ | ⟨s, t, _, _, rfl, _, t1, t2⟩
        · decide
        · exact (iI_le (a := -1000000) (b := t) (by omega) (by omega) (by omega) (by omega)).mpr (by omega)
      show ∃ r bp'' os' oe' wt'' bs' tr'' we'', (if (-1000000 : Int32) ≤ top then _ else _) = _ ∧ (if (-4 : Int32) < 0 then _ else _) = _ ∧ _ ∧ _
      rw [if_pos hle, if_pos (show (-4 : Int32) < 0 by decide)]
      exact ih (k + 1) f g top said most bp' _ st' en' _ tr' we' (by omega) (by omega) (by omega) x2 hbk hrel'
end LI
