/-! going on by the lowest change that suits -/
def stp_ (D : HD) (a : Nat) : Nat := if restB D a then a else chg D.1 a (lowN D a)
def itr (D : HD) (a : Nat) : Nat → Nat
  | 0 => a
  | m + 1 => stp_ D (itr D a m)
theorem itr_add (D : HD) (a m : Nat) : ∀ k, itr D a (m + k) = itr D (itr D a m) k
  | 0 => rfl
  | k + 1 => by rw [← Nat.add_assoc, itr, itr_add D a m k]; rfl
theorem cyc (D : HD) (a : Nat) {q s : Nat} (hq : q ≤ s) (e : itr D a (s + 1) = itr D a q) (h : ∀ m, m ≤ s → restB D (itr D a m) = false) : ∀ N m, m ≤ N → restB D (itr D a m) = false := by
  intro N
  induction N with
  | zero => intro m hm; exact h m (by omega)
  | succ N ih =>
    intro m hm
    by_cases h1 : m ≤ s
    · exact h m h1
    · have e1 : itr D a m = itr D a (q + (m - (s + 1))) := by
        rw [itr_add D a q, ← e, ← itr_add D a (s + 1), show s + 1 + (m - (s + 1)) = m by omega]
      rw [e1]
      exact ih _ (by omega)
section GO
variable {D : HD} {bp sc kd lk mn bs st ykd ylk ri all num : Nat → Int32} {am : Int32}
theorem stp_lt (ok : HOK D) {a : Nat} (ha : a < NN D.1) : stp_ D a < NN D.1 := by
  have h6 := ok.2.1
  have hkk := (kk_bd (rg := D.2.1) ok.1 h6).2
  have h1 := lowN_le D a
  unfold stp_
  rw [rest_low]
  by_cases h : lowN D a = kk D.1 D.2.1
  · rw [decide_eq_true h, if_pos rfl]; exact ha
  · rw [decide_eq_false h, if_neg (by decide)]; exact tb_chg D.1 a ha _ (by omega)
theorem itr_lt (ok : HOK D) {a : Nat} (ha : a < NN D.1) : ∀ m, itr D a m < NN D.1
  | 0 => ha
  | m + 1 => stp_lt ok (itr_lt ok ha m)
theorem stp_go {a : Nat} (h : restB D a = false) : stp_ D a = chg D.1 a (lowN D a) := by unfold stp_; rw [h, if_neg (by decide)]
theorem rw_inj {n a b : Nat} (ha : a < NN n) (hb : b < NN n) (h : nI (rw_ n a) = nI (rw_ n b)) : a = b := by
  have h1 := tb_rank n a ha
  have h2 := tb_rank n b hb
  have hN := NN_le n
  rw [h, h2] at h1
  exact ((nI_eq (by omega) (by omega)).mp (Option.some.inj h1)).symm
def RestAt (D : HD) (a m : Nat) : Prop := m ≤ 1000 ∧ restB D (itr D a m) = true ∧ ∀ k, k < m → restB D (itr D a k) = false
def NoRest (D : HD) (a : Nat) : Prop := ∀ k, k ≤ 1000 → restB D (itr D a k) = false
theorem E_c34 (ok : HOK D) (hx : HX D bp sc kd lk) {b : Nat} {x4 x5 os : Int32} (hb : b < NN D.1) (K : Int32 → Int32 → Int32 → Int32 → Int32 → Option (Int32 × Int32 × Int32)) : ∀ (j k f : Nat), k + j = kk D.1 D.2.1 → j < f → f_X8_comesToRest_l34 (nI D.1) (nI D.2.1) bp sc kd lk K f (nI (kk D.1 D.2.1)) x4 x5 (nI k) os (nI (rw_ D.1 b)) = f_X8_comesToRest_b59 (nI D.1) (nI D.2.1) bp sc kd lk K (nI (kk D.1 D.2.1)) x4 x5 (nI (lowF D b k j)) os (nI (rw_ D.1 b)) := by
  have h6 := ok.2.1
  have hkk := (kk_bd (rg := D.2.1) ok.1 h6).2
  intro j
  induction j with
  | zero =>
    intro k f hk hf
    obtain ⟨f, rfl⟩ : ∃ g, f = g + 1 := ⟨f - 1, by omega⟩
    rw [f_X8_comesToRest_l34.eq_2, if_pos (nI_le (by omega) (by omega))]; rfl
  | succ j ih =>
    intro k f hk hf
    obtain ⟨f, rfl⟩ : ∃ g, f = g + 1 := ⟨f - 1, by omega⟩
    rw [f_X8_comesToRest_l34.eq_2, if_neg (nI_ge (by omega) (by omega)), E_changeSuits ok hx hb (by omega), Option.bind_some, show nI k + (1 : Int32) = nI (k + 1) from nI_1 k, lowF]
    cases suitB D b k
    · rw [if_pos (show bI false = 0 from rfl), if_neg (by decide)]
      exact ih (k + 1) f (by omega) (by omega)
    · rw [if_neg (show ¬ bI true = 0 by decide), if_pos rfl]
theorem E_c21 (ok : HOK D) (hx : HX D bp sc kd lk) {a : Nat} (ha : a < NN D.1) : ∀ (j s q f : Nat) (x5 : Int32), s + j = 1001 → j < f → q ≤ s → (∀ k, k < s → restB D (itr D a k) = false) → ∃ c st' en', f_X8_comesToRest_l21 (nI D.1) (nI D.2.1) bp sc kd lk f (nI (kk D.1 D.2.1)) (nI (rw_ D.1 (itr D a q))) x5 (nI s) (nI (rw_ D.1 (itr D a s))) = some (c, st', en') ∧ ((c = 1 ∧ ∃ m, RestAt D a m ∧ st' = nI m ∧ en' = nI (rw_ D.1 (itr D a m))) ∨ (c = 0 ∧ NoRest D a)) := by
  have h6 := ok.2.1
  have h0 := NF_big
  have hkk := (kk_bd (rg := D.2.1) ok.1 h6).2
  intro j
  induction j with
  | zero =>
    intro s q f x5 hs hf hq hno
    obtain ⟨f, rfl⟩ : ∃ g, f = g + 1 := ⟨f - 1, by omega⟩
    refine ⟨0, nI s, nI (rw_ D.1 (itr D a s)), ?_, Or.inr ⟨rfl, fun k hk => hno k (by omega)⟩⟩
    rw [f_X8_comesToRest_l21.eq_2, if_pos (show (1000 : Int32) < nI s from nI_lt (a := 1000) (by omega) (by omega))]
  | succ j ih =>
    intro s q f x5 hs hf hq hno
    obtain ⟨f, rfl⟩ : ∃ g, f = g + 1 := ⟨f - 1, by omega⟩
    have hb := itr_lt ok ha s
    have e34 := E_c34 (x4 := nI (rw_ D.1 (itr D a q))) (x5 := x5) (os := nI s) ok hx hb (f_X8_comesToRest_l21 (nI D.1) (nI D.2.1) bp sc kd lk f) (kk D.1 D.2.1) 0 NF (by omega) (by omega)
    rw [f_X8_comesToRest_l21.eq_2, if_neg (show ¬ (1000 : Int32) < nI s from nI_nlt (b := s) (a := 1000) (by omega) (by omega))]
    rw [show f_X8_comesToRest_l34 (nI D.1) (nI D.2.1) bp sc kd lk (f_X8_comesToRest_l21 (nI D.1) (nI D.2.1) bp sc kd lk f) NF (nI (kk D.1 D.2.1)) (nI (rw_ D.1 (itr D a q))) x5 (0 : Int32) (nI s) (nI (rw_ D.1 (itr D a s))) = _ from e34]
    unfold f_X8_comesToRest_b59 f_X8_comesToRest_b115
    change ∃ c st' en', (if nI (lowN D (itr D a s)) < nI (kk D.1 D.2.1) then Option.bind (f_X2_changed (nI (rw_ D.1 (itr D a s))) (nI (lowN D (itr D a s))) (nI D.1)) _ else _) = _ ∧ _
    have hl := lowN_le D (itr D a s)
    have hr := rest_low D (itr D a s)
    by_cases h : lowN D (itr D a s) = kk D.1 D.2.1
    · rw [decide_eq_true h] at hr
      refine ⟨1, nI s, nI (rw_ D.1 (itr D a s)), ?_, Or.inl ⟨rfl, s, ⟨by omega, hr, hno⟩, rfl, rfl⟩⟩
      rw [if_neg (nI_nlt (by omega) (by omega))]
    · rw [decide_eq_false h] at hr
      have hln : lowN D (itr D a s) < D.1 := by omega
      have hn : itr D a (s + 1) = chg D.1 (itr D a s) (lowN D (itr D a s)) := stp_go hr
      have hno' : ∀ k, k < s + 1 → restB D (itr D a k) = false := fun k hk => by
        by_cases z : k = s
        · rw [z]; exact hr
        · exact hno k (by omega)
      rw [if_pos (nI_lt (by omega) (by omega)), E_changed h6 hb hln, Option.bind_some, ← hn]
      by_cases he : nI (rw_ D.1 (itr D a (s + 1))) = nI (rw_ D.1 (itr D a q))
      · have ec := rw_inj (itr_lt ok ha (s + 1)) (itr_lt ok ha q) he
        refine ⟨0, _, _, if_pos he, Or.inr ⟨rfl, fun k hk => cyc D a hq ec (fun m hm => hno' m (by omega)) k k (Nat.le_refl _)⟩⟩
      · rw [if_neg he, show nI s + (1 : Int32) = nI (s + 1) from nI_1 s]
        by_cases h5 : nI s = x5
        · rw [if_pos h5]
          exact ih (s + 1) (s + 1) f _ (by omega) (by omega) (Nat.le_refl _) hno'
        · rw [if_neg h5]
          exact ih (s + 1) q f _ (by omega) (by omega) (by omega) hno'
theorem E_comes (ok : HOK D) (hx : HX D bp sc kd lk) {a : Nat} {os oe : Int32} (ha : a < NN D.1) : ∃ c st' en', f_X8_comesToRest (nI (rw_ D.1 a)) os oe (nI D.1) (nI D.2.1) bp sc kd lk = some (c, st', en') ∧ ((c = 1 ∧ ∃ m, RestAt D a m ∧ st' = nI m ∧ en' = nI (rw_ D.1 (itr D a m))) ∨ (c = 0 ∧ NoRest D a)) := by
  have h2 := ok.1
  have h6 := ok.2.1
  have hg := ok.2.2.1
  have h0 := NF_big
  unfold f_X8_comesToRest
  rw [E_count D.1 (by omega) h2 D.2.1 (by omega), Option.bind_some]
  exact E_c21 ok hx ha 1001 0 0 NF 1 (by omega) (by omega) (Nat.le_refl _) (fun k hk => absurd hk (by omega))
theorem E_g11 (ok : HOK D) (hy : HY D mn bs st ykd ylk ri) {we tr wh : Nat → Int32} (hw : WOK D we) {a : Nat} {wt : Int32} (ha : a < NN D.1) : ∀ (j s f : Nat), s + j = 1001 → j < f → (∀ k, k < s → restB D (itr D a k) = false) → ∃ r wt', f_X10_goOn_l11 am mn bs st ykd ylk ri wh all num f (nI (itr D a s)) (nI s) wt tr we = some (r, wt', tr, we) ∧ ((∃ m, RestAt D a m ∧ r = nI m ∧ wt' = nI (itr D a m)) ∨ (r = -4 ∧ NoRest D a)) := by
  have h6 := ok.2.1
  have hN := NN_le D.1
  have hkk := (kk_bd (rg := D.2.1) ok.1 h6).2
  intro j
  induction j with
  | zero =>
    intro s f hs hf hno
    obtain ⟨f, rfl⟩ : ∃ g, f = g + 1 := ⟨f - 1, by omega⟩
    refine ⟨-4, wt, ?_, Or.inr ⟨rfl, fun k hk => hno k (by omega)⟩⟩
    rw [f_X10_goOn_l11.eq_2, if_pos (show (1000 : Int32) < nI s from nI_lt (a := 1000) (by omega) (by omega))]
  | succ j ih =>
    intro s f hs hf hno
    obtain ⟨f, rfl⟩ : ∃ g, f = g + 1 := ⟨f - 1, by omega⟩
    have hb := itr_lt ok ha s
    have hl := lowN_le D (itr D a s)
    have hr := rest_low D (itr D a s)
    rw [f_X10_goOn_l11.eq_2, if_neg (show ¬ (1000 : Int32) < nI s from nI_nlt (b := s) (a := 1000) (by omega) (by omega)), E_lowest ok hy hw hb, Option.bind_some]
    unfold lowI
    by_cases h : lowN D (itr D a s) = kk D.1 D.2.1
    · rw [decide_eq_true h] at hr
      refine ⟨nI s, nI (itr D a s), ?_, Or.inl ⟨s, ⟨by omega, hr, hno⟩, rfl, rfl⟩⟩
      rw [if_neg (show ¬ lowN D (itr D a s) < kk D.1 D.2.1 by omega), if_neg (show ¬ (0 : Int32) ≤ -4 by decide)]
    · rw [decide_eq_false h] at hr
      have hl' : lowN D (itr D a s) < kk D.1 D.2.1 := by omega
      have hn : itr D a (s + 1) = chg D.1 (itr D a s) (lowN D (itr D a s)) := stp_go hr
      have hsu : suitB D (itr D a s) (lowN D (itr D a s)) = true := lowF_yes D _ (kk D.1 D.2.1) 0 (by unfold lowN at hl'; omega)
      rw [if_pos hl', if_pos (nI_ge0 (by omega)), show (6 : Int32) * nI (itr D a s) + nI (lowN D (itr D a s)) = nI (6 * itr D a s + lowN D (itr D a s)) from nI_ma 6 _ _, bdn _ (by omega) (by omega), nI_cl (by omega), hw _ hb _ hl', hsu, if_pos rfl, ← hn, show nI s + (1 : Int32) = nI (s + 1) from nI_1 s]
      exact ih (s + 1) f (by omega) (by omega) (fun k hk => by
        by_cases z : k = s
        · rw [z]; exact hr
        · exact hno k (by omega))
theorem E_goOn (ok : HOK D) (hy : HY D mn bs st ykd ylk ri) (tb : TB D.1 am all num) {a : Nat} {wt : Int32} {wh : Nat → Int32} (ha : a < NN D.1) (hwh : ∀ p, p < D.1 → wh p = nI (dg D.1 a p)) (tr we : Nat → Int32) : ∃ r wt' tr' we', f_X10_goOn am wt mn bs st ykd ylk ri wh all num tr we = some (r, wt', tr', we') ∧ ((∃ m, RestAt D a m ∧ r = nI m ∧ wt' = nI (itr D a m)) ∨ (r = -4 ∧ NoRest D a)) := by
  have h6 := ok.2.1
  have h0 := NF_big
  obtain ⟨tr', we', hw, hW⟩ := E_layWeb ok hy tb tr we
  obtain ⟨r, wt', i1, i2⟩ := E_g11 (am := am) (all := all) (num := num) (tr := tr') (wh := wh) (wt := wt) ok hy hW ha 1001 0 NF (by omega) (by omega) (fun k hk => absurd hk (by omega))
  refine ⟨r, wt', tr', we', ?_, i2⟩
  unfold f_X10_goOn
  rw [hw, Option.bind_some, E_now tb hy.1 h6 ha hwh, Option.bind_some]
  exact i1
theorem RestAt_uniq {a m m' : Nat} (h : RestAt D a m) (h' : RestAt D a m') : m = m' := by
  rcases Nat.lt_trichotomy m m' with q | q | q
  · exact absurd h.2.1 (by rw [h'.2.2 m q]; decide)
  · exact q
  · exact absurd h'.2.1 (by rw [h.2.2 m' q]; decide)
theorem RestAt_no {a m : Nat} (h : RestAt D a m) (h' : NoRest D a) : False := by
  have := h' m h.1
  rw [h.2.1] at this
  exact absurd this (by decide)
end GO
