/-! generic rows: pure partial functions, and calls over them -/
def NF : Nat := 50000
/-- an index that must lie in a row of n places -/
def bd {α : Type} (i : Int32) (n : Nat) (a : Option α) : Option α := if (i < 0 ∨ n ≤ i.toNatClampNeg) then none else a
def dz {α : Type} (y : Int32) (a : Option α) : Option α := if y = 0 then none else a
def dzL {α : Type} (y : Int64) (a : Option α) : Option α := if y = 0 then none else a
/-- a truth value -/
def zb {α : Type} (v : Int32) (a : Option α) : Option α := if v = 0 ∨ v = 1 then a else none
theorem bd_some {α : Type} {i : Int32} {n : Nat} {a : Option α} {r : α} (h : bd i n a = some r) : vp_in i n ∧ a = some r := by
  unfold bd at h
  split at h
  · cases h
  · rename_i h0; exact ⟨h0, h⟩
theorem bd_ok {α : Type} {i : Int32} {n : Nat} (a : Option α) (h : vp_in i n) : bd i n a = a := if_neg h
theorem dz_some {α : Type} {y : Int32} {a : Option α} {r : α} (h : dz y a = some r) : ¬ y = 0 ∧ a = some r := by
  unfold dz at h
  split at h
  · cases h
  · rename_i h0; exact ⟨h0, h⟩
theorem dz_ok {α : Type} {y : Int32} (a : Option α) (h : ¬ y = 0) : dz y a = a := if_neg h
theorem dzL_some {α : Type} {y : Int64} {a : Option α} {r : α} (h : dzL y a = some r) : ¬ y = 0 ∧ a = some r := by
  unfold dzL at h
  split at h
  · cases h
  · rename_i h0; exact ⟨h0, h⟩
theorem dzL_ok {α : Type} {y : Int64} (a : Option α) (h : ¬ y = 0) : dzL y a = a := if_neg h
theorem zb_some {α : Type} {v : Int32} {a : Option α} {r : α} (h : zb v a = some r) : (v = 0 ∨ v = 1) ∧ a = some r := by
  unfold zb at h
  split at h
  · rename_i h0; exact ⟨h0, h⟩
  · cases h
theorem zb_ok {α : Type} {v : Int32} (a : Option α) (h : v = 0 ∨ v = 1) : zb v a = a := if_pos h
theorem zb_nar {v : Int32} (h : v = 0 ∨ v = 1) : narrow .boolean (.int v) = .int v := by
  rcases h with rfl | rfl <;> rfl
theorem zb_fit {v : Int32} (h : v = 0 ∨ v = 1) : fits .boolean (.int v) = true := by
  rcases h with rfl | rfl <;> rfl
/-- a copy inside rows -/
def cpg {α : Type} (sp dp n : Int32) (n0 n1 : Nat) (a : Option α) : Option α := if (¬ sp < 0 ∧ ¬ dp < 0 ∧ ¬ n < 0 ∧ sp.toNatClampNeg + n.toNatClampNeg ≤ n0 ∧ dp.toNatClampNeg + n.toNatClampNeg ≤ n1) then a else none
theorem cpg_some {α : Type} {sp dp n : Int32} {n0 n1 : Nat} {a : Option α} {r : α} (h : cpg sp dp n n0 n1 a = some r) : (¬ sp < 0 ∧ ¬ dp < 0 ∧ ¬ n < 0 ∧ sp.toNatClampNeg + n.toNatClampNeg ≤ n0 ∧ dp.toNatClampNeg + n.toNatClampNeg ≤ n1) ∧ a = some r := by
  unfold cpg at h
  split at h
  · rename_i h0; exact ⟨h0, h⟩
  · cases h
theorem obs {α β : Type} {x : Option α} {f : α → Option β} {r : β} (h : x.bind f = some r) : ∃ u, x = some u ∧ f u = some r := Option.bind_eq_some_iff.mp h
theorem ifp {α : Type} {c : Prop} [Decidable c] {a b : α} {r : α} (h : c) (hf : (if c then a else b) = r) : a = r := by rw [if_pos h] at hf; exact hf
theorem ifn {α : Type} {c : Prop} [Decidable c] {a b : α} {r : α} (h : ¬ c) (hf : (if c then a else b) = r) : b = r := by rw [if_neg h] at hf; exact hf
abbrev kT (cI cJ cZ : ClassId) : List (ClassId × FieldType) := [(cI, .int), (cJ, .long), (cZ, .boolean)]
def kP (D : va_G) (tys : List (ClassId × FieldType)) (sz : Nat) (ws : va_W) : State → Prop := fun U => U.heap.size = sz ∧ va_P D vwCl ws U.heap ∧ va_K D vwCl tys U ∧ va_D (fun _ => True) ws
abbrev kQi (S : Type) (D : va_G) (A : Nat → Prop) (rv : Int32) (w1 : S → va_W) : Array Value → State → Outcome → State → Prop := va_Qi (fun r (_ : S) => r = rv) (fun u t => va_P D vwCl (w1 u) t.heap ∧ va_D A (w1 u)) A
abbrev kQv (S : Type) (D : va_G) (A : Nat → Prop) (w1 : S → va_W) : Array Value → State → Outcome → State → Prop := va_Qv (fun (_ : S) => True) (fun u t => va_P D vwCl (w1 u) t.heap ∧ va_D A (w1 u)) A
abbrev kws (y : MethodName) (bytes : ByteArray) (maxL : Nat) (ret : Option FieldType) : List Cond := Cond.code y bytes maxL ret :: lw_g
abbrev kMi (S : Type) (l : Launch) (y : MethodName) (bytes : ByteArray) (maxL : Nat) (ret : Option FieldType) (rm : Room) (av : List Value) (D : va_G) (tys : List (ClassId × FieldType)) (sz : Nat) (wc : va_W) (rv : Int32) (w1 : S → va_W) : Prop := Met l y (kws y bytes maxL ret) rm (va_Pc av (kP D tys sz wc)) (kQi S D (va_A wc sz) rv w1) 0 0 (va_A wc sz)
abbrev kMv (S : Type) (l : Launch) (y : MethodName) (bytes : ByteArray) (maxL : Nat) (rm : Room) (av : List Value) (D : va_G) (tys : List (ClassId × FieldType)) (sz : Nat) (wc : va_W) (w1 : S → va_W) : Prop := Met l y (kws y bytes maxL none) rm (va_Pc av (kP D tys sz wc)) (kQv S D (va_A wc sz) w1) 0 0 (va_A wc sz)
theorem kblind {av : List Value} {D : va_G} {tys : List (ClassId × FieldType)} {sz : Nat} {ws : va_W} : FrameBlind (va_Pc av (kP D tys sz ws)) := fun a U g mk q => ⟨q.1, q.2.1, q.2.2.1, va_K.moved (u := U) (U := U.calling g mk a) (Vm.Alike.refl U.vm) q.2.2.2.1, q.2.2.2.2⟩
theorem kgood {y : MethodName} {bytes : ByteArray} {maxL : Nat} {ret : Option FieldType} (h : Cond.code y bytes maxL ret ∈ lw_g) : GoodIn lw_g (kws y bytes maxL ret) := by
  intro w hw
  rcases List.mem_cons.mp hw with rfl | hw
  · exact ⟨h, good_of_word (lw_g_ok _ h)⟩
  · exact ⟨hw, good_of_word (lw_g_ok _ hw)⟩
theorem perm_fm {w0 w2 : va_W} (is : List Nat) (h : is.map (fun i => w0[i]?) = w2.map some) : is.filterMap (fun i => w0[i]?) = w2 := by
  have h1 : is.filterMap (fun i => w0[i]?) = (is.map (fun i => w0[i]?)).filterMap id := by rw [List.filterMap_map]; rfl
  rw [h1, h, List.filterMap_map]
  induction w2 with
  | nil => rfl
  | cons a w ih => simp
section KC
variable {p : Program} {l : Launch} {e : Env} {R : Room} {s : State} {m : MethodId} {args : Array Value} {below : List Frame} {meth : Method} {c : Code} {H : Heap} {locs : List Loc} {cells slots : Nat} {Q : State → Prop}
variable {y : MethodName} {bytes cc : ByteArray} {maxL nL n index : Nat} {ret : Option FieldType} {rm : Room} {own C : String} {b : Addr} {As rest st : List Value} {pc : Nat} {ls : Array Slot} {D : va_G} {tys : List (ClassId × FieldType)} {S : Type} {w1 w2 : S → va_W} {wc wr ws : va_W} {A : Nat → Prop} {rv : Int32}
theorem kcw (n : Nat) (ht : ∀ w ∈ lw_g, w.before args s = true) (hc : Cond.code y bytes maxL ret ∈ lw_g) (hi : Cond.initialized y.cls ∈ lw_g) (hl : Cond.methodLink own index y ∈ lw_g) (hd : y.cls ≠ "java/lang/invoke/MethodHandle" ∧ y.cls ≠ "java/lang/invoke/VarHandle" ∧ (parseMethodDescriptor y.desc).map (fun d => d.parameters.length) = some n) (hz : rm.cells = 0 ∧ rm.slots = 0) (hR : rm.frames + 1 ≤ R.frames ∧ 8 + (maxL + 11) + rm.locals ≤ R.locals) : CallB R s args own index y bytes maxL ret (kws y bytes maxL ret) rm 0 0 n :=
  callB_of n ht (kgood hc) rfl hz.1 hz.2 (ht _ hi) (ht _ hl) hd hR
/-- what comes behind a call: the world put together, in the order that is wanted -/
theorem kback {H1 : Heap} (hP : va_P D vwCl ws H) (hD : va_D A ws) (isC isR isP : List Nat) (hC : isC.map (fun i => ws[i]?) = wc.map some) (hR : isR.map (fun i => ws[i]?) = wr.map some) (hn : va_nd isR = true) (hdis : ∀ i ∈ isR, i ∉ isC) {v1 v2 : va_W} (hp2 : va_nd isP = true) (hp3 : isP.map (fun i => (wr ++ v1)[i]?) = v2.map some)
    (hk : ∀ q : Nat, q < H.size → ¬ va_A wc H.size q → H1[q]? = H[q]?) (hF : ∀ q, va_A wc H.size q → A q) (hP1 : va_P D vwCl v1 H1) (hD1 : va_D (va_A wc H.size) v1) : va_P D vwCl v2 H1 ∧ va_D A v2 := by
  obtain ⟨h1, h2⟩ := va_join hP hD isC isR hC hR hn hdis hk hF hP1 hD1
  exact ⟨h1.sub isP (perm_fm isP hp3), h2.sub isP hp2 hp3⟩
theorem kcVi (hx : p.tables.exec = Jvm.exec) (hb : c.code = cc) (hml : c.maxLocals = nL) (hown : s.vm.findClass own = some m.cls) (ht : ∀ w ∈ lw_g, w.before args s = true)
    (hM : kMi S l y bytes maxL ret rm (.ref b :: As) D tys H.size wc rv w1) (cw : CallB R s args own index y bytes maxL ret (kws y bytes maxL ret) rm 0 0 n) (hin : Cond.instanceMethod y ∈ lw_g) (hse : Cond.selects C y y ∈ lw_g)
    (hK : va_K D vwCl tys s) (hP : va_P D vwCl ws H) (hD : va_D A ws) (hS : va_S A s.heap H locs) (hA : ∀ q, s.heap.size ≤ q → A q)
    (isC isR isP : List Nat) (hnC : va_nd isC = true) (hC : isC.map (fun i => ws[i]?) = wc.map some) (hR : isR.map (fun i => ws[i]?) = wr.map some) (hn : va_nd isR = true) (hdis : ∀ i ∈ isR, i ∉ isC) (hp2 : va_nd isP = true) (hp3 : ∀ u, isP.map (fun i => (wr ++ w1 u)[i]?) = (w2 u).map some)
    {ci : Nat} {q : vw_C} {fs : List Value} (hcl : vwCl[ci]? = some q) (he : wc[0]? = some (b, .inr (ci, fs))) (hq : q.1 = C) (hAs : As.length = n) (hsz : ls.size = nL) (hstk : st = As.reverse ++ .ref b :: rest) (hW : (rest.map fun v => v.category).sum ≤ 8) (hdg : decode cc pc = .ok (.invokevirtual index, 3)) (hfit : cells ≤ R.cells ∧ slots ≤ R.slots)
    (kk : ∀ (u : S) (H1 : Heap) (locs1 : List Loc), va_P D vwCl (w2 u) H1 → va_D A (w2 u) → va_S A s.heap H1 locs1 → W p l e R s m args below meth c H1 locs1 cells slots Q (F0 m (pc + 3) ls (.int rv :: rest))) : W p l e R s m args below meth c H locs cells slots Q (F0 m pc ls st) := by
  subst hstk
  subst hq
  have hPc : va_P D vwCl wc H := hP.sub isC (perm_fm isC hC)
  have hDc : va_D A wc := hD.sub isC hnC hC
  have hFc := va_free hD hS hA isC hC
  refine va_calli (va_runV ⟨hx, hb, hml, hown, ht⟩ hM ⟨cw, ht _ hin, ht _ hse⟩ ⟨kblind, va_recv hK hPc hcl he, fun U hU hW => ⟨rfl, by rw [hU], by rw [hU]; exact hPc, va_K.moved hW.alike hK, hDc.weaken (fun _ _ _ _ => trivial)⟩⟩ rfl hAs hsz rfl (lv_room hW) hdg hfit) hS (fun q _ h => hFc q h) hFc (fun r u t H1 locs1 h1 hvm hw hB hz1 hk1 hS1 => ?_)
  obtain ⟨hP1, hD1⟩ := hB
  rw [h1] at hP1
  cases hw
  obtain ⟨g1, g2⟩ := kback hP hD isC isR isP hC hR hn hdis hp2 (hp3 u) hk1 hFc hP1 hD1
  exact kk u H1 locs1 g1 g2 hS1
theorem kcVv (hx : p.tables.exec = Jvm.exec) (hb : c.code = cc) (hml : c.maxLocals = nL) (hown : s.vm.findClass own = some m.cls) (ht : ∀ w ∈ lw_g, w.before args s = true)
    (hM : kMv S l y bytes maxL rm (.ref b :: As) D tys H.size wc w1) (cw : CallB R s args own index y bytes maxL none (kws y bytes maxL none) rm 0 0 n) (hin : Cond.instanceMethod y ∈ lw_g) (hse : Cond.selects C y y ∈ lw_g)
    (hK : va_K D vwCl tys s) (hP : va_P D vwCl ws H) (hD : va_D A ws) (hS : va_S A s.heap H locs) (hA : ∀ q, s.heap.size ≤ q → A q)
    (isC isR isP : List Nat) (hnC : va_nd isC = true) (hC : isC.map (fun i => ws[i]?) = wc.map some) (hR : isR.map (fun i => ws[i]?) = wr.map some) (hn : va_nd isR = true) (hdis : ∀ i ∈ isR, i ∉ isC) (hp2 : va_nd isP = true) (hp3 : ∀ u, isP.map (fun i => (wr ++ w1 u)[i]?) = (w2 u).map some)
    {ci : Nat} {q : vw_C} {fs : List Value} (hcl : vwCl[ci]? = some q) (he : wc[0]? = some (b, .inr (ci, fs))) (hq : q.1 = C) (hAs : As.length = n) (hsz : ls.size = nL) (hstk : st = As.reverse ++ .ref b :: rest) (hW : (rest.map fun v => v.category).sum ≤ 8) (hdg : decode cc pc = .ok (.invokevirtual index, 3)) (hfit : cells ≤ R.cells ∧ slots ≤ R.slots)
    (kk : ∀ (u : S) (H1 : Heap) (locs1 : List Loc), va_P D vwCl (w2 u) H1 → va_D A (w2 u) → va_S A s.heap H1 locs1 → W p l e R s m args below meth c H1 locs1 cells slots Q (F0 m (pc + 3) ls (rest))) : W p l e R s m args below meth c H locs cells slots Q (F0 m pc ls st) := by
  subst hstk
  subst hq
  have hPc : va_P D vwCl wc H := hP.sub isC (perm_fm isC hC)
  have hDc : va_D A wc := hD.sub isC hnC hC
  have hFc := va_free hD hS hA isC hC
  refine va_callv (va_runV ⟨hx, hb, hml, hown, ht⟩ hM ⟨cw, ht _ hin, ht _ hse⟩ ⟨kblind, va_recv hK hPc hcl he, fun U hU hW => ⟨rfl, by rw [hU], by rw [hU]; exact hPc, va_K.moved hW.alike hK, hDc.weaken (fun _ _ _ _ => trivial)⟩⟩ rfl hAs hsz rfl (lv_room hW) hdg hfit) hS (fun q _ h => hFc q h) hFc (fun u t H1 locs1 h1 hvm hw hB hz1 hk1 hS1 => ?_)
  obtain ⟨hP1, hD1⟩ := hB
  rw [h1] at hP1
  obtain ⟨g1, g2⟩ := kback hP hD isC isR isP hC hR hn hdis hp2 (hp3 u) hk1 hFc hP1 hD1
  exact kk u H1 locs1 g1 g2 hS1
theorem kcSi (hx : p.tables.exec = Jvm.exec) (hb : c.code = cc) (hml : c.maxLocals = nL) (hown : s.vm.findClass own = some m.cls) (ht : ∀ w ∈ lw_g, w.before args s = true)
    (hM : kMi S l y bytes maxL ret rm As D tys H.size wc rv w1) (cw : CallB R s args own index y bytes maxL ret (kws y bytes maxL ret) rm 0 0 n) (hst : Cond.static y ∈ lw_g)
    (hK : va_K D vwCl tys s) (hP : va_P D vwCl ws H) (hD : va_D A ws) (hS : va_S A s.heap H locs) (hA : ∀ q, s.heap.size ≤ q → A q)
    (isC isR isP : List Nat) (hnC : va_nd isC = true) (hC : isC.map (fun i => ws[i]?) = wc.map some) (hR : isR.map (fun i => ws[i]?) = wr.map some) (hn : va_nd isR = true) (hdis : ∀ i ∈ isR, i ∉ isC) (hp2 : va_nd isP = true) (hp3 : ∀ u, isP.map (fun i => (wr ++ w1 u)[i]?) = (w2 u).map some)
    (hAs : As.length = n) (hsz : ls.size = nL) (hstk : st = As.reverse ++ rest) (hW : (rest.map fun v => v.category).sum ≤ 8) (hdg : decode cc pc = .ok (.invokestatic index, 3)) (hfit : cells ≤ R.cells ∧ slots ≤ R.slots)
    (kk : ∀ (u : S) (H1 : Heap) (locs1 : List Loc), va_P D vwCl (w2 u) H1 → va_D A (w2 u) → va_S A s.heap H1 locs1 → W p l e R s m args below meth c H1 locs1 cells slots Q (F0 m (pc + 3) ls (.int rv :: rest))) : W p l e R s m args below meth c H locs cells slots Q (F0 m pc ls st) := by
  subst hstk
  have hPc : va_P D vwCl wc H := hP.sub isC (perm_fm isC hC)
  have hDc : va_D A wc := hD.sub isC hnC hC
  have hFc := va_free hD hS hA isC hC
  refine va_calli (va_runS ⟨hx, hb, hml, hown, ht⟩ hM ⟨cw, ht _ hst⟩ ⟨kblind, fun U hU hW => ⟨rfl, by rw [hU], by rw [hU]; exact hPc, va_K.moved hW.alike hK, hDc.weaken (fun _ _ _ _ => trivial)⟩⟩ rfl hAs hsz rfl (lv_room hW) hdg hfit) hS (fun q _ h => hFc q h) hFc (fun r u t H1 locs1 h1 hvm hw hB hz1 hk1 hS1 => ?_)
  obtain ⟨hP1, hD1⟩ := hB
  rw [h1] at hP1
  cases hw
  obtain ⟨g1, g2⟩ := kback hP hD isC isR isP hC hR hn hdis hp2 (hp3 u) hk1 hFc hP1 hD1
  exact kk u H1 locs1 g1 g2 hS1
theorem kcSv (hx : p.tables.exec = Jvm.exec) (hb : c.code = cc) (hml : c.maxLocals = nL) (hown : s.vm.findClass own = some m.cls) (ht : ∀ w ∈ lw_g, w.before args s = true)
    (hM : kMv S l y bytes maxL rm As D tys H.size wc w1) (cw : CallB R s args own index y bytes maxL none (kws y bytes maxL none) rm 0 0 n) (hst : Cond.static y ∈ lw_g)
    (hK : va_K D vwCl tys s) (hP : va_P D vwCl ws H) (hD : va_D A ws) (hS : va_S A s.heap H locs) (hA : ∀ q, s.heap.size ≤ q → A q)
    (isC isR isP : List Nat) (hnC : va_nd isC = true) (hC : isC.map (fun i => ws[i]?) = wc.map some) (hR : isR.map (fun i => ws[i]?) = wr.map some) (hn : va_nd isR = true) (hdis : ∀ i ∈ isR, i ∉ isC) (hp2 : va_nd isP = true) (hp3 : ∀ u, isP.map (fun i => (wr ++ w1 u)[i]?) = (w2 u).map some)
    (hAs : As.length = n) (hsz : ls.size = nL) (hstk : st = As.reverse ++ rest) (hW : (rest.map fun v => v.category).sum ≤ 8) (hdg : decode cc pc = .ok (.invokestatic index, 3)) (hfit : cells ≤ R.cells ∧ slots ≤ R.slots)
    (kk : ∀ (u : S) (H1 : Heap) (locs1 : List Loc), va_P D vwCl (w2 u) H1 → va_D A (w2 u) → va_S A s.heap H1 locs1 → W p l e R s m args below meth c H1 locs1 cells slots Q (F0 m (pc + 3) ls (rest))) : W p l e R s m args below meth c H locs cells slots Q (F0 m pc ls st) := by
  subst hstk
  have hPc : va_P D vwCl wc H := hP.sub isC (perm_fm isC hC)
  have hDc : va_D A wc := hD.sub isC hnC hC
  have hFc := va_free hD hS hA isC hC
  refine va_callv (va_runS ⟨hx, hb, hml, hown, ht⟩ hM ⟨cw, ht _ hst⟩ ⟨kblind, fun U hU hW => ⟨rfl, by rw [hU], by rw [hU]; exact hPc, va_K.moved hW.alike hK, hDc.weaken (fun _ _ _ _ => trivial)⟩⟩ rfl hAs hsz rfl (lv_room hW) hdg hfit) hS (fun q _ h => hFc q h) hFc (fun u t H1 locs1 h1 hvm hw hB hz1 hk1 hS1 => ?_)
  obtain ⟨hP1, hD1⟩ := hB
  rw [h1] at hP1
  obtain ⟨g1, g2⟩ := kback hP hD isC isR isP hC hR hn hdis hp2 (hp3 u) hk1 hFc hP1 hD1
  exact kk u H1 locs1 g1 g2 hS1
theorem kri (hx : p.tables.exec = Jvm.exec) (hb : c.code = cc) (hr : meth.sig.returnType = some .int) (hlocks : meth.locks = false) {v : Int32} (u : S) (hP : va_P D vwCl (w1 u) H) (hD : va_D A (w1 u)) (hS : va_S A s.heap H locs) (hdg : decode cc pc = .ok (.ireturn, 1)) : W p l e R s m args below meth c H locs cells slots (MQ below (kQi S D A v w1) args s cells slots A) (F0 m pc ls [.int v]) :=
  W.iret (v := v) hx hb hr (fun t h1 hW => ⟨⟨v, u, rfl, rfl, by rw [h1]; exact hP, hD⟩, hS.F h1⟩) hS.2.2 hdg
theorem krz (hx : p.tables.exec = Jvm.exec) (hb : c.code = cc) (hr : meth.sig.returnType = some .boolean) (hlocks : meth.locks = false) {v : Int32} (u : S) (hz : v = 0 ∨ v = 1) (hP : va_P D vwCl (w1 u) H) (hD : va_D A (w1 u)) (hS : va_S A s.heap H locs) (hdg : decode cc pc = .ok (.ireturn, 1)) : W p l e R s m args below meth c H locs cells slots (MQ below (kQi S D A v w1) args s cells slots A) (F0 m pc ls [.int v]) :=
  W.zret (v := v) hx hb hr (zb_nar hz) (fun t h1 hW => ⟨⟨v, u, rfl, rfl, by rw [h1]; exact hP, hD⟩, hS.F h1⟩) hS.2.2 hdg
theorem krv (hx : p.tables.exec = Jvm.exec) (hb : c.code = cc) (hr : meth.sig.returnType = none) (hlocks : meth.locks = false) (u : S) (hP : va_P D vwCl (w1 u) H) (hD : va_D A (w1 u)) (hS : va_S A s.heap H locs) (hdg : decode cc pc = .ok (.return_, 1)) : W p l e R s m args below meth c H locs cells slots (MQ below (kQv S D A w1) args s cells slots A) (F0 m pc ls []) :=
  W.vret hx hb hr (fun t h1 hW => ⟨⟨u, rfl, trivial, by rw [h1]; exact hP, hD⟩, hS.F h1⟩) hS.2.2 hdg
end KC
