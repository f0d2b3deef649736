def f_J7_fill_53178_l5 (n_q0 : Nat) : Nat → Int32 → Int32 → Int32 → (Nat → Int32) → Option ((Nat → Int32))
  | 0, _, _, _, _ => none
  | n + 1, x1, x2, x3, q0 => if x3 ≤ x2 then some q0 else bd x2 n_q0 ((f_J7_fill_53178_l5 n_q0 n) x1 (x2 + (1 : Int32)) x3 (upd q0 x2.toNatClampNeg x1))
def f_J7_fill_53178 (x1 : Int32) (n_q0 : Nat) (q0 : Nat → Int32) : Option ((Nat → Int32)) := f_J7_fill_53178_l5 n_q0 NF x1 (0 : Int32) (nI n_q0) q0
abbrev rm_J7_fill_53178 : Room := { frames := 0, cells := 0, slots := 0, locals := 0 }
theorem kd_J7_fill_53178 : yJ7_fill_53178.cls ≠ "java/lang/invoke/MethodHandle" ∧ yJ7_fill_53178.cls ≠ "java/lang/invoke/VarHandle" ∧ (parseMethodDescriptor yJ7_fill_53178.desc).map (fun d => d.parameters.length) = some 2 := by decide +kernel
set_option maxHeartbeats 4000000 in
set_option maxRecDepth 100000 in
theorem c_J7_fill_53178 (l : Launch) (dC : Nat → ClassId) (dI : Nat → Nat → Nat) (cI cJ cZ : ClassId) (a_q0 : Nat) (sz : Nat) (n_q0 : Nat) (q0 : Nat → Int32) (x1 : Int32) (res : (Nat → Int32)) (hf : f_J7_fill_53178 x1 n_q0 q0 = some res) : kMv Unit l yJ7_fill_53178 cJ7_fill_53178 4 rm_J7_fill_53178 [.ref a_q0, .int x1] (dC, dI) (kT cI cJ cZ) sz [(a_q0, .inl (cI, n_q0, .inl q0))] (fun _ => [(a_q0, .inl (cI, n_q0, .inl res))]) := by
  refine Met.ofW (cc := cJ7_fill_53178) (maxL := 4) (ret := none) (by decide) rfl ?_
  intro p e s m args below meth c s₁ B hml hv
  obtain ⟨rfl, hsz, hP, hK, hD0⟩ := hv
  have hx := B.exec
  have hb := B.bytes
  have hr := B.returns
  have ht : ∀ w ∈ lw_g, w.before ([.ref a_q0, .int x1] : List Value).toArray s = true := fun w h => atoms_spec (ws := kws yJ7_fill_53178 cJ7_fill_53178 4 none) B.pre w (List.mem_cons_of_mem _ h)
  have hown : s.vm.findClass RJ7 = some m.cls := findClass_of_methodNamed B.named
  have hlocks := B.notSynchronized
  subst hsz
  have hD := hD0.self (sz := s.heap.size)
  generalize hAe : va_A [(a_q0, .inl (cI, n_q0, .inl q0))] s.heap.size = A at hD ⊢
  have hA : ∀ q : Nat, s.heap.size ≤ q → A q := fun q h => by rw [← hAe]; exact Or.inr h
  have hS : va_S A s.heap s.heap [] := va_S.rf
  have hret : ∀ (H : Heap) (locs : List Loc) (ls : Array Slot) (pc : Nat) (o0 : Nat → Int32), some o0 = some res → decode cJ7_fill_53178 pc = .ok (.return_, 1) → va_P (dC, dI) vwCl [(a_q0, .inl (cI, n_q0, .inl o0))] H → va_D A [(a_q0, .inl (cI, n_q0, .inl o0))] → va_S A s.heap H locs → W p l e (headSpec (kws yJ7_fill_53178 cJ7_fill_53178 4 none) rm_J7_fill_53178).room s m ([.ref a_q0, .int x1] : List Value).toArray below meth c H locs 0 0 (MQ below (kQv Unit (dC, dI) A (fun _ => [(a_q0, .inl (cI, n_q0, .inl res))])) ([.ref a_q0, .int x1] : List Value).toArray s 0 0 A) (F0 m pc ls []) := by
    intro H locs ls pc o0 he hd hP hD hS
    obtain rfl := Option.some.inj he
    exact krv hx hb hr hlocks () hP hD hS hd
  have hl := lv_entry ([.ref a_q0, .int x1]) (n := 4) (Nat.le_of_ble_eq_true rfl)
  rw [lg_entry_eq]
  generalize (lg_sl ([.ref a_q0, .int x1]) ++ List.replicate (4 - (lg_sl ([.ref a_q0, .int x1])).length) Slot.unset).toArray = ls at hl ⊢
  have hl : lv_has ls 4 [(0, .ref a_q0), (1, .int x1)] := hl
  generalize (MQ below _ ([.ref a_q0, .int x1] : List Value).toArray s 0 0 A) = Q at hret ⊢
  generalize ([.ref a_q0, .int x1] : List Value).toArray = args at ht hret ⊢
  have hP : va_P (dC, dI) vwCl [(a_q0, .inl (cI, n_q0, .inl q0))] s.heap := hP
  unfold f_J7_fill_53178 at hf
  have L5 : ∀ (n : Nat) (x1 : Int32) (x2 : Int32) (x3 : Int32) (q0 : Nat → Int32) (H : Heap) (locs : List Loc) (ls : Array Slot), f_J7_fill_53178_l5 n_q0 n x1 x2 x3 q0 = some res → va_P (dC, dI) vwCl [(a_q0, .inl (cI, n_q0, .inl q0))] H → va_D A [(a_q0, .inl (cI, n_q0, .inl q0))] → va_S A s.heap H locs → lv_has ls 4 [(0, .ref a_q0), (1, .int x1), (2, .int x2), (3, .int x3)] → W p l e (headSpec (kws yJ7_fill_53178 cJ7_fill_53178 4 none) rm_J7_fill_53178).room s m args below meth c H locs 0 0 Q (F0 m 5 ls []) := by
    intro n
    induction n with
    | zero =>
      intro x1 x2 x3 q0 H locs ls hf hP hD hS hl
      rw [f_J7_fill_53178_l5.eq_1] at hf
      cases hf
    | succ n5 ih5 =>
      intro x1 x2 x3 q0 H locs ls hf hP hD hS hl
      rw [f_J7_fill_53178_l5.eq_2] at hf
      refine lv_iload_n hx hb dJ7_fill_53178_5 rfl (lv_at hl 2 rfl) ?_
      refine lv_iload_n hx hb dJ7_fill_53178_6 rfl (lv_at hl 3 rfl) ?_
      refine lv_icmp_ge (tgt := 20) hx hb dJ7_fill_53178_7 (by decide) (fun c_1 => ?_) (fun c_1 => ?_)
      · have hf := ifp c_1 hf
        exact hret H locs ls 20 q0 hf dJ7_fill_53178_20 hP hD hS
      · have hf := ifn c_1 hf
        refine lv_aload_n hx hb dJ7_fill_53178_10 rfl (lv_at hl 0 rfl) ?_
        refine lv_iload_n hx hb dJ7_fill_53178_11 rfl (lv_at hl 2 rfl) ?_
        refine lv_iload_n hx hb dJ7_fill_53178_12 rfl (lv_at hl 1 rfl) ?_
        obtain ⟨b_2, hf⟩ := bd_some hf
        refine va_iast hx hb hK hP hD hS 0 0 rfl rfl b_2 dJ7_fill_53178_13 (fun H locs hP hD hS => ?_)
        have hP : va_P (dC, dI) vwCl [(a_q0, .inl (cI, n_q0, .inl (upd q0 x2.toNatClampNeg x1)))] H := hP
        have hD : va_D A [(a_q0, .inl (cI, n_q0, .inl (upd q0 x2.toNatClampNeg x1)))] := hD
        refine lv_iinc (v := (x2 + (1 : Int32))) (lv' := [(2, .int (x2 + (1 : Int32))), (0, .ref a_q0), (1, .int x1), (3, .int x3)]) hx hb dJ7_fill_53178_14 hl (k := 2) rfl rfl (by decide) rfl (fun ls hl => ?_)
        refine lv_goto (tgt := 5) hx hb dJ7_fill_53178_17 (by decide) ?_
        exact ih5 x1 (x2 + (1 : Int32)) x3 (upd q0 x2.toNatClampNeg x1) H locs ls hf hP hD hS (lv_sub hl [1, 2, 0, 3] rfl)
  obtain ⟨H, hH⟩ : ∃ H, H = s.heap := ⟨_, rfl⟩
  obtain ⟨locs, hlo⟩ : ∃ L : List Loc, L = [] := ⟨_, rfl⟩
  rw [← hH] at hP
  have hS : va_S A s.heap H locs := by rw [hH, hlo]; exact hS
  rw [show W p l e (headSpec (kws yJ7_fill_53178 cJ7_fill_53178 4 none) rm_J7_fill_53178).room s m args below meth c s.heap [] 0 0 Q (F0 m 0 ls []) = W p l e (headSpec (kws yJ7_fill_53178 cJ7_fill_53178 4 none) rm_J7_fill_53178).room s m args below meth c H locs 0 0 Q (F0 m 0 ls []) from by rw [hH, hlo]]
  refine lv_iconst (v := (0 : Int32)) hx hb dJ7_fill_53178_0 (by decide) ?_
  refine lv_istore_n (lv' := [(2, .int (0 : Int32)), (0, .ref a_q0), (1, .int x1)]) hx hb dJ7_fill_53178_1 rfl hl (by decide) rfl (fun ls hl => ?_)
  refine lv_aload_n hx hb dJ7_fill_53178_2 rfl (lv_at hl 1 rfl) ?_
  refine va_alen (v := (nI n_q0)) hx hb hK hP 0 0 rfl rfl rfl dJ7_fill_53178_3 ?_
  refine lv_istore_n (lv' := [(3, .int (nI n_q0)), (2, .int (0 : Int32)), (0, .ref a_q0), (1, .int x1)]) hx hb dJ7_fill_53178_4 rfl hl (by decide) rfl (fun ls hl => ?_)
  exact L5 NF x1 (0 : Int32) (nI n_q0) q0 H locs ls hf hP hD hS (lv_sub hl [2, 3, 1, 0] rfl)
def f_X3_isFull (n_o_numbers : Nat) (o_size : Int32) : Option (Int32) := if o_size < (nI n_o_numbers) then some (0 : Int32) else some (1 : Int32)
abbrev rm_X3_isFull : Room := { frames := 0, cells := 0, slots := 0, locals := 0 }
theorem kd_X3_isFull : yX3_isFull.cls ≠ "java/lang/invoke/MethodHandle" ∧ yX3_isFull.cls ≠ "java/lang/invoke/VarHandle" ∧ (parseMethodDescriptor yX3_isFull.desc).map (fun d => d.parameters.length) = some 0 := by decide +kernel
set_option maxHeartbeats 4000000 in
set_option maxRecDepth 100000 in
theorem c_X3_isFull (l : Launch) (dC : Nat → ClassId) (dI : Nat → Nat → Nat) (cI cJ cZ : ClassId) (a_o a_o_numbers : Nat) (sz : Nat) (n_o_numbers : Nat) (o_size : Int32) (o_numbers : Nat → Int32) (res : Int32) (hf : f_X3_isFull n_o_numbers o_size = some res) : kMi Unit l yX3_isFull cX3_isFull 1 (some .boolean) rm_X3_isFull [.ref a_o] (dC, dI) (kT cI cJ cZ) sz [(a_o, .inr (3, [.ref a_o_numbers, .int o_size])), (a_o_numbers, .inl (cI, n_o_numbers, .inl o_numbers))] res (fun _ => [(a_o, .inr (3, [.ref a_o_numbers, .int o_size])), (a_o_numbers, .inl (cI, n_o_numbers, .inl o_numbers))]) := by
  refine Met.ofW (cc := cX3_isFull) (maxL := 1) (ret := (some .boolean)) (by decide) rfl ?_
  intro p e s m args below meth c s₁ B hml hv
  obtain ⟨rfl, hsz, hP, hK, hD0⟩ := hv
  have hx := B.exec
  have hb := B.bytes
  have hr := B.returns
  have ht : ∀ w ∈ lw_g, w.before ([.ref a_o] : List Value).toArray s = true := fun w h => atoms_spec (ws := kws yX3_isFull cX3_isFull 1 (some .boolean)) B.pre w (List.mem_cons_of_mem _ h)
  have hown : s.vm.findClass RX3 = some m.cls := findClass_of_methodNamed B.named
  have hlocks := B.notSynchronized
  subst hsz
  have hD := hD0.self (sz := s.heap.size)
  generalize hAe : va_A [(a_o, .inr (3, [.ref a_o_numbers, .int o_size])), (a_o_numbers, .inl (cI, n_o_numbers, .inl o_numbers))] s.heap.size = A at hD ⊢
  have hA : ∀ q : Nat, s.heap.size ≤ q → A q := fun q h => by rw [← hAe]; exact Or.inr h
  have hS : va_S A s.heap s.heap [] := va_S.rf
  have hret : ∀ (H : Heap) (locs : List Loc) (ls : Array Slot) (pc : Nat) (v : Int32), some v = some res → (v = 0 ∨ v = 1) → decode cX3_isFull pc = .ok (.ireturn, 1) → va_P (dC, dI) vwCl [(a_o, .inr (3, [.ref a_o_numbers, .int o_size])), (a_o_numbers, .inl (cI, n_o_numbers, .inl o_numbers))] H → va_D A [(a_o, .inr (3, [.ref a_o_numbers, .int o_size])), (a_o_numbers, .inl (cI, n_o_numbers, .inl o_numbers))] → va_S A s.heap H locs → W p l e (headSpec (kws yX3_isFull cX3_isFull 1 (some .boolean)) rm_X3_isFull).room s m ([.ref a_o] : List Value).toArray below meth c H locs 0 0 (MQ below (kQi Unit (dC, dI) A res (fun _ => [(a_o, .inr (3, [.ref a_o_numbers, .int o_size])), (a_o_numbers, .inl (cI, n_o_numbers, .inl o_numbers))])) ([.ref a_o] : List Value).toArray s 0 0 A) (F0 m pc ls [.int v]) := by
    intro H locs ls pc v he hz hd hP hD hS
    obtain rfl := Option.some.inj he
    exact krz hx hb hr hlocks () hz hP hD hS hd
  have hl := lv_entry ([.ref a_o]) (n := 1) (Nat.le_of_ble_eq_true rfl)
  rw [lg_entry_eq]
  generalize (lg_sl ([.ref a_o]) ++ List.replicate (1 - (lg_sl ([.ref a_o])).length) Slot.unset).toArray = ls at hl ⊢
  have hl : lv_has ls 1 [(0, .ref a_o)] := hl
  generalize (MQ below _ ([.ref a_o] : List Value).toArray s 0 0 A) = Q at hret ⊢
  generalize ([.ref a_o] : List Value).toArray = args at ht hret ⊢
  have hP : va_P (dC, dI) vwCl [(a_o, .inr (3, [.ref a_o_numbers, .int o_size])), (a_o_numbers, .inl (cI, n_o_numbers, .inl o_numbers))] s.heap := hP
  unfold f_X3_isFull at hf
  obtain ⟨H, hH⟩ : ∃ H, H = s.heap := ⟨_, rfl⟩
  obtain ⟨locs, hlo⟩ : ∃ L : List Loc, L = [] := ⟨_, rfl⟩
  rw [← hH] at hP
  have hS : va_S A s.heap H locs := by rw [hH, hlo]; exact hS
  rw [show W p l e (headSpec (kws yX3_isFull cX3_isFull 1 (some .boolean)) rm_X3_isFull).room s m args below meth c s.heap [] 0 0 Q (F0 m 0 ls []) = W p l e (headSpec (kws yX3_isFull cX3_isFull 1 (some .boolean)) rm_X3_isFull).room s m args below meth c H locs 0 0 Q (F0 m 0 ls []) from by rw [hH, hlo]]
  refine lv_aload_n hx hb dX3_isFull_0 rfl (lv_at hl 0 rfl) ?_
  refine va_get (ci := 3) (v := .int o_size) (C := RX3) (T := TX3) (N := 2) hx hb ht inX3 hown hK hP 0 rfl rfl 1 (by decide) (ht _ wd_1_93) (fun _ h9 => h9) rfl dX3_isFull_1 ?_
  refine lv_aload_n hx hb dX3_isFull_4 rfl (lv_at hl 0 rfl) ?_
  refine va_get (ci := 3) (v := .ref a_o_numbers) (C := RX3) (T := TX3) (N := 2) hx hb ht inX3 hown hK hP 0 rfl rfl 0 (by decide) (ht _ wd_1_92) (fun _ h9 => h9) rfl dX3_isFull_5 ?_
  refine va_alen (v := (nI n_o_numbers)) hx hb hK hP 1 0 rfl rfl rfl dX3_isFull_8 ?_
  refine lv_icmp_lt (tgt := 16) hx hb dX3_isFull_9 (by decide) (fun c_1 => ?_) (fun c_1 => ?_)
  · have hf := ifp c_1 hf
    refine lv_iconst (v := (0 : Int32)) hx hb dX3_isFull_16 (by decide) ?_
    exact hret H locs ls 17 (0 : Int32) hf (Or.inl rfl) dX3_isFull_17 hP hD hS
  · have hf := ifn c_1 hf
    refine lv_iconst (v := (1 : Int32)) hx hb dX3_isFull_12 (by decide) ?_
    refine lv_goto (tgt := 17) hx hb dX3_isFull_13 (by decide) ?_
    exact hret H locs ls 17 (1 : Int32) hf (Or.inr rfl) dX3_isFull_17 hP hD hS
def f_X3_get (x1 : Int32) (n_o_numbers : Nat) (o_size : Int32) (o_numbers : Nat → Int32) : Option (Int32) := if x1 < 0 then some (0 : Int32) else if o_size ≤ x1 then some (0 : Int32) else bd x1 n_o_numbers (some (o_numbers x1.toNatClampNeg))
abbrev rm_X3_get : Room := { frames := 0, cells := 0, slots := 0, locals := 0 }
theorem kd_X3_get : yX3_get.cls ≠ "java/lang/invoke/MethodHandle" ∧ yX3_get.cls ≠ "java/lang/invoke/VarHandle" ∧ (parseMethodDescriptor yX3_get.desc).map (fun d => d.parameters.length) = some 1 := by decide +kernel
set_option maxHeartbeats 4000000 in
set_option maxRecDepth 100000 in
theorem c_X3_get (l : Launch) (dC : Nat → ClassId) (dI : Nat → Nat → Nat) (cI cJ cZ : ClassId) (a_o a_o_numbers : Nat) (sz : Nat) (n_o_numbers : Nat) (o_size : Int32) (o_numbers : Nat → Int32) (x1 : Int32) (res : Int32) (hf : f_X3_get x1 n_o_numbers o_size o_numbers = some res) : kMi Unit l yX3_get cX3_get 2 (some .int) rm_X3_get [.ref a_o, .int x1] (dC, dI) (kT cI cJ cZ) sz [(a_o, .inr (3, [.ref a_o_numbers, .int o_size])), (a_o_numbers, .inl (cI, n_o_numbers, .inl o_numbers))] res (fun _ => [(a_o, .inr (3, [.ref a_o_numbers, .int o_size])), (a_o_numbers, .inl (cI, n_o_numbers, .inl o_numbers))]) := by
  refine Met.ofW (cc := cX3_get) (maxL := 2) (ret := (some .int)) (by decide) rfl ?_
  intro p e s m args below meth c s₁ B hml hv
  obtain ⟨rfl, hsz, hP, hK, hD0⟩ := hv
  have hx := B.exec
  have hb := B.bytes
  have hr := B.returns
  have ht : ∀ w ∈ lw_g, w.before ([.ref a_o, .int x1] : List Value).toArray s = true := fun w h => atoms_spec (ws := kws yX3_get cX3_get 2 (some .int)) B.pre w (List.mem_cons_of_mem _ h)
  have hown : s.vm.findClass RX3 = some m.cls := findClass_of_methodNamed B.named
  have hlocks := B.notSynchronized
  subst hsz
  have hD := hD0.self (sz := s.heap.size)
  generalize hAe : va_A [(a_o, .inr (3, [.ref a_o_numbers, .int o_size])), (a_o_numbers, .inl (cI, n_o_numbers, .inl o_numbers))] s.heap.size = A at hD ⊢
  have hA : ∀ q : Nat, s.heap.size ≤ q → A q := fun q h => by rw [← hAe]; exact Or.inr h
  have hS : va_S A s.heap s.heap [] := va_S.rf
  have hret : ∀ (H : Heap) (locs : List Loc) (ls : Array Slot) (pc : Nat) (v : Int32), some v = some res → decode cX3_get pc = .ok (.ireturn, 1) → va_P (dC, dI) vwCl [(a_o, .inr (3, [.ref a_o_numbers, .int o_size])), (a_o_numbers, .inl (cI, n_o_numbers, .inl o_numbers))] H → va_D A [(a_o, .inr (3, [.ref a_o_numbers, .int o_size])), (a_o_numbers, .inl (cI, n_o_numbers, .inl o_numbers))] → va_S A s.heap H locs → W p l e (headSpec (kws yX3_get cX3_get 2 (some .int)) rm_X3_get).room s m ([.ref a_o, .int x1] : List Value).toArray below meth c H locs 0 0 (MQ below (kQi Unit (dC, dI) A res (fun _ => [(a_o, .inr (3, [.ref a_o_numbers, .int o_size])), (a_o_numbers, .inl (cI, n_o_numbers, .inl o_numbers))])) ([.ref a_o, .int x1] : List Value).toArray s 0 0 A) (F0 m pc ls [.int v]) := by
    intro H locs ls pc v he hd hP hD hS
    obtain rfl := Option.some.inj he
    exact kri hx hb hr hlocks () hP hD hS hd
  have hl := lv_entry ([.ref a_o, .int x1]) (n := 2) (Nat.le_of_ble_eq_true rfl)
  rw [lg_entry_eq]
  generalize (lg_sl ([.ref a_o, .int x1]) ++ List.replicate (2 - (lg_sl ([.ref a_o, .int x1])).length) Slot.unset).toArray = ls at hl ⊢
  have hl : lv_has ls 2 [(0, .ref a_o), (1, .int x1)] := hl
  generalize (MQ below _ ([.ref a_o, .int x1] : List Value).toArray s 0 0 A) = Q at hret ⊢
  generalize ([.ref a_o, .int x1] : List Value).toArray = args at ht hret ⊢
  have hP : va_P (dC, dI) vwCl [(a_o, .inr (3, [.ref a_o_numbers, .int o_size])), (a_o_numbers, .inl (cI, n_o_numbers, .inl o_numbers))] s.heap := hP
  unfold f_X3_get at hf
  obtain ⟨H, hH⟩ : ∃ H, H = s.heap := ⟨_, rfl⟩
  obtain ⟨locs, hlo⟩ : ∃ L : List Loc, L = [] := ⟨_, rfl⟩
  rw [← hH] at hP
  have hS : va_S A s.heap H locs := by rw [hH, hlo]; exact hS
  rw [show W p l e (headSpec (kws yX3_get cX3_get 2 (some .int)) rm_X3_get).room s m args below meth c s.heap [] 0 0 Q (F0 m 0 ls []) = W p l e (headSpec (kws yX3_get cX3_get 2 (some .int)) rm_X3_get).room s m args below meth c H locs 0 0 Q (F0 m 0 ls []) from by rw [hH, hlo]]
  refine lv_iload_n hx hb dX3_get_0 rfl (lv_at hl 1 rfl) ?_
  refine lv_if_lt (tgt := 21) hx hb dX3_get_1 (by decide) (fun c_1 => ?_) (fun c_1 => ?_)
  · have hf := ifp c_1 hf
    refine lv_iconst (v := (0 : Int32)) hx hb dX3_get_21 (by decide) ?_
    exact hret H locs ls 22 (0 : Int32) hf dX3_get_22 hP hD hS
  · have hf := ifn c_1 hf
    refine lv_iload_n hx hb dX3_get_4 rfl (lv_at hl 1 rfl) ?_
    refine lv_aload_n hx hb dX3_get_5 rfl (lv_at hl 0 rfl) ?_
    refine va_get (ci := 3) (v := .int o_size) (C := RX3) (T := TX3) (N := 2) hx hb ht inX3 hown hK hP 0 rfl rfl 1 (by decide) (ht _ wd_1_93) (fun _ h9 => h9) rfl dX3_get_6 ?_
    refine lv_icmp_ge (tgt := 21) hx hb dX3_get_9 (by decide) (fun c_2 => ?_) (fun c_2 => ?_)
    · have hf := ifp c_2 hf
      refine lv_iconst (v := (0 : Int32)) hx hb dX3_get_21 (by decide) ?_
      exact hret H locs ls 22 (0 : Int32) hf dX3_get_22 hP hD hS
    · have hf := ifn c_2 hf
      refine lv_aload_n hx hb dX3_get_12 rfl (lv_at hl 0 rfl) ?_
      refine va_get (ci := 3) (v := .ref a_o_numbers) (C := RX3) (T := TX3) (N := 2) hx hb ht inX3 hown hK hP 0 rfl rfl 0 (by decide) (ht _ wd_1_92) (fun _ h9 => h9) rfl dX3_get_13 ?_
      refine lv_iload_n hx hb dX3_get_16 rfl (lv_at hl 1 rfl) ?_
      obtain ⟨b_3, hf⟩ := bd_some hf
      refine va_iald hx hb hK hP 1 0 rfl rfl b_3 dX3_get_17 ?_
      refine lv_goto (tgt := 22) hx hb dX3_get_18 (by decide) ?_
      exact hret H locs ls 22 (o_numbers x1.toNatClampNeg) hf dX3_get_22 hP hD hS
def f_X3_push (x1 : Int32) (n_o_numbers : Nat) (o_size : Int32) (o_numbers : Nat → Int32) : Option (Int32 × (Nat → Int32)) := Option.bind (f_X3_isFull n_o_numbers o_size) (fun u_1 => if u_1 = 0 then bd o_size n_o_numbers (some ((o_size + (1 : Int32)), (upd o_numbers o_size.toNatClampNeg x1))) else some (o_size, o_numbers))
abbrev rm_X3_push : Room := { frames := 1, cells := 0, slots := 0, locals := 20 }
theorem kd_X3_push : yX3_push.cls ≠ "java/lang/invoke/MethodHandle" ∧ yX3_push.cls ≠ "java/lang/invoke/VarHandle" ∧ (parseMethodDescriptor yX3_push.desc).map (fun d => d.parameters.length) = some 1 := by decide +kernel
set_option maxHeartbeats 4000000 in
set_option maxRecDepth 100000 in
theorem c_X3_push (l : Launch) (dC : Nat → ClassId) (dI : Nat → Nat → Nat) (cI cJ cZ : ClassId) (a_o a_o_numbers : Nat) (sz : Nat) (n_o_numbers : Nat) (o_size : Int32) (o_numbers : Nat → Int32) (x1 : Int32) (res : Int32 × (Nat → Int32)) (hf : f_X3_push x1 n_o_numbers o_size o_numbers = some res) : kMv Unit l yX3_push cX3_push 2 rm_X3_push [.ref a_o, .int x1] (dC, dI) (kT cI cJ cZ) sz [(a_o, .inr (3, [.ref a_o_numbers, .int o_size])), (a_o_numbers, .inl (cI, n_o_numbers, .inl o_numbers))] (fun _ => [(a_o, .inr (3, [.ref a_o_numbers, .int res.1])), (a_o_numbers, .inl (cI, n_o_numbers, .inl res.2))]) := by
  refine Met.ofW (cc := cX3_push) (maxL := 2) (ret := none) (by decide) rfl ?_
  intro p e s m args below meth c s₁ B hml hv
  obtain ⟨rfl, hsz, hP, hK, hD0⟩ := hv
  have hx := B.exec
  have hb := B.bytes
  have hr := B.returns
  have ht : ∀ w ∈ lw_g, w.before ([.ref a_o, .int x1] : List Value).toArray s = true := fun w h => atoms_spec (ws := kws yX3_push cX3_push 2 none) B.pre w (List.mem_cons_of_mem _ h)
  have hown : s.vm.findClass RX3 = some m.cls := findClass_of_methodNamed B.named
  have hlocks := B.notSynchronized
  subst hsz
  have hD := hD0.self (sz := s.heap.size)
  generalize hAe : va_A [(a_o, .inr (3, [.ref a_o_numbers, .int o_size])), (a_o_numbers, .inl (cI, n_o_numbers, .inl o_numbers))] s.heap.size = A at hD ⊢
  have hA : ∀ q : Nat, s.heap.size ≤ q → A q := fun q h => by rw [← hAe]; exact Or.inr h
  have hS : va_S A s.heap s.heap [] := va_S.rf
  have hret : ∀ (H : Heap) (locs : List Loc) (ls : Array Slot) (pc : Nat) (o0 : Int32) (o1 : Nat → Int32), some (o0, o1) = some res → decode cX3_push pc = .ok (.return_, 1) → va_P (dC, dI) vwCl [(a_o, .inr (3, [.ref a_o_numbers, .int o0])), (a_o_numbers, .inl (cI, n_o_numbers, .inl o1))] H → va_D A [(a_o, .inr (3, [.ref a_o_numbers, .int o0])), (a_o_numbers, .inl (cI, n_o_numbers, .inl o1))] → va_S A s.heap H locs → W p l e (headSpec (kws yX3_push cX3_push 2 none) rm_X3_push).room s m ([.ref a_o, .int x1] : List Value).toArray below meth c H locs 0 0 (MQ below (kQv Unit (dC, dI) A (fun _ => [(a_o, .inr (3, [.ref a_o_numbers, .int res.1])), (a_o_numbers, .inl (cI, n_o_numbers, .inl res.2))])) ([.ref a_o, .int x1] : List Value).toArray s 0 0 A) (F0 m pc ls []) := by
    intro H locs ls pc o0 o1 he hd hP hD hS
    obtain rfl := Option.some.inj he
    exact krv hx hb hr hlocks () hP hD hS hd
  have hl := lv_entry ([.ref a_o, .int x1]) (n := 2) (Nat.le_of_ble_eq_true rfl)
  rw [lg_entry_eq]
  generalize (lg_sl ([.ref a_o, .int x1]) ++ List.replicate (2 - (lg_sl ([.ref a_o, .int x1])).length) Slot.unset).toArray = ls at hl ⊢
  have hl : lv_has ls 2 [(0, .ref a_o), (1, .int x1)] := hl
  generalize (MQ below _ ([.ref a_o, .int x1] : List Value).toArray s 0 0 A) = Q at hret ⊢
  generalize ([.ref a_o, .int x1] : List Value).toArray = args at ht hret ⊢
  have hP : va_P (dC, dI) vwCl [(a_o, .inr (3, [.ref a_o_numbers, .int o_size])), (a_o_numbers, .inl (cI, n_o_numbers, .inl o_numbers))] s.heap := hP
  unfold f_X3_push at hf
  obtain ⟨H, hH⟩ : ∃ H, H = s.heap := ⟨_, rfl⟩
  obtain ⟨locs, hlo⟩ : ∃ L : List Loc, L = [] := ⟨_, rfl⟩
  rw [← hH] at hP
  have hS : va_S A s.heap H locs := by rw [hH, hlo]; exact hS
  rw [show W p l e (headSpec (kws yX3_push cX3_push 2 none) rm_X3_push).room s m args below meth c s.heap [] 0 0 Q (F0 m 0 ls []) = W p l e (headSpec (kws yX3_push cX3_push 2 none) rm_X3_push).room s m args below meth c H locs 0 0 Q (F0 m 0 ls []) from by rw [hH, hlo]]
  refine lv_aload_n hx hb dX3_push_0 rfl (lv_at hl 0 rfl) ?_
  obtain ⟨u_1, h_2, hf⟩ := obs hf
  refine kcVi (rest := []) (wr := []) (w2 := fun _ => [(a_o, .inr (3, [.ref a_o_numbers, .int o_size])), (a_o_numbers, .inl (cI, n_o_numbers, .inl o_numbers))]) hx hb hml hown ht (c_X3_isFull l dC dI cI cJ cZ a_o a_o_numbers H.size n_o_numbers o_size o_numbers u_1 h_2) (kcw 0 ht wd_2_184 wd_1_5 wd_2_196 kd_X3_isFull ⟨rfl, rfl⟩ ⟨Nat.le_of_ble_eq_true rfl, Nat.le_of_ble_eq_true rfl⟩) wd_2_182 wd_2_183 hK hP hD hS hA [0, 1] [] [0, 1] rfl rfl rfl rfl (by decide) rfl (fun _ => rfl) (ci := 3) rfl rfl rfl rfl hl.1 rfl (Nat.le_of_ble_eq_true rfl) dX3_push_1 ⟨Nat.zero_le _, Nat.zero_le _⟩ (fun _ H locs hP hD hS => ?_)
  have hP : va_P (dC, dI) vwCl [(a_o, .inr (3, [.ref a_o_numbers, .int o_size])), (a_o_numbers, .inl (cI, n_o_numbers, .inl o_numbers))] H := hP
  have hD : va_D A [(a_o, .inr (3, [.ref a_o_numbers, .int o_size])), (a_o_numbers, .inl (cI, n_o_numbers, .inl o_numbers))] := hD
  refine lv_if_ne (tgt := 27) hx hb dX3_push_4 (by decide) (fun c_3 => ?_) (fun c_3 => ?_)
  · have hf := ifn c_3 hf
    exact hret H locs ls 27 o_size o_numbers hf dX3_push_27 hP hD hS
  · have hf := ifp c_3 hf
    refine lv_aload_n hx hb dX3_push_7 rfl (lv_at hl 0 rfl) ?_
    refine va_get (ci := 3) (v := .ref a_o_numbers) (C := RX3) (T := TX3) (N := 2) hx hb ht inX3 hown hK hP 0 rfl rfl 0 (by decide) (ht _ wd_1_92) (fun _ h9 => h9) rfl dX3_push_8 ?_
    refine lv_aload_n hx hb dX3_push_11 rfl (lv_at hl 0 rfl) ?_
    refine va_get (ci := 3) (v := .int o_size) (C := RX3) (T := TX3) (N := 2) hx hb ht inX3 hown hK hP 0 rfl rfl 1 (by decide) (ht _ wd_1_93) (fun _ h9 => h9) rfl dX3_push_12 ?_
    refine lv_iload_n hx hb dX3_push_15 rfl (lv_at hl 1 rfl) ?_
    obtain ⟨b_4, hf⟩ := bd_some hf
    refine va_iast hx hb hK hP hD hS 1 0 rfl rfl b_4 dX3_push_16 (fun H locs hP hD hS => ?_)
    have hP : va_P (dC, dI) vwCl [(a_o, .inr (3, [.ref a_o_numbers, .int o_size])), (a_o_numbers, .inl (cI, n_o_numbers, .inl (upd o_numbers o_size.toNatClampNeg x1)))] H := hP
    have hD : va_D A [(a_o, .inr (3, [.ref a_o_numbers, .int o_size])), (a_o_numbers, .inl (cI, n_o_numbers, .inl (upd o_numbers o_size.toNatClampNeg x1)))] := hD
    refine lv_aload_n hx hb dX3_push_17 rfl (lv_at hl 0 rfl) ?_
    refine lv_dup hx hb dX3_push_18 rfl ?_
    refine va_get (ci := 3) (v := .int o_size) (C := RX3) (T := TX3) (N := 2) hx hb ht inX3 hown hK hP 0 rfl rfl 1 (by decide) (ht _ wd_1_93) (fun _ h9 => h9) rfl dX3_push_19 ?_
    refine lv_iconst (v := (1 : Int32)) hx hb dX3_push_22 (by decide) ?_
    refine lv_iadd hx hb dX3_push_23 ?_
    refine va_put (ci := 3) (v := .int (o_size + (1 : Int32))) (ty := .int) (C := RX3) (T := TX3) (N := 2) hx hb ht inX3 tyX3 tyX3_ok nmX3 hown hK hP hD hS 0 rfl rfl 1 (by decide) (ht _ wd_1_93) (fun _ h9 => h9) rfl (tyX3_ok 1 (by decide)) rfl rfl (Nat.le_of_ble_eq_true rfl) dX3_push_24 (fun H locs hP hD hS => ?_)
    have hP : va_P (dC, dI) vwCl [(a_o, .inr (3, [.ref a_o_numbers, .int (o_size + (1 : Int32))])), (a_o_numbers, .inl (cI, n_o_numbers, .inl (upd o_numbers o_size.toNatClampNeg x1)))] H := hP
    have hD : va_D A [(a_o, .inr (3, [.ref a_o_numbers, .int (o_size + (1 : Int32))])), (a_o_numbers, .inl (cI, n_o_numbers, .inl (upd o_numbers o_size.toNatClampNeg x1)))] := hD
    exact hret H locs ls 27 (o_size + (1 : Int32)) (upd o_numbers o_size.toNatClampNeg x1) hf dX3_push_27 hP hD hS
def f_X3_pop (n_o_numbers : Nat) (o_size : Int32) (o_numbers : Nat → Int32) : Option (Int32 × Int32) := if o_size = 0 then some ((0 : Int32), o_size) else bd (o_size - (1 : Int32)) n_o_numbers (some ((o_numbers (o_size - (1 : Int32)).toNatClampNeg), (o_size - (1 : Int32))))
abbrev rm_X3_pop : Room := { frames := 0, cells := 0, slots := 0, locals := 0 }
theorem kd_X3_pop : yX3_pop.cls ≠ "java/lang/invoke/MethodHandle" ∧ yX3_pop.cls ≠ "java/lang/invoke/VarHandle" ∧ (parseMethodDescriptor yX3_pop.desc).map (fun d => d.parameters.length) = some 0 := by decide +kernel
set_option maxHeartbeats 4000000 in
set_option maxRecDepth 100000 in
theorem c_X3_pop (l : Launch) (dC : Nat → ClassId) (dI : Nat → Nat → Nat) (cI cJ cZ : ClassId) (a_o a_o_numbers : Nat) (sz : Nat) (n_o_numbers : Nat) (o_size : Int32) (o_numbers : Nat → Int32) (res : Int32 × Int32) (hf : f_X3_pop n_o_numbers o_size o_numbers = some res) : kMi Unit l yX3_pop cX3_pop 1 (some .int) rm_X3_pop [.ref a_o] (dC, dI) (kT cI cJ cZ) sz [(a_o, .inr (3, [.ref a_o_numbers, .int o_size])), (a_o_numbers, .inl (cI, n_o_numbers, .inl o_numbers))] res.1 (fun _ => [(a_o, .inr (3, [.ref a_o_numbers, .int res.2])), (a_o_numbers, .inl (cI, n_o_numbers, .inl o_numbers))]) := by
  refine Met.ofW (cc := cX3_pop) (maxL := 1) (ret := (some .int)) (by decide) rfl ?_
  intro p e s m args below meth c s₁ B hml hv
  obtain ⟨rfl, hsz, hP, hK, hD0⟩ := hv
  have hx := B.exec
  have hb := B.bytes
  have hr := B.returns
  have ht : ∀ w ∈ lw_g, w.before ([.ref a_o] : List Value).toArray s = true := fun w h => atoms_spec (ws := kws yX3_pop cX3_pop 1 (some .int)) B.pre w (List.mem_cons_of_mem _ h)
  have hown : s.vm.findClass RX3 = some m.cls := findClass_of_methodNamed B.named
  have hlocks := B.notSynchronized
  subst hsz
  have hD := hD0.self (sz := s.heap.size)
  generalize hAe : va_A [(a_o, .inr (3, [.ref a_o_numbers, .int o_size])), (a_o_numbers, .inl (cI, n_o_numbers, .inl o_numbers))] s.heap.size = A at hD ⊢
  have hA : ∀ q : Nat, s.heap.size ≤ q → A q := fun q h => by rw [← hAe]; exact Or.inr h
  have hS : va_S A s.heap s.heap [] := va_S.rf
  have hret : ∀ (H : Heap) (locs : List Loc) (ls : Array Slot) (pc : Nat) (v : Int32) (o0 : Int32), some (v, o0) = some res → decode cX3_pop pc = .ok (.ireturn, 1) → va_P (dC, dI) vwCl [(a_o, .inr (3, [.ref a_o_numbers, .int o0])), (a_o_numbers, .inl (cI, n_o_numbers, .inl o_numbers))] H → va_D A [(a_o, .inr (3, [.ref a_o_numbers, .int o0])), (a_o_numbers, .inl (cI, n_o_numbers, .inl o_numbers))] → va_S A s.heap H locs → W p l e (headSpec (kws yX3_pop cX3_pop 1 (some .int)) rm_X3_pop).room s m ([.ref a_o] : List Value).toArray below meth c H locs 0 0 (MQ below (kQi Unit (dC, dI) A res.1 (fun _ => [(a_o, .inr (3, [.ref a_o_numbers, .int res.2])), (a_o_numbers, .inl (cI, n_o_numbers, .inl o_numbers))])) ([.ref a_o] : List Value).toArray s 0 0 A) (F0 m pc ls [.int v]) := by
    intro H locs ls pc v o0 he hd hP hD hS
    obtain rfl := Option.some.inj he
    exact kri hx hb hr hlocks () hP hD hS hd
  have hl := lv_entry ([.ref a_o]) (n := 1) (Nat.le_of_ble_eq_true rfl)
  rw [lg_entry_eq]
  generalize (lg_sl ([.ref a_o]) ++ List.replicate (1 - (lg_sl ([.ref a_o])).length) Slot.unset).toArray = ls at hl ⊢
  have hl : lv_has ls 1 [(0, .ref a_o)] := hl
  generalize (MQ below _ ([.ref a_o] : List Value).toArray s 0 0 A) = Q at hret ⊢
  generalize ([.ref a_o] : List Value).toArray = args at ht hret ⊢
  have hP : va_P (dC, dI) vwCl [(a_o, .inr (3, [.ref a_o_numbers, .int o_size])), (a_o_numbers, .inl (cI, n_o_numbers, .inl o_numbers))] s.heap := hP
  unfold f_X3_pop at hf
  obtain ⟨H, hH⟩ : ∃ H, H = s.heap := ⟨_, rfl⟩
  obtain ⟨locs, hlo⟩ : ∃ L : List Loc, L = [] := ⟨_, rfl⟩
  rw [← hH] at hP
  have hS : va_S A s.heap H locs := by rw [hH, hlo]; exact hS
  rw [show W p l e (headSpec (kws yX3_pop cX3_pop 1 (some .int)) rm_X3_pop).room s m args below meth c s.heap [] 0 0 Q (F0 m 0 ls []) = W p l e (headSpec (kws yX3_pop cX3_pop 1 (some .int)) rm_X3_pop).room s m args below meth c H locs 0 0 Q (F0 m 0 ls []) from by rw [hH, hlo]]
  refine lv_aload_n hx hb dX3_pop_0 rfl (lv_at hl 0 rfl) ?_
  refine va_get (ci := 3) (v := .int o_size) (C := RX3) (T := TX3) (N := 2) hx hb ht inX3 hown hK hP 0 rfl rfl 1 (by decide) (ht _ wd_1_93) (fun _ h9 => h9) rfl dX3_pop_1 ?_
  refine lv_if_ne (tgt := 9) hx hb dX3_pop_4 (by decide) (fun c_1 => ?_) (fun c_1 => ?_)
  · have hf := ifn c_1 hf
    refine lv_aload_n hx hb dX3_pop_9 rfl (lv_at hl 0 rfl) ?_
    refine lv_dup hx hb dX3_pop_10 rfl ?_
    refine va_get (ci := 3) (v := .int o_size) (C := RX3) (T := TX3) (N := 2) hx hb ht inX3 hown hK hP 0 rfl rfl 1 (by decide) (ht _ wd_1_93) (fun _ h9 => h9) rfl dX3_pop_11 ?_
    refine lv_iconst (v := (1 : Int32)) hx hb dX3_pop_14 (by decide) ?_
    refine lv_isub hx hb dX3_pop_15 ?_
    refine va_put (ci := 3) (v := .int (o_size - (1 : Int32))) (ty := .int) (C := RX3) (T := TX3) (N := 2) hx hb ht inX3 tyX3 tyX3_ok nmX3 hown hK hP hD hS 0 rfl rfl 1 (by decide) (ht _ wd_1_93) (fun _ h9 => h9) rfl (tyX3_ok 1 (by decide)) rfl rfl (Nat.le_of_ble_eq_true rfl) dX3_pop_16 (fun H locs hP hD hS => ?_)
    have hP : va_P (dC, dI) vwCl [(a_o, .inr (3, [.ref a_o_numbers, .int (o_size - (1 : Int32))])), (a_o_numbers, .inl (cI, n_o_numbers, .inl o_numbers))] H := hP
    have hD : va_D A [(a_o, .inr (3, [.ref a_o_numbers, .int (o_size - (1 : Int32))])), (a_o_numbers, .inl (cI, n_o_numbers, .inl o_numbers))] := hD
    refine lv_aload_n hx hb dX3_pop_19 rfl (lv_at hl 0 rfl) ?_
    refine va_get (ci := 3) (v := .ref a_o_numbers) (C := RX3) (T := TX3) (N := 2) hx hb ht inX3 hown hK hP 0 rfl rfl 0 (by decide) (ht _ wd_1_92) (fun _ h9 => h9) rfl dX3_pop_20 ?_
    refine lv_aload_n hx hb dX3_pop_23 rfl (lv_at hl 0 rfl) ?_
    refine va_get (ci := 3) (v := .int (o_size - (1 : Int32))) (C := RX3) (T := TX3) (N := 2) hx hb ht inX3 hown hK hP 0 rfl rfl 1 (by decide) (ht _ wd_1_93) (fun _ h9 => h9) rfl dX3_pop_24 ?_
    obtain ⟨b_2, hf⟩ := bd_some hf
    refine va_iald hx hb hK hP 1 0 rfl rfl b_2 dX3_pop_27 ?_
    exact hret H locs ls 28 (o_numbers (o_size - (1 : Int32)).toNatClampNeg) (o_size - (1 : Int32)) hf dX3_pop_28 hP hD hS
  · have hf := ifp c_1 hf
    refine lv_iconst (v := (0 : Int32)) hx hb dX3_pop_7 (by decide) ?_
    exact hret H locs ls 8 (0 : Int32) o_size hf dX3_pop_8 hP hD hS
def f_X3_dropOldest (n_o_numbers : Nat) (o_size : Int32) (o_numbers : Nat → Int32) : Option (Int32 × (Nat → Int32)) := if o_size ≤ 0 then some (o_size, o_numbers) else cpg (1 : Int32) (0 : Int32) (o_size - (1 : Int32)) n_o_numbers n_o_numbers (some ((o_size - (1 : Int32)), (va_cpy o_numbers o_numbers (1 : Int32).toNatClampNeg (0 : Int32).toNatClampNeg (o_size - (1 : Int32)).toNatClampNeg)))
abbrev rm_X3_dropOldest : Room := { frames := 1, cells := 0, slots := 0, locals := 60 }
theorem kd_X3_dropOldest : yX3_dropOldest.cls ≠ "java/lang/invoke/MethodHandle" ∧ yX3_dropOldest.cls ≠ "java/lang/invoke/VarHandle" ∧ (parseMethodDescriptor yX3_dropOldest.desc).map (fun d => d.parameters.length) = some 0 := by decide +kernel
set_option maxHeartbeats 4000000 in
set_option maxRecDepth 100000 in
theorem c_X3_dropOldest (l : Launch) (dC : Nat → ClassId) (dI : Nat → Nat → Nat) (cI cJ cZ : ClassId) (a_o a_o_numbers : Nat) (sz : Nat) (n_o_numbers : Nat) (o_size : Int32) (o_numbers : Nat → Int32) (res : Int32 × (Nat → Int32)) (hf : f_X3_dropOldest n_o_numbers o_size o_numbers = some res) : kMv Unit l yX3_dropOldest cX3_dropOldest 1 rm_X3_dropOldest [.ref a_o] (dC, dI) (kT cI cJ cZ) sz [(a_o, .inr (3, [.ref a_o_numbers, .int o_size])), (a_o_numbers, .inl (cI, n_o_numbers, .inl o_numbers))] (fun _ => [(a_o, .inr (3, [.ref a_o_numbers, .int res.1])), (a_o_numbers, .inl (cI, n_o_numbers, .inl res.2))]) := by
  refine Met.ofW (cc := cX3_dropOldest) (maxL := 1) (ret := none) (by decide) rfl ?_
  intro p e s m args below meth c s₁ B hml hv
  obtain ⟨rfl, hsz, hP, hK, hD0⟩ := hv
  have hx := B.exec
  have hb := B.bytes
  have hr := B.returns
  have ht : ∀ w ∈ lw_g, w.before ([.ref a_o] : List Value).toArray s = true := fun w h => atoms_spec (ws := kws yX3_dropOldest cX3_dropOldest 1 none) B.pre w (List.mem_cons_of_mem _ h)
  have hown : s.vm.findClass RX3 = some m.cls := findClass_of_methodNamed B.named
  have hlocks := B.notSynchronized
  subst hsz
  have hD := hD0.self (sz := s.heap.size)
  generalize hAe : va_A [(a_o, .inr (3, [.ref a_o_numbers, .int o_size])), (a_o_numbers, .inl (cI, n_o_numbers, .inl o_numbers))] s.heap.size = A at hD ⊢
  have hA : ∀ q : Nat, s.heap.size ≤ q → A q := fun q h => by rw [← hAe]; exact Or.inr h
  have hS : va_S A s.heap s.heap [] := va_S.rf
  have hret : ∀ (H : Heap) (locs : List Loc) (ls : Array Slot) (pc : Nat) (o0 : Int32) (o1 : Nat → Int32), some (o0, o1) = some res → decode cX3_dropOldest pc = .ok (.return_, 1) → va_P (dC, dI) vwCl [(a_o, .inr (3, [.ref a_o_numbers, .int o0])), (a_o_numbers, .inl (cI, n_o_numbers, .inl o1))] H → va_D A [(a_o, .inr (3, [.ref a_o_numbers, .int o0])), (a_o_numbers, .inl (cI, n_o_numbers, .inl o1))] → va_S A s.heap H locs → W p l e (headSpec (kws yX3_dropOldest cX3_dropOldest 1 none) rm_X3_dropOldest).room s m ([.ref a_o] : List Value).toArray below meth c H locs 0 0 (MQ below (kQv Unit (dC, dI) A (fun _ => [(a_o, .inr (3, [.ref a_o_numbers, .int res.1])), (a_o_numbers, .inl (cI, n_o_numbers, .inl res.2))])) ([.ref a_o] : List Value).toArray s 0 0 A) (F0 m pc ls []) := by
    intro H locs ls pc o0 o1 he hd hP hD hS
    obtain rfl := Option.some.inj he
    exact krv hx hb hr hlocks () hP hD hS hd
  have hl := lv_entry ([.ref a_o]) (n := 1) (Nat.le_of_ble_eq_true rfl)
  rw [lg_entry_eq]
  generalize (lg_sl ([.ref a_o]) ++ List.replicate (1 - (lg_sl ([.ref a_o])).length) Slot.unset).toArray = ls at hl ⊢
  have hl : lv_has ls 1 [(0, .ref a_o)] := hl
  generalize (MQ below _ ([.ref a_o] : List Value).toArray s 0 0 A) = Q at hret ⊢
  generalize ([.ref a_o] : List Value).toArray = args at ht hret ⊢
  have hP : va_P (dC, dI) vwCl [(a_o, .inr (3, [.ref a_o_numbers, .int o_size])), (a_o_numbers, .inl (cI, n_o_numbers, .inl o_numbers))] s.heap := hP
  unfold f_X3_dropOldest at hf
  obtain ⟨H, hH⟩ : ∃ H, H = s.heap := ⟨_, rfl⟩
  obtain ⟨locs, hlo⟩ : ∃ L : List Loc, L = [] := ⟨_, rfl⟩
  rw [← hH] at hP
  have hS : va_S A s.heap H locs := by rw [hH, hlo]; exact hS
  rw [show W p l e (headSpec (kws yX3_dropOldest cX3_dropOldest 1 none) rm_X3_dropOldest).room s m args below meth c s.heap [] 0 0 Q (F0 m 0 ls []) = W p l e (headSpec (kws yX3_dropOldest cX3_dropOldest 1 none) rm_X3_dropOldest).room s m args below meth c H locs 0 0 Q (F0 m 0 ls []) from by rw [hH, hlo]]
  refine lv_aload_n hx hb dX3_dropOldest_0 rfl (lv_at hl 0 rfl) ?_
  refine va_get (ci := 3) (v := .int o_size) (C := RX3) (T := TX3) (N := 2) hx hb ht inX3 hown hK hP 0 rfl rfl 1 (by decide) (ht _ wd_1_93) (fun _ h9 => h9) rfl dX3_dropOldest_1 ?_
  refine lv_if_le (tgt := 36) hx hb dX3_dropOldest_4 (by decide) (fun c_1 => ?_) (fun c_1 => ?_)
  · have hf := ifp c_1 hf
    exact hret H locs ls 36 o_size o_numbers hf dX3_dropOldest_36 hP hD hS
  · have hf := ifn c_1 hf
    refine lv_aload_n hx hb dX3_dropOldest_7 rfl (lv_at hl 0 rfl) ?_
    refine va_get (ci := 3) (v := .ref a_o_numbers) (C := RX3) (T := TX3) (N := 2) hx hb ht inX3 hown hK hP 0 rfl rfl 0 (by decide) (ht _ wd_1_92) (fun _ h9 => h9) rfl dX3_dropOldest_8 ?_
    refine lv_iconst (v := (1 : Int32)) hx hb dX3_dropOldest_11 (by decide) ?_
    refine lv_aload_n hx hb dX3_dropOldest_12 rfl (lv_at hl 0 rfl) ?_
    refine va_get (ci := 3) (v := .ref a_o_numbers) (C := RX3) (T := TX3) (N := 2) hx hb ht inX3 hown hK hP 0 rfl rfl 0 (by decide) (ht _ wd_1_92) (fun _ h9 => h9) rfl dX3_dropOldest_13 ?_
    refine lv_iconst (v := (0 : Int32)) hx hb dX3_dropOldest_16 (by decide) ?_
    refine lv_aload_n hx hb dX3_dropOldest_17 rfl (lv_at hl 0 rfl) ?_
    refine va_get (ci := 3) (v := .int o_size) (C := RX3) (T := TX3) (N := 2) hx hb ht inX3 hown hK hP 0 rfl rfl 1 (by decide) (ht _ wd_1_93) (fun _ h9 => h9) rfl dX3_dropOldest_18 ?_
    refine lv_iconst (v := (1 : Int32)) hx hb dX3_dropOldest_21 (by decide) ?_
    refine lv_isub hx hb dX3_dropOldest_22 ?_
    obtain ⟨z_2, hf⟩ := cpg_some hf
    refine va_copyi hx hb (hml.trans hl.1.symm) hown (ht _ wd_2_189) (ht _ wd_2_191) (ht _ wd_2_190) (ht _ wd_1_14) hK hP hD hS 1 1 0 0 rfl rfl rfl rfl rfl z_2.1 z_2.2.1 z_2.2.2.1 z_2.2.2.2.1 z_2.2.2.2.2 (fun _ _ => rfl) (Nat.le_of_ble_eq_true rfl) (by decide) dX3_dropOldest_23 (fun H locs hP hD hS => ?_)
    have hP : va_P (dC, dI) vwCl [(a_o, .inr (3, [.ref a_o_numbers, .int o_size])), (a_o_numbers, .inl (cI, n_o_numbers, .inl (va_cpy o_numbers o_numbers (1 : Int32).toNatClampNeg (0 : Int32).toNatClampNeg (o_size - (1 : Int32)).toNatClampNeg)))] H := hP
    have hD : va_D A [(a_o, .inr (3, [.ref a_o_numbers, .int o_size])), (a_o_numbers, .inl (cI, n_o_numbers, .inl (va_cpy o_numbers o_numbers (1 : Int32).toNatClampNeg (0 : Int32).toNatClampNeg (o_size - (1 : Int32)).toNatClampNeg)))] := hD
    refine lv_aload_n hx hb dX3_dropOldest_26 rfl (lv_at hl 0 rfl) ?_
    refine lv_dup hx hb dX3_dropOldest_27 rfl ?_
    refine va_get (ci := 3) (v := .int o_size) (C := RX3) (T := TX3) (N := 2) hx hb ht inX3 hown hK hP 0 rfl rfl 1 (by decide) (ht _ wd_1_93) (fun _ h9 => h9) rfl dX3_dropOldest_28 ?_
    refine lv_iconst (v := (1 : Int32)) hx hb dX3_dropOldest_31 (by decide) ?_
    refine lv_isub hx hb dX3_dropOldest_32 ?_
    refine va_put (ci := 3) (v := .int (o_size - (1 : Int32))) (ty := .int) (C := RX3) (T := TX3) (N := 2) hx hb ht inX3 tyX3 tyX3_ok nmX3 hown hK hP hD hS 0 rfl rfl 1 (by decide) (ht _ wd_1_93) (fun _ h9 => h9) rfl (tyX3_ok 1 (by decide)) rfl rfl (Nat.le_of_ble_eq_true rfl) dX3_dropOldest_33 (fun H locs hP hD hS => ?_)
    have hP : va_P (dC, dI) vwCl [(a_o, .inr (3, [.ref a_o_numbers, .int (o_size - (1 : Int32))])), (a_o_numbers, .inl (cI, n_o_numbers, .inl (va_cpy o_numbers o_numbers (1 : Int32).toNatClampNeg (0 : Int32).toNatClampNeg (o_size - (1 : Int32)).toNatClampNeg)))] H := hP
    have hD : va_D A [(a_o, .inr (3, [.ref a_o_numbers, .int (o_size - (1 : Int32))])), (a_o_numbers, .inl (cI, n_o_numbers, .inl (va_cpy o_numbers o_numbers (1 : Int32).toNatClampNeg (0 : Int32).toNatClampNeg (o_size - (1 : Int32)).toNatClampNeg)))] := hD
    exact hret H locs ls 36 (o_size - (1 : Int32)) (va_cpy o_numbers o_numbers (1 : Int32).toNatClampNeg (0 : Int32).toNatClampNeg (o_size - (1 : Int32)).toNatClampNeg) hf dX3_dropOldest_36 hP hD hS
