def f_X1_leadsTo_b124 (o_persons : Int32) (o_size : Int32) (o_changes : Int32) (o_rows : Nat → Int32) (o_edges : Nat → Int32) (x4 : Int32) (x5 : Int32) : Option (Int32) := if x5 = (3 : Int32) then if o_size ≤ (x4 >>> ((2 : Int32) &&& 31)) then some (-1 : Int32) else some (x4 >>> ((2 : Int32) &&& 31)) else some (-1 : Int32)
def f_X1_leadsTo_b121 (o_persons : Int32) (o_size : Int32) (o_changes : Int32) (o_rows : Nat → Int32) (o_edges : Nat → Int32) (x4 : Int32) (t0 : Int32) (t1 : Int32) : Option (Int32) := f_X1_leadsTo_b124 o_persons o_size o_changes o_rows o_edges x4 (t1 ||| t0)
def f_X1_leadsTo_b96 (o_persons : Int32) (o_size : Int32) (o_changes : Int32) (o_rows : Nat → Int32) (o_edges : Nat → Int32) (x1 : Int32) (x3 : Int32) (x4 : Int32) (x6 : Int32) (t0 : Int32) (t1 : Int32) : Option (Int32) := bd x1 720 (Option.bind (f_X4_who (o_rows x1.toNatClampNeg) x6) (fun u_4 => if u_4 = x3 then f_X1_leadsTo_b121 o_persons o_size o_changes o_rows o_edges x4 (2 : Int32) (t1 ||| t0) else f_X1_leadsTo_b121 o_persons o_size o_changes o_rows o_edges x4 (0 : Int32) (t1 ||| t0)))
def f_X1_leadsTo_b73 (o_persons : Int32) (o_size : Int32) (o_changes : Int32) (o_rows : Nat → Int32) (o_edges : Nat → Int32) (x1 : Int32) (x2 : Int32) (x3 : Int32) (x4 : Int32) (x5 : Int32) (t0 : Int32) : Option (Int32) := bd x1 720 (Option.bind (f_X4_who (o_rows x1.toNatClampNeg) x2) (fun u_8 => if u_8 = x3 then f_X1_leadsTo_b96 o_persons o_size o_changes o_rows o_edges x1 x3 x4 t0 (1 : Int32) x5 else f_X1_leadsTo_b96 o_persons o_size o_changes o_rows o_edges x1 x3 x4 t0 (0 : Int32) x5))
def f_X1_leadsTo (x1 : Int32) (x2 : Int32) (x3 : Int32) (o_persons : Int32) (o_size : Int32) (o_changes : Int32) (o_rows : Nat → Int32) (o_edges : Nat → Int32) : Option (Int32) := if x1 < 0 then some (-1 : Int32) else if o_size ≤ x1 then some (-1 : Int32) else if x2 < 0 then some (-1 : Int32) else if x2 < o_changes then bd ((x1 * (6 : Int32)) + x2) 4320 (if ((o_edges ((x1 * (6 : Int32)) + x2).toNatClampNeg) &&& (3 : Int32)) = (3 : Int32) then f_X1_leadsTo_b124 o_persons o_size o_changes o_rows o_edges (o_edges ((x1 * (6 : Int32)) + x2).toNatClampNeg) ((o_edges ((x1 * (6 : Int32)) + x2).toNatClampNeg) &&& (3 : Int32)) else if x3 = (-1 : Int32) then f_X1_leadsTo_b124 o_persons o_size o_changes o_rows o_edges (o_edges ((x1 * (6 : Int32)) + x2).toNatClampNeg) ((o_edges ((x1 * (6 : Int32)) + x2).toNatClampNeg) &&& (3 : Int32)) else if o_persons ≤ (x2 + (1 : Int32)) then f_X1_leadsTo_b73 o_persons o_size o_changes o_rows o_edges x1 x2 x3 (o_edges ((x1 * (6 : Int32)) + x2).toNatClampNeg) ((o_edges ((x1 * (6 : Int32)) + x2).toNatClampNeg) &&& (3 : Int32)) (0 : Int32) else f_X1_leadsTo_b73 o_persons o_size o_changes o_rows o_edges x1 x2 x3 (o_edges ((x1 * (6 : Int32)) + x2).toNatClampNeg) ((o_edges ((x1 * (6 : Int32)) + x2).toNatClampNeg) &&& (3 : Int32)) (x2 + (1 : Int32))) else some (-1 : Int32)
abbrev rm_X1_leadsTo : Room := { frames := 1, cells := 0, slots := 0, locals := 21 }
theorem kd_X1_leadsTo : yX1_leadsTo.cls ≠ "java/lang/invoke/MethodHandle" ∧ yX1_leadsTo.cls ≠ "java/lang/invoke/VarHandle" ∧ (parseMethodDescriptor yX1_leadsTo.desc).map (fun d => d.parameters.length) = some 3 := by decide +kernel
set_option maxHeartbeats 4000000 in
set_option maxRecDepth 100000 in
theorem c_X1_leadsTo (l : Launch) (dC : Nat → ClassId) (dI : Nat → Nat → Nat) (cI cJ cZ : ClassId) (a_o a_o_rows a_o_edges : Nat) (sz : Nat) (o_persons : Int32) (o_size : Int32) (o_changes : Int32) (o_restCount : Int32) (o_firstRest : Int32) (o_rows : Nat → Int32) (o_edges : Nat → Int32) (x1 : Int32) (x2 : Int32) (x3 : Int32) (res : Int32) (hf : f_X1_leadsTo x1 x2 x3 o_persons o_size o_changes o_rows o_edges = some res) : kMi Unit l yX1_leadsTo cX1_leadsTo 7 (some .int) rm_X1_leadsTo [.ref a_o, .int x1, .int x2, .int x3] (dC, dI) (kT cI cJ cZ) sz [(a_o, .inr (1, [.ref a_o_rows, .ref a_o_edges, .int o_persons, .int o_size, .int o_changes, .int o_restCount, .int o_firstRest])), (a_o_rows, .inl (cI, 720, .inl o_rows)), (a_o_edges, .inl (cI, 4320, .inl o_edges))] res (fun _ => [(a_o, .inr (1, [.ref a_o_rows, .ref a_o_edges, .int o_persons, .int o_size, .int o_changes, .int o_restCount, .int o_firstRest])), (a_o_rows, .inl (cI, 720, .inl o_rows)), (a_o_edges, .inl (cI, 4320, .inl o_edges))]) := by
  refine Met.ofW (cc := cX1_leadsTo) (maxL := 7) (ret := (some .int)) (by decide) rfl ?_
  intro p e s m args below meth c s₁ B hml hv
  obtain ⟨rfl, hsz, hP, hK, hD0⟩ := hv
  have hx := B.exec
  have hb := B.bytes
  have hr := B.returns
  have ht : ∀ w ∈ lw_g, w.before ([.ref a_o, .int x1, .int x2, .int x3] : List Value).toArray s = true := fun w h => atoms_spec (ws := kws yX1_leadsTo cX1_leadsTo 7 (some .int)) B.pre w (List.mem_cons_of_mem _ h)
  have hown : s.vm.findClass RX1 = some m.cls := findClass_of_methodNamed B.named
  have hlocks := B.notSynchronized
  subst hsz
  have hD := hD0.self (sz := s.heap.size)
  generalize hAe : va_A [(a_o, .inr (1, [.ref a_o_rows, .ref a_o_edges, .int o_persons, .int o_size, .int o_changes, .int o_restCount, .int o_firstRest])), (a_o_rows, .inl (cI, 720, .inl o_rows)), (a_o_edges, .inl (cI, 4320, .inl o_edges))] s.heap.size = A at hD ⊢
  have hA : ∀ q : Nat, s.heap.size ≤ q → A q := fun q h => by rw [← hAe]; exact Or.inr h
  have hS : va_S A s.heap s.heap [] := va_S.rf
  have hret : ∀ (H : Heap) (locs : List Loc) (ls : Array Slot) (pc : Nat) (v : Int32), some v = some res → decode cX1_leadsTo pc = .ok (.ireturn, 1) → va_P (dC, dI) vwCl [(a_o, .inr (1, [.ref a_o_rows, .ref a_o_edges, .int o_persons, .int o_size, .int o_changes, .int o_restCount, .int o_firstRest])), (a_o_rows, .inl (cI, 720, .inl o_rows)), (a_o_edges, .inl (cI, 4320, .inl o_edges))] H → va_D A [(a_o, .inr (1, [.ref a_o_rows, .ref a_o_edges, .int o_persons, .int o_size, .int o_changes, .int o_restCount, .int o_firstRest])), (a_o_rows, .inl (cI, 720, .inl o_rows)), (a_o_edges, .inl (cI, 4320, .inl o_edges))] → va_S A s.heap H locs → W p l e (headSpec (kws yX1_leadsTo cX1_leadsTo 7 (some .int)) rm_X1_leadsTo).room s m ([.ref a_o, .int x1, .int x2, .int x3] : List Value).toArray below meth c H locs 0 0 (MQ below (kQi Unit (dC, dI) A res (fun _ => [(a_o, .inr (1, [.ref a_o_rows, .ref a_o_edges, .int o_persons, .int o_size, .int o_changes, .int o_restCount, .int o_firstRest])), (a_o_rows, .inl (cI, 720, .inl o_rows)), (a_o_edges, .inl (cI, 4320, .inl o_edges))])) ([.ref a_o, .int x1, .int x2, .int x3] : List Value).toArray s 0 0 A) (F0 m pc ls [.int v]) := by
    intro H locs ls pc v he hd hP hD hS
    obtain rfl := Option.some.inj he
    exact kri hx hb hr hlocks () hP hD hS hd
  have hl := lv_entry ([.ref a_o, .int x1, .int x2, .int x3]) (n := 7) (Nat.le_of_ble_eq_true rfl)
  rw [lg_entry_eq]
  generalize (lg_sl ([.ref a_o, .int x1, .int x2, .int x3]) ++ List.replicate (7 - (lg_sl ([.ref a_o, .int x1, .int x2, .int x3])).length) Slot.unset).toArray = ls at hl ⊢
  have hl : lv_has ls 7 [(0, .ref a_o), (1, .int x1), (2, .int x2), (3, .int x3)] := hl
  generalize (MQ below _ ([.ref a_o, .int x1, .int x2, .int x3] : List Value).toArray s 0 0 A) = Q at hret ⊢
  generalize ([.ref a_o, .int x1, .int x2, .int x3] : List Value).toArray = args at ht hret ⊢
  have hP : va_P (dC, dI) vwCl [(a_o, .inr (1, [.ref a_o_rows, .ref a_o_edges, .int o_persons, .int o_size, .int o_changes, .int o_restCount, .int o_firstRest])), (a_o_rows, .inl (cI, 720, .inl o_rows)), (a_o_edges, .inl (cI, 4320, .inl o_edges))] s.heap := hP
  unfold f_X1_leadsTo at hf
  have B124 : ∀ (x4 : Int32) (x5 : Int32) (H : Heap) (locs : List Loc) (ls : Array Slot), f_X1_leadsTo_b124 o_persons o_size o_changes o_rows o_edges x4 x5 = some res → va_P (dC, dI) vwCl [(a_o, .inr (1, [.ref a_o_rows, .ref a_o_edges, .int o_persons, .int o_size, .int o_changes, .int o_restCount, .int o_firstRest])), (a_o_rows, .inl (cI, 720, .inl o_rows)), (a_o_edges, .inl (cI, 4320, .inl o_edges))] H → va_D A [(a_o, .inr (1, [.ref a_o_rows, .ref a_o_edges, .int o_persons, .int o_size, .int o_changes, .int o_restCount, .int o_firstRest])), (a_o_rows, .inl (cI, 720, .inl o_rows)), (a_o_edges, .inl (cI, 4320, .inl o_edges))] → va_S A s.heap H locs → lv_has ls 7 [(0, .ref a_o), (4, .int x4), (5, .int x5)] → W p l e (headSpec (kws yX1_leadsTo cX1_leadsTo 7 (some .int)) rm_X1_leadsTo).room s m args below meth c H locs 0 0 Q (F0 m 124 ls []) := by
    intro x4 x5 H locs ls hf hP hD hS hl
    unfold f_X1_leadsTo_b124 at hf
    refine lv_iload hx hb dX1_leadsTo_124 (lv_at hl 1 rfl) ?_
    refine lv_iconst (v := (2 : Int32)) hx hb dX1_leadsTo_126 (by decide) ?_
    refine lv_ishr hx hb dX1_leadsTo_127 ?_
    refine lv_istore (lv' := [(6, .int (x4 >>> ((2 : Int32) &&& 31))), (0, .ref a_o), (4, .int x4), (5, .int x5)]) hx hb dX1_leadsTo_128 hl (by decide) rfl (fun ls hl => ?_)
    refine lv_iload hx hb dX1_leadsTo_130 (lv_at hl 3 rfl) ?_
    refine lv_iconst (v := (3 : Int32)) hx hb dX1_leadsTo_132 (by decide) ?_
    refine lv_icmp_ne (tgt := 150) hx hb dX1_leadsTo_133 (by decide) (fun c_1 => ?_) (fun c_1 => ?_)
    · have hf := ifn c_1 hf
      refine lv_iconst (v := (-1 : Int32)) hx hb dX1_leadsTo_150 (by decide) ?_
      exact hret H locs ls 151 (-1 : Int32) hf dX1_leadsTo_151 hP hD hS
    · have hf := ifp c_1 hf
      refine lv_iload hx hb dX1_leadsTo_136 (lv_at hl 0 rfl) ?_
      refine lv_aload_n hx hb dX1_leadsTo_138 rfl (lv_at hl 1 rfl) ?_
      refine va_get (ci := 1) (v := .int o_size) (C := RX1) (T := TX1) (N := 7) hx hb ht inX1 hown hK hP 0 rfl rfl 3 (by decide) (ht _ wd_1_133) (fun _ h9 => h9) rfl dX1_leadsTo_139 ?_
      refine lv_icmp_ge (tgt := 150) hx hb dX1_leadsTo_142 (by decide) (fun c_2 => ?_) (fun c_2 => ?_)
      · have hf := ifp c_2 hf
        refine lv_iconst (v := (-1 : Int32)) hx hb dX1_leadsTo_150 (by decide) ?_
        exact hret H locs ls 151 (-1 : Int32) hf dX1_leadsTo_151 hP hD hS
      · have hf := ifn c_2 hf
        refine lv_iload hx hb dX1_leadsTo_145 (lv_at hl 0 rfl) ?_
        refine lv_goto (tgt := 151) hx hb dX1_leadsTo_147 (by decide) ?_
        exact hret H locs ls 151 (x4 >>> ((2 : Int32) &&& 31)) hf dX1_leadsTo_151 hP hD hS
  have B121 : ∀ (x4 : Int32) (t0 : Int32) (t1 : Int32) (H : Heap) (locs : List Loc) (ls : Array Slot), f_X1_leadsTo_b121 o_persons o_size o_changes o_rows o_edges x4 t0 t1 = some res → va_P (dC, dI) vwCl [(a_o, .inr (1, [.ref a_o_rows, .ref a_o_edges, .int o_persons, .int o_size, .int o_changes, .int o_restCount, .int o_firstRest])), (a_o_rows, .inl (cI, 720, .inl o_rows)), (a_o_edges, .inl (cI, 4320, .inl o_edges))] H → va_D A [(a_o, .inr (1, [.ref a_o_rows, .ref a_o_edges, .int o_persons, .int o_size, .int o_changes, .int o_restCount, .int o_firstRest])), (a_o_rows, .inl (cI, 720, .inl o_rows)), (a_o_edges, .inl (cI, 4320, .inl o_edges))] → va_S A s.heap H locs → lv_has ls 7 [(0, .ref a_o), (4, .int x4)] → W p l e (headSpec (kws yX1_leadsTo cX1_leadsTo 7 (some .int)) rm_X1_leadsTo).room s m args below meth c H locs 0 0 Q (F0 m 121 ls [.int t0, .int t1]) := by
    intro x4 t0 t1 H locs ls hf hP hD hS hl
    unfold f_X1_leadsTo_b121 at hf
    refine lv_ior hx hb dX1_leadsTo_121 ?_
    refine lv_istore (lv' := [(5, .int (t1 ||| t0)), (0, .ref a_o), (4, .int x4)]) hx hb dX1_leadsTo_122 hl (by decide) rfl (fun ls hl => ?_)
    exact B124 x4 (t1 ||| t0) H locs ls hf hP hD hS (lv_sub hl [1, 2, 0] rfl)
  have B96 : ∀ (x1 : Int32) (x3 : Int32) (x4 : Int32) (x6 : Int32) (t0 : Int32) (t1 : Int32) (H : Heap) (locs : List Loc) (ls : Array Slot), f_X1_leadsTo_b96 o_persons o_size o_changes o_rows o_edges x1 x3 x4 x6 t0 t1 = some res → va_P (dC, dI) vwCl [(a_o, .inr (1, [.ref a_o_rows, .ref a_o_edges, .int o_persons, .int o_size, .int o_changes, .int o_restCount, .int o_firstRest])), (a_o_rows, .inl (cI, 720, .inl o_rows)), (a_o_edges, .inl (cI, 4320, .inl o_edges))] H → va_D A [(a_o, .inr (1, [.ref a_o_rows, .ref a_o_edges, .int o_persons, .int o_size, .int o_changes, .int o_restCount, .int o_firstRest])), (a_o_rows, .inl (cI, 720, .inl o_rows)), (a_o_edges, .inl (cI, 4320, .inl o_edges))] → va_S A s.heap H locs → lv_has ls 7 [(0, .ref a_o), (1, .int x1), (3, .int x3), (4, .int x4), (6, .int x6)] → W p l e (headSpec (kws yX1_leadsTo cX1_leadsTo 7 (some .int)) rm_X1_leadsTo).room s m args below meth c H locs 0 0 Q (F0 m 96 ls [.int t0, .int t1]) := by
    intro x1 x3 x4 x6 t0 t1 H locs ls hf hP hD hS hl
    unfold f_X1_leadsTo_b96 at hf
    refine lv_ior hx hb dX1_leadsTo_96 ?_
    refine lv_istore (lv' := [(5, .int (t1 ||| t0)), (0, .ref a_o), (1, .int x1), (3, .int x3), (4, .int x4), (6, .int x6)]) hx hb dX1_leadsTo_97 hl (by decide) rfl (fun ls hl => ?_)
    refine lv_iload hx hb dX1_leadsTo_99 (lv_at hl 0 rfl) ?_
    refine lv_aload_n hx hb dX1_leadsTo_101 rfl (lv_at hl 1 rfl) ?_
    refine va_get (ci := 1) (v := .ref a_o_rows) (C := RX1) (T := TX1) (N := 7) hx hb ht inX1 hown hK hP 0 rfl rfl 0 (by decide) (ht _ wd_1_130) (fun _ h9 => h9) rfl dX1_leadsTo_102 ?_
    refine lv_iload_n hx hb dX1_leadsTo_105 rfl (lv_at hl 2 rfl) ?_
    obtain ⟨b_3, hf⟩ := bd_some hf
    refine va_iald hx hb hK hP 1 0 rfl rfl b_3 dX1_leadsTo_106 ?_
    refine lv_iload hx hb dX1_leadsTo_107 (lv_at hl 5 rfl) ?_
    obtain ⟨u_4, h_5, hf⟩ := obs hf
    refine kcSi (rest := [.int (t1 ||| t0)]) (wr := [(a_o, .inr (1, [.ref a_o_rows, .ref a_o_edges, .int o_persons, .int o_size, .int o_changes, .int o_restCount, .int o_firstRest])), (a_o_rows, .inl (cI, 720, .inl o_rows)), (a_o_edges, .inl (cI, 4320, .inl o_edges))]) (w2 := fun _ => [(a_o, .inr (1, [.ref a_o_rows, .ref a_o_edges, .int o_persons, .int o_size, .int o_changes, .int o_restCount, .int o_firstRest])), (a_o_rows, .inl (cI, 720, .inl o_rows)), (a_o_edges, .inl (cI, 4320, .inl o_edges))]) hx hb hml hown ht (c_X4_who l dC dI cI cJ cZ H.size (o_rows x1.toNatClampNeg) x6 u_4 h_5) (kcw 2 ht wd_2_93 wd_1_12 wd_3_30 kd_X4_who ⟨rfl, rfl⟩ ⟨Nat.le_of_ble_eq_true rfl, Nat.le_of_ble_eq_true rfl⟩) wd_2_92 hK hP hD hS hA [] [0, 1, 2] [0, 1, 2] rfl rfl rfl rfl (by decide) rfl (fun _ => rfl) rfl hl.1 rfl (Nat.le_of_ble_eq_true rfl) dX1_leadsTo_109 ⟨Nat.zero_le _, Nat.zero_le _⟩ (fun _ H locs hP hD hS => ?_)
    have hP : va_P (dC, dI) vwCl [(a_o, .inr (1, [.ref a_o_rows, .ref a_o_edges, .int o_persons, .int o_size, .int o_changes, .int o_restCount, .int o_firstRest])), (a_o_rows, .inl (cI, 720, .inl o_rows)), (a_o_edges, .inl (cI, 4320, .inl o_edges))] H := hP
    have hD : va_D A [(a_o, .inr (1, [.ref a_o_rows, .ref a_o_edges, .int o_persons, .int o_size, .int o_changes, .int o_restCount, .int o_firstRest])), (a_o_rows, .inl (cI, 720, .inl o_rows)), (a_o_edges, .inl (cI, 4320, .inl o_edges))] := hD
    refine lv_iload_n hx hb dX1_leadsTo_112 rfl (lv_at hl 3 rfl) ?_
    refine lv_icmp_ne (tgt := 120) hx hb dX1_leadsTo_113 (by decide) (fun c_6 => ?_) (fun c_6 => ?_)
    · have hf := ifn c_6 hf
      refine lv_iconst (v := (0 : Int32)) hx hb dX1_leadsTo_120 (by decide) ?_
      exact B121 x4 (0 : Int32) (t1 ||| t0) H locs ls hf hP hD hS (lv_sub hl [1, 4] rfl)
    · have hf := ifp c_6 hf
      refine lv_iconst (v := (2 : Int32)) hx hb dX1_leadsTo_116 (by decide) ?_
      refine lv_goto (tgt := 121) hx hb dX1_leadsTo_117 (by decide) ?_
      exact B121 x4 (2 : Int32) (t1 ||| t0) H locs ls hf hP hD hS (lv_sub hl [1, 4] rfl)
  have B73 : ∀ (x1 : Int32) (x2 : Int32) (x3 : Int32) (x4 : Int32) (x5 : Int32) (t0 : Int32) (H : Heap) (locs : List Loc) (ls : Array Slot), f_X1_leadsTo_b73 o_persons o_size o_changes o_rows o_edges x1 x2 x3 x4 x5 t0 = some res → va_P (dC, dI) vwCl [(a_o, .inr (1, [.ref a_o_rows, .ref a_o_edges, .int o_persons, .int o_size, .int o_changes, .int o_restCount, .int o_firstRest])), (a_o_rows, .inl (cI, 720, .inl o_rows)), (a_o_edges, .inl (cI, 4320, .inl o_edges))] H → va_D A [(a_o, .inr (1, [.ref a_o_rows, .ref a_o_edges, .int o_persons, .int o_size, .int o_changes, .int o_restCount, .int o_firstRest])), (a_o_rows, .inl (cI, 720, .inl o_rows)), (a_o_edges, .inl (cI, 4320, .inl o_edges))] → va_S A s.heap H locs → lv_has ls 7 [(0, .ref a_o), (1, .int x1), (2, .int x2), (3, .int x3), (4, .int x4), (5, .int x5)] → W p l e (headSpec (kws yX1_leadsTo cX1_leadsTo 7 (some .int)) rm_X1_leadsTo).room s m args below meth c H locs 0 0 Q (F0 m 73 ls [.int t0]) := by
    intro x1 x2 x3 x4 x5 t0 H locs ls hf hP hD hS hl
    unfold f_X1_leadsTo_b73 at hf
    refine lv_istore (lv' := [(6, .int t0), (0, .ref a_o), (1, .int x1), (2, .int x2), (3, .int x3), (4, .int x4), (5, .int x5)]) hx hb dX1_leadsTo_73 hl (by decide) rfl (fun ls hl => ?_)
    refine lv_iload hx hb dX1_leadsTo_75 (lv_at hl 6 rfl) ?_
    refine lv_aload_n hx hb dX1_leadsTo_77 rfl (lv_at hl 1 rfl) ?_
    refine va_get (ci := 1) (v := .ref a_o_rows) (C := RX1) (T := TX1) (N := 7) hx hb ht inX1 hown hK hP 0 rfl rfl 0 (by decide) (ht _ wd_1_130) (fun _ h9 => h9) rfl dX1_leadsTo_78 ?_
    refine lv_iload_n hx hb dX1_leadsTo_81 rfl (lv_at hl 2 rfl) ?_
    obtain ⟨b_7, hf⟩ := bd_some hf
    refine va_iald hx hb hK hP 1 0 rfl rfl b_7 dX1_leadsTo_82 ?_
    refine lv_iload_n hx hb dX1_leadsTo_83 rfl (lv_at hl 3 rfl) ?_
    obtain ⟨u_8, h_9, hf⟩ := obs hf
    refine kcSi (rest := [.int x5]) (wr := [(a_o, .inr (1, [.ref a_o_rows, .ref a_o_edges, .int o_persons, .int o_size, .int o_changes, .int o_restCount, .int o_firstRest])), (a_o_rows, .inl (cI, 720, .inl o_rows)), (a_o_edges, .inl (cI, 4320, .inl o_edges))]) (w2 := fun _ => [(a_o, .inr (1, [.ref a_o_rows, .ref a_o_edges, .int o_persons, .int o_size, .int o_changes, .int o_restCount, .int o_firstRest])), (a_o_rows, .inl (cI, 720, .inl o_rows)), (a_o_edges, .inl (cI, 4320, .inl o_edges))]) hx hb hml hown ht (c_X4_who l dC dI cI cJ cZ H.size (o_rows x1.toNatClampNeg) x2 u_8 h_9) (kcw 2 ht wd_2_93 wd_1_12 wd_3_30 kd_X4_who ⟨rfl, rfl⟩ ⟨Nat.le_of_ble_eq_true rfl, Nat.le_of_ble_eq_true rfl⟩) wd_2_92 hK hP hD hS hA [] [0, 1, 2] [0, 1, 2] rfl rfl rfl rfl (by decide) rfl (fun _ => rfl) rfl hl.1 rfl (Nat.le_of_ble_eq_true rfl) dX1_leadsTo_84 ⟨Nat.zero_le _, Nat.zero_le _⟩ (fun _ H locs hP hD hS => ?_)
    have hP : va_P (dC, dI) vwCl [(a_o, .inr (1, [.ref a_o_rows, .ref a_o_edges, .int o_persons, .int o_size, .int o_changes, .int o_restCount, .int o_firstRest])), (a_o_rows, .inl (cI, 720, .inl o_rows)), (a_o_edges, .inl (cI, 4320, .inl o_edges))] H := hP
    have hD : va_D A [(a_o, .inr (1, [.ref a_o_rows, .ref a_o_edges, .int o_persons, .int o_size, .int o_changes, .int o_restCount, .int o_firstRest])), (a_o_rows, .inl (cI, 720, .inl o_rows)), (a_o_edges, .inl (cI, 4320, .inl o_edges))] := hD
    refine lv_iload_n hx hb dX1_leadsTo_87 rfl (lv_at hl 4 rfl) ?_
    refine lv_icmp_ne (tgt := 95) hx hb dX1_leadsTo_88 (by decide) (fun c_10 => ?_) (fun c_10 => ?_)
    · have hf := ifn c_10 hf
      refine lv_iconst (v := (0 : Int32)) hx hb dX1_leadsTo_95 (by decide) ?_
      exact B96 x1 x3 x4 t0 (0 : Int32) x5 H locs ls hf hP hD hS (lv_sub hl [1, 2, 4, 5, 0] rfl)
    · have hf := ifp c_10 hf
      refine lv_iconst (v := (1 : Int32)) hx hb dX1_leadsTo_91 (by decide) ?_
      refine lv_goto (tgt := 96) hx hb dX1_leadsTo_92 (by decide) ?_
      exact B96 x1 x3 x4 t0 (1 : Int32) x5 H locs ls hf hP hD hS (lv_sub hl [1, 2, 4, 5, 0] rfl)
  obtain ⟨H, hH⟩ : ∃ H, H = s.heap := ⟨_, rfl⟩
  obtain ⟨locs, hlo⟩ : ∃ L : List Loc, L = [] := ⟨_, rfl⟩
  rw [← hH] at hP
  have hS : va_S A s.heap H locs := by rw [hH, hlo]; exact hS
  rw [show W p l e (headSpec (kws yX1_leadsTo cX1_leadsTo 7 (some .int)) rm_X1_leadsTo).room s m args below meth c s.heap [] 0 0 Q (F0 m 0 ls []) = W p l e (headSpec (kws yX1_leadsTo cX1_leadsTo 7 (some .int)) rm_X1_leadsTo).room s m args below meth c H locs 0 0 Q (F0 m 0 ls []) from by rw [hH, hlo]]
  refine lv_iload_n hx hb dX1_leadsTo_0 rfl (lv_at hl 1 rfl) ?_
  refine lv_if_lt (tgt := 24) hx hb dX1_leadsTo_1 (by decide) (fun c_11 => ?_) (fun c_11 => ?_)
  · have hf := ifp c_11 hf
    refine lv_iconst (v := (-1 : Int32)) hx hb dX1_leadsTo_24 (by decide) ?_
    exact hret H locs ls 25 (-1 : Int32) hf dX1_leadsTo_25 hP hD hS
  · have hf := ifn c_11 hf
    refine lv_iload_n hx hb dX1_leadsTo_4 rfl (lv_at hl 1 rfl) ?_
    refine lv_aload_n hx hb dX1_leadsTo_5 rfl (lv_at hl 0 rfl) ?_
    refine va_get (ci := 1) (v := .int o_size) (C := RX1) (T := TX1) (N := 7) hx hb ht inX1 hown hK hP 0 rfl rfl 3 (by decide) (ht _ wd_1_133) (fun _ h9 => h9) rfl dX1_leadsTo_6 ?_
    refine lv_icmp_ge (tgt := 24) hx hb dX1_leadsTo_9 (by decide) (fun c_12 => ?_) (fun c_12 => ?_)
    · have hf := ifp c_12 hf
      refine lv_iconst (v := (-1 : Int32)) hx hb dX1_leadsTo_24 (by decide) ?_
      exact hret H locs ls 25 (-1 : Int32) hf dX1_leadsTo_25 hP hD hS
    · have hf := ifn c_12 hf
      refine lv_iload_n hx hb dX1_leadsTo_12 rfl (lv_at hl 2 rfl) ?_
      refine lv_if_lt (tgt := 24) hx hb dX1_leadsTo_13 (by decide) (fun c_13 => ?_) (fun c_13 => ?_)
      · have hf := ifp c_13 hf
        refine lv_iconst (v := (-1 : Int32)) hx hb dX1_leadsTo_24 (by decide) ?_
        exact hret H locs ls 25 (-1 : Int32) hf dX1_leadsTo_25 hP hD hS
      · have hf := ifn c_13 hf
        refine lv_iload_n hx hb dX1_leadsTo_16 rfl (lv_at hl 2 rfl) ?_
        refine lv_aload_n hx hb dX1_leadsTo_17 rfl (lv_at hl 0 rfl) ?_
        refine va_get (ci := 1) (v := .int o_changes) (C := RX1) (T := TX1) (N := 7) hx hb ht inX1 hown hK hP 0 rfl rfl 4 (by decide) (ht _ wd_1_135) (fun _ h9 => h9) rfl dX1_leadsTo_18 ?_
        refine lv_icmp_lt (tgt := 26) hx hb dX1_leadsTo_21 (by decide) (fun c_14 => ?_) (fun c_14 => ?_)
        · have hf := ifp c_14 hf
          refine lv_aload_n hx hb dX1_leadsTo_26 rfl (lv_at hl 0 rfl) ?_
          refine va_get (ci := 1) (v := .ref a_o_edges) (C := RX1) (T := TX1) (N := 7) hx hb ht inX1 hown hK hP 0 rfl rfl 1 (by decide) (ht _ wd_1_131) (fun _ h9 => h9) rfl dX1_leadsTo_27 ?_
          refine lv_iload_n hx hb dX1_leadsTo_30 rfl (lv_at hl 1 rfl) ?_
          refine lv_bipush (v := (6 : Int32)) hx hb dX1_leadsTo_31 (by decide) ?_
          refine lv_imul hx hb dX1_leadsTo_33 ?_
          refine lv_iload_n hx hb dX1_leadsTo_34 rfl (lv_at hl 2 rfl) ?_
          refine lv_iadd hx hb dX1_leadsTo_35 ?_
          obtain ⟨b_15, hf⟩ := bd_some hf
          refine va_iald hx hb hK hP 2 0 rfl rfl b_15 dX1_leadsTo_36 ?_
          refine lv_istore (lv' := [(4, .int (o_edges ((x1 * (6 : Int32)) + x2).toNatClampNeg)), (0, .ref a_o), (1, .int x1), (2, .int x2), (3, .int x3)]) hx hb dX1_leadsTo_37 hl (by decide) rfl (fun ls hl => ?_)
          refine lv_iload hx hb dX1_leadsTo_39 (lv_at hl 0 rfl) ?_
          refine lv_iconst (v := (3 : Int32)) hx hb dX1_leadsTo_41 (by decide) ?_
          refine lv_iand hx hb dX1_leadsTo_42 ?_
          refine lv_istore (lv' := [(5, .int ((o_edges ((x1 * (6 : Int32)) + x2).toNatClampNeg) &&& (3 : Int32))), (4, .int (o_edges ((x1 * (6 : Int32)) + x2).toNatClampNeg)), (0, .ref a_o), (1, .int x1), (2, .int x2), (3, .int x3)]) hx hb dX1_leadsTo_43 hl (by decide) rfl (fun ls hl => ?_)
          refine lv_iload hx hb dX1_leadsTo_45 (lv_at hl 0 rfl) ?_
          refine lv_iconst (v := (3 : Int32)) hx hb dX1_leadsTo_47 (by decide) ?_
          refine lv_icmp_eq (tgt := 124) hx hb dX1_leadsTo_48 (by decide) (fun c_16 => ?_) (fun c_16 => ?_)
          · have hf := ifp c_16 hf
            exact B124 (o_edges ((x1 * (6 : Int32)) + x2).toNatClampNeg) ((o_edges ((x1 * (6 : Int32)) + x2).toNatClampNeg) &&& (3 : Int32)) H locs ls hf hP hD hS (lv_sub hl [2, 1, 0] rfl)
          · have hf := ifn c_16 hf
            refine lv_iload_n hx hb dX1_leadsTo_51 rfl (lv_at hl 5 rfl) ?_
            refine lv_iconst (v := (-1 : Int32)) hx hb dX1_leadsTo_52 (by decide) ?_
            refine lv_icmp_eq (tgt := 124) hx hb dX1_leadsTo_53 (by decide) (fun c_17 => ?_) (fun c_17 => ?_)
            · have hf := ifp c_17 hf
              exact B124 (o_edges ((x1 * (6 : Int32)) + x2).toNatClampNeg) ((o_edges ((x1 * (6 : Int32)) + x2).toNatClampNeg) &&& (3 : Int32)) H locs ls hf hP hD hS (lv_sub hl [2, 1, 0] rfl)
            · have hf := ifn c_17 hf
              refine lv_iload_n hx hb dX1_leadsTo_56 rfl (lv_at hl 4 rfl) ?_
              refine lv_iconst (v := (1 : Int32)) hx hb dX1_leadsTo_57 (by decide) ?_
              refine lv_iadd hx hb dX1_leadsTo_58 ?_
              refine lv_aload_n hx hb dX1_leadsTo_59 rfl (lv_at hl 2 rfl) ?_
              refine va_get (ci := 1) (v := .int o_persons) (C := RX1) (T := TX1) (N := 7) hx hb ht inX1 hown hK hP 0 rfl rfl 2 (by decide) (ht _ wd_1_132) (fun _ h9 => h9) rfl dX1_leadsTo_60 ?_
              refine lv_icmp_ge (tgt := 72) hx hb dX1_leadsTo_63 (by decide) (fun c_18 => ?_) (fun c_18 => ?_)
              · have hf := ifp c_18 hf
                refine lv_iconst (v := (0 : Int32)) hx hb dX1_leadsTo_72 (by decide) ?_
                exact B73 x1 x2 x3 (o_edges ((x1 * (6 : Int32)) + x2).toNatClampNeg) ((o_edges ((x1 * (6 : Int32)) + x2).toNatClampNeg) &&& (3 : Int32)) (0 : Int32) H locs ls hf hP hD hS (lv_sub hl [2, 3, 4, 5, 1, 0] rfl)
              · have hf := ifn c_18 hf
                refine lv_iload_n hx hb dX1_leadsTo_66 rfl (lv_at hl 4 rfl) ?_
                refine lv_iconst (v := (1 : Int32)) hx hb dX1_leadsTo_67 (by decide) ?_
                refine lv_iadd hx hb dX1_leadsTo_68 ?_
                refine lv_goto (tgt := 73) hx hb dX1_leadsTo_69 (by decide) ?_
                exact B73 x1 x2 x3 (o_edges ((x1 * (6 : Int32)) + x2).toNatClampNeg) ((o_edges ((x1 * (6 : Int32)) + x2).toNatClampNeg) &&& (3 : Int32)) (x2 + (1 : Int32)) H locs ls hf hP hD hS (lv_sub hl [2, 3, 4, 5, 1, 0] rfl)
        · have hf := ifn c_14 hf
          refine lv_iconst (v := (-1 : Int32)) hx hb dX1_leadsTo_24 (by decide) ?_
          exact hret H locs ls 25 (-1 : Int32) hf dX1_leadsTo_25 hP hD hS
def f_X1_isRest_l2 (o_persons : Int32) (o_size : Int32) (o_changes : Int32) (o_rows : Nat → Int32) (o_edges : Nat → Int32) : Nat → Int32 → Int32 → Option (Int32)
  | 0, _, _ => none
  | n + 1, x1, x2 => if o_changes ≤ x2 then some (1 : Int32) else Option.bind (f_X1_leadsTo x1 x2 (-1 : Int32) o_persons o_size o_changes o_rows o_edges) (fun u_2 => if u_2 < 0 then (f_X1_isRest_l2 o_persons o_size o_changes o_rows o_edges n) x1 (x2 + (1 : Int32)) else some (0 : Int32))
def f_X1_isRest (x1 : Int32) (o_persons : Int32) (o_size : Int32) (o_changes : Int32) (o_rows : Nat → Int32) (o_edges : Nat → Int32) : Option (Int32) := f_X1_isRest_l2 o_persons o_size o_changes o_rows o_edges NF x1 (0 : Int32)
abbrev rm_X1_isRest : Room := { frames := 2, cells := 0, slots := 0, locals := 47 }
theorem kd_X1_isRest : yX1_isRest.cls ≠ "java/lang/invoke/MethodHandle" ∧ yX1_isRest.cls ≠ "java/lang/invoke/VarHandle" ∧ (parseMethodDescriptor yX1_isRest.desc).map (fun d => d.parameters.length) = some 1 := by decide +kernel
set_option maxHeartbeats 4000000 in
set_option maxRecDepth 100000 in
theorem c_X1_isRest (l : Launch) (dC : Nat → ClassId) (dI : Nat → Nat → Nat) (cI cJ cZ : ClassId) (a_o a_o_rows a_o_edges : Nat) (sz : Nat) (o_persons : Int32) (o_size : Int32) (o_changes : Int32) (o_restCount : Int32) (o_firstRest : Int32) (o_rows : Nat → Int32) (o_edges : Nat → Int32) (x1 : Int32) (res : Int32) (hf : f_X1_isRest x1 o_persons o_size o_changes o_rows o_edges = some res) : kMi Unit l yX1_isRest cX1_isRest 3 (some .boolean) rm_X1_isRest [.ref a_o, .int x1] (dC, dI) (kT cI cJ cZ) sz [(a_o, .inr (1, [.ref a_o_rows, .ref a_o_edges, .int o_persons, .int o_size, .int o_changes, .int o_restCount, .int o_firstRest])), (a_o_rows, .inl (cI, 720, .inl o_rows)), (a_o_edges, .inl (cI, 4320, .inl o_edges))] res (fun _ => [(a_o, .inr (1, [.ref a_o_rows, .ref a_o_edges, .int o_persons, .int o_size, .int o_changes, .int o_restCount, .int o_firstRest])), (a_o_rows, .inl (cI, 720, .inl o_rows)), (a_o_edges, .inl (cI, 4320, .inl o_edges))]) := by
  refine Met.ofW (cc := cX1_isRest) (maxL := 3) (ret := (some .boolean)) (by decide) rfl ?_
  intro p e s m args below meth c s₁ B hml hv
  obtain ⟨rfl, hsz, hP, hK, hD0⟩ := hv
  have hx := B.exec
  have hb := B.bytes
  have hr := B.returns
  have ht : ∀ w ∈ lw_g, w.before ([.ref a_o, .int x1] : List Value).toArray s = true := fun w h => atoms_spec (ws := kws yX1_isRest cX1_isRest 3 (some .boolean)) B.pre w (List.mem_cons_of_mem _ h)
  have hown : s.vm.findClass RX1 = some m.cls := findClass_of_methodNamed B.named
  have hlocks := B.notSynchronized
  subst hsz
  have hD := hD0.self (sz := s.heap.size)
  generalize hAe : va_A [(a_o, .inr (1, [.ref a_o_rows, .ref a_o_edges, .int o_persons, .int o_size, .int o_changes, .int o_restCount, .int o_firstRest])), (a_o_rows, .inl (cI, 720, .inl o_rows)), (a_o_edges, .inl (cI, 4320, .inl o_edges))] s.heap.size = A at hD ⊢
  have hA : ∀ q : Nat, s.heap.size ≤ q → A q := fun q h => by rw [← hAe]; exact Or.inr h
  have hS : va_S A s.heap s.heap [] := va_S.rf
  have hret : ∀ (H : Heap) (locs : List Loc) (ls : Array Slot) (pc : Nat) (v : Int32), some v = some res → (v = 0 ∨ v = 1) → decode cX1_isRest pc = .ok (.ireturn, 1) → va_P (dC, dI) vwCl [(a_o, .inr (1, [.ref a_o_rows, .ref a_o_edges, .int o_persons, .int o_size, .int o_changes, .int o_restCount, .int o_firstRest])), (a_o_rows, .inl (cI, 720, .inl o_rows)), (a_o_edges, .inl (cI, 4320, .inl o_edges))] H → va_D A [(a_o, .inr (1, [.ref a_o_rows, .ref a_o_edges, .int o_persons, .int o_size, .int o_changes, .int o_restCount, .int o_firstRest])), (a_o_rows, .inl (cI, 720, .inl o_rows)), (a_o_edges, .inl (cI, 4320, .inl o_edges))] → va_S A s.heap H locs → W p l e (headSpec (kws yX1_isRest cX1_isRest 3 (some .boolean)) rm_X1_isRest).room s m ([.ref a_o, .int x1] : List Value).toArray below meth c H locs 0 0 (MQ below (kQi Unit (dC, dI) A res (fun _ => [(a_o, .inr (1, [.ref a_o_rows, .ref a_o_edges, .int o_persons, .int o_size, .int o_changes, .int o_restCount, .int o_firstRest])), (a_o_rows, .inl (cI, 720, .inl o_rows)), (a_o_edges, .inl (cI, 4320, .inl o_edges))])) ([.ref a_o, .int x1] : List Value).toArray s 0 0 A) (F0 m pc ls [.int v]) := by
    intro H locs ls pc v he hz hd hP hD hS
    obtain rfl := Option.some.inj he
    exact krz hx hb hr hlocks () hz hP hD hS hd
  have hl := lv_entry ([.ref a_o, .int x1]) (n := 3) (Nat.le_of_ble_eq_true rfl)
  rw [lg_entry_eq]
  generalize (lg_sl ([.ref a_o, .int x1]) ++ List.replicate (3 - (lg_sl ([.ref a_o, .int x1])).length) Slot.unset).toArray = ls at hl ⊢
  have hl : lv_has ls 3 [(0, .ref a_o), (1, .int x1)] := hl
  generalize (MQ below _ ([.ref a_o, .int x1] : List Value).toArray s 0 0 A) = Q at hret ⊢
  generalize ([.ref a_o, .int x1] : List Value).toArray = args at ht hret ⊢
  have hP : va_P (dC, dI) vwCl [(a_o, .inr (1, [.ref a_o_rows, .ref a_o_edges, .int o_persons, .int o_size, .int o_changes, .int o_restCount, .int o_firstRest])), (a_o_rows, .inl (cI, 720, .inl o_rows)), (a_o_edges, .inl (cI, 4320, .inl o_edges))] s.heap := hP
  unfold f_X1_isRest at hf
  have L2 : ∀ (n : Nat) (x1 : Int32) (x2 : Int32) (H : Heap) (locs : List Loc) (ls : Array Slot), f_X1_isRest_l2 o_persons o_size o_changes o_rows o_edges n x1 x2 = some res → va_P (dC, dI) vwCl [(a_o, .inr (1, [.ref a_o_rows, .ref a_o_edges, .int o_persons, .int o_size, .int o_changes, .int o_restCount, .int o_firstRest])), (a_o_rows, .inl (cI, 720, .inl o_rows)), (a_o_edges, .inl (cI, 4320, .inl o_edges))] H → va_D A [(a_o, .inr (1, [.ref a_o_rows, .ref a_o_edges, .int o_persons, .int o_size, .int o_changes, .int o_restCount, .int o_firstRest])), (a_o_rows, .inl (cI, 720, .inl o_rows)), (a_o_edges, .inl (cI, 4320, .inl o_edges))] → va_S A s.heap H locs → lv_has ls 3 [(0, .ref a_o), (1, .int x1), (2, .int x2)] → W p l e (headSpec (kws yX1_isRest cX1_isRest 3 (some .boolean)) rm_X1_isRest).room s m args below meth c H locs 0 0 Q (F0 m 2 ls []) := by
    intro n
    induction n with
    | zero =>
      intro x1 x2 H locs ls hf hP hD hS hl
      rw [f_X1_isRest_l2.eq_1] at hf
      cases hf
    | succ n2 ih2 =>
      intro x1 x2 H locs ls hf hP hD hS hl
      rw [f_X1_isRest_l2.eq_2] at hf
      refine lv_iload_n hx hb dX1_isRest_2 rfl (lv_at hl 2 rfl) ?_
      refine lv_aload_n hx hb dX1_isRest_3 rfl (lv_at hl 0 rfl) ?_
      refine va_get (ci := 1) (v := .int o_changes) (C := RX1) (T := TX1) (N := 7) hx hb ht inX1 hown hK hP 0 rfl rfl 4 (by decide) (ht _ wd_1_135) (fun _ h9 => h9) rfl dX1_isRest_4 ?_
      refine lv_icmp_ge (tgt := 28) hx hb dX1_isRest_7 (by decide) (fun c_1 => ?_) (fun c_1 => ?_)
      · have hf := ifp c_1 hf
        refine lv_iconst (v := (1 : Int32)) hx hb dX1_isRest_28 (by decide) ?_
        exact hret H locs ls 29 (1 : Int32) hf (Or.inr rfl) dX1_isRest_29 hP hD hS
      · have hf := ifn c_1 hf
        refine lv_aload_n hx hb dX1_isRest_10 rfl (lv_at hl 0 rfl) ?_
        refine lv_iload_n hx hb dX1_isRest_11 rfl (lv_at hl 1 rfl) ?_
        refine lv_iload_n hx hb dX1_isRest_12 rfl (lv_at hl 2 rfl) ?_
        refine lv_iconst (v := (-1 : Int32)) hx hb dX1_isRest_13 (by decide) ?_
        obtain ⟨u_2, h_3, hf⟩ := obs hf
        refine kcVi (rest := []) (wr := []) (w2 := fun _ => [(a_o, .inr (1, [.ref a_o_rows, .ref a_o_edges, .int o_persons, .int o_size, .int o_changes, .int o_restCount, .int o_firstRest])), (a_o_rows, .inl (cI, 720, .inl o_rows)), (a_o_edges, .inl (cI, 4320, .inl o_edges))]) hx hb hml hown ht (c_X1_leadsTo l dC dI cI cJ cZ a_o a_o_rows a_o_edges H.size o_persons o_size o_changes o_restCount o_firstRest o_rows o_edges x1 x2 (-1 : Int32) u_2 h_3) (kcw 3 ht wd_3_29 wd_1_8 wd_3_26 kd_X1_leadsTo ⟨rfl, rfl⟩ ⟨Nat.le_of_ble_eq_true rfl, Nat.le_of_ble_eq_true rfl⟩) wd_3_27 wd_3_28 hK hP hD hS hA [0, 1, 2] [] [0, 1, 2] rfl rfl rfl rfl (by decide) rfl (fun _ => rfl) (ci := 1) rfl rfl rfl rfl hl.1 rfl (Nat.le_of_ble_eq_true rfl) dX1_isRest_14 ⟨Nat.zero_le _, Nat.zero_le _⟩ (fun _ H locs hP hD hS => ?_)
        have hP : va_P (dC, dI) vwCl [(a_o, .inr (1, [.ref a_o_rows, .ref a_o_edges, .int o_persons, .int o_size, .int o_changes, .int o_restCount, .int o_firstRest])), (a_o_rows, .inl (cI, 720, .inl o_rows)), (a_o_edges, .inl (cI, 4320, .inl o_edges))] H := hP
        have hD : va_D A [(a_o, .inr (1, [.ref a_o_rows, .ref a_o_edges, .int o_persons, .int o_size, .int o_changes, .int o_restCount, .int o_firstRest])), (a_o_rows, .inl (cI, 720, .inl o_rows)), (a_o_edges, .inl (cI, 4320, .inl o_edges))] := hD
        refine lv_if_lt (tgt := 22) hx hb dX1_isRest_17 (by decide) (fun c_4 => ?_) (fun c_4 => ?_)
        · have hf := ifp c_4 hf
          refine lv_iinc (v := (x2 + (1 : Int32))) (lv' := [(2, .int (x2 + (1 : Int32))), (0, .ref a_o), (1, .int x1)]) hx hb dX1_isRest_22 hl (k := 2) rfl rfl (by decide) rfl (fun ls hl => ?_)
          refine lv_goto (tgt := 2) hx hb dX1_isRest_25 (by decide) ?_
          exact ih2 x1 (x2 + (1 : Int32)) H locs ls hf hP hD hS (lv_sub hl [1, 2, 0] rfl)
        · have hf := ifn c_4 hf
          refine lv_iconst (v := (0 : Int32)) hx hb dX1_isRest_20 (by decide) ?_
          exact hret H locs ls 21 (0 : Int32) hf (Or.inl rfl) dX1_isRest_21 hP hD hS
  obtain ⟨H, hH⟩ : ∃ H, H = s.heap := ⟨_, rfl⟩
  obtain ⟨locs, hlo⟩ : ∃ L : List Loc, L = [] := ⟨_, rfl⟩
  rw [← hH] at hP
  have hS : va_S A s.heap H locs := by rw [hH, hlo]; exact hS
  rw [show W p l e (headSpec (kws yX1_isRest cX1_isRest 3 (some .boolean)) rm_X1_isRest).room s m args below meth c s.heap [] 0 0 Q (F0 m 0 ls []) = W p l e (headSpec (kws yX1_isRest cX1_isRest 3 (some .boolean)) rm_X1_isRest).room s m args below meth c H locs 0 0 Q (F0 m 0 ls []) from by rw [hH, hlo]]
  refine lv_iconst (v := (0 : Int32)) hx hb dX1_isRest_0 (by decide) ?_
  refine lv_istore_n (lv' := [(2, .int (0 : Int32)), (0, .ref a_o), (1, .int x1)]) hx hb dX1_isRest_1 rfl hl (by decide) rfl (fun ls hl => ?_)
  exact L2 NF x1 (0 : Int32) H locs ls hf hP hD hS (lv_sub hl [1, 2, 0] rfl)
def f_X1_rowOf (x1 : Int32) (o_size : Int32) (o_rows : Nat → Int32) : Option (Int32) := if x1 < 0 then some (0 : Int32) else if o_size ≤ x1 then some (0 : Int32) else bd x1 720 (some (o_rows x1.toNatClampNeg))
abbrev rm_X1_rowOf : Room := { frames := 0, cells := 0, slots := 0, locals := 0 }
theorem kd_X1_rowOf : yX1_rowOf.cls ≠ "java/lang/invoke/MethodHandle" ∧ yX1_rowOf.cls ≠ "java/lang/invoke/VarHandle" ∧ (parseMethodDescriptor yX1_rowOf.desc).map (fun d => d.parameters.length) = some 1 := by decide +kernel
set_option maxHeartbeats 4000000 in
set_option maxRecDepth 100000 in
theorem c_X1_rowOf (l : Launch) (dC : Nat → ClassId) (dI : Nat → Nat → Nat) (cI cJ cZ : ClassId) (a_o a_o_rows a_o_edges : Nat) (sz : Nat) (o_persons : Int32) (o_size : Int32) (o_changes : Int32) (o_restCount : Int32) (o_firstRest : Int32) (o_rows : Nat → Int32) (x1 : Int32) (res : Int32) (hf : f_X1_rowOf x1 o_size o_rows = some res) : kMi Unit l yX1_rowOf cX1_rowOf 2 (some .int) rm_X1_rowOf [.ref a_o, .int x1] (dC, dI) (kT cI cJ cZ) sz [(a_o, .inr (1, [.ref a_o_rows, .ref a_o_edges, .int o_persons, .int o_size, .int o_changes, .int o_restCount, .int o_firstRest])), (a_o_rows, .inl (cI, 720, .inl o_rows))] res (fun _ => [(a_o, .inr (1, [.ref a_o_rows, .ref a_o_edges, .int o_persons, .int o_size, .int o_changes, .int o_restCount, .int o_firstRest])), (a_o_rows, .inl (cI, 720, .inl o_rows))]) := by
  refine Met.ofW (cc := cX1_rowOf) (maxL := 2) (ret := (some .int)) (by decide) rfl ?_
  intro p e s m args below meth c s₁ B hml hv
  obtain ⟨rfl, hsz, hP, hK, hD0⟩ := hv
  have hx := B.exec
  have hb := B.bytes
  have hr := B.returns
  have ht : ∀ w ∈ lw_g, w.before ([.ref a_o, .int x1] : List Value).toArray s = true := fun w h => atoms_spec (ws := kws yX1_rowOf cX1_rowOf 2 (some .int)) B.pre w (List.mem_cons_of_mem _ h)
  have hown : s.vm.findClass RX1 = some m.cls := findClass_of_methodNamed B.named
  have hlocks := B.notSynchronized
  subst hsz
  have hD := hD0.self (sz := s.heap.size)
  generalize hAe : va_A [(a_o, .inr (1, [.ref a_o_rows, .ref a_o_edges, .int o_persons, .int o_size, .int o_changes, .int o_restCount, .int o_firstRest])), (a_o_rows, .inl (cI, 720, .inl o_rows))] s.heap.size = A at hD ⊢
  have hA : ∀ q : Nat, s.heap.size ≤ q → A q := fun q h => by rw [← hAe]; exact Or.inr h
  have hS : va_S A s.heap s.heap [] := va_S.rf
  have hret : ∀ (H : Heap) (locs : List Loc) (ls : Array Slot) (pc : Nat) (v : Int32), some v = some res → decode cX1_rowOf pc = .ok (.ireturn, 1) → va_P (dC, dI) vwCl [(a_o, .inr (1, [.ref a_o_rows, .ref a_o_edges, .int o_persons, .int o_size, .int o_changes, .int o_restCount, .int o_firstRest])), (a_o_rows, .inl (cI, 720, .inl o_rows))] H → va_D A [(a_o, .inr (1, [.ref a_o_rows, .ref a_o_edges, .int o_persons, .int o_size, .int o_changes, .int o_restCount, .int o_firstRest])), (a_o_rows, .inl (cI, 720, .inl o_rows))] → va_S A s.heap H locs → W p l e (headSpec (kws yX1_rowOf cX1_rowOf 2 (some .int)) rm_X1_rowOf).room s m ([.ref a_o, .int x1] : List Value).toArray below meth c H locs 0 0 (MQ below (kQi Unit (dC, dI) A res (fun _ => [(a_o, .inr (1, [.ref a_o_rows, .ref a_o_edges, .int o_persons, .int o_size, .int o_changes, .int o_restCount, .int o_firstRest])), (a_o_rows, .inl (cI, 720, .inl o_rows))])) ([.ref a_o, .int x1] : List Value).toArray s 0 0 A) (F0 m pc ls [.int v]) := by
    intro H locs ls pc v he hd hP hD hS
    obtain rfl := Option.some.inj he
    exact kri hx hb hr hlocks () hP hD hS hd
  have hl := lv_entry ([.ref a_o, .int x1]) (n := 2) (Nat.le_of_ble_eq_true rfl)
  rw [lg_entry_eq]
  generalize (lg_sl ([.ref a_o, .int x1]) ++ List.replicate (2 - (lg_sl ([.ref a_o, .int x1])).length) Slot.unset).toArray = ls at hl ⊢
  have hl : lv_has ls 2 [(0, .ref a_o), (1, .int x1)] := hl
  generalize (MQ below _ ([.ref a_o, .int x1] : List Value).toArray s 0 0 A) = Q at hret ⊢
  generalize ([.ref a_o, .int x1] : List Value).toArray = args at ht hret ⊢
  have hP : va_P (dC, dI) vwCl [(a_o, .inr (1, [.ref a_o_rows, .ref a_o_edges, .int o_persons, .int o_size, .int o_changes, .int o_restCount, .int o_firstRest])), (a_o_rows, .inl (cI, 720, .inl o_rows))] s.heap := hP
  unfold f_X1_rowOf at hf
  obtain ⟨H, hH⟩ : ∃ H, H = s.heap := ⟨_, rfl⟩
  obtain ⟨locs, hlo⟩ : ∃ L : List Loc, L = [] := ⟨_, rfl⟩
  rw [← hH] at hP
  have hS : va_S A s.heap H locs := by rw [hH, hlo]; exact hS
  rw [show W p l e (headSpec (kws yX1_rowOf cX1_rowOf 2 (some .int)) rm_X1_rowOf).room s m args below meth c s.heap [] 0 0 Q (F0 m 0 ls []) = W p l e (headSpec (kws yX1_rowOf cX1_rowOf 2 (some .int)) rm_X1_rowOf).room s m args below meth c H locs 0 0 Q (F0 m 0 ls []) from by rw [hH, hlo]]
  refine lv_iload_n hx hb dX1_rowOf_0 rfl (lv_at hl 1 rfl) ?_
  refine lv_if_lt (tgt := 21) hx hb dX1_rowOf_1 (by decide) (fun c_1 => ?_) (fun c_1 => ?_)
  · have hf := ifp c_1 hf
    refine lv_iconst (v := (0 : Int32)) hx hb dX1_rowOf_21 (by decide) ?_
    exact hret H locs ls 22 (0 : Int32) hf dX1_rowOf_22 hP hD hS
  · have hf := ifn c_1 hf
    refine lv_iload_n hx hb dX1_rowOf_4 rfl (lv_at hl 1 rfl) ?_
    refine lv_aload_n hx hb dX1_rowOf_5 rfl (lv_at hl 0 rfl) ?_
    refine va_get (ci := 1) (v := .int o_size) (C := RX1) (T := TX1) (N := 7) hx hb ht inX1 hown hK hP 0 rfl rfl 3 (by decide) (ht _ wd_1_133) (fun _ h9 => h9) rfl dX1_rowOf_6 ?_
    refine lv_icmp_ge (tgt := 21) hx hb dX1_rowOf_9 (by decide) (fun c_2 => ?_) (fun c_2 => ?_)
    · have hf := ifp c_2 hf
      refine lv_iconst (v := (0 : Int32)) hx hb dX1_rowOf_21 (by decide) ?_
      exact hret H locs ls 22 (0 : Int32) hf dX1_rowOf_22 hP hD hS
    · have hf := ifn c_2 hf
      refine lv_aload_n hx hb dX1_rowOf_12 rfl (lv_at hl 0 rfl) ?_
      refine va_get (ci := 1) (v := .ref a_o_rows) (C := RX1) (T := TX1) (N := 7) hx hb ht inX1 hown hK hP 0 rfl rfl 0 (by decide) (ht _ wd_1_130) (fun _ h9 => h9) rfl dX1_rowOf_13 ?_
      refine lv_iload_n hx hb dX1_rowOf_16 rfl (lv_at hl 1 rfl) ?_
      obtain ⟨b_3, hf⟩ := bd_some hf
      refine va_iald hx hb hK hP 1 0 rfl rfl b_3 dX1_rowOf_17 ?_
      refine lv_goto (tgt := 22) hx hb dX1_rowOf_18 (by decide) ?_
      exact hret H locs ls 22 (o_rows x1.toNatClampNeg) hf dX1_rowOf_22 hP hD hS
def f_X1_stateOf (x1 : Int32) (o_persons : Int32) (o_size : Int32) : Option (Int32) := Option.bind (f_X4_rank x1 o_persons) (fun u_1 => if o_size ≤ u_1 then some (0 : Int32) else some u_1)
abbrev rm_X1_stateOf : Room := { frames := 2, cells := 0, slots := 0, locals := 45 }
theorem kd_X1_stateOf : yX1_stateOf.cls ≠ "java/lang/invoke/MethodHandle" ∧ yX1_stateOf.cls ≠ "java/lang/invoke/VarHandle" ∧ (parseMethodDescriptor yX1_stateOf.desc).map (fun d => d.parameters.length) = some 1 := by decide +kernel
set_option maxHeartbeats 4000000 in
set_option maxRecDepth 100000 in
theorem c_X1_stateOf (l : Launch) (dC : Nat → ClassId) (dI : Nat → Nat → Nat) (cI cJ cZ : ClassId) (a_o a_o_rows a_o_edges : Nat) (sz : Nat) (o_persons : Int32) (o_size : Int32) (o_changes : Int32) (o_restCount : Int32) (o_firstRest : Int32) (x1 : Int32) (res : Int32) (hf : f_X1_stateOf x1 o_persons o_size = some res) : kMi Unit l yX1_stateOf cX1_stateOf 3 (some .int) rm_X1_stateOf [.ref a_o, .int x1] (dC, dI) (kT cI cJ cZ) sz [(a_o, .inr (1, [.ref a_o_rows, .ref a_o_edges, .int o_persons, .int o_size, .int o_changes, .int o_restCount, .int o_firstRest]))] res (fun _ => [(a_o, .inr (1, [.ref a_o_rows, .ref a_o_edges, .int o_persons, .int o_size, .int o_changes, .int o_restCount, .int o_firstRest]))]) := by
  refine Met.ofW (cc := cX1_stateOf) (maxL := 3) (ret := (some .int)) (by decide) rfl ?_
  intro p e s m args below meth c s₁ B hml hv
  obtain ⟨rfl, hsz, hP, hK, hD0⟩ := hv
  have hx := B.exec
  have hb := B.bytes
  have hr := B.returns
  have ht : ∀ w ∈ lw_g, w.before ([.ref a_o, .int x1] : List Value).toArray s = true := fun w h => atoms_spec (ws := kws yX1_stateOf cX1_stateOf 3 (some .int)) B.pre w (List.mem_cons_of_mem _ h)
  have hown : s.vm.findClass RX1 = some m.cls := findClass_of_methodNamed B.named
  have hlocks := B.notSynchronized
  subst hsz
  have hD := hD0.self (sz := s.heap.size)
  generalize hAe : va_A [(a_o, .inr (1, [.ref a_o_rows, .ref a_o_edges, .int o_persons, .int o_size, .int o_changes, .int o_restCount, .int o_firstRest]))] s.heap.size = A at hD ⊢
  have hA : ∀ q : Nat, s.heap.size ≤ q → A q := fun q h => by rw [← hAe]; exact Or.inr h
  have hS : va_S A s.heap s.heap [] := va_S.rf
  have hret : ∀ (H : Heap) (locs : List Loc) (ls : Array Slot) (pc : Nat) (v : Int32), some v = some res → decode cX1_stateOf pc = .ok (.ireturn, 1) → va_P (dC, dI) vwCl [(a_o, .inr (1, [.ref a_o_rows, .ref a_o_edges, .int o_persons, .int o_size, .int o_changes, .int o_restCount, .int o_firstRest]))] H → va_D A [(a_o, .inr (1, [.ref a_o_rows, .ref a_o_edges, .int o_persons, .int o_size, .int o_changes, .int o_restCount, .int o_firstRest]))] → va_S A s.heap H locs → W p l e (headSpec (kws yX1_stateOf cX1_stateOf 3 (some .int)) rm_X1_stateOf).room s m ([.ref a_o, .int x1] : List Value).toArray below meth c H locs 0 0 (MQ below (kQi Unit (dC, dI) A res (fun _ => [(a_o, .inr (1, [.ref a_o_rows, .ref a_o_edges, .int o_persons, .int o_size, .int o_changes, .int o_restCount, .int o_firstRest]))])) ([.ref a_o, .int x1] : List Value).toArray s 0 0 A) (F0 m pc ls [.int v]) := by
    intro H locs ls pc v he hd hP hD hS
    obtain rfl := Option.some.inj he
    exact kri hx hb hr hlocks () hP hD hS hd
  have hl := lv_entry ([.ref a_o, .int x1]) (n := 3) (Nat.le_of_ble_eq_true rfl)
  rw [lg_entry_eq]
  generalize (lg_sl ([.ref a_o, .int x1]) ++ List.replicate (3 - (lg_sl ([.ref a_o, .int x1])).length) Slot.unset).toArray = ls at hl ⊢
  have hl : lv_has ls 3 [(0, .ref a_o), (1, .int x1)] := hl
  generalize (MQ below _ ([.ref a_o, .int x1] : List Value).toArray s 0 0 A) = Q at hret ⊢
  generalize ([.ref a_o, .int x1] : List Value).toArray = args at ht hret ⊢
  have hP : va_P (dC, dI) vwCl [(a_o, .inr (1, [.ref a_o_rows, .ref a_o_edges, .int o_persons, .int o_size, .int o_changes, .int o_restCount, .int o_firstRest]))] s.heap := hP
  unfold f_X1_stateOf at hf
  obtain ⟨H, hH⟩ : ∃ H, H = s.heap := ⟨_, rfl⟩
  obtain ⟨locs, hlo⟩ : ∃ L : List Loc, L = [] := ⟨_, rfl⟩
  rw [← hH] at hP
  have hS : va_S A s.heap H locs := by rw [hH, hlo]; exact hS
  rw [show W p l e (headSpec (kws yX1_stateOf cX1_stateOf 3 (some .int)) rm_X1_stateOf).room s m args below meth c s.heap [] 0 0 Q (F0 m 0 ls []) = W p l e (headSpec (kws yX1_stateOf cX1_stateOf 3 (some .int)) rm_X1_stateOf).room s m args below meth c H locs 0 0 Q (F0 m 0 ls []) from by rw [hH, hlo]]
  refine lv_iload_n hx hb dX1_stateOf_0 rfl (lv_at hl 1 rfl) ?_
  refine lv_aload_n hx hb dX1_stateOf_1 rfl (lv_at hl 0 rfl) ?_
  refine va_get (ci := 1) (v := .int o_persons) (C := RX1) (T := TX1) (N := 7) hx hb ht inX1 hown hK hP 0 rfl rfl 2 (by decide) (ht _ wd_1_132) (fun _ h9 => h9) rfl dX1_stateOf_2 ?_
  obtain ⟨u_1, h_2, hf⟩ := obs hf
  refine kcSi (rest := []) (wr := [(a_o, .inr (1, [.ref a_o_rows, .ref a_o_edges, .int o_persons, .int o_size, .int o_changes, .int o_restCount, .int o_firstRest]))]) (w2 := fun _ => [(a_o, .inr (1, [.ref a_o_rows, .ref a_o_edges, .int o_persons, .int o_size, .int o_changes, .int o_restCount, .int o_firstRest]))]) hx hb hml hown ht (c_X4_rank l dC dI cI cJ cZ H.size x1 o_persons u_1 h_2) (kcw 2 ht wd_3_16 wd_1_12 wd_3_14 kd_X4_rank ⟨rfl, rfl⟩ ⟨Nat.le_of_ble_eq_true rfl, Nat.le_of_ble_eq_true rfl⟩) wd_3_15 hK hP hD hS hA [] [0] [0] rfl rfl rfl rfl (by decide) rfl (fun _ => rfl) rfl hl.1 rfl (Nat.le_of_ble_eq_true rfl) dX1_stateOf_5 ⟨Nat.zero_le _, Nat.zero_le _⟩ (fun _ H locs hP hD hS => ?_)
  have hP : va_P (dC, dI) vwCl [(a_o, .inr (1, [.ref a_o_rows, .ref a_o_edges, .int o_persons, .int o_size, .int o_changes, .int o_restCount, .int o_firstRest]))] H := hP
  have hD : va_D A [(a_o, .inr (1, [.ref a_o_rows, .ref a_o_edges, .int o_persons, .int o_size, .int o_changes, .int o_restCount, .int o_firstRest]))] := hD
  refine lv_istore_n (lv' := [(2, .int u_1), (0, .ref a_o), (1, .int x1)]) hx hb dX1_stateOf_8 rfl hl (by decide) rfl (fun ls hl => ?_)
  refine lv_iload_n hx hb dX1_stateOf_9 rfl (lv_at hl 0 rfl) ?_
  refine lv_aload_n hx hb dX1_stateOf_10 rfl (lv_at hl 1 rfl) ?_
  refine va_get (ci := 1) (v := .int o_size) (C := RX1) (T := TX1) (N := 7) hx hb ht inX1 hown hK hP 0 rfl rfl 3 (by decide) (ht _ wd_1_133) (fun _ h9 => h9) rfl dX1_stateOf_11 ?_
  refine lv_icmp_ge (tgt := 21) hx hb dX1_stateOf_14 (by decide) (fun c_3 => ?_) (fun c_3 => ?_)
  · have hf := ifp c_3 hf
    refine lv_iconst (v := (0 : Int32)) hx hb dX1_stateOf_21 (by decide) ?_
    exact hret H locs ls 22 (0 : Int32) hf dX1_stateOf_22 hP hD hS
  · have hf := ifn c_3 hf
    refine lv_iload_n hx hb dX1_stateOf_17 rfl (lv_at hl 0 rfl) ?_
    refine lv_goto (tgt := 22) hx hb dX1_stateOf_18 (by decide) ?_
    exact hret H locs ls 22 u_1 hf dX1_stateOf_22 hP hD hS
def f_X1_countRests_b44 (o_persons : Int32) (o_size : Int32) (o_changes : Int32) (o_rows : Nat → Int32) (o_edges : Nat → Int32) (K17 : Int32 → Int32 → Int32 → Option (Int32 × Int32)) (x1 : Int32) (o_restCount : Int32) (o_firstRest : Int32) : Option (Int32 × Int32) := K17 (x1 + (-1 : Int32)) o_restCount o_firstRest
def f_X1_countRests_l17 (o_persons : Int32) (o_size : Int32) (o_changes : Int32) (o_rows : Nat → Int32) (o_edges : Nat → Int32) : Nat → Int32 → Int32 → Int32 → Option (Int32 × Int32)
  | 0, _, _, _ => none
  | n + 1, x1, o_restCount, o_firstRest => if x1 < 0 then some (o_restCount, o_firstRest) else Option.bind (f_X1_isRest x1 o_persons o_size o_changes o_rows o_edges) (fun u_2 => if u_2 = 0 then f_X1_countRests_b44 o_persons o_size o_changes o_rows o_edges (f_X1_countRests_l17 o_persons o_size o_changes o_rows o_edges n) x1 o_restCount o_firstRest else f_X1_countRests_b44 o_persons o_size o_changes o_rows o_edges (f_X1_countRests_l17 o_persons o_size o_changes o_rows o_edges n) x1 (o_restCount + (1 : Int32)) x1)
def f_X1_countRests (o_persons : Int32) (o_size : Int32) (o_changes : Int32) (o_restCount : Int32) (o_firstRest : Int32) (o_rows : Nat → Int32) (o_edges : Nat → Int32) : Option (Int32 × Int32) := f_X1_countRests_l17 o_persons o_size o_changes o_rows o_edges NF (o_size - (1 : Int32)) (0 : Int32) (-1 : Int32)
abbrev rm_X1_countRests : Room := { frames := 3, cells := 0, slots := 0, locals := 69 }
theorem kd_X1_countRests : yX1_countRests.cls ≠ "java/lang/invoke/MethodHandle" ∧ yX1_countRests.cls ≠ "java/lang/invoke/VarHandle" ∧ (parseMethodDescriptor yX1_countRests.desc).map (fun d => d.parameters.length) = some 0 := by decide +kernel
set_option maxHeartbeats 4000000 in
set_option maxRecDepth 100000 in
theorem c_X1_countRests (l : Launch) (dC : Nat → ClassId) (dI : Nat → Nat → Nat) (cI cJ cZ : ClassId) (a_o a_o_rows a_o_edges : Nat) (sz : Nat) (o_persons : Int32) (o_size : Int32) (o_changes : Int32) (o_restCount : Int32) (o_firstRest : Int32) (o_rows : Nat → Int32) (o_edges : Nat → Int32) (res : Int32 × Int32) (hf : f_X1_countRests o_persons o_size o_changes o_restCount o_firstRest o_rows o_edges = some res) : kMv Unit l yX1_countRests cX1_countRests 2 rm_X1_countRests [.ref a_o] (dC, dI) (kT cI cJ cZ) sz [(a_o, .inr (1, [.ref a_o_rows, .ref a_o_edges, .int o_persons, .int o_size, .int o_changes, .int o_restCount, .int o_firstRest])), (a_o_rows, .inl (cI, 720, .inl o_rows)), (a_o_edges, .inl (cI, 4320, .inl o_edges))] (fun _ => [(a_o, .inr (1, [.ref a_o_rows, .ref a_o_edges, .int o_persons, .int o_size, .int o_changes, .int res.1, .int res.2])), (a_o_rows, .inl (cI, 720, .inl o_rows)), (a_o_edges, .inl (cI, 4320, .inl o_edges))]) := by
  refine Met.ofW (cc := cX1_countRests) (maxL := 2) (ret := none) (by decide) rfl ?_
  intro p e s m args below meth c s₁ B hml hv
  obtain ⟨rfl, hsz, hP, hK, hD0⟩ := hv
  have hx := B.exec
  have hb := B.bytes
  have hr := B.returns
  have ht : ∀ w ∈ lw_g, w.before ([.ref a_o] : List Value).toArray s = true := fun w h => atoms_spec (ws := kws yX1_countRests cX1_countRests 2 none) B.pre w (List.mem_cons_of_mem _ h)
  have hown : s.vm.findClass RX1 = some m.cls := findClass_of_methodNamed B.named
  have hlocks := B.notSynchronized
  subst hsz
  have hD := hD0.self (sz := s.heap.size)
  generalize hAe : va_A [(a_o, .inr (1, [.ref a_o_rows, .ref a_o_edges, .int o_persons, .int o_size, .int o_changes, .int o_restCount, .int o_firstRest])), (a_o_rows, .inl (cI, 720, .inl o_rows)), (a_o_edges, .inl (cI, 4320, .inl o_edges))] s.heap.size = A at hD ⊢
  have hA : ∀ q : Nat, s.heap.size ≤ q → A q := fun q h => by rw [← hAe]; exact Or.inr h
  have hS : va_S A s.heap s.heap [] := va_S.rf
  have hret : ∀ (H : Heap) (locs : List Loc) (ls : Array Slot) (pc : Nat) (o0 : Int32) (o1 : Int32), some (o0, o1) = some res → decode cX1_countRests pc = .ok (.return_, 1) → va_P (dC, dI) vwCl [(a_o, .inr (1, [.ref a_o_rows, .ref a_o_edges, .int o_persons, .int o_size, .int o_changes, .int o0, .int o1])), (a_o_rows, .inl (cI, 720, .inl o_rows)), (a_o_edges, .inl (cI, 4320, .inl o_edges))] H → va_D A [(a_o, .inr (1, [.ref a_o_rows, .ref a_o_edges, .int o_persons, .int o_size, .int o_changes, .int o0, .int o1])), (a_o_rows, .inl (cI, 720, .inl o_rows)), (a_o_edges, .inl (cI, 4320, .inl o_edges))] → va_S A s.heap H locs → W p l e (headSpec (kws yX1_countRests cX1_countRests 2 none) rm_X1_countRests).room s m ([.ref a_o] : List Value).toArray below meth c H locs 0 0 (MQ below (kQv Unit (dC, dI) A (fun _ => [(a_o, .inr (1, [.ref a_o_rows, .ref a_o_edges, .int o_persons, .int o_size, .int o_changes, .int res.1, .int res.2])), (a_o_rows, .inl (cI, 720, .inl o_rows)), (a_o_edges, .inl (cI, 4320, .inl o_edges))])) ([.ref a_o] : List Value).toArray s 0 0 A) (F0 m pc ls []) := by
    intro H locs ls pc o0 o1 he hd hP hD hS
    obtain rfl := Option.some.inj he
    exact krv hx hb hr hlocks () hP hD hS hd
  have hl := lv_entry ([.ref a_o]) (n := 2) (Nat.le_of_ble_eq_true rfl)
  rw [lg_entry_eq]
  generalize (lg_sl ([.ref a_o]) ++ List.replicate (2 - (lg_sl ([.ref a_o])).length) Slot.unset).toArray = ls at hl ⊢
  have hl : lv_has ls 2 [(0, .ref a_o)] := hl
  generalize (MQ below _ ([.ref a_o] : List Value).toArray s 0 0 A) = Q at hret ⊢
  generalize ([.ref a_o] : List Value).toArray = args at ht hret ⊢
  have hP : va_P (dC, dI) vwCl [(a_o, .inr (1, [.ref a_o_rows, .ref a_o_edges, .int o_persons, .int o_size, .int o_changes, .int o_restCount, .int o_firstRest])), (a_o_rows, .inl (cI, 720, .inl o_rows)), (a_o_edges, .inl (cI, 4320, .inl o_edges))] s.heap := hP
  unfold f_X1_countRests at hf
  have L17 : ∀ (n : Nat) (x1 : Int32) (o_restCount : Int32) (o_firstRest : Int32) (H : Heap) (locs : List Loc) (ls : Array Slot), f_X1_countRests_l17 o_persons o_size o_changes o_rows o_edges n x1 o_restCount o_firstRest = some res → va_P (dC, dI) vwCl [(a_o, .inr (1, [.ref a_o_rows, .ref a_o_edges, .int o_persons, .int o_size, .int o_changes, .int o_restCount, .int o_firstRest])), (a_o_rows, .inl (cI, 720, .inl o_rows)), (a_o_edges, .inl (cI, 4320, .inl o_edges))] H → va_D A [(a_o, .inr (1, [.ref a_o_rows, .ref a_o_edges, .int o_persons, .int o_size, .int o_changes, .int o_restCount, .int o_firstRest])), (a_o_rows, .inl (cI, 720, .inl o_rows)), (a_o_edges, .inl (cI, 4320, .inl o_edges))] → va_S A s.heap H locs → lv_has ls 2 [(0, .ref a_o), (1, .int x1)] → W p l e (headSpec (kws yX1_countRests cX1_countRests 2 none) rm_X1_countRests).room s m args below meth c H locs 0 0 Q (F0 m 17 ls []) := by
    intro n
    induction n with
    | zero =>
      intro x1 o_restCount o_firstRest H locs ls hf hP hD hS hl
      rw [f_X1_countRests_l17.eq_1] at hf
      cases hf
    | succ n17 ih17 =>
      have B44 : ∀ (x1 : Int32) (o_restCount : Int32) (o_firstRest : Int32) (H : Heap) (locs : List Loc) (ls : Array Slot), f_X1_countRests_b44 o_persons o_size o_changes o_rows o_edges (f_X1_countRests_l17 o_persons o_size o_changes o_rows o_edges n17) x1 o_restCount o_firstRest = some res → va_P (dC, dI) vwCl [(a_o, .inr (1, [.ref a_o_rows, .ref a_o_edges, .int o_persons, .int o_size, .int o_changes, .int o_restCount, .int o_firstRest])), (a_o_rows, .inl (cI, 720, .inl o_rows)), (a_o_edges, .inl (cI, 4320, .inl o_edges))] H → va_D A [(a_o, .inr (1, [.ref a_o_rows, .ref a_o_edges, .int o_persons, .int o_size, .int o_changes, .int o_restCount, .int o_firstRest])), (a_o_rows, .inl (cI, 720, .inl o_rows)), (a_o_edges, .inl (cI, 4320, .inl o_edges))] → va_S A s.heap H locs → lv_has ls 2 [(0, .ref a_o), (1, .int x1)] → W p l e (headSpec (kws yX1_countRests cX1_countRests 2 none) rm_X1_countRests).room s m args below meth c H locs 0 0 Q (F0 m 44 ls []) := by
        intro x1 o_restCount o_firstRest H locs ls hf hP hD hS hl
        unfold f_X1_countRests_b44 at hf
        refine lv_iinc (v := (x1 + (-1 : Int32))) (lv' := [(1, .int (x1 + (-1 : Int32))), (0, .ref a_o)]) hx hb dX1_countRests_44 hl (k := 1) rfl rfl (by decide) rfl (fun ls hl => ?_)
        refine lv_goto (tgt := 17) hx hb dX1_countRests_47 (by decide) ?_
        exact ih17 (x1 + (-1 : Int32)) o_restCount o_firstRest H locs ls hf hP hD hS (lv_sub hl [1, 0] rfl)
      intro x1 o_restCount o_firstRest H locs ls hf hP hD hS hl
      rw [f_X1_countRests_l17.eq_2] at hf
      refine lv_iload_n hx hb dX1_countRests_17 rfl (lv_at hl 1 rfl) ?_
      refine lv_if_lt (tgt := 50) hx hb dX1_countRests_18 (by decide) (fun c_1 => ?_) (fun c_1 => ?_)
      · have hf := ifp c_1 hf
        exact hret H locs ls 50 o_restCount o_firstRest hf dX1_countRests_50 hP hD hS
      · have hf := ifn c_1 hf
        refine lv_aload_n hx hb dX1_countRests_21 rfl (lv_at hl 0 rfl) ?_
        refine lv_iload_n hx hb dX1_countRests_22 rfl (lv_at hl 1 rfl) ?_
        obtain ⟨u_2, h_3, hf⟩ := obs hf
        refine kcVi (rest := []) (wr := []) (w2 := fun _ => [(a_o, .inr (1, [.ref a_o_rows, .ref a_o_edges, .int o_persons, .int o_size, .int o_changes, .int o_restCount, .int o_firstRest])), (a_o_rows, .inl (cI, 720, .inl o_rows)), (a_o_edges, .inl (cI, 4320, .inl o_edges))]) hx hb hml hown ht (c_X1_isRest l dC dI cI cJ cZ a_o a_o_rows a_o_edges H.size o_persons o_size o_changes o_restCount o_firstRest o_rows o_edges x1 u_2 h_3) (kcw 1 ht wd_3_25 wd_1_8 wd_3_22 kd_X1_isRest ⟨rfl, rfl⟩ ⟨Nat.le_of_ble_eq_true rfl, Nat.le_of_ble_eq_true rfl⟩) wd_3_23 wd_3_24 hK hP hD hS hA [0, 1, 2] [] [0, 1, 2] rfl rfl rfl rfl (by decide) rfl (fun _ => rfl) (ci := 1) rfl rfl rfl rfl hl.1 rfl (Nat.le_of_ble_eq_true rfl) dX1_countRests_23 ⟨Nat.zero_le _, Nat.zero_le _⟩ (fun _ H locs hP hD hS => ?_)
        have hP : va_P (dC, dI) vwCl [(a_o, .inr (1, [.ref a_o_rows, .ref a_o_edges, .int o_persons, .int o_size, .int o_changes, .int o_restCount, .int o_firstRest])), (a_o_rows, .inl (cI, 720, .inl o_rows)), (a_o_edges, .inl (cI, 4320, .inl o_edges))] H := hP
        have hD : va_D A [(a_o, .inr (1, [.ref a_o_rows, .ref a_o_edges, .int o_persons, .int o_size, .int o_changes, .int o_restCount, .int o_firstRest])), (a_o_rows, .inl (cI, 720, .inl o_rows)), (a_o_edges, .inl (cI, 4320, .inl o_edges))] := hD
        refine lv_if_eq (tgt := 44) hx hb dX1_countRests_26 (by decide) (fun c_4 => ?_) (fun c_4 => ?_)
        · have hf := ifp c_4 hf
          exact B44 x1 o_restCount o_firstRest H locs ls hf hP hD hS (lv_sub hl [0, 1] rfl)
        · have hf := ifn c_4 hf
          refine lv_aload_n hx hb dX1_countRests_29 rfl (lv_at hl 0 rfl) ?_
          refine lv_dup hx hb dX1_countRests_30 rfl ?_
          refine va_get (ci := 1) (v := .int o_restCount) (C := RX1) (T := TX1) (N := 7) hx hb ht inX1 hown hK hP 0 rfl rfl 5 (by decide) (ht _ wd_1_138) (fun _ h9 => h9) rfl dX1_countRests_31 ?_
          refine lv_iconst (v := (1 : Int32)) hx hb dX1_countRests_34 (by decide) ?_
          refine lv_iadd hx hb dX1_countRests_35 ?_
          refine va_put (ci := 1) (v := .int (o_restCount + (1 : Int32))) (ty := .int) (C := RX1) (T := TX1) (N := 7) hx hb ht inX1 tyX1 tyX1_ok nmX1 hown hK hP hD hS 0 rfl rfl 5 (by decide) (ht _ wd_1_138) (fun _ h9 => h9) rfl (tyX1_ok 5 (by decide)) rfl rfl (Nat.le_of_ble_eq_true rfl) dX1_countRests_36 (fun H locs hP hD hS => ?_)
          have hP : va_P (dC, dI) vwCl [(a_o, .inr (1, [.ref a_o_rows, .ref a_o_edges, .int o_persons, .int o_size, .int o_changes, .int (o_restCount + (1 : Int32)), .int o_firstRest])), (a_o_rows, .inl (cI, 720, .inl o_rows)), (a_o_edges, .inl (cI, 4320, .inl o_edges))] H := hP
          have hD : va_D A [(a_o, .inr (1, [.ref a_o_rows, .ref a_o_edges, .int o_persons, .int o_size, .int o_changes, .int (o_restCount + (1 : Int32)), .int o_firstRest])), (a_o_rows, .inl (cI, 720, .inl o_rows)), (a_o_edges, .inl (cI, 4320, .inl o_edges))] := hD
          refine lv_aload_n hx hb dX1_countRests_39 rfl (lv_at hl 0 rfl) ?_
          refine lv_iload_n hx hb dX1_countRests_40 rfl (lv_at hl 1 rfl) ?_
          refine va_put (ci := 1) (v := .int x1) (ty := .int) (C := RX1) (T := TX1) (N := 7) hx hb ht inX1 tyX1 tyX1_ok nmX1 hown hK hP hD hS 0 rfl rfl 6 (by decide) (ht _ wd_1_140) (fun _ h9 => h9) rfl (tyX1_ok 6 (by decide)) rfl rfl (Nat.le_of_ble_eq_true rfl) dX1_countRests_41 (fun H locs hP hD hS => ?_)
          have hP : va_P (dC, dI) vwCl [(a_o, .inr (1, [.ref a_o_rows, .ref a_o_edges, .int o_persons, .int o_size, .int o_changes, .int (o_restCount + (1 : Int32)), .int x1])), (a_o_rows, .inl (cI, 720, .inl o_rows)), (a_o_edges, .inl (cI, 4320, .inl o_edges))] H := hP
          have hD : va_D A [(a_o, .inr (1, [.ref a_o_rows, .ref a_o_edges, .int o_persons, .int o_size, .int o_changes, .int (o_restCount + (1 : Int32)), .int x1])), (a_o_rows, .inl (cI, 720, .inl o_rows)), (a_o_edges, .inl (cI, 4320, .inl o_edges))] := hD
          exact B44 x1 (o_restCount + (1 : Int32)) x1 H locs ls hf hP hD hS (lv_sub hl [0, 1] rfl)
  obtain ⟨H, hH⟩ : ∃ H, H = s.heap := ⟨_, rfl⟩
  obtain ⟨locs, hlo⟩ : ∃ L : List Loc, L = [] := ⟨_, rfl⟩
  rw [← hH] at hP
  have hS : va_S A s.heap H locs := by rw [hH, hlo]; exact hS
  rw [show W p l e (headSpec (kws yX1_countRests cX1_countRests 2 none) rm_X1_countRests).room s m args below meth c s.heap [] 0 0 Q (F0 m 0 ls []) = W p l e (headSpec (kws yX1_countRests cX1_countRests 2 none) rm_X1_countRests).room s m args below meth c H locs 0 0 Q (F0 m 0 ls []) from by rw [hH, hlo]]
  refine lv_aload_n hx hb dX1_countRests_0 rfl (lv_at hl 0 rfl) ?_
  refine lv_iconst (v := (0 : Int32)) hx hb dX1_countRests_1 (by decide) ?_
  refine va_put (ci := 1) (v := .int (0 : Int32)) (ty := .int) (C := RX1) (T := TX1) (N := 7) hx hb ht inX1 tyX1 tyX1_ok nmX1 hown hK hP hD hS 0 rfl rfl 5 (by decide) (ht _ wd_1_138) (fun _ h9 => h9) rfl (tyX1_ok 5 (by decide)) rfl rfl (Nat.le_of_ble_eq_true rfl) dX1_countRests_2 (fun H locs hP hD hS => ?_)
  have hP : va_P (dC, dI) vwCl [(a_o, .inr (1, [.ref a_o_rows, .ref a_o_edges, .int o_persons, .int o_size, .int o_changes, .int (0 : Int32), .int o_firstRest])), (a_o_rows, .inl (cI, 720, .inl o_rows)), (a_o_edges, .inl (cI, 4320, .inl o_edges))] H := hP
  have hD : va_D A [(a_o, .inr (1, [.ref a_o_rows, .ref a_o_edges, .int o_persons, .int o_size, .int o_changes, .int (0 : Int32), .int o_firstRest])), (a_o_rows, .inl (cI, 720, .inl o_rows)), (a_o_edges, .inl (cI, 4320, .inl o_edges))] := hD
  refine lv_aload_n hx hb dX1_countRests_5 rfl (lv_at hl 0 rfl) ?_
  refine lv_iconst (v := (-1 : Int32)) hx hb dX1_countRests_6 (by decide) ?_
  refine va_put (ci := 1) (v := .int (-1 : Int32)) (ty := .int) (C := RX1) (T := TX1) (N := 7) hx hb ht inX1 tyX1 tyX1_ok nmX1 hown hK hP hD hS 0 rfl rfl 6 (by decide) (ht _ wd_1_140) (fun _ h9 => h9) rfl (tyX1_ok 6 (by decide)) rfl rfl (Nat.le_of_ble_eq_true rfl) dX1_countRests_7 (fun H locs hP hD hS => ?_)
  have hP : va_P (dC, dI) vwCl [(a_o, .inr (1, [.ref a_o_rows, .ref a_o_edges, .int o_persons, .int o_size, .int o_changes, .int (0 : Int32), .int (-1 : Int32)])), (a_o_rows, .inl (cI, 720, .inl o_rows)), (a_o_edges, .inl (cI, 4320, .inl o_edges))] H := hP
  have hD : va_D A [(a_o, .inr (1, [.ref a_o_rows, .ref a_o_edges, .int o_persons, .int o_size, .int o_changes, .int (0 : Int32), .int (-1 : Int32)])), (a_o_rows, .inl (cI, 720, .inl o_rows)), (a_o_edges, .inl (cI, 4320, .inl o_edges))] := hD
  refine lv_aload_n hx hb dX1_countRests_10 rfl (lv_at hl 0 rfl) ?_
  refine va_get (ci := 1) (v := .int o_size) (C := RX1) (T := TX1) (N := 7) hx hb ht inX1 hown hK hP 0 rfl rfl 3 (by decide) (ht _ wd_1_133) (fun _ h9 => h9) rfl dX1_countRests_11 ?_
  refine lv_iconst (v := (1 : Int32)) hx hb dX1_countRests_14 (by decide) ?_
  refine lv_isub hx hb dX1_countRests_15 ?_
  refine lv_istore_n (lv' := [(1, .int (o_size - (1 : Int32))), (0, .ref a_o)]) hx hb dX1_countRests_16 rfl hl (by decide) rfl (fun ls hl => ?_)
  exact L17 NF (o_size - (1 : Int32)) (0 : Int32) (-1 : Int32) H locs ls hf hP hD hS (lv_sub hl [1, 0] rfl)
def f_X1_drawEdges_b89 (o_persons : Int32) (o_changes : Int32) (o_rows : Nat → Int32) (q0_persons : Int32) (q0_ring : Int32) (q0_bestPlace : Nat → Int32) (q0_stepCost : Nat → Int32) (q0_kind : Nat → Int32) (q0_likings : Nat → Int32) (K10 : Int32 → Int32 → Int32 → (Nat → Int32) → Option ((Nat → Int32))) (x2 : Int32) (x3 : Int32) (x4 : Int32) (x7 : Int32) (o_edges : Nat → Int32) : Option ((Nat → Int32)) := bd ((x2 * (6 : Int32)) + x4) 4320 (K10 x2 x3 (x4 + (1 : Int32)) (upd o_edges ((x2 * (6 : Int32)) + x4).toNatClampNeg x7))
def f_X1_drawEdges_b69 (o_persons : Int32) (o_changes : Int32) (o_rows : Nat → Int32) (q0_persons : Int32) (q0_ring : Int32) (q0_bestPlace : Nat → Int32) (q0_stepCost : Nat → Int32) (q0_kind : Nat → Int32) (q0_likings : Nat → Int32) (K10 : Int32 → Int32 → Int32 → (Nat → Int32) → Option ((Nat → Int32))) (x2 : Int32) (x3 : Int32) (x4 : Int32) (x5 : Int32) (x6 : Int32) (x7 : Int32) (o_edges : Nat → Int32) : Option ((Nat → Int32)) := Option.bind (f_X2_agrees x3 x6 x5 x4 q0_persons q0_ring q0_bestPlace q0_stepCost q0_kind q0_likings) (fun u_2 => if u_2 = 0 then f_X1_drawEdges_b89 o_persons o_changes o_rows q0_persons q0_ring q0_bestPlace q0_stepCost q0_kind q0_likings K10 x2 x3 x4 x7 o_edges else f_X1_drawEdges_b89 o_persons o_changes o_rows q0_persons q0_ring q0_bestPlace q0_stepCost q0_kind q0_likings K10 x2 x3 x4 (x7 ||| (2 : Int32)) o_edges)
def f_X1_drawEdges_l10 (o_persons : Int32) (o_changes : Int32) (o_rows : Nat → Int32) (q0_persons : Int32) (q0_ring : Int32) (q0_bestPlace : Nat → Int32) (q0_stepCost : Nat → Int32) (q0_kind : Nat → Int32) (q0_likings : Nat → Int32) : Nat → Int32 → Int32 → Int32 → (Nat → Int32) → Option ((Nat → Int32))
  | 0, _, _, _, _ => none
  | n + 1, x2, x3, x4, o_edges => if o_changes ≤ x4 then some o_edges else Option.bind (f_X2_after x4 q0_persons) (fun u_6 => Option.bind (f_X2_changed x3 x4 q0_persons) (fun u_8 => Option.bind (f_X4_rank u_8 o_persons) (fun u_10 => Option.bind (f_X2_agrees x3 u_8 x4 u_6 q0_persons q0_ring q0_bestPlace q0_stepCost q0_kind q0_likings) (fun u_12 => if u_12 = 0 then f_X1_drawEdges_b69 o_persons o_changes o_rows q0_persons q0_ring q0_bestPlace q0_stepCost q0_kind q0_likings (f_X1_drawEdges_l10 o_persons o_changes o_rows q0_persons q0_ring q0_bestPlace q0_stepCost q0_kind q0_likings n) x2 x3 x4 u_6 u_8 (u_10 <<< ((2 : Int32) &&& 31)) o_edges else f_X1_drawEdges_b69 o_persons o_changes o_rows q0_persons q0_ring q0_bestPlace q0_stepCost q0_kind q0_likings (f_X1_drawEdges_l10 o_persons o_changes o_rows q0_persons q0_ring q0_bestPlace q0_stepCost q0_kind q0_likings n) x2 x3 x4 u_6 u_8 ((u_10 <<< ((2 : Int32) &&& 31)) ||| (1 : Int32)) o_edges))))
def f_X1_drawEdges (x2 : Int32) (o_persons : Int32) (o_changes : Int32) (o_rows : Nat → Int32) (o_edges : Nat → Int32) (q0_persons : Int32) (q0_ring : Int32) (q0_bestPlace : Nat → Int32) (q0_stepCost : Nat → Int32) (q0_kind : Nat → Int32) (q0_likings : Nat → Int32) : Option ((Nat → Int32)) := bd x2 720 (f_X1_drawEdges_l10 o_persons o_changes o_rows q0_persons q0_ring q0_bestPlace q0_stepCost q0_kind q0_likings NF x2 (o_rows x2.toNatClampNeg) (0 : Int32) o_edges)
abbrev rm_X1_drawEdges : Room := { frames := 3, cells := 0, slots := 0, locals := 74 }
theorem kd_X1_drawEdges : yX1_drawEdges.cls ≠ "java/lang/invoke/MethodHandle" ∧ yX1_drawEdges.cls ≠ "java/lang/invoke/VarHandle" ∧ (parseMethodDescriptor yX1_drawEdges.desc).map (fun d => d.parameters.length) = some 2 := by decide +kernel
set_option maxHeartbeats 4000000 in
set_option maxRecDepth 100000 in
theorem c_X1_drawEdges (l : Launch) (dC : Nat → ClassId) (dI : Nat → Nat → Nat) (cI cJ cZ : ClassId) (a_o a_o_rows a_o_edges a_q0 a_q0_bestPlace a_q0_stepCost a_q0_kind a_q0_likings : Nat) (sz : Nat) (o_persons : Int32) (o_size : Int32) (o_changes : Int32) (o_restCount : Int32) (o_firstRest : Int32) (o_rows : Nat → Int32) (o_edges : Nat → Int32) (q0_persons : Int32) (q0_ring : Int32) (q0_highestTold : Int32) (q0_bestPlace : Nat → Int32) (q0_stepCost : Nat → Int32) (q0_kind : Nat → Int32) (q0_likings : Nat → Int32) (x2 : Int32) (res : (Nat → Int32)) (hf : f_X1_drawEdges x2 o_persons o_changes o_rows o_edges q0_persons q0_ring q0_bestPlace q0_stepCost q0_kind q0_likings = some res) : kMv Unit l yX1_drawEdges cX1_drawEdges 8 rm_X1_drawEdges [.ref a_o, .ref a_q0, .int x2] (dC, dI) (kT cI cJ cZ) sz [(a_o, .inr (1, [.ref a_o_rows, .ref a_o_edges, .int o_persons, .int o_size, .int o_changes, .int o_restCount, .int o_firstRest])), (a_o_rows, .inl (cI, 720, .inl o_rows)), (a_o_edges, .inl (cI, 4320, .inl o_edges)), (a_q0, .inr (2, [.int q0_persons, .int q0_ring, .int q0_highestTold, .ref a_q0_bestPlace, .ref a_q0_stepCost, .ref a_q0_kind, .ref a_q0_likings])), (a_q0_bestPlace, .inl (cI, 8, .inl q0_bestPlace)), (a_q0_stepCost, .inl (cI, 8, .inl q0_stepCost)), (a_q0_kind, .inl (cI, 8, .inl q0_kind)), (a_q0_likings, .inl (cI, 64, .inl q0_likings))] (fun _ => [(a_o, .inr (1, [.ref a_o_rows, .ref a_o_edges, .int o_persons, .int o_size, .int o_changes, .int o_restCount, .int o_firstRest])), (a_o_rows, .inl (cI, 720, .inl o_rows)), (a_o_edges, .inl (cI, 4320, .inl res)), (a_q0, .inr (2, [.int q0_persons, .int q0_ring, .int q0_highestTold, .ref a_q0_bestPlace, .ref a_q0_stepCost, .ref a_q0_kind, .ref a_q0_likings])), (a_q0_bestPlace, .inl (cI, 8, .inl q0_bestPlace)), (a_q0_stepCost, .inl (cI, 8, .inl q0_stepCost)), (a_q0_kind, .inl (cI, 8, .inl q0_kind)), (a_q0_likings, .inl (cI, 64, .inl q0_likings))]) := by
  refine Met.ofW (cc := cX1_drawEdges) (maxL := 8) (ret := none) (by decide) rfl ?_
  intro p e s m args below meth c s₁ B hml hv
  obtain ⟨rfl, hsz, hP, hK, hD0⟩ := hv
  have hx := B.exec
  have hb := B.bytes
  have hr := B.returns
  have ht : ∀ w ∈ lw_g, w.before ([.ref a_o, .ref a_q0, .int x2] : List Value).toArray s = true := fun w h => atoms_spec (ws := kws yX1_drawEdges cX1_drawEdges 8 none) B.pre w (List.mem_cons_of_mem _ h)
  have hown : s.vm.findClass RX1 = some m.cls := findClass_of_methodNamed B.named
  have hlocks := B.notSynchronized
  subst hsz
  have hD := hD0.self (sz := s.heap.size)
  generalize hAe : va_A [(a_o, .inr (1, [.ref a_o_rows, .ref a_o_edges, .int o_persons, .int o_size, .int o_changes, .int o_restCount, .int o_firstRest])), (a_o_rows, .inl (cI, 720, .inl o_rows)), (a_o_edges, .inl (cI, 4320, .inl o_edges)), (a_q0, .inr (2, [.int q0_persons, .int q0_ring, .int q0_highestTold, .ref a_q0_bestPlace, .ref a_q0_stepCost, .ref a_q0_kind, .ref a_q0_likings])), (a_q0_bestPlace, .inl (cI, 8, .inl q0_bestPlace)), (a_q0_stepCost, .inl (cI, 8, .inl q0_stepCost)), (a_q0_kind, .inl (cI, 8, .inl q0_kind)), (a_q0_likings, .inl (cI, 64, .inl q0_likings))] s.heap.size = A at hD ⊢
  have hA : ∀ q : Nat, s.heap.size ≤ q → A q := fun q h => by rw [← hAe]; exact Or.inr h
  have hS : va_S A s.heap s.heap [] := va_S.rf
  have hret : ∀ (H : Heap) (locs : List Loc) (ls : Array Slot) (pc : Nat) (o0 : Nat → Int32), some o0 = some res → decode cX1_drawEdges pc = .ok (.return_, 1) → va_P (dC, dI) vwCl [(a_o, .inr (1, [.ref a_o_rows, .ref a_o_edges, .int o_persons, .int o_size, .int o_changes, .int o_restCount, .int o_firstRest])), (a_o_rows, .inl (cI, 720, .inl o_rows)), (a_o_edges, .inl (cI, 4320, .inl o0)), (a_q0, .inr (2, [.int q0_persons, .int q0_ring, .int q0_highestTold, .ref a_q0_bestPlace, .ref a_q0_stepCost, .ref a_q0_kind, .ref a_q0_likings])), (a_q0_bestPlace, .inl (cI, 8, .inl q0_bestPlace)), (a_q0_stepCost, .inl (cI, 8, .inl q0_stepCost)), (a_q0_kind, .inl (cI, 8, .inl q0_kind)), (a_q0_likings, .inl (cI, 64, .inl q0_likings))] H → va_D A [(a_o, .inr (1, [.ref a_o_rows, .ref a_o_edges, .int o_persons, .int o_size, .int o_changes, .int o_restCount, .int o_firstRest])), (a_o_rows, .inl (cI, 720, .inl o_rows)), (a_o_edges, .inl (cI, 4320, .inl o0)), (a_q0, .inr (2, [.int q0_persons, .int q0_ring, .int q0_highestTold, .ref a_q0_bestPlace, .ref a_q0_stepCost, .ref a_q0_kind, .ref a_q0_likings])), (a_q0_bestPlace, .inl (cI, 8, .inl q0_bestPlace)), (a_q0_stepCost, .inl (cI, 8, .inl q0_stepCost)), (a_q0_kind, .inl (cI, 8, .inl q0_kind)), (a_q0_likings, .inl (cI, 64, .inl q0_likings))] → va_S A s.heap H locs → W p l e (headSpec (kws yX1_drawEdges cX1_drawEdges 8 none) rm_X1_drawEdges).room s m ([.ref a_o, .ref a_q0, .int x2] : List Value).toArray below meth c H locs 0 0 (MQ below (kQv Unit (dC, dI) A (fun _ => [(a_o, .inr (1, [.ref a_o_rows, .ref a_o_edges, .int o_persons, .int o_size, .int o_changes, .int o_restCount, .int o_firstRest])), (a_o_rows, .inl (cI, 720, .inl o_rows)), (a_o_edges, .inl (cI, 4320, .inl res)), (a_q0, .inr (2, [.int q0_persons, .int q0_ring, .int q0_highestTold, .ref a_q0_bestPlace, .ref a_q0_stepCost, .ref a_q0_kind, .ref a_q0_likings])), (a_q0_bestPlace, .inl (cI, 8, .inl q0_bestPlace)), (a_q0_stepCost, .inl (cI, 8, .inl q0_stepCost)), (a_q0_kind, .inl (cI, 8, .inl q0_kind)), (a_q0_likings, .inl (cI, 64, .inl q0_likings))])) ([.ref a_o, .ref a_q0, .int x2] : List Value).toArray s 0 0 A) (F0 m pc ls []) := by
    intro H locs ls pc o0 he hd hP hD hS
    obtain rfl := Option.some.inj he
    exact krv hx hb hr hlocks () hP hD hS hd
  have hl := lv_entry ([.ref a_o, .ref a_q0, .int x2]) (n := 8) (Nat.le_of_ble_eq_true rfl)
  rw [lg_entry_eq]
  generalize (lg_sl ([.ref a_o, .ref a_q0, .int x2]) ++ List.replicate (8 - (lg_sl ([.ref a_o, .ref a_q0, .int x2])).length) Slot.unset).toArray = ls at hl ⊢
  have hl : lv_has ls 8 [(0, .ref a_o), (1, .ref a_q0), (2, .int x2)] := hl
  generalize (MQ below _ ([.ref a_o, .ref a_q0, .int x2] : List Value).toArray s 0 0 A) = Q at hret ⊢
  generalize ([.ref a_o, .ref a_q0, .int x2] : List Value).toArray = args at ht hret ⊢
  have hP : va_P (dC, dI) vwCl [(a_o, .inr (1, [.ref a_o_rows, .ref a_o_edges, .int o_persons, .int o_size, .int o_changes, .int o_restCount, .int o_firstRest])), (a_o_rows, .inl (cI, 720, .inl o_rows)), (a_o_edges, .inl (cI, 4320, .inl o_edges)), (a_q0, .inr (2, [.int q0_persons, .int q0_ring, .int q0_highestTold, .ref a_q0_bestPlace, .ref a_q0_stepCost, .ref a_q0_kind, .ref a_q0_likings])), (a_q0_bestPlace, .inl (cI, 8, .inl q0_bestPlace)), (a_q0_stepCost, .inl (cI, 8, .inl q0_stepCost)), (a_q0_kind, .inl (cI, 8, .inl q0_kind)), (a_q0_likings, .inl (cI, 64, .inl q0_likings))] s.heap := hP
  unfold f_X1_drawEdges at hf
  have L10 : ∀ (n : Nat) (x2 : Int32) (x3 : Int32) (x4 : Int32) (o_edges : Nat → Int32) (H : Heap) (locs : List Loc) (ls : Array Slot), f_X1_drawEdges_l10 o_persons o_changes o_rows q0_persons q0_ring q0_bestPlace q0_stepCost q0_kind q0_likings n x2 x3 x4 o_edges = some res → va_P (dC, dI) vwCl [(a_o, .inr (1, [.ref a_o_rows, .ref a_o_edges, .int o_persons, .int o_size, .int o_changes, .int o_restCount, .int o_firstRest])), (a_o_rows, .inl (cI, 720, .inl o_rows)), (a_o_edges, .inl (cI, 4320, .inl o_edges)), (a_q0, .inr (2, [.int q0_persons, .int q0_ring, .int q0_highestTold, .ref a_q0_bestPlace, .ref a_q0_stepCost, .ref a_q0_kind, .ref a_q0_likings])), (a_q0_bestPlace, .inl (cI, 8, .inl q0_bestPlace)), (a_q0_stepCost, .inl (cI, 8, .inl q0_stepCost)), (a_q0_kind, .inl (cI, 8, .inl q0_kind)), (a_q0_likings, .inl (cI, 64, .inl q0_likings))] H → va_D A [(a_o, .inr (1, [.ref a_o_rows, .ref a_o_edges, .int o_persons, .int o_size, .int o_changes, .int o_restCount, .int o_firstRest])), (a_o_rows, .inl (cI, 720, .inl o_rows)), (a_o_edges, .inl (cI, 4320, .inl o_edges)), (a_q0, .inr (2, [.int q0_persons, .int q0_ring, .int q0_highestTold, .ref a_q0_bestPlace, .ref a_q0_stepCost, .ref a_q0_kind, .ref a_q0_likings])), (a_q0_bestPlace, .inl (cI, 8, .inl q0_bestPlace)), (a_q0_stepCost, .inl (cI, 8, .inl q0_stepCost)), (a_q0_kind, .inl (cI, 8, .inl q0_kind)), (a_q0_likings, .inl (cI, 64, .inl q0_likings))] → va_S A s.heap H locs → lv_has ls 8 [(0, .ref a_o), (1, .ref a_q0), (2, .int x2), (3, .int x3), (4, .int x4)] → W p l e (headSpec (kws yX1_drawEdges cX1_drawEdges 8 none) rm_X1_drawEdges).room s m args below meth c H locs 0 0 Q (F0 m 10 ls []) := by
    intro n
    induction n with
    | zero =>
      intro x2 x3 x4 o_edges H locs ls hf hP hD hS hl
      rw [f_X1_drawEdges_l10.eq_1] at hf
      cases hf
    | succ n10 ih10 =>
      have B89 : ∀ (x2 : Int32) (x3 : Int32) (x4 : Int32) (x7 : Int32) (o_edges : Nat → Int32) (H : Heap) (locs : List Loc) (ls : Array Slot), f_X1_drawEdges_b89 o_persons o_changes o_rows q0_persons q0_ring q0_bestPlace q0_stepCost q0_kind q0_likings (f_X1_drawEdges_l10 o_persons o_changes o_rows q0_persons q0_ring q0_bestPlace q0_stepCost q0_kind q0_likings n10) x2 x3 x4 x7 o_edges = some res → va_P (dC, dI) vwCl [(a_o, .inr (1, [.ref a_o_rows, .ref a_o_edges, .int o_persons, .int o_size, .int o_changes, .int o_restCount, .int o_firstRest])), (a_o_rows, .inl (cI, 720, .inl o_rows)), (a_o_edges, .inl (cI, 4320, .inl o_edges)), (a_q0, .inr (2, [.int q0_persons, .int q0_ring, .int q0_highestTold, .ref a_q0_bestPlace, .ref a_q0_stepCost, .ref a_q0_kind, .ref a_q0_likings])), (a_q0_bestPlace, .inl (cI, 8, .inl q0_bestPlace)), (a_q0_stepCost, .inl (cI, 8, .inl q0_stepCost)), (a_q0_kind, .inl (cI, 8, .inl q0_kind)), (a_q0_likings, .inl (cI, 64, .inl q0_likings))] H → va_D A [(a_o, .inr (1, [.ref a_o_rows, .ref a_o_edges, .int o_persons, .int o_size, .int o_changes, .int o_restCount, .int o_firstRest])), (a_o_rows, .inl (cI, 720, .inl o_rows)), (a_o_edges, .inl (cI, 4320, .inl o_edges)), (a_q0, .inr (2, [.int q0_persons, .int q0_ring, .int q0_highestTold, .ref a_q0_bestPlace, .ref a_q0_stepCost, .ref a_q0_kind, .ref a_q0_likings])), (a_q0_bestPlace, .inl (cI, 8, .inl q0_bestPlace)), (a_q0_stepCost, .inl (cI, 8, .inl q0_stepCost)), (a_q0_kind, .inl (cI, 8, .inl q0_kind)), (a_q0_likings, .inl (cI, 64, .inl q0_likings))] → va_S A s.heap H locs → lv_has ls 8 [(0, .ref a_o), (1, .ref a_q0), (2, .int x2), (3, .int x3), (4, .int x4), (7, .int x7)] → W p l e (headSpec (kws yX1_drawEdges cX1_drawEdges 8 none) rm_X1_drawEdges).room s m args below meth c H locs 0 0 Q (F0 m 89 ls []) := by
        intro x2 x3 x4 x7 o_edges H locs ls hf hP hD hS hl
        unfold f_X1_drawEdges_b89 at hf
        refine lv_aload_n hx hb dX1_drawEdges_89 rfl (lv_at hl 0 rfl) ?_
        refine va_get (ci := 1) (v := .ref a_o_edges) (C := RX1) (T := TX1) (N := 7) hx hb ht inX1 hown hK hP 0 rfl rfl 1 (by decide) (ht _ wd_1_131) (fun _ h9 => h9) rfl dX1_drawEdges_90 ?_
        refine lv_iload_n hx hb dX1_drawEdges_93 rfl (lv_at hl 2 rfl) ?_
        refine lv_bipush (v := (6 : Int32)) hx hb dX1_drawEdges_94 (by decide) ?_
        refine lv_imul hx hb dX1_drawEdges_96 ?_
        refine lv_iload hx hb dX1_drawEdges_97 (lv_at hl 4 rfl) ?_
        refine lv_iadd hx hb dX1_drawEdges_99 ?_
        refine lv_iload hx hb dX1_drawEdges_100 (lv_at hl 5 rfl) ?_
        obtain ⟨b_1, hf⟩ := bd_some hf
        refine va_iast hx hb hK hP hD hS 2 0 rfl rfl b_1 dX1_drawEdges_102 (fun H locs hP hD hS => ?_)
        have hP : va_P (dC, dI) vwCl [(a_o, .inr (1, [.ref a_o_rows, .ref a_o_edges, .int o_persons, .int o_size, .int o_changes, .int o_restCount, .int o_firstRest])), (a_o_rows, .inl (cI, 720, .inl o_rows)), (a_o_edges, .inl (cI, 4320, .inl (upd o_edges ((x2 * (6 : Int32)) + x4).toNatClampNeg x7))), (a_q0, .inr (2, [.int q0_persons, .int q0_ring, .int q0_highestTold, .ref a_q0_bestPlace, .ref a_q0_stepCost, .ref a_q0_kind, .ref a_q0_likings])), (a_q0_bestPlace, .inl (cI, 8, .inl q0_bestPlace)), (a_q0_stepCost, .inl (cI, 8, .inl q0_stepCost)), (a_q0_kind, .inl (cI, 8, .inl q0_kind)), (a_q0_likings, .inl (cI, 64, .inl q0_likings))] H := hP
        have hD : va_D A [(a_o, .inr (1, [.ref a_o_rows, .ref a_o_edges, .int o_persons, .int o_size, .int o_changes, .int o_restCount, .int o_firstRest])), (a_o_rows, .inl (cI, 720, .inl o_rows)), (a_o_edges, .inl (cI, 4320, .inl (upd o_edges ((x2 * (6 : Int32)) + x4).toNatClampNeg x7))), (a_q0, .inr (2, [.int q0_persons, .int q0_ring, .int q0_highestTold, .ref a_q0_bestPlace, .ref a_q0_stepCost, .ref a_q0_kind, .ref a_q0_likings])), (a_q0_bestPlace, .inl (cI, 8, .inl q0_bestPlace)), (a_q0_stepCost, .inl (cI, 8, .inl q0_stepCost)), (a_q0_kind, .inl (cI, 8, .inl q0_kind)), (a_q0_likings, .inl (cI, 64, .inl q0_likings))] := hD
        refine lv_iinc (v := (x4 + (1 : Int32))) (lv' := [(4, .int (x4 + (1 : Int32))), (0, .ref a_o), (1, .ref a_q0), (2, .int x2), (3, .int x3), (7, .int x7)]) hx hb dX1_drawEdges_103 hl (k := 4) rfl rfl (by decide) rfl (fun ls hl => ?_)
        refine lv_goto (tgt := 10) hx hb dX1_drawEdges_106 (by decide) ?_
        exact ih10 x2 x3 (x4 + (1 : Int32)) (upd o_edges ((x2 * (6 : Int32)) + x4).toNatClampNeg x7) H locs ls hf hP hD hS (lv_sub hl [1, 2, 3, 4, 0] rfl)
      have B69 : ∀ (x2 : Int32) (x3 : Int32) (x4 : Int32) (x5 : Int32) (x6 : Int32) (x7 : Int32) (o_edges : Nat → Int32) (H : Heap) (locs : List Loc) (ls : Array Slot), f_X1_drawEdges_b69 o_persons o_changes o_rows q0_persons q0_ring q0_bestPlace q0_stepCost q0_kind q0_likings (f_X1_drawEdges_l10 o_persons o_changes o_rows q0_persons q0_ring q0_bestPlace q0_stepCost q0_kind q0_likings n10) x2 x3 x4 x5 x6 x7 o_edges = some res → va_P (dC, dI) vwCl [(a_o, .inr (1, [.ref a_o_rows, .ref a_o_edges, .int o_persons, .int o_size, .int o_changes, .int o_restCount, .int o_firstRest])), (a_o_rows, .inl (cI, 720, .inl o_rows)), (a_o_edges, .inl (cI, 4320, .inl o_edges)), (a_q0, .inr (2, [.int q0_persons, .int q0_ring, .int q0_highestTold, .ref a_q0_bestPlace, .ref a_q0_stepCost, .ref a_q0_kind, .ref a_q0_likings])), (a_q0_bestPlace, .inl (cI, 8, .inl q0_bestPlace)), (a_q0_stepCost, .inl (cI, 8, .inl q0_stepCost)), (a_q0_kind, .inl (cI, 8, .inl q0_kind)), (a_q0_likings, .inl (cI, 64, .inl q0_likings))] H → va_D A [(a_o, .inr (1, [.ref a_o_rows, .ref a_o_edges, .int o_persons, .int o_size, .int o_changes, .int o_restCount, .int o_firstRest])), (a_o_rows, .inl (cI, 720, .inl o_rows)), (a_o_edges, .inl (cI, 4320, .inl o_edges)), (a_q0, .inr (2, [.int q0_persons, .int q0_ring, .int q0_highestTold, .ref a_q0_bestPlace, .ref a_q0_stepCost, .ref a_q0_kind, .ref a_q0_likings])), (a_q0_bestPlace, .inl (cI, 8, .inl q0_bestPlace)), (a_q0_stepCost, .inl (cI, 8, .inl q0_stepCost)), (a_q0_kind, .inl (cI, 8, .inl q0_kind)), (a_q0_likings, .inl (cI, 64, .inl q0_likings))] → va_S A s.heap H locs → lv_has ls 8 [(0, .ref a_o), (1, .ref a_q0), (2, .int x2), (3, .int x3), (4, .int x4), (5, .int x5), (6, .int x6), (7, .int x7)] → W p l e (headSpec (kws yX1_drawEdges cX1_drawEdges 8 none) rm_X1_drawEdges).room s m args below meth c H locs 0 0 Q (F0 m 69 ls []) := by
        intro x2 x3 x4 x5 x6 x7 o_edges H locs ls hf hP hD hS hl
        unfold f_X1_drawEdges_b69 at hf
        refine lv_aload_n hx hb dX1_drawEdges_69 rfl (lv_at hl 1 rfl) ?_
        refine lv_iload_n hx hb dX1_drawEdges_70 rfl (lv_at hl 3 rfl) ?_
        refine lv_iload hx hb dX1_drawEdges_71 (lv_at hl 6 rfl) ?_
        refine lv_iload hx hb dX1_drawEdges_73 (lv_at hl 5 rfl) ?_
        refine lv_iload hx hb dX1_drawEdges_75 (lv_at hl 4 rfl) ?_
        obtain ⟨u_2, h_3, hf⟩ := obs hf
        refine kcVi (rest := []) (wr := [(a_o, .inr (1, [.ref a_o_rows, .ref a_o_edges, .int o_persons, .int o_size, .int o_changes, .int o_restCount, .int o_firstRest])), (a_o_rows, .inl (cI, 720, .inl o_rows)), (a_o_edges, .inl (cI, 4320, .inl o_edges))]) (w2 := fun _ => [(a_o, .inr (1, [.ref a_o_rows, .ref a_o_edges, .int o_persons, .int o_size, .int o_changes, .int o_restCount, .int o_firstRest])), (a_o_rows, .inl (cI, 720, .inl o_rows)), (a_o_edges, .inl (cI, 4320, .inl o_edges)), (a_q0, .inr (2, [.int q0_persons, .int q0_ring, .int q0_highestTold, .ref a_q0_bestPlace, .ref a_q0_stepCost, .ref a_q0_kind, .ref a_q0_likings])), (a_q0_bestPlace, .inl (cI, 8, .inl q0_bestPlace)), (a_q0_stepCost, .inl (cI, 8, .inl q0_stepCost)), (a_q0_kind, .inl (cI, 8, .inl q0_kind)), (a_q0_likings, .inl (cI, 64, .inl q0_likings))]) hx hb hml hown ht (c_X2_agrees l dC dI cI cJ cZ a_q0 a_q0_bestPlace a_q0_stepCost a_q0_kind a_q0_likings H.size q0_persons q0_ring q0_highestTold q0_bestPlace q0_stepCost q0_kind q0_likings x3 x6 x5 x4 u_2 h_3) (kcw 4 ht wd_2_160 wd_1_3 wd_3_17 kd_X2_agrees ⟨rfl, rfl⟩ ⟨Nat.le_of_ble_eq_true rfl, Nat.le_of_ble_eq_true rfl⟩) wd_2_158 wd_2_159 hK hP hD hS hA [3, 4, 5, 6, 7] [0, 1, 2] [0, 1, 2, 3, 4, 5, 6, 7] rfl rfl rfl rfl (by decide) rfl (fun _ => rfl) (ci := 2) rfl rfl rfl rfl hl.1 rfl (Nat.le_of_ble_eq_true rfl) dX1_drawEdges_77 ⟨Nat.zero_le _, Nat.zero_le _⟩ (fun _ H locs hP hD hS => ?_)
        have hP : va_P (dC, dI) vwCl [(a_o, .inr (1, [.ref a_o_rows, .ref a_o_edges, .int o_persons, .int o_size, .int o_changes, .int o_restCount, .int o_firstRest])), (a_o_rows, .inl (cI, 720, .inl o_rows)), (a_o_edges, .inl (cI, 4320, .inl o_edges)), (a_q0, .inr (2, [.int q0_persons, .int q0_ring, .int q0_highestTold, .ref a_q0_bestPlace, .ref a_q0_stepCost, .ref a_q0_kind, .ref a_q0_likings])), (a_q0_bestPlace, .inl (cI, 8, .inl q0_bestPlace)), (a_q0_stepCost, .inl (cI, 8, .inl q0_stepCost)), (a_q0_kind, .inl (cI, 8, .inl q0_kind)), (a_q0_likings, .inl (cI, 64, .inl q0_likings))] H := hP
        have hD : va_D A [(a_o, .inr (1, [.ref a_o_rows, .ref a_o_edges, .int o_persons, .int o_size, .int o_changes, .int o_restCount, .int o_firstRest])), (a_o_rows, .inl (cI, 720, .inl o_rows)), (a_o_edges, .inl (cI, 4320, .inl o_edges)), (a_q0, .inr (2, [.int q0_persons, .int q0_ring, .int q0_highestTold, .ref a_q0_bestPlace, .ref a_q0_stepCost, .ref a_q0_kind, .ref a_q0_likings])), (a_q0_bestPlace, .inl (cI, 8, .inl q0_bestPlace)), (a_q0_stepCost, .inl (cI, 8, .inl q0_stepCost)), (a_q0_kind, .inl (cI, 8, .inl q0_kind)), (a_q0_likings, .inl (cI, 64, .inl q0_likings))] := hD
        refine lv_if_eq (tgt := 89) hx hb dX1_drawEdges_80 (by decide) (fun c_4 => ?_) (fun c_4 => ?_)
        · have hf := ifp c_4 hf
          exact B89 x2 x3 x4 x7 o_edges H locs ls hf hP hD hS (lv_sub hl [0, 1, 2, 3, 4, 7] rfl)
        · have hf := ifn c_4 hf
          refine lv_iload hx hb dX1_drawEdges_83 (lv_at hl 7 rfl) ?_
          refine lv_iconst (v := (2 : Int32)) hx hb dX1_drawEdges_85 (by decide) ?_
          refine lv_ior hx hb dX1_drawEdges_86 ?_
          refine lv_istore (lv' := [(7, .int (x7 ||| (2 : Int32))), (0, .ref a_o), (1, .ref a_q0), (2, .int x2), (3, .int x3), (4, .int x4), (5, .int x5), (6, .int x6)]) hx hb dX1_drawEdges_87 hl (by decide) rfl (fun ls hl => ?_)
          exact B89 x2 x3 x4 (x7 ||| (2 : Int32)) o_edges H locs ls hf hP hD hS (lv_sub hl [1, 2, 3, 4, 5, 0] rfl)
      intro x2 x3 x4 o_edges H locs ls hf hP hD hS hl
      rw [f_X1_drawEdges_l10.eq_2] at hf
      refine lv_iload hx hb dX1_drawEdges_10 (lv_at hl 4 rfl) ?_
      refine lv_aload_n hx hb dX1_drawEdges_12 rfl (lv_at hl 0 rfl) ?_
      refine va_get (ci := 1) (v := .int o_changes) (C := RX1) (T := TX1) (N := 7) hx hb ht inX1 hown hK hP 0 rfl rfl 4 (by decide) (ht _ wd_1_135) (fun _ h9 => h9) rfl dX1_drawEdges_13 ?_
      refine lv_icmp_ge (tgt := 109) hx hb dX1_drawEdges_16 (by decide) (fun c_5 => ?_) (fun c_5 => ?_)
      · have hf := ifp c_5 hf
        exact hret H locs ls 109 o_edges hf dX1_drawEdges_109 hP hD hS
      · have hf := ifn c_5 hf
        refine lv_aload_n hx hb dX1_drawEdges_19 rfl (lv_at hl 1 rfl) ?_
        refine lv_iload hx hb dX1_drawEdges_20 (lv_at hl 4 rfl) ?_
        obtain ⟨u_6, h_7, hf⟩ := obs hf
        refine kcVi (rest := []) (wr := [(a_o, .inr (1, [.ref a_o_rows, .ref a_o_edges, .int o_persons, .int o_size, .int o_changes, .int o_restCount, .int o_firstRest])), (a_o_rows, .inl (cI, 720, .inl o_rows)), (a_o_edges, .inl (cI, 4320, .inl o_edges)), (a_q0_bestPlace, .inl (cI, 8, .inl q0_bestPlace)), (a_q0_stepCost, .inl (cI, 8, .inl q0_stepCost)), (a_q0_kind, .inl (cI, 8, .inl q0_kind)), (a_q0_likings, .inl (cI, 64, .inl q0_likings))]) (w2 := fun _ => [(a_o, .inr (1, [.ref a_o_rows, .ref a_o_edges, .int o_persons, .int o_size, .int o_changes, .int o_restCount, .int o_firstRest])), (a_o_rows, .inl (cI, 720, .inl o_rows)), (a_o_edges, .inl (cI, 4320, .inl o_edges)), (a_q0, .inr (2, [.int q0_persons, .int q0_ring, .int q0_highestTold, .ref a_q0_bestPlace, .ref a_q0_stepCost, .ref a_q0_kind, .ref a_q0_likings])), (a_q0_bestPlace, .inl (cI, 8, .inl q0_bestPlace)), (a_q0_stepCost, .inl (cI, 8, .inl q0_stepCost)), (a_q0_kind, .inl (cI, 8, .inl q0_kind)), (a_q0_likings, .inl (cI, 64, .inl q0_likings))]) hx hb hml hown ht (c_X2_after l dC dI cI cJ cZ a_q0 a_q0_bestPlace a_q0_stepCost a_q0_kind a_q0_likings H.size q0_persons q0_ring q0_highestTold x4 u_6 h_7) (kcw 1 ht wd_2_119 wd_1_3 wd_3_12 kd_X2_after ⟨rfl, rfl⟩ ⟨Nat.le_of_ble_eq_true rfl, Nat.le_of_ble_eq_true rfl⟩) wd_2_117 wd_2_118 hK hP hD hS hA [3] [0, 1, 2, 4, 5, 6, 7] [0, 1, 2, 7, 3, 4, 5, 6] rfl rfl rfl rfl (by decide) rfl (fun _ => rfl) (ci := 2) rfl rfl rfl rfl hl.1 rfl (Nat.le_of_ble_eq_true rfl) dX1_drawEdges_22 ⟨Nat.zero_le _, Nat.zero_le _⟩ (fun _ H locs hP hD hS => ?_)
        have hP : va_P (dC, dI) vwCl [(a_o, .inr (1, [.ref a_o_rows, .ref a_o_edges, .int o_persons, .int o_size, .int o_changes, .int o_restCount, .int o_firstRest])), (a_o_rows, .inl (cI, 720, .inl o_rows)), (a_o_edges, .inl (cI, 4320, .inl o_edges)), (a_q0, .inr (2, [.int q0_persons, .int q0_ring, .int q0_highestTold, .ref a_q0_bestPlace, .ref a_q0_stepCost, .ref a_q0_kind, .ref a_q0_likings])), (a_q0_bestPlace, .inl (cI, 8, .inl q0_bestPlace)), (a_q0_stepCost, .inl (cI, 8, .inl q0_stepCost)), (a_q0_kind, .inl (cI, 8, .inl q0_kind)), (a_q0_likings, .inl (cI, 64, .inl q0_likings))] H := hP
        have hD : va_D A [(a_o, .inr (1, [.ref a_o_rows, .ref a_o_edges, .int o_persons, .int o_size, .int o_changes, .int o_restCount, .int o_firstRest])), (a_o_rows, .inl (cI, 720, .inl o_rows)), (a_o_edges, .inl (cI, 4320, .inl o_edges)), (a_q0, .inr (2, [.int q0_persons, .int q0_ring, .int q0_highestTold, .ref a_q0_bestPlace, .ref a_q0_stepCost, .ref a_q0_kind, .ref a_q0_likings])), (a_q0_bestPlace, .inl (cI, 8, .inl q0_bestPlace)), (a_q0_stepCost, .inl (cI, 8, .inl q0_stepCost)), (a_q0_kind, .inl (cI, 8, .inl q0_kind)), (a_q0_likings, .inl (cI, 64, .inl q0_likings))] := hD
        refine lv_istore (lv' := [(5, .int u_6), (0, .ref a_o), (1, .ref a_q0), (2, .int x2), (3, .int x3), (4, .int x4)]) hx hb dX1_drawEdges_25 hl (by decide) rfl (fun ls hl => ?_)
        refine lv_aload_n hx hb dX1_drawEdges_27 rfl (lv_at hl 2 rfl) ?_
        refine lv_iload_n hx hb dX1_drawEdges_28 rfl (lv_at hl 4 rfl) ?_
        refine lv_iload hx hb dX1_drawEdges_29 (lv_at hl 5 rfl) ?_
        obtain ⟨u_8, h_9, hf⟩ := obs hf
        refine kcVi (rest := []) (wr := [(a_o, .inr (1, [.ref a_o_rows, .ref a_o_edges, .int o_persons, .int o_size, .int o_changes, .int o_restCount, .int o_firstRest])), (a_o_rows, .inl (cI, 720, .inl o_rows)), (a_o_edges, .inl (cI, 4320, .inl o_edges)), (a_q0_bestPlace, .inl (cI, 8, .inl q0_bestPlace)), (a_q0_stepCost, .inl (cI, 8, .inl q0_stepCost)), (a_q0_kind, .inl (cI, 8, .inl q0_kind)), (a_q0_likings, .inl (cI, 64, .inl q0_likings))]) (w2 := fun _ => [(a_o, .inr (1, [.ref a_o_rows, .ref a_o_edges, .int o_persons, .int o_size, .int o_changes, .int o_restCount, .int o_firstRest])), (a_o_rows, .inl (cI, 720, .inl o_rows)), (a_o_edges, .inl (cI, 4320, .inl o_edges)), (a_q0, .inr (2, [.int q0_persons, .int q0_ring, .int q0_highestTold, .ref a_q0_bestPlace, .ref a_q0_stepCost, .ref a_q0_kind, .ref a_q0_likings])), (a_q0_bestPlace, .inl (cI, 8, .inl q0_bestPlace)), (a_q0_stepCost, .inl (cI, 8, .inl q0_stepCost)), (a_q0_kind, .inl (cI, 8, .inl q0_kind)), (a_q0_likings, .inl (cI, 64, .inl q0_likings))]) hx hb hml hown ht (c_X2_changed l dC dI cI cJ cZ a_q0 a_q0_bestPlace a_q0_stepCost a_q0_kind a_q0_likings H.size q0_persons q0_ring q0_highestTold x3 x4 u_8 h_9) (kcw 2 ht wd_2_171 wd_1_3 wd_3_13 kd_X2_changed ⟨rfl, rfl⟩ ⟨Nat.le_of_ble_eq_true rfl, Nat.le_of_ble_eq_true rfl⟩) wd_2_169 wd_2_170 hK hP hD hS hA [3] [0, 1, 2, 4, 5, 6, 7] [0, 1, 2, 7, 3, 4, 5, 6] rfl rfl rfl rfl (by decide) rfl (fun _ => rfl) (ci := 2) rfl rfl rfl rfl hl.1 rfl (Nat.le_of_ble_eq_true rfl) dX1_drawEdges_31 ⟨Nat.zero_le _, Nat.zero_le _⟩ (fun _ H locs hP hD hS => ?_)
        have hP : va_P (dC, dI) vwCl [(a_o, .inr (1, [.ref a_o_rows, .ref a_o_edges, .int o_persons, .int o_size, .int o_changes, .int o_restCount, .int o_firstRest])), (a_o_rows, .inl (cI, 720, .inl o_rows)), (a_o_edges, .inl (cI, 4320, .inl o_edges)), (a_q0, .inr (2, [.int q0_persons, .int q0_ring, .int q0_highestTold, .ref a_q0_bestPlace, .ref a_q0_stepCost, .ref a_q0_kind, .ref a_q0_likings])), (a_q0_bestPlace, .inl (cI, 8, .inl q0_bestPlace)), (a_q0_stepCost, .inl (cI, 8, .inl q0_stepCost)), (a_q0_kind, .inl (cI, 8, .inl q0_kind)), (a_q0_likings, .inl (cI, 64, .inl q0_likings))] H := hP
        have hD : va_D A [(a_o, .inr (1, [.ref a_o_rows, .ref a_o_edges, .int o_persons, .int o_size, .int o_changes, .int o_restCount, .int o_firstRest])), (a_o_rows, .inl (cI, 720, .inl o_rows)), (a_o_edges, .inl (cI, 4320, .inl o_edges)), (a_q0, .inr (2, [.int q0_persons, .int q0_ring, .int q0_highestTold, .ref a_q0_bestPlace, .ref a_q0_stepCost, .ref a_q0_kind, .ref a_q0_likings])), (a_q0_bestPlace, .inl (cI, 8, .inl q0_bestPlace)), (a_q0_stepCost, .inl (cI, 8, .inl q0_stepCost)), (a_q0_kind, .inl (cI, 8, .inl q0_kind)), (a_q0_likings, .inl (cI, 64, .inl q0_likings))] := hD
        refine lv_istore (lv' := [(6, .int u_8), (5, .int u_6), (0, .ref a_o), (1, .ref a_q0), (2, .int x2), (3, .int x3), (4, .int x4)]) hx hb dX1_drawEdges_34 hl (by decide) rfl (fun ls hl => ?_)
        refine lv_iload hx hb dX1_drawEdges_36 (lv_at hl 0 rfl) ?_
        refine lv_aload_n hx hb dX1_drawEdges_38 rfl (lv_at hl 2 rfl) ?_
        refine va_get (ci := 1) (v := .int o_persons) (C := RX1) (T := TX1) (N := 7) hx hb ht inX1 hown hK hP 0 rfl rfl 2 (by decide) (ht _ wd_1_132) (fun _ h9 => h9) rfl dX1_drawEdges_39 ?_
        obtain ⟨u_10, h_11, hf⟩ := obs hf
        refine kcSi (rest := []) (wr := [(a_o, .inr (1, [.ref a_o_rows, .ref a_o_edges, .int o_persons, .int o_size, .int o_changes, .int o_restCount, .int o_firstRest])), (a_o_rows, .inl (cI, 720, .inl o_rows)), (a_o_edges, .inl (cI, 4320, .inl o_edges)), (a_q0, .inr (2, [.int q0_persons, .int q0_ring, .int q0_highestTold, .ref a_q0_bestPlace, .ref a_q0_stepCost, .ref a_q0_kind, .ref a_q0_likings])), (a_q0_bestPlace, .inl (cI, 8, .inl q0_bestPlace)), (a_q0_stepCost, .inl (cI, 8, .inl q0_stepCost)), (a_q0_kind, .inl (cI, 8, .inl q0_kind)), (a_q0_likings, .inl (cI, 64, .inl q0_likings))]) (w2 := fun _ => [(a_o, .inr (1, [.ref a_o_rows, .ref a_o_edges, .int o_persons, .int o_size, .int o_changes, .int o_restCount, .int o_firstRest])), (a_o_rows, .inl (cI, 720, .inl o_rows)), (a_o_edges, .inl (cI, 4320, .inl o_edges)), (a_q0, .inr (2, [.int q0_persons, .int q0_ring, .int q0_highestTold, .ref a_q0_bestPlace, .ref a_q0_stepCost, .ref a_q0_kind, .ref a_q0_likings])), (a_q0_bestPlace, .inl (cI, 8, .inl q0_bestPlace)), (a_q0_stepCost, .inl (cI, 8, .inl q0_stepCost)), (a_q0_kind, .inl (cI, 8, .inl q0_kind)), (a_q0_likings, .inl (cI, 64, .inl q0_likings))]) hx hb hml hown ht (c_X4_rank l dC dI cI cJ cZ H.size u_8 o_persons u_10 h_11) (kcw 2 ht wd_3_16 wd_1_12 wd_3_14 kd_X4_rank ⟨rfl, rfl⟩ ⟨Nat.le_of_ble_eq_true rfl, Nat.le_of_ble_eq_true rfl⟩) wd_3_15 hK hP hD hS hA [] [0, 1, 2, 3, 4, 5, 6, 7] [0, 1, 2, 3, 4, 5, 6, 7] rfl rfl rfl rfl (by decide) rfl (fun _ => rfl) rfl hl.1 rfl (Nat.le_of_ble_eq_true rfl) dX1_drawEdges_42 ⟨Nat.zero_le _, Nat.zero_le _⟩ (fun _ H locs hP hD hS => ?_)
        have hP : va_P (dC, dI) vwCl [(a_o, .inr (1, [.ref a_o_rows, .ref a_o_edges, .int o_persons, .int o_size, .int o_changes, .int o_restCount, .int o_firstRest])), (a_o_rows, .inl (cI, 720, .inl o_rows)), (a_o_edges, .inl (cI, 4320, .inl o_edges)), (a_q0, .inr (2, [.int q0_persons, .int q0_ring, .int q0_highestTold, .ref a_q0_bestPlace, .ref a_q0_stepCost, .ref a_q0_kind, .ref a_q0_likings])), (a_q0_bestPlace, .inl (cI, 8, .inl q0_bestPlace)), (a_q0_stepCost, .inl (cI, 8, .inl q0_stepCost)), (a_q0_kind, .inl (cI, 8, .inl q0_kind)), (a_q0_likings, .inl (cI, 64, .inl q0_likings))] H := hP
        have hD : va_D A [(a_o, .inr (1, [.ref a_o_rows, .ref a_o_edges, .int o_persons, .int o_size, .int o_changes, .int o_restCount, .int o_firstRest])), (a_o_rows, .inl (cI, 720, .inl o_rows)), (a_o_edges, .inl (cI, 4320, .inl o_edges)), (a_q0, .inr (2, [.int q0_persons, .int q0_ring, .int q0_highestTold, .ref a_q0_bestPlace, .ref a_q0_stepCost, .ref a_q0_kind, .ref a_q0_likings])), (a_q0_bestPlace, .inl (cI, 8, .inl q0_bestPlace)), (a_q0_stepCost, .inl (cI, 8, .inl q0_stepCost)), (a_q0_kind, .inl (cI, 8, .inl q0_kind)), (a_q0_likings, .inl (cI, 64, .inl q0_likings))] := hD
        refine lv_iconst (v := (2 : Int32)) hx hb dX1_drawEdges_45 (by decide) ?_
        refine lv_ishl hx hb dX1_drawEdges_46 ?_
        refine lv_istore (lv' := [(7, .int (u_10 <<< ((2 : Int32) &&& 31))), (6, .int u_8), (5, .int u_6), (0, .ref a_o), (1, .ref a_q0), (2, .int x2), (3, .int x3), (4, .int x4)]) hx hb dX1_drawEdges_47 hl (by decide) rfl (fun ls hl => ?_)
        refine lv_aload_n hx hb dX1_drawEdges_49 rfl (lv_at hl 4 rfl) ?_
        refine lv_iload_n hx hb dX1_drawEdges_50 rfl (lv_at hl 6 rfl) ?_
        refine lv_iload hx hb dX1_drawEdges_51 (lv_at hl 1 rfl) ?_
        refine lv_iload hx hb dX1_drawEdges_53 (lv_at hl 7 rfl) ?_
        refine lv_iload hx hb dX1_drawEdges_55 (lv_at hl 2 rfl) ?_
        obtain ⟨u_12, h_13, hf⟩ := obs hf
        refine kcVi (rest := []) (wr := [(a_o, .inr (1, [.ref a_o_rows, .ref a_o_edges, .int o_persons, .int o_size, .int o_changes, .int o_restCount, .int o_firstRest])), (a_o_rows, .inl (cI, 720, .inl o_rows)), (a_o_edges, .inl (cI, 4320, .inl o_edges))]) (w2 := fun _ => [(a_o, .inr (1, [.ref a_o_rows, .ref a_o_edges, .int o_persons, .int o_size, .int o_changes, .int o_restCount, .int o_firstRest])), (a_o_rows, .inl (cI, 720, .inl o_rows)), (a_o_edges, .inl (cI, 4320, .inl o_edges)), (a_q0, .inr (2, [.int q0_persons, .int q0_ring, .int q0_highestTold, .ref a_q0_bestPlace, .ref a_q0_stepCost, .ref a_q0_kind, .ref a_q0_likings])), (a_q0_bestPlace, .inl (cI, 8, .inl q0_bestPlace)), (a_q0_stepCost, .inl (cI, 8, .inl q0_stepCost)), (a_q0_kind, .inl (cI, 8, .inl q0_kind)), (a_q0_likings, .inl (cI, 64, .inl q0_likings))]) hx hb hml hown ht (c_X2_agrees l dC dI cI cJ cZ a_q0 a_q0_bestPlace a_q0_stepCost a_q0_kind a_q0_likings H.size q0_persons q0_ring q0_highestTold q0_bestPlace q0_stepCost q0_kind q0_likings x3 u_8 x4 u_6 u_12 h_13) (kcw 4 ht wd_2_160 wd_1_3 wd_3_17 kd_X2_agrees ⟨rfl, rfl⟩ ⟨Nat.le_of_ble_eq_true rfl, Nat.le_of_ble_eq_true rfl⟩) wd_2_158 wd_2_159 hK hP hD hS hA [3, 4, 5, 6, 7] [0, 1, 2] [0, 1, 2, 3, 4, 5, 6, 7] rfl rfl rfl rfl (by decide) rfl (fun _ => rfl) (ci := 2) rfl rfl rfl rfl hl.1 rfl (Nat.le_of_ble_eq_true rfl) dX1_drawEdges_57 ⟨Nat.zero_le _, Nat.zero_le _⟩ (fun _ H locs hP hD hS => ?_)
        have hP : va_P (dC, dI) vwCl [(a_o, .inr (1, [.ref a_o_rows, .ref a_o_edges, .int o_persons, .int o_size, .int o_changes, .int o_restCount, .int o_firstRest])), (a_o_rows, .inl (cI, 720, .inl o_rows)), (a_o_edges, .inl (cI, 4320, .inl o_edges)), (a_q0, .inr (2, [.int q0_persons, .int q0_ring, .int q0_highestTold, .ref a_q0_bestPlace, .ref a_q0_stepCost, .ref a_q0_kind, .ref a_q0_likings])), (a_q0_bestPlace, .inl (cI, 8, .inl q0_bestPlace)), (a_q0_stepCost, .inl (cI, 8, .inl q0_stepCost)), (a_q0_kind, .inl (cI, 8, .inl q0_kind)), (a_q0_likings, .inl (cI, 64, .inl q0_likings))] H := hP
        have hD : va_D A [(a_o, .inr (1, [.ref a_o_rows, .ref a_o_edges, .int o_persons, .int o_size, .int o_changes, .int o_restCount, .int o_firstRest])), (a_o_rows, .inl (cI, 720, .inl o_rows)), (a_o_edges, .inl (cI, 4320, .inl o_edges)), (a_q0, .inr (2, [.int q0_persons, .int q0_ring, .int q0_highestTold, .ref a_q0_bestPlace, .ref a_q0_stepCost, .ref a_q0_kind, .ref a_q0_likings])), (a_q0_bestPlace, .inl (cI, 8, .inl q0_bestPlace)), (a_q0_stepCost, .inl (cI, 8, .inl q0_stepCost)), (a_q0_kind, .inl (cI, 8, .inl q0_kind)), (a_q0_likings, .inl (cI, 64, .inl q0_likings))] := hD
        refine lv_if_eq (tgt := 69) hx hb dX1_drawEdges_60 (by decide) (fun c_14 => ?_) (fun c_14 => ?_)
        · have hf := ifp c_14 hf
          exact B69 x2 x3 x4 u_6 u_8 (u_10 <<< ((2 : Int32) &&& 31)) o_edges H locs ls hf hP hD hS (lv_sub hl [3, 4, 5, 6, 7, 2, 1, 0] rfl)
        · have hf := ifn c_14 hf
          refine lv_iload hx hb dX1_drawEdges_63 (lv_at hl 0 rfl) ?_
          refine lv_iconst (v := (1 : Int32)) hx hb dX1_drawEdges_65 (by decide) ?_
          refine lv_ior hx hb dX1_drawEdges_66 ?_
          refine lv_istore (lv' := [(7, .int ((u_10 <<< ((2 : Int32) &&& 31)) ||| (1 : Int32))), (6, .int u_8), (5, .int u_6), (0, .ref a_o), (1, .ref a_q0), (2, .int x2), (3, .int x3), (4, .int x4)]) hx hb dX1_drawEdges_67 hl (by decide) rfl (fun ls hl => ?_)
          exact B69 x2 x3 x4 u_6 u_8 ((u_10 <<< ((2 : Int32) &&& 31)) ||| (1 : Int32)) o_edges H locs ls hf hP hD hS (lv_sub hl [3, 4, 5, 6, 7, 2, 1, 0] rfl)
  obtain ⟨H, hH⟩ : ∃ H, H = s.heap := ⟨_, rfl⟩
  obtain ⟨locs, hlo⟩ : ∃ L : List Loc, L = [] := ⟨_, rfl⟩
  rw [← hH] at hP
  have hS : va_S A s.heap H locs := by rw [hH, hlo]; exact hS
  rw [show W p l e (headSpec (kws yX1_drawEdges cX1_drawEdges 8 none) rm_X1_drawEdges).room s m args below meth c s.heap [] 0 0 Q (F0 m 0 ls []) = W p l e (headSpec (kws yX1_drawEdges cX1_drawEdges 8 none) rm_X1_drawEdges).room s m args below meth c H locs 0 0 Q (F0 m 0 ls []) from by rw [hH, hlo]]
  refine lv_aload_n hx hb dX1_drawEdges_0 rfl (lv_at hl 0 rfl) ?_
  refine va_get (ci := 1) (v := .ref a_o_rows) (C := RX1) (T := TX1) (N := 7) hx hb ht inX1 hown hK hP 0 rfl rfl 0 (by decide) (ht _ wd_1_130) (fun _ h9 => h9) rfl dX1_drawEdges_1 ?_
  refine lv_iload_n hx hb dX1_drawEdges_4 rfl (lv_at hl 2 rfl) ?_
  obtain ⟨b_15, hf⟩ := bd_some hf
  refine va_iald hx hb hK hP 1 0 rfl rfl b_15 dX1_drawEdges_5 ?_
  refine lv_istore_n (lv' := [(3, .int (o_rows x2.toNatClampNeg)), (0, .ref a_o), (1, .ref a_q0), (2, .int x2)]) hx hb dX1_drawEdges_6 rfl hl (by decide) rfl (fun ls hl => ?_)
  refine lv_iconst (v := (0 : Int32)) hx hb dX1_drawEdges_7 (by decide) ?_
  refine lv_istore (lv' := [(4, .int (0 : Int32)), (3, .int (o_rows x2.toNatClampNeg)), (0, .ref a_o), (1, .ref a_q0), (2, .int x2)]) hx hb dX1_drawEdges_8 hl (by decide) rfl (fun ls hl => ?_)
  exact L10 NF x2 (o_rows x2.toNatClampNeg) (0 : Int32) o_edges H locs ls hf hP hD hS (lv_sub hl [2, 3, 4, 1, 0] rfl)
def f_X1_draw_l77 (q0_persons : Int32) (q0_ring : Int32) (q0_bestPlace : Nat → Int32) (q0_stepCost : Nat → Int32) (q0_kind : Nat → Int32) (q0_likings : Nat → Int32) : Nat → Int32 → Int32 → Int32 → Int32 → Int32 → Int32 → (Nat → Int32) → (Nat → Int32) → Option (Int32 × Int32 × Int32 × Int32 × Int32 × (Nat → Int32) × (Nat → Int32))
  | 0, _, _, _, _, _, _, _, _ => none
  | n + 1, x3, o_persons, o_size, o_changes, o_restCount, o_firstRest, o_rows, o_edges => if o_size ≤ x3 then Option.bind (f_X1_countRests o_persons o_size o_changes o_restCount o_firstRest o_rows o_edges) (fun u_2 => some (o_persons, o_size, o_changes, u_2.1, u_2.2, o_rows, o_edges)) else Option.bind (f_X1_drawEdges x3 o_persons o_changes o_rows o_edges q0_persons q0_ring q0_bestPlace q0_stepCost q0_kind q0_likings) (fun u_4 => (f_X1_draw_l77 q0_persons q0_ring q0_bestPlace q0_stepCost q0_kind q0_likings n) (x3 + (1 : Int32)) o_persons o_size o_changes o_restCount o_firstRest o_rows u_4)
def f_X1_draw_b75 (q0_persons : Int32) (q0_ring : Int32) (q0_bestPlace : Nat → Int32) (q0_stepCost : Nat → Int32) (q0_kind : Nat → Int32) (q0_likings : Nat → Int32) (o_persons : Int32) (o_size : Int32) (o_changes : Int32) (o_restCount : Int32) (o_firstRest : Int32) (o_rows : Nat → Int32) (o_edges : Nat → Int32) : Option (Int32 × Int32 × Int32 × Int32 × Int32 × (Nat → Int32) × (Nat → Int32)) := f_X1_draw_l77 q0_persons q0_ring q0_bestPlace q0_stepCost q0_kind q0_likings NF (0 : Int32) o_persons o_size o_changes o_restCount o_firstRest o_rows o_edges
def f_X1_draw_l29 (q0_persons : Int32) (q0_ring : Int32) (q0_bestPlace : Nat → Int32) (q0_stepCost : Nat → Int32) (q0_kind : Nat → Int32) (q0_likings : Nat → Int32) : Nat → Int32 → Int32 → Int32 → Int32 → Int32 → Int32 → (Nat → Int32) → (Nat → Int32) → Option (Int32 × Int32 × Int32 × Int32 × Int32 × (Nat → Int32) × (Nat → Int32))
  | 0, _, _, _, _, _, _, _, _ => none
  | n + 1, x2, o_persons, o_size, o_changes, o_restCount, o_firstRest, o_rows, o_edges => if x2 < 0 then f_X1_draw_b75 q0_persons q0_ring q0_bestPlace q0_stepCost q0_kind q0_likings o_persons o_size o_changes o_restCount o_firstRest o_rows o_edges else if (720 : Int32) ≤ o_size then f_X1_draw_b75 q0_persons q0_ring q0_bestPlace q0_stepCost q0_kind q0_likings o_persons o_size o_changes o_restCount o_firstRest o_rows o_edges else bd o_size 720 (Option.bind (f_X4_following x2 o_persons) (fun u_9 => (f_X1_draw_l29 q0_persons q0_ring q0_bestPlace q0_stepCost q0_kind q0_likings n) u_9 o_persons (o_size + (1 : Int32)) o_changes o_restCount o_firstRest (upd o_rows o_size.toNatClampNeg x2) o_edges))
def f_X1_draw (o_persons : Int32) (o_size : Int32) (o_changes : Int32) (o_restCount : Int32) (o_firstRest : Int32) (o_rows : Nat → Int32) (o_edges : Nat → Int32) (q0_persons : Int32) (q0_ring : Int32) (q0_bestPlace : Nat → Int32) (q0_stepCost : Nat → Int32) (q0_kind : Nat → Int32) (q0_likings : Nat → Int32) : Option (Int32 × Int32 × Int32 × Int32 × Int32 × (Nat → Int32) × (Nat → Int32)) := Option.bind (f_X2_changeCount q0_persons q0_ring) (fun u_11 => Option.bind (f_X4_ordered q0_persons) (fun u_13 => f_X1_draw_l29 q0_persons q0_ring q0_bestPlace q0_stepCost q0_kind q0_likings NF u_13 q0_persons (0 : Int32) u_11 o_restCount o_firstRest o_rows o_edges))
abbrev rm_X1_draw : Room := { frames := 4, cells := 0, slots := 0, locals := 101 }
theorem kd_X1_draw : yX1_draw.cls ≠ "java/lang/invoke/MethodHandle" ∧ yX1_draw.cls ≠ "java/lang/invoke/VarHandle" ∧ (parseMethodDescriptor yX1_draw.desc).map (fun d => d.parameters.length) = some 1 := by decide +kernel
set_option maxHeartbeats 4000000 in
set_option maxRecDepth 100000 in
theorem c_X1_draw (l : Launch) (dC : Nat → ClassId) (dI : Nat → Nat → Nat) (cI cJ cZ : ClassId) (a_o a_o_rows a_o_edges a_q0 a_q0_bestPlace a_q0_stepCost a_q0_kind a_q0_likings : Nat) (sz : Nat) (o_persons : Int32) (o_size : Int32) (o_changes : Int32) (o_restCount : Int32) (o_firstRest : Int32) (o_rows : Nat → Int32) (o_edges : Nat → Int32) (q0_persons : Int32) (q0_ring : Int32) (q0_highestTold : Int32) (q0_bestPlace : Nat → Int32) (q0_stepCost : Nat → Int32) (q0_kind : Nat → Int32) (q0_likings : Nat → Int32) (res : Int32 × Int32 × Int32 × Int32 × Int32 × (Nat → Int32) × (Nat → Int32)) (hf : f_X1_draw o_persons o_size o_changes o_restCount o_firstRest o_rows o_edges q0_persons q0_ring q0_bestPlace q0_stepCost q0_kind q0_likings = some res) : kMv Unit l yX1_draw cX1_draw 4 rm_X1_draw [.ref a_o, .ref a_q0] (dC, dI) (kT cI cJ cZ) sz [(a_o, .inr (1, [.ref a_o_rows, .ref a_o_edges, .int o_persons, .int o_size, .int o_changes, .int o_restCount, .int o_firstRest])), (a_o_rows, .inl (cI, 720, .inl o_rows)), (a_o_edges, .inl (cI, 4320, .inl o_edges)), (a_q0, .inr (2, [.int q0_persons, .int q0_ring, .int q0_highestTold, .ref a_q0_bestPlace, .ref a_q0_stepCost, .ref a_q0_kind, .ref a_q0_likings])), (a_q0_bestPlace, .inl (cI, 8, .inl q0_bestPlace)), (a_q0_stepCost, .inl (cI, 8, .inl q0_stepCost)), (a_q0_kind, .inl (cI, 8, .inl q0_kind)), (a_q0_likings, .inl (cI, 64, .inl q0_likings))] (fun _ => [(a_o, .inr (1, [.ref a_o_rows, .ref a_o_edges, .int res.1, .int res.2.1, .int res.2.2.1, .int res.2.2.2.1, .int res.2.2.2.2.1])), (a_o_rows, .inl (cI, 720, .inl res.2.2.2.2.2.1)), (a_o_edges, .inl (cI, 4320, .inl res.2.2.2.2.2.2)), (a_q0, .inr (2, [.int q0_persons, .int q0_ring, .int q0_highestTold, .ref a_q0_bestPlace, .ref a_q0_stepCost, .ref a_q0_kind, .ref a_q0_likings])), (a_q0_bestPlace, .inl (cI, 8, .inl q0_bestPlace)), (a_q0_stepCost, .inl (cI, 8, .inl q0_stepCost)), (a_q0_kind, .inl (cI, 8, .inl q0_kind)), (a_q0_likings, .inl (cI, 64, .inl q0_likings))]) := by
  refine Met.ofW (cc := cX1_draw) (maxL := 4) (ret := none) (by decide) rfl ?_
  intro p e s m args below meth c s₁ B hml hv
  obtain ⟨rfl, hsz, hP, hK, hD0⟩ := hv
  have hx := B.exec
  have hb := B.bytes
  have hr := B.returns
  have ht : ∀ w ∈ lw_g, w.before ([.ref a_o, .ref a_q0] : List Value).toArray s = true := fun w h => atoms_spec (ws := kws yX1_draw cX1_draw 4 none) B.pre w (List.mem_cons_of_mem _ h)
  have hown : s.vm.findClass RX1 = some m.cls := findClass_of_methodNamed B.named
  have hlocks := B.notSynchronized
  subst hsz
  have hD := hD0.self (sz := s.heap.size)
  generalize hAe : va_A [(a_o, .inr (1, [.ref a_o_rows, .ref a_o_edges, .int o_persons, .int o_size, .int o_changes, .int o_restCount, .int o_firstRest])), (a_o_rows, .inl (cI, 720, .inl o_rows)), (a_o_edges, .inl (cI, 4320, .inl o_edges)), (a_q0, .inr (2, [.int q0_persons, .int q0_ring, .int q0_highestTold, .ref a_q0_bestPlace, .ref a_q0_stepCost, .ref a_q0_kind, .ref a_q0_likings])), (a_q0_bestPlace, .inl (cI, 8, .inl q0_bestPlace)), (a_q0_stepCost, .inl (cI, 8, .inl q0_stepCost)), (a_q0_kind, .inl (cI, 8, .inl q0_kind)), (a_q0_likings, .inl (cI, 64, .inl q0_likings))] s.heap.size = A at hD ⊢
  have hA : ∀ q : Nat, s.heap.size ≤ q → A q := fun q h => by rw [← hAe]; exact Or.inr h
  have hS : va_S A s.heap s.heap [] := va_S.rf
  have hret : ∀ (H : Heap) (locs : List Loc) (ls : Array Slot) (pc : Nat) (o0 : Int32) (o1 : Int32) (o2 : Int32) (o3 : Int32) (o4 : Int32) (o5 : Nat → Int32) (o6 : Nat → Int32), some (o0, o1, o2, o3, o4, o5, o6) = some res → decode cX1_draw pc = .ok (.return_, 1) → va_P (dC, dI) vwCl [(a_o, .inr (1, [.ref a_o_rows, .ref a_o_edges, .int o0, .int o1, .int o2, .int o3, .int o4])), (a_o_rows, .inl (cI, 720, .inl o5)), (a_o_edges, .inl (cI, 4320, .inl o6)), (a_q0, .inr (2, [.int q0_persons, .int q0_ring, .int q0_highestTold, .ref a_q0_bestPlace, .ref a_q0_stepCost, .ref a_q0_kind, .ref a_q0_likings])), (a_q0_bestPlace, .inl (cI, 8, .inl q0_bestPlace)), (a_q0_stepCost, .inl (cI, 8, .inl q0_stepCost)), (a_q0_kind, .inl (cI, 8, .inl q0_kind)), (a_q0_likings, .inl (cI, 64, .inl q0_likings))] H → va_D A [(a_o, .inr (1, [.ref a_o_rows, .ref a_o_edges, .int o0, .int o1, .int o2, .int o3, .int o4])), (a_o_rows, .inl (cI, 720, .inl o5)), (a_o_edges, .inl (cI, 4320, .inl o6)), (a_q0, .inr (2, [.int q0_persons, .int q0_ring, .int q0_highestTold, .ref a_q0_bestPlace, .ref a_q0_stepCost, .ref a_q0_kind, .ref a_q0_likings])), (a_q0_bestPlace, .inl (cI, 8, .inl q0_bestPlace)), (a_q0_stepCost, .inl (cI, 8, .inl q0_stepCost)), (a_q0_kind, .inl (cI, 8, .inl q0_kind)), (a_q0_likings, .inl (cI, 64, .inl q0_likings))] → va_S A s.heap H locs → W p l e (headSpec (kws yX1_draw cX1_draw 4 none) rm_X1_draw).room s m ([.ref a_o, .ref a_q0] : List Value).toArray below meth c H locs 0 0 (MQ below (kQv Unit (dC, dI) A (fun _ => [(a_o, .inr (1, [.ref a_o_rows, .ref a_o_edges, .int res.1, .int res.2.1, .int res.2.2.1, .int res.2.2.2.1, .int res.2.2.2.2.1])), (a_o_rows, .inl (cI, 720, .inl res.2.2.2.2.2.1)), (a_o_edges, .inl (cI, 4320, .inl res.2.2.2.2.2.2)), (a_q0, .inr (2, [.int q0_persons, .int q0_ring, .int q0_highestTold, .ref a_q0_bestPlace, .ref a_q0_stepCost, .ref a_q0_kind, .ref a_q0_likings])), (a_q0_bestPlace, .inl (cI, 8, .inl q0_bestPlace)), (a_q0_stepCost, .inl (cI, 8, .inl q0_stepCost)), (a_q0_kind, .inl (cI, 8, .inl q0_kind)), (a_q0_likings, .inl (cI, 64, .inl q0_likings))])) ([.ref a_o, .ref a_q0] : List Value).toArray s 0 0 A) (F0 m pc ls []) := by
    intro H locs ls pc o0 o1 o2 o3 o4 o5 o6 he hd hP hD hS
    obtain rfl := Option.some.inj he
    exact krv hx hb hr hlocks () hP hD hS hd
  have hl := lv_entry ([.ref a_o, .ref a_q0]) (n := 4) (Nat.le_of_ble_eq_true rfl)
  rw [lg_entry_eq]
  generalize (lg_sl ([.ref a_o, .ref a_q0]) ++ List.replicate (4 - (lg_sl ([.ref a_o, .ref a_q0])).length) Slot.unset).toArray = ls at hl ⊢
  have hl : lv_has ls 4 [(0, .ref a_o), (1, .ref a_q0)] := hl
  generalize (MQ below _ ([.ref a_o, .ref a_q0] : List Value).toArray s 0 0 A) = Q at hret ⊢
  generalize ([.ref a_o, .ref a_q0] : List Value).toArray = args at ht hret ⊢
  have hP : va_P (dC, dI) vwCl [(a_o, .inr (1, [.ref a_o_rows, .ref a_o_edges, .int o_persons, .int o_size, .int o_changes, .int o_restCount, .int o_firstRest])), (a_o_rows, .inl (cI, 720, .inl o_rows)), (a_o_edges, .inl (cI, 4320, .inl o_edges)), (a_q0, .inr (2, [.int q0_persons, .int q0_ring, .int q0_highestTold, .ref a_q0_bestPlace, .ref a_q0_stepCost, .ref a_q0_kind, .ref a_q0_likings])), (a_q0_bestPlace, .inl (cI, 8, .inl q0_bestPlace)), (a_q0_stepCost, .inl (cI, 8, .inl q0_stepCost)), (a_q0_kind, .inl (cI, 8, .inl q0_kind)), (a_q0_likings, .inl (cI, 64, .inl q0_likings))] s.heap := hP
  unfold f_X1_draw at hf
  have L77 : ∀ (n : Nat) (x3 : Int32) (o_persons : Int32) (o_size : Int32) (o_changes : Int32) (o_restCount : Int32) (o_firstRest : Int32) (o_rows : Nat → Int32) (o_edges : Nat → Int32) (H : Heap) (locs : List Loc) (ls : Array Slot), f_X1_draw_l77 q0_persons q0_ring q0_bestPlace q0_stepCost q0_kind q0_likings n x3 o_persons o_size o_changes o_restCount o_firstRest o_rows o_edges = some res → va_P (dC, dI) vwCl [(a_o, .inr (1, [.ref a_o_rows, .ref a_o_edges, .int o_persons, .int o_size, .int o_changes, .int o_restCount, .int o_firstRest])), (a_o_rows, .inl (cI, 720, .inl o_rows)), (a_o_edges, .inl (cI, 4320, .inl o_edges)), (a_q0, .inr (2, [.int q0_persons, .int q0_ring, .int q0_highestTold, .ref a_q0_bestPlace, .ref a_q0_stepCost, .ref a_q0_kind, .ref a_q0_likings])), (a_q0_bestPlace, .inl (cI, 8, .inl q0_bestPlace)), (a_q0_stepCost, .inl (cI, 8, .inl q0_stepCost)), (a_q0_kind, .inl (cI, 8, .inl q0_kind)), (a_q0_likings, .inl (cI, 64, .inl q0_likings))] H → va_D A [(a_o, .inr (1, [.ref a_o_rows, .ref a_o_edges, .int o_persons, .int o_size, .int o_changes, .int o_restCount, .int o_firstRest])), (a_o_rows, .inl (cI, 720, .inl o_rows)), (a_o_edges, .inl (cI, 4320, .inl o_edges)), (a_q0, .inr (2, [.int q0_persons, .int q0_ring, .int q0_highestTold, .ref a_q0_bestPlace, .ref a_q0_stepCost, .ref a_q0_kind, .ref a_q0_likings])), (a_q0_bestPlace, .inl (cI, 8, .inl q0_bestPlace)), (a_q0_stepCost, .inl (cI, 8, .inl q0_stepCost)), (a_q0_kind, .inl (cI, 8, .inl q0_kind)), (a_q0_likings, .inl (cI, 64, .inl q0_likings))] → va_S A s.heap H locs → lv_has ls 4 [(0, .ref a_o), (1, .ref a_q0), (3, .int x3)] → W p l e (headSpec (kws yX1_draw cX1_draw 4 none) rm_X1_draw).room s m args below meth c H locs 0 0 Q (F0 m 77 ls []) := by
    intro n
    induction n with
    | zero =>
      intro x3 o_persons o_size o_changes o_restCount o_firstRest o_rows o_edges H locs ls hf hP hD hS hl
      rw [f_X1_draw_l77.eq_1] at hf
      cases hf
    | succ n77 ih77 =>
      intro x3 o_persons o_size o_changes o_restCount o_firstRest o_rows o_edges H locs ls hf hP hD hS hl
      rw [f_X1_draw_l77.eq_2] at hf
      refine lv_iload_n hx hb dX1_draw_77 rfl (lv_at hl 2 rfl) ?_
      refine lv_aload_n hx hb dX1_draw_78 rfl (lv_at hl 0 rfl) ?_
      refine va_get (ci := 1) (v := .int o_size) (C := RX1) (T := TX1) (N := 7) hx hb ht inX1 hown hK hP 0 rfl rfl 3 (by decide) (ht _ wd_1_133) (fun _ h9 => h9) rfl dX1_draw_79 ?_
      refine lv_icmp_ge (tgt := 97) hx hb dX1_draw_82 (by decide) (fun c_1 => ?_) (fun c_1 => ?_)
      · have hf := ifp c_1 hf
        refine lv_aload_n hx hb dX1_draw_97 rfl (lv_at hl 0 rfl) ?_
        obtain ⟨u_2, h_3, hf⟩ := obs hf
        refine kcVv (rest := []) (wr := [(a_q0, .inr (2, [.int q0_persons, .int q0_ring, .int q0_highestTold, .ref a_q0_bestPlace, .ref a_q0_stepCost, .ref a_q0_kind, .ref a_q0_likings])), (a_q0_bestPlace, .inl (cI, 8, .inl q0_bestPlace)), (a_q0_stepCost, .inl (cI, 8, .inl q0_stepCost)), (a_q0_kind, .inl (cI, 8, .inl q0_kind)), (a_q0_likings, .inl (cI, 64, .inl q0_likings))]) (w2 := fun _ => [(a_o, .inr (1, [.ref a_o_rows, .ref a_o_edges, .int o_persons, .int o_size, .int o_changes, .int u_2.1, .int u_2.2])), (a_o_rows, .inl (cI, 720, .inl o_rows)), (a_o_edges, .inl (cI, 4320, .inl o_edges)), (a_q0, .inr (2, [.int q0_persons, .int q0_ring, .int q0_highestTold, .ref a_q0_bestPlace, .ref a_q0_stepCost, .ref a_q0_kind, .ref a_q0_likings])), (a_q0_bestPlace, .inl (cI, 8, .inl q0_bestPlace)), (a_q0_stepCost, .inl (cI, 8, .inl q0_stepCost)), (a_q0_kind, .inl (cI, 8, .inl q0_kind)), (a_q0_likings, .inl (cI, 64, .inl q0_likings))]) hx hb hml hown ht (c_X1_countRests l dC dI cI cJ cZ a_o a_o_rows a_o_edges H.size o_persons o_size o_changes o_restCount o_firstRest o_rows o_edges u_2 h_3) (kcw 0 ht wd_3_21 wd_1_8 wd_3_18 kd_X1_countRests ⟨rfl, rfl⟩ ⟨Nat.le_of_ble_eq_true rfl, Nat.le_of_ble_eq_true rfl⟩) wd_3_20 wd_s_8 hK hP hD hS hA [0, 1, 2] [3, 4, 5, 6, 7] [5, 6, 7, 0, 1, 2, 3, 4] rfl rfl rfl rfl (by decide) rfl (fun _ => rfl) (ci := 1) rfl rfl rfl rfl hl.1 rfl (Nat.le_of_ble_eq_true rfl) dX1_draw_98 ⟨Nat.zero_le _, Nat.zero_le _⟩ (fun _ H locs hP hD hS => ?_)
        have hP : va_P (dC, dI) vwCl [(a_o, .inr (1, [.ref a_o_rows, .ref a_o_edges, .int o_persons, .int o_size, .int o_changes, .int u_2.1, .int u_2.2])), (a_o_rows, .inl (cI, 720, .inl o_rows)), (a_o_edges, .inl (cI, 4320, .inl o_edges)), (a_q0, .inr (2, [.int q0_persons, .int q0_ring, .int q0_highestTold, .ref a_q0_bestPlace, .ref a_q0_stepCost, .ref a_q0_kind, .ref a_q0_likings])), (a_q0_bestPlace, .inl (cI, 8, .inl q0_bestPlace)), (a_q0_stepCost, .inl (cI, 8, .inl q0_stepCost)), (a_q0_kind, .inl (cI, 8, .inl q0_kind)), (a_q0_likings, .inl (cI, 64, .inl q0_likings))] H := hP
        have hD : va_D A [(a_o, .inr (1, [.ref a_o_rows, .ref a_o_edges, .int o_persons, .int o_size, .int o_changes, .int u_2.1, .int u_2.2])), (a_o_rows, .inl (cI, 720, .inl o_rows)), (a_o_edges, .inl (cI, 4320, .inl o_edges)), (a_q0, .inr (2, [.int q0_persons, .int q0_ring, .int q0_highestTold, .ref a_q0_bestPlace, .ref a_q0_stepCost, .ref a_q0_kind, .ref a_q0_likings])), (a_q0_bestPlace, .inl (cI, 8, .inl q0_bestPlace)), (a_q0_stepCost, .inl (cI, 8, .inl q0_stepCost)), (a_q0_kind, .inl (cI, 8, .inl q0_kind)), (a_q0_likings, .inl (cI, 64, .inl q0_likings))] := hD
        exact hret H locs ls 101 o_persons o_size o_changes u_2.1 u_2.2 o_rows o_edges hf dX1_draw_101 hP hD hS
      · have hf := ifn c_1 hf
        refine lv_aload_n hx hb dX1_draw_85 rfl (lv_at hl 0 rfl) ?_
        refine lv_aload_n hx hb dX1_draw_86 rfl (lv_at hl 1 rfl) ?_
        refine lv_iload_n hx hb dX1_draw_87 rfl (lv_at hl 2 rfl) ?_
        obtain ⟨u_4, h_5, hf⟩ := obs hf
        refine kcVv (rest := []) (wr := []) (w2 := fun _ => [(a_o, .inr (1, [.ref a_o_rows, .ref a_o_edges, .int o_persons, .int o_size, .int o_changes, .int o_restCount, .int o_firstRest])), (a_o_rows, .inl (cI, 720, .inl o_rows)), (a_o_edges, .inl (cI, 4320, .inl u_4)), (a_q0, .inr (2, [.int q0_persons, .int q0_ring, .int q0_highestTold, .ref a_q0_bestPlace, .ref a_q0_stepCost, .ref a_q0_kind, .ref a_q0_likings])), (a_q0_bestPlace, .inl (cI, 8, .inl q0_bestPlace)), (a_q0_stepCost, .inl (cI, 8, .inl q0_stepCost)), (a_q0_kind, .inl (cI, 8, .inl q0_kind)), (a_q0_likings, .inl (cI, 64, .inl q0_likings))]) hx hb hml hown ht (c_X1_drawEdges l dC dI cI cJ cZ a_o a_o_rows a_o_edges a_q0 a_q0_bestPlace a_q0_stepCost a_q0_kind a_q0_likings H.size o_persons o_size o_changes o_restCount o_firstRest o_rows o_edges q0_persons q0_ring q0_highestTold q0_bestPlace q0_stepCost q0_kind q0_likings x3 u_4 h_5) (kcw 2 ht wd_3_11 wd_1_8 wd_3_8 kd_X1_drawEdges ⟨rfl, rfl⟩ ⟨Nat.le_of_ble_eq_true rfl, Nat.le_of_ble_eq_true rfl⟩) wd_3_10 wd_s_7 hK hP hD hS hA [0, 1, 2, 3, 4, 5, 6, 7] [] [0, 1, 2, 3, 4, 5, 6, 7] rfl rfl rfl rfl (by decide) rfl (fun _ => rfl) (ci := 1) rfl rfl rfl rfl hl.1 rfl (Nat.le_of_ble_eq_true rfl) dX1_draw_88 ⟨Nat.zero_le _, Nat.zero_le _⟩ (fun _ H locs hP hD hS => ?_)
        have hP : va_P (dC, dI) vwCl [(a_o, .inr (1, [.ref a_o_rows, .ref a_o_edges, .int o_persons, .int o_size, .int o_changes, .int o_restCount, .int o_firstRest])), (a_o_rows, .inl (cI, 720, .inl o_rows)), (a_o_edges, .inl (cI, 4320, .inl u_4)), (a_q0, .inr (2, [.int q0_persons, .int q0_ring, .int q0_highestTold, .ref a_q0_bestPlace, .ref a_q0_stepCost, .ref a_q0_kind, .ref a_q0_likings])), (a_q0_bestPlace, .inl (cI, 8, .inl q0_bestPlace)), (a_q0_stepCost, .inl (cI, 8, .inl q0_stepCost)), (a_q0_kind, .inl (cI, 8, .inl q0_kind)), (a_q0_likings, .inl (cI, 64, .inl q0_likings))] H := hP
        have hD : va_D A [(a_o, .inr (1, [.ref a_o_rows, .ref a_o_edges, .int o_persons, .int o_size, .int o_changes, .int o_restCount, .int o_firstRest])), (a_o_rows, .inl (cI, 720, .inl o_rows)), (a_o_edges, .inl (cI, 4320, .inl u_4)), (a_q0, .inr (2, [.int q0_persons, .int q0_ring, .int q0_highestTold, .ref a_q0_bestPlace, .ref a_q0_stepCost, .ref a_q0_kind, .ref a_q0_likings])), (a_q0_bestPlace, .inl (cI, 8, .inl q0_bestPlace)), (a_q0_stepCost, .inl (cI, 8, .inl q0_stepCost)), (a_q0_kind, .inl (cI, 8, .inl q0_kind)), (a_q0_likings, .inl (cI, 64, .inl q0_likings))] := hD
        refine lv_iinc (v := (x3 + (1 : Int32))) (lv' := [(3, .int (x3 + (1 : Int32))), (0, .ref a_o), (1, .ref a_q0)]) hx hb dX1_draw_91 hl (k := 2) rfl rfl (by decide) rfl (fun ls hl => ?_)
        refine lv_goto (tgt := 77) hx hb dX1_draw_94 (by decide) ?_
        exact ih77 (x3 + (1 : Int32)) o_persons o_size o_changes o_restCount o_firstRest o_rows u_4 H locs ls hf hP hD hS (lv_sub hl [1, 2, 0] rfl)
  have B75 : ∀ (o_persons : Int32) (o_size : Int32) (o_changes : Int32) (o_restCount : Int32) (o_firstRest : Int32) (o_rows : Nat → Int32) (o_edges : Nat → Int32) (H : Heap) (locs : List Loc) (ls : Array Slot), f_X1_draw_b75 q0_persons q0_ring q0_bestPlace q0_stepCost q0_kind q0_likings o_persons o_size o_changes o_restCount o_firstRest o_rows o_edges = some res → va_P (dC, dI) vwCl [(a_o, .inr (1, [.ref a_o_rows, .ref a_o_edges, .int o_persons, .int o_size, .int o_changes, .int o_restCount, .int o_firstRest])), (a_o_rows, .inl (cI, 720, .inl o_rows)), (a_o_edges, .inl (cI, 4320, .inl o_edges)), (a_q0, .inr (2, [.int q0_persons, .int q0_ring, .int q0_highestTold, .ref a_q0_bestPlace, .ref a_q0_stepCost, .ref a_q0_kind, .ref a_q0_likings])), (a_q0_bestPlace, .inl (cI, 8, .inl q0_bestPlace)), (a_q0_stepCost, .inl (cI, 8, .inl q0_stepCost)), (a_q0_kind, .inl (cI, 8, .inl q0_kind)), (a_q0_likings, .inl (cI, 64, .inl q0_likings))] H → va_D A [(a_o, .inr (1, [.ref a_o_rows, .ref a_o_edges, .int o_persons, .int o_size, .int o_changes, .int o_restCount, .int o_firstRest])), (a_o_rows, .inl (cI, 720, .inl o_rows)), (a_o_edges, .inl (cI, 4320, .inl o_edges)), (a_q0, .inr (2, [.int q0_persons, .int q0_ring, .int q0_highestTold, .ref a_q0_bestPlace, .ref a_q0_stepCost, .ref a_q0_kind, .ref a_q0_likings])), (a_q0_bestPlace, .inl (cI, 8, .inl q0_bestPlace)), (a_q0_stepCost, .inl (cI, 8, .inl q0_stepCost)), (a_q0_kind, .inl (cI, 8, .inl q0_kind)), (a_q0_likings, .inl (cI, 64, .inl q0_likings))] → va_S A s.heap H locs → lv_has ls 4 [(0, .ref a_o), (1, .ref a_q0)] → W p l e (headSpec (kws yX1_draw cX1_draw 4 none) rm_X1_draw).room s m args below meth c H locs 0 0 Q (F0 m 75 ls []) := by
    intro o_persons o_size o_changes o_restCount o_firstRest o_rows o_edges H locs ls hf hP hD hS hl
    unfold f_X1_draw_b75 at hf
    refine lv_iconst (v := (0 : Int32)) hx hb dX1_draw_75 (by decide) ?_
    refine lv_istore_n (lv' := [(3, .int (0 : Int32)), (0, .ref a_o), (1, .ref a_q0)]) hx hb dX1_draw_76 rfl hl (by decide) rfl (fun ls hl => ?_)
    exact L77 NF (0 : Int32) o_persons o_size o_changes o_restCount o_firstRest o_rows o_edges H locs ls hf hP hD hS (lv_sub hl [1, 2, 0] rfl)
  have L29 : ∀ (n : Nat) (x2 : Int32) (o_persons : Int32) (o_size : Int32) (o_changes : Int32) (o_restCount : Int32) (o_firstRest : Int32) (o_rows : Nat → Int32) (o_edges : Nat → Int32) (H : Heap) (locs : List Loc) (ls : Array Slot), f_X1_draw_l29 q0_persons q0_ring q0_bestPlace q0_stepCost q0_kind q0_likings n x2 o_persons o_size o_changes o_restCount o_firstRest o_rows o_edges = some res → va_P (dC, dI) vwCl [(a_o, .inr (1, [.ref a_o_rows, .ref a_o_edges, .int o_persons, .int o_size, .int o_changes, .int o_restCount, .int o_firstRest])), (a_o_rows, .inl (cI, 720, .inl o_rows)), (a_o_edges, .inl (cI, 4320, .inl o_edges)), (a_q0, .inr (2, [.int q0_persons, .int q0_ring, .int q0_highestTold, .ref a_q0_bestPlace, .ref a_q0_stepCost, .ref a_q0_kind, .ref a_q0_likings])), (a_q0_bestPlace, .inl (cI, 8, .inl q0_bestPlace)), (a_q0_stepCost, .inl (cI, 8, .inl q0_stepCost)), (a_q0_kind, .inl (cI, 8, .inl q0_kind)), (a_q0_likings, .inl (cI, 64, .inl q0_likings))] H → va_D A [(a_o, .inr (1, [.ref a_o_rows, .ref a_o_edges, .int o_persons, .int o_size, .int o_changes, .int o_restCount, .int o_firstRest])), (a_o_rows, .inl (cI, 720, .inl o_rows)), (a_o_edges, .inl (cI, 4320, .inl o_edges)), (a_q0, .inr (2, [.int q0_persons, .int q0_ring, .int q0_highestTold, .ref a_q0_bestPlace, .ref a_q0_stepCost, .ref a_q0_kind, .ref a_q0_likings])), (a_q0_bestPlace, .inl (cI, 8, .inl q0_bestPlace)), (a_q0_stepCost, .inl (cI, 8, .inl q0_stepCost)), (a_q0_kind, .inl (cI, 8, .inl q0_kind)), (a_q0_likings, .inl (cI, 64, .inl q0_likings))] → va_S A s.heap H locs → lv_has ls 4 [(0, .ref a_o), (1, .ref a_q0), (2, .int x2)] → W p l e (headSpec (kws yX1_draw cX1_draw 4 none) rm_X1_draw).room s m args below meth c H locs 0 0 Q (F0 m 29 ls []) := by
    intro n
    induction n with
    | zero =>
      intro x2 o_persons o_size o_changes o_restCount o_firstRest o_rows o_edges H locs ls hf hP hD hS hl
      rw [f_X1_draw_l29.eq_1] at hf
      cases hf
    | succ n29 ih29 =>
      intro x2 o_persons o_size o_changes o_restCount o_firstRest o_rows o_edges H locs ls hf hP hD hS hl
      rw [f_X1_draw_l29.eq_2] at hf
      refine lv_iload_n hx hb dX1_draw_29 rfl (lv_at hl 2 rfl) ?_
      refine lv_if_lt (tgt := 75) hx hb dX1_draw_30 (by decide) (fun c_6 => ?_) (fun c_6 => ?_)
      · have hf := ifp c_6 hf
        exact B75 o_persons o_size o_changes o_restCount o_firstRest o_rows o_edges H locs ls hf hP hD hS (lv_sub hl [0, 1] rfl)
      · have hf := ifn c_6 hf
        refine lv_aload_n hx hb dX1_draw_33 rfl (lv_at hl 0 rfl) ?_
        refine va_get (ci := 1) (v := .int o_size) (C := RX1) (T := TX1) (N := 7) hx hb ht inX1 hown hK hP 0 rfl rfl 3 (by decide) (ht _ wd_1_133) (fun _ h9 => h9) rfl dX1_draw_34 ?_
        refine lv_sipush (v := (720 : Int32)) hx hb dX1_draw_37 (by decide) ?_
        refine lv_icmp_ge (tgt := 75) hx hb dX1_draw_40 (by decide) (fun c_7 => ?_) (fun c_7 => ?_)
        · have hf := ifp c_7 hf
          exact B75 o_persons o_size o_changes o_restCount o_firstRest o_rows o_edges H locs ls hf hP hD hS (lv_sub hl [0, 1] rfl)
        · have hf := ifn c_7 hf
          refine lv_aload_n hx hb dX1_draw_43 rfl (lv_at hl 0 rfl) ?_
          refine va_get (ci := 1) (v := .ref a_o_rows) (C := RX1) (T := TX1) (N := 7) hx hb ht inX1 hown hK hP 0 rfl rfl 0 (by decide) (ht _ wd_1_130) (fun _ h9 => h9) rfl dX1_draw_44 ?_
          refine lv_aload_n hx hb dX1_draw_47 rfl (lv_at hl 0 rfl) ?_
          refine va_get (ci := 1) (v := .int o_size) (C := RX1) (T := TX1) (N := 7) hx hb ht inX1 hown hK hP 0 rfl rfl 3 (by decide) (ht _ wd_1_133) (fun _ h9 => h9) rfl dX1_draw_48 ?_
          refine lv_iload_n hx hb dX1_draw_51 rfl (lv_at hl 2 rfl) ?_
          obtain ⟨b_8, hf⟩ := bd_some hf
          refine va_iast hx hb hK hP hD hS 1 0 rfl rfl b_8 dX1_draw_52 (fun H locs hP hD hS => ?_)
          have hP : va_P (dC, dI) vwCl [(a_o, .inr (1, [.ref a_o_rows, .ref a_o_edges, .int o_persons, .int o_size, .int o_changes, .int o_restCount, .int o_firstRest])), (a_o_rows, .inl (cI, 720, .inl (upd o_rows o_size.toNatClampNeg x2))), (a_o_edges, .inl (cI, 4320, .inl o_edges)), (a_q0, .inr (2, [.int q0_persons, .int q0_ring, .int q0_highestTold, .ref a_q0_bestPlace, .ref a_q0_stepCost, .ref a_q0_kind, .ref a_q0_likings])), (a_q0_bestPlace, .inl (cI, 8, .inl q0_bestPlace)), (a_q0_stepCost, .inl (cI, 8, .inl q0_stepCost)), (a_q0_kind, .inl (cI, 8, .inl q0_kind)), (a_q0_likings, .inl (cI, 64, .inl q0_likings))] H := hP
          have hD : va_D A [(a_o, .inr (1, [.ref a_o_rows, .ref a_o_edges, .int o_persons, .int o_size, .int o_changes, .int o_restCount, .int o_firstRest])), (a_o_rows, .inl (cI, 720, .inl (upd o_rows o_size.toNatClampNeg x2))), (a_o_edges, .inl (cI, 4320, .inl o_edges)), (a_q0, .inr (2, [.int q0_persons, .int q0_ring, .int q0_highestTold, .ref a_q0_bestPlace, .ref a_q0_stepCost, .ref a_q0_kind, .ref a_q0_likings])), (a_q0_bestPlace, .inl (cI, 8, .inl q0_bestPlace)), (a_q0_stepCost, .inl (cI, 8, .inl q0_stepCost)), (a_q0_kind, .inl (cI, 8, .inl q0_kind)), (a_q0_likings, .inl (cI, 64, .inl q0_likings))] := hD
          refine lv_aload_n hx hb dX1_draw_53 rfl (lv_at hl 0 rfl) ?_
          refine lv_dup hx hb dX1_draw_54 rfl ?_
          refine va_get (ci := 1) (v := .int o_size) (C := RX1) (T := TX1) (N := 7) hx hb ht inX1 hown hK hP 0 rfl rfl 3 (by decide) (ht _ wd_1_133) (fun _ h9 => h9) rfl dX1_draw_55 ?_
          refine lv_iconst (v := (1 : Int32)) hx hb dX1_draw_58 (by decide) ?_
          refine lv_iadd hx hb dX1_draw_59 ?_
          refine va_put (ci := 1) (v := .int (o_size + (1 : Int32))) (ty := .int) (C := RX1) (T := TX1) (N := 7) hx hb ht inX1 tyX1 tyX1_ok nmX1 hown hK hP hD hS 0 rfl rfl 3 (by decide) (ht _ wd_1_133) (fun _ h9 => h9) rfl (tyX1_ok 3 (by decide)) rfl rfl (Nat.le_of_ble_eq_true rfl) dX1_draw_60 (fun H locs hP hD hS => ?_)
          have hP : va_P (dC, dI) vwCl [(a_o, .inr (1, [.ref a_o_rows, .ref a_o_edges, .int o_persons, .int (o_size + (1 : Int32)), .int o_changes, .int o_restCount, .int o_firstRest])), (a_o_rows, .inl (cI, 720, .inl (upd o_rows o_size.toNatClampNeg x2))), (a_o_edges, .inl (cI, 4320, .inl o_edges)), (a_q0, .inr (2, [.int q0_persons, .int q0_ring, .int q0_highestTold, .ref a_q0_bestPlace, .ref a_q0_stepCost, .ref a_q0_kind, .ref a_q0_likings])), (a_q0_bestPlace, .inl (cI, 8, .inl q0_bestPlace)), (a_q0_stepCost, .inl (cI, 8, .inl q0_stepCost)), (a_q0_kind, .inl (cI, 8, .inl q0_kind)), (a_q0_likings, .inl (cI, 64, .inl q0_likings))] H := hP
          have hD : va_D A [(a_o, .inr (1, [.ref a_o_rows, .ref a_o_edges, .int o_persons, .int (o_size + (1 : Int32)), .int o_changes, .int o_restCount, .int o_firstRest])), (a_o_rows, .inl (cI, 720, .inl (upd o_rows o_size.toNatClampNeg x2))), (a_o_edges, .inl (cI, 4320, .inl o_edges)), (a_q0, .inr (2, [.int q0_persons, .int q0_ring, .int q0_highestTold, .ref a_q0_bestPlace, .ref a_q0_stepCost, .ref a_q0_kind, .ref a_q0_likings])), (a_q0_bestPlace, .inl (cI, 8, .inl q0_bestPlace)), (a_q0_stepCost, .inl (cI, 8, .inl q0_stepCost)), (a_q0_kind, .inl (cI, 8, .inl q0_kind)), (a_q0_likings, .inl (cI, 64, .inl q0_likings))] := hD
          refine lv_iload_n hx hb dX1_draw_63 rfl (lv_at hl 2 rfl) ?_
          refine lv_aload_n hx hb dX1_draw_64 rfl (lv_at hl 0 rfl) ?_
          refine va_get (ci := 1) (v := .int o_persons) (C := RX1) (T := TX1) (N := 7) hx hb ht inX1 hown hK hP 0 rfl rfl 2 (by decide) (ht _ wd_1_132) (fun _ h9 => h9) rfl dX1_draw_65 ?_
          obtain ⟨u_9, h_10, hf⟩ := obs hf
          refine kcSi (rest := []) (wr := [(a_o, .inr (1, [.ref a_o_rows, .ref a_o_edges, .int o_persons, .int (o_size + (1 : Int32)), .int o_changes, .int o_restCount, .int o_firstRest])), (a_o_rows, .inl (cI, 720, .inl (upd o_rows o_size.toNatClampNeg x2))), (a_o_edges, .inl (cI, 4320, .inl o_edges)), (a_q0, .inr (2, [.int q0_persons, .int q0_ring, .int q0_highestTold, .ref a_q0_bestPlace, .ref a_q0_stepCost, .ref a_q0_kind, .ref a_q0_likings])), (a_q0_bestPlace, .inl (cI, 8, .inl q0_bestPlace)), (a_q0_stepCost, .inl (cI, 8, .inl q0_stepCost)), (a_q0_kind, .inl (cI, 8, .inl q0_kind)), (a_q0_likings, .inl (cI, 64, .inl q0_likings))]) (w2 := fun _ => [(a_o, .inr (1, [.ref a_o_rows, .ref a_o_edges, .int o_persons, .int (o_size + (1 : Int32)), .int o_changes, .int o_restCount, .int o_firstRest])), (a_o_rows, .inl (cI, 720, .inl (upd o_rows o_size.toNatClampNeg x2))), (a_o_edges, .inl (cI, 4320, .inl o_edges)), (a_q0, .inr (2, [.int q0_persons, .int q0_ring, .int q0_highestTold, .ref a_q0_bestPlace, .ref a_q0_stepCost, .ref a_q0_kind, .ref a_q0_likings])), (a_q0_bestPlace, .inl (cI, 8, .inl q0_bestPlace)), (a_q0_stepCost, .inl (cI, 8, .inl q0_stepCost)), (a_q0_kind, .inl (cI, 8, .inl q0_kind)), (a_q0_likings, .inl (cI, 64, .inl q0_likings))]) hx hb hml hown ht (c_X4_following l dC dI cI cJ cZ H.size x2 o_persons u_9 h_10) (kcw 2 ht wd_3_6 wd_1_12 wd_3_4 kd_X4_following ⟨rfl, rfl⟩ ⟨Nat.le_of_ble_eq_true rfl, Nat.le_of_ble_eq_true rfl⟩) wd_3_5 hK hP hD hS hA [] [0, 1, 2, 3, 4, 5, 6, 7] [0, 1, 2, 3, 4, 5, 6, 7] rfl rfl rfl rfl (by decide) rfl (fun _ => rfl) rfl hl.1 rfl (Nat.le_of_ble_eq_true rfl) dX1_draw_68 ⟨Nat.zero_le _, Nat.zero_le _⟩ (fun _ H locs hP hD hS => ?_)
          have hP : va_P (dC, dI) vwCl [(a_o, .inr (1, [.ref a_o_rows, .ref a_o_edges, .int o_persons, .int (o_size + (1 : Int32)), .int o_changes, .int o_restCount, .int o_firstRest])), (a_o_rows, .inl (cI, 720, .inl (upd o_rows o_size.toNatClampNeg x2))), (a_o_edges, .inl (cI, 4320, .inl o_edges)), (a_q0, .inr (2, [.int q0_persons, .int q0_ring, .int q0_highestTold, .ref a_q0_bestPlace, .ref a_q0_stepCost, .ref a_q0_kind, .ref a_q0_likings])), (a_q0_bestPlace, .inl (cI, 8, .inl q0_bestPlace)), (a_q0_stepCost, .inl (cI, 8, .inl q0_stepCost)), (a_q0_kind, .inl (cI, 8, .inl q0_kind)), (a_q0_likings, .inl (cI, 64, .inl q0_likings))] H := hP
          have hD : va_D A [(a_o, .inr (1, [.ref a_o_rows, .ref a_o_edges, .int o_persons, .int (o_size + (1 : Int32)), .int o_changes, .int o_restCount, .int o_firstRest])), (a_o_rows, .inl (cI, 720, .inl (upd o_rows o_size.toNatClampNeg x2))), (a_o_edges, .inl (cI, 4320, .inl o_edges)), (a_q0, .inr (2, [.int q0_persons, .int q0_ring, .int q0_highestTold, .ref a_q0_bestPlace, .ref a_q0_stepCost, .ref a_q0_kind, .ref a_q0_likings])), (a_q0_bestPlace, .inl (cI, 8, .inl q0_bestPlace)), (a_q0_stepCost, .inl (cI, 8, .inl q0_stepCost)), (a_q0_kind, .inl (cI, 8, .inl q0_kind)), (a_q0_likings, .inl (cI, 64, .inl q0_likings))] := hD
          refine lv_istore_n (lv' := [(2, .int u_9), (0, .ref a_o), (1, .ref a_q0)]) hx hb dX1_draw_71 rfl hl (by decide) rfl (fun ls hl => ?_)
          refine lv_goto (tgt := 29) hx hb dX1_draw_72 (by decide) ?_
          exact ih29 u_9 o_persons (o_size + (1 : Int32)) o_changes o_restCount o_firstRest (upd o_rows o_size.toNatClampNeg x2) o_edges H locs ls hf hP hD hS (lv_sub hl [1, 2, 0] rfl)
  obtain ⟨H, hH⟩ : ∃ H, H = s.heap := ⟨_, rfl⟩
  obtain ⟨locs, hlo⟩ : ∃ L : List Loc, L = [] := ⟨_, rfl⟩
  rw [← hH] at hP
  have hS : va_S A s.heap H locs := by rw [hH, hlo]; exact hS
  rw [show W p l e (headSpec (kws yX1_draw cX1_draw 4 none) rm_X1_draw).room s m args below meth c s.heap [] 0 0 Q (F0 m 0 ls []) = W p l e (headSpec (kws yX1_draw cX1_draw 4 none) rm_X1_draw).room s m args below meth c H locs 0 0 Q (F0 m 0 ls []) from by rw [hH, hlo]]
  refine lv_aload_n hx hb dX1_draw_0 rfl (lv_at hl 0 rfl) ?_
  refine lv_aload_n hx hb dX1_draw_1 rfl (lv_at hl 1 rfl) ?_
  refine va_get (ci := 2) (v := .int q0_persons) (C := RX2) (T := TX2) (N := 7) hx hb ht inX2 hown hK hP 3 rfl rfl 0 (by decide) (ht _ wd_1_56) (fun _ h9 => h9) rfl dX1_draw_2 ?_
  refine va_put (ci := 1) (v := .int q0_persons) (ty := .int) (C := RX1) (T := TX1) (N := 7) hx hb ht inX1 tyX1 tyX1_ok nmX1 hown hK hP hD hS 0 rfl rfl 2 (by decide) (ht _ wd_1_132) (fun _ h9 => h9) rfl (tyX1_ok 2 (by decide)) rfl rfl (Nat.le_of_ble_eq_true rfl) dX1_draw_5 (fun H locs hP hD hS => ?_)
  have hP : va_P (dC, dI) vwCl [(a_o, .inr (1, [.ref a_o_rows, .ref a_o_edges, .int q0_persons, .int o_size, .int o_changes, .int o_restCount, .int o_firstRest])), (a_o_rows, .inl (cI, 720, .inl o_rows)), (a_o_edges, .inl (cI, 4320, .inl o_edges)), (a_q0, .inr (2, [.int q0_persons, .int q0_ring, .int q0_highestTold, .ref a_q0_bestPlace, .ref a_q0_stepCost, .ref a_q0_kind, .ref a_q0_likings])), (a_q0_bestPlace, .inl (cI, 8, .inl q0_bestPlace)), (a_q0_stepCost, .inl (cI, 8, .inl q0_stepCost)), (a_q0_kind, .inl (cI, 8, .inl q0_kind)), (a_q0_likings, .inl (cI, 64, .inl q0_likings))] H := hP
  have hD : va_D A [(a_o, .inr (1, [.ref a_o_rows, .ref a_o_edges, .int q0_persons, .int o_size, .int o_changes, .int o_restCount, .int o_firstRest])), (a_o_rows, .inl (cI, 720, .inl o_rows)), (a_o_edges, .inl (cI, 4320, .inl o_edges)), (a_q0, .inr (2, [.int q0_persons, .int q0_ring, .int q0_highestTold, .ref a_q0_bestPlace, .ref a_q0_stepCost, .ref a_q0_kind, .ref a_q0_likings])), (a_q0_bestPlace, .inl (cI, 8, .inl q0_bestPlace)), (a_q0_stepCost, .inl (cI, 8, .inl q0_stepCost)), (a_q0_kind, .inl (cI, 8, .inl q0_kind)), (a_q0_likings, .inl (cI, 64, .inl q0_likings))] := hD
  refine lv_aload_n hx hb dX1_draw_8 rfl (lv_at hl 0 rfl) ?_
  refine lv_aload_n hx hb dX1_draw_9 rfl (lv_at hl 1 rfl) ?_
  obtain ⟨u_11, h_12, hf⟩ := obs hf
  refine kcVi (rest := [.ref a_o]) (wr := [(a_o, .inr (1, [.ref a_o_rows, .ref a_o_edges, .int q0_persons, .int o_size, .int o_changes, .int o_restCount, .int o_firstRest])), (a_o_rows, .inl (cI, 720, .inl o_rows)), (a_o_edges, .inl (cI, 4320, .inl o_edges)), (a_q0_bestPlace, .inl (cI, 8, .inl q0_bestPlace)), (a_q0_stepCost, .inl (cI, 8, .inl q0_stepCost)), (a_q0_kind, .inl (cI, 8, .inl q0_kind)), (a_q0_likings, .inl (cI, 64, .inl q0_likings))]) (w2 := fun _ => [(a_o, .inr (1, [.ref a_o_rows, .ref a_o_edges, .int q0_persons, .int o_size, .int o_changes, .int o_restCount, .int o_firstRest])), (a_o_rows, .inl (cI, 720, .inl o_rows)), (a_o_edges, .inl (cI, 4320, .inl o_edges)), (a_q0, .inr (2, [.int q0_persons, .int q0_ring, .int q0_highestTold, .ref a_q0_bestPlace, .ref a_q0_stepCost, .ref a_q0_kind, .ref a_q0_likings])), (a_q0_bestPlace, .inl (cI, 8, .inl q0_bestPlace)), (a_q0_stepCost, .inl (cI, 8, .inl q0_stepCost)), (a_q0_kind, .inl (cI, 8, .inl q0_kind)), (a_q0_likings, .inl (cI, 64, .inl q0_likings))]) hx hb hml hown ht (c_X2_changeCount l dC dI cI cJ cZ a_q0 a_q0_bestPlace a_q0_stepCost a_q0_kind a_q0_likings H.size q0_persons q0_ring q0_highestTold u_11 h_12) (kcw 0 ht wd_2_145 wd_1_3 wd_3_2 kd_X2_changeCount ⟨rfl, rfl⟩ ⟨Nat.le_of_ble_eq_true rfl, Nat.le_of_ble_eq_true rfl⟩) wd_2_143 wd_2_144 hK hP hD hS hA [3] [0, 1, 2, 4, 5, 6, 7] [0, 1, 2, 7, 3, 4, 5, 6] rfl rfl rfl rfl (by decide) rfl (fun _ => rfl) (ci := 2) rfl rfl rfl rfl hl.1 rfl (Nat.le_of_ble_eq_true rfl) dX1_draw_10 ⟨Nat.zero_le _, Nat.zero_le _⟩ (fun _ H locs hP hD hS => ?_)
  have hP : va_P (dC, dI) vwCl [(a_o, .inr (1, [.ref a_o_rows, .ref a_o_edges, .int q0_persons, .int o_size, .int o_changes, .int o_restCount, .int o_firstRest])), (a_o_rows, .inl (cI, 720, .inl o_rows)), (a_o_edges, .inl (cI, 4320, .inl o_edges)), (a_q0, .inr (2, [.int q0_persons, .int q0_ring, .int q0_highestTold, .ref a_q0_bestPlace, .ref a_q0_stepCost, .ref a_q0_kind, .ref a_q0_likings])), (a_q0_bestPlace, .inl (cI, 8, .inl q0_bestPlace)), (a_q0_stepCost, .inl (cI, 8, .inl q0_stepCost)), (a_q0_kind, .inl (cI, 8, .inl q0_kind)), (a_q0_likings, .inl (cI, 64, .inl q0_likings))] H := hP
  have hD : va_D A [(a_o, .inr (1, [.ref a_o_rows, .ref a_o_edges, .int q0_persons, .int o_size, .int o_changes, .int o_restCount, .int o_firstRest])), (a_o_rows, .inl (cI, 720, .inl o_rows)), (a_o_edges, .inl (cI, 4320, .inl o_edges)), (a_q0, .inr (2, [.int q0_persons, .int q0_ring, .int q0_highestTold, .ref a_q0_bestPlace, .ref a_q0_stepCost, .ref a_q0_kind, .ref a_q0_likings])), (a_q0_bestPlace, .inl (cI, 8, .inl q0_bestPlace)), (a_q0_stepCost, .inl (cI, 8, .inl q0_stepCost)), (a_q0_kind, .inl (cI, 8, .inl q0_kind)), (a_q0_likings, .inl (cI, 64, .inl q0_likings))] := hD
  refine va_put (ci := 1) (v := .int u_11) (ty := .int) (C := RX1) (T := TX1) (N := 7) hx hb ht inX1 tyX1 tyX1_ok nmX1 hown hK hP hD hS 0 rfl rfl 4 (by decide) (ht _ wd_1_135) (fun _ h9 => h9) rfl (tyX1_ok 4 (by decide)) rfl rfl (Nat.le_of_ble_eq_true rfl) dX1_draw_13 (fun H locs hP hD hS => ?_)
  have hP : va_P (dC, dI) vwCl [(a_o, .inr (1, [.ref a_o_rows, .ref a_o_edges, .int q0_persons, .int o_size, .int u_11, .int o_restCount, .int o_firstRest])), (a_o_rows, .inl (cI, 720, .inl o_rows)), (a_o_edges, .inl (cI, 4320, .inl o_edges)), (a_q0, .inr (2, [.int q0_persons, .int q0_ring, .int q0_highestTold, .ref a_q0_bestPlace, .ref a_q0_stepCost, .ref a_q0_kind, .ref a_q0_likings])), (a_q0_bestPlace, .inl (cI, 8, .inl q0_bestPlace)), (a_q0_stepCost, .inl (cI, 8, .inl q0_stepCost)), (a_q0_kind, .inl (cI, 8, .inl q0_kind)), (a_q0_likings, .inl (cI, 64, .inl q0_likings))] H := hP
  have hD : va_D A [(a_o, .inr (1, [.ref a_o_rows, .ref a_o_edges, .int q0_persons, .int o_size, .int u_11, .int o_restCount, .int o_firstRest])), (a_o_rows, .inl (cI, 720, .inl o_rows)), (a_o_edges, .inl (cI, 4320, .inl o_edges)), (a_q0, .inr (2, [.int q0_persons, .int q0_ring, .int q0_highestTold, .ref a_q0_bestPlace, .ref a_q0_stepCost, .ref a_q0_kind, .ref a_q0_likings])), (a_q0_bestPlace, .inl (cI, 8, .inl q0_bestPlace)), (a_q0_stepCost, .inl (cI, 8, .inl q0_stepCost)), (a_q0_kind, .inl (cI, 8, .inl q0_kind)), (a_q0_likings, .inl (cI, 64, .inl q0_likings))] := hD
  refine lv_aload_n hx hb dX1_draw_16 rfl (lv_at hl 0 rfl) ?_
  refine lv_iconst (v := (0 : Int32)) hx hb dX1_draw_17 (by decide) ?_
  refine va_put (ci := 1) (v := .int (0 : Int32)) (ty := .int) (C := RX1) (T := TX1) (N := 7) hx hb ht inX1 tyX1 tyX1_ok nmX1 hown hK hP hD hS 0 rfl rfl 3 (by decide) (ht _ wd_1_133) (fun _ h9 => h9) rfl (tyX1_ok 3 (by decide)) rfl rfl (Nat.le_of_ble_eq_true rfl) dX1_draw_18 (fun H locs hP hD hS => ?_)
  have hP : va_P (dC, dI) vwCl [(a_o, .inr (1, [.ref a_o_rows, .ref a_o_edges, .int q0_persons, .int (0 : Int32), .int u_11, .int o_restCount, .int o_firstRest])), (a_o_rows, .inl (cI, 720, .inl o_rows)), (a_o_edges, .inl (cI, 4320, .inl o_edges)), (a_q0, .inr (2, [.int q0_persons, .int q0_ring, .int q0_highestTold, .ref a_q0_bestPlace, .ref a_q0_stepCost, .ref a_q0_kind, .ref a_q0_likings])), (a_q0_bestPlace, .inl (cI, 8, .inl q0_bestPlace)), (a_q0_stepCost, .inl (cI, 8, .inl q0_stepCost)), (a_q0_kind, .inl (cI, 8, .inl q0_kind)), (a_q0_likings, .inl (cI, 64, .inl q0_likings))] H := hP
  have hD : va_D A [(a_o, .inr (1, [.ref a_o_rows, .ref a_o_edges, .int q0_persons, .int (0 : Int32), .int u_11, .int o_restCount, .int o_firstRest])), (a_o_rows, .inl (cI, 720, .inl o_rows)), (a_o_edges, .inl (cI, 4320, .inl o_edges)), (a_q0, .inr (2, [.int q0_persons, .int q0_ring, .int q0_highestTold, .ref a_q0_bestPlace, .ref a_q0_stepCost, .ref a_q0_kind, .ref a_q0_likings])), (a_q0_bestPlace, .inl (cI, 8, .inl q0_bestPlace)), (a_q0_stepCost, .inl (cI, 8, .inl q0_stepCost)), (a_q0_kind, .inl (cI, 8, .inl q0_kind)), (a_q0_likings, .inl (cI, 64, .inl q0_likings))] := hD
  refine lv_aload_n hx hb dX1_draw_21 rfl (lv_at hl 0 rfl) ?_
  refine va_get (ci := 1) (v := .int q0_persons) (C := RX1) (T := TX1) (N := 7) hx hb ht inX1 hown hK hP 0 rfl rfl 2 (by decide) (ht _ wd_1_132) (fun _ h9 => h9) rfl dX1_draw_22 ?_
  obtain ⟨u_13, h_14, hf⟩ := obs hf
  refine kcSi (rest := []) (wr := [(a_o, .inr (1, [.ref a_o_rows, .ref a_o_edges, .int q0_persons, .int (0 : Int32), .int u_11, .int o_restCount, .int o_firstRest])), (a_o_rows, .inl (cI, 720, .inl o_rows)), (a_o_edges, .inl (cI, 4320, .inl o_edges)), (a_q0, .inr (2, [.int q0_persons, .int q0_ring, .int q0_highestTold, .ref a_q0_bestPlace, .ref a_q0_stepCost, .ref a_q0_kind, .ref a_q0_likings])), (a_q0_bestPlace, .inl (cI, 8, .inl q0_bestPlace)), (a_q0_stepCost, .inl (cI, 8, .inl q0_stepCost)), (a_q0_kind, .inl (cI, 8, .inl q0_kind)), (a_q0_likings, .inl (cI, 64, .inl q0_likings))]) (w2 := fun _ => [(a_o, .inr (1, [.ref a_o_rows, .ref a_o_edges, .int q0_persons, .int (0 : Int32), .int u_11, .int o_restCount, .int o_firstRest])), (a_o_rows, .inl (cI, 720, .inl o_rows)), (a_o_edges, .inl (cI, 4320, .inl o_edges)), (a_q0, .inr (2, [.int q0_persons, .int q0_ring, .int q0_highestTold, .ref a_q0_bestPlace, .ref a_q0_stepCost, .ref a_q0_kind, .ref a_q0_likings])), (a_q0_bestPlace, .inl (cI, 8, .inl q0_bestPlace)), (a_q0_stepCost, .inl (cI, 8, .inl q0_stepCost)), (a_q0_kind, .inl (cI, 8, .inl q0_kind)), (a_q0_likings, .inl (cI, 64, .inl q0_likings))]) hx hb hml hown ht (c_X4_ordered l dC dI cI cJ cZ H.size q0_persons u_13 h_14) (kcw 1 ht wd_1_222 wd_1_12 wd_3_3 kd_X4_ordered ⟨rfl, rfl⟩ ⟨Nat.le_of_ble_eq_true rfl, Nat.le_of_ble_eq_true rfl⟩) wd_1_221 hK hP hD hS hA [] [0, 1, 2, 3, 4, 5, 6, 7] [0, 1, 2, 3, 4, 5, 6, 7] rfl rfl rfl rfl (by decide) rfl (fun _ => rfl) rfl hl.1 rfl (Nat.le_of_ble_eq_true rfl) dX1_draw_25 ⟨Nat.zero_le _, Nat.zero_le _⟩ (fun _ H locs hP hD hS => ?_)
  have hP : va_P (dC, dI) vwCl [(a_o, .inr (1, [.ref a_o_rows, .ref a_o_edges, .int q0_persons, .int (0 : Int32), .int u_11, .int o_restCount, .int o_firstRest])), (a_o_rows, .inl (cI, 720, .inl o_rows)), (a_o_edges, .inl (cI, 4320, .inl o_edges)), (a_q0, .inr (2, [.int q0_persons, .int q0_ring, .int q0_highestTold, .ref a_q0_bestPlace, .ref a_q0_stepCost, .ref a_q0_kind, .ref a_q0_likings])), (a_q0_bestPlace, .inl (cI, 8, .inl q0_bestPlace)), (a_q0_stepCost, .inl (cI, 8, .inl q0_stepCost)), (a_q0_kind, .inl (cI, 8, .inl q0_kind)), (a_q0_likings, .inl (cI, 64, .inl q0_likings))] H := hP
  have hD : va_D A [(a_o, .inr (1, [.ref a_o_rows, .ref a_o_edges, .int q0_persons, .int (0 : Int32), .int u_11, .int o_restCount, .int o_firstRest])), (a_o_rows, .inl (cI, 720, .inl o_rows)), (a_o_edges, .inl (cI, 4320, .inl o_edges)), (a_q0, .inr (2, [.int q0_persons, .int q0_ring, .int q0_highestTold, .ref a_q0_bestPlace, .ref a_q0_stepCost, .ref a_q0_kind, .ref a_q0_likings])), (a_q0_bestPlace, .inl (cI, 8, .inl q0_bestPlace)), (a_q0_stepCost, .inl (cI, 8, .inl q0_stepCost)), (a_q0_kind, .inl (cI, 8, .inl q0_kind)), (a_q0_likings, .inl (cI, 64, .inl q0_likings))] := hD
  refine lv_istore_n (lv' := [(2, .int u_13), (0, .ref a_o), (1, .ref a_q0)]) hx hb dX1_draw_28 rfl hl (by decide) rfl (fun ls hl => ?_)
  exact L29 NF u_13 q0_persons (0 : Int32) u_11 o_restCount o_firstRest o_rows o_edges H locs ls hf hP hD hS (lv_sub hl [1, 2, 0] rfl)
def f_X5_reach (x1 : Int32) (x2 : Int32) (x3 : Int32) (o_reached : Int32) (o_queue : Nat → Int32) (o_steps : Nat → Int32) (o_firsts : Nat → Int32) : Option (Int32 × (Nat → Int32) × (Nat → Int32) × (Nat → Int32)) := if x1 < 0 then some (o_reached, o_queue, o_steps, o_firsts) else if (720 : Int32) ≤ x1 then some (o_reached, o_queue, o_steps, o_firsts) else bd x1 720 (if 0 ≤ (o_steps x1.toNatClampNeg) then some (o_reached, o_queue, o_steps, o_firsts) else if (720 : Int32) ≤ o_reached then some (o_reached, o_queue, o_steps, o_firsts) else bd x1 720 (bd x1 720 (bd o_reached 720 (some ((o_reached + (1 : Int32)), (upd o_queue o_reached.toNatClampNeg x1), (upd o_steps x1.toNatClampNeg x2), (upd o_firsts x1.toNatClampNeg x3))))))
abbrev rm_X5_reach : Room := { frames := 0, cells := 0, slots := 0, locals := 0 }
theorem kd_X5_reach : yX5_reach.cls ≠ "java/lang/invoke/MethodHandle" ∧ yX5_reach.cls ≠ "java/lang/invoke/VarHandle" ∧ (parseMethodDescriptor yX5_reach.desc).map (fun d => d.parameters.length) = some 3 := by decide +kernel
set_option maxHeartbeats 4000000 in
set_option maxRecDepth 100000 in
theorem c_X5_reach (l : Launch) (dC : Nat → ClassId) (dI : Nat → Nat → Nat) (cI cJ cZ : ClassId) (a_o a_o_queue a_o_steps a_o_firsts a_o_waysIn : Nat) (sz : Nat) (o_reached : Int32) (o_queue : Nat → Int32) (o_steps : Nat → Int32) (o_firsts : Nat → Int32) (x1 : Int32) (x2 : Int32) (x3 : Int32) (res : Int32 × (Nat → Int32) × (Nat → Int32) × (Nat → Int32)) (hf : f_X5_reach x1 x2 x3 o_reached o_queue o_steps o_firsts = some res) : kMv Unit l yX5_reach cX5_reach 4 rm_X5_reach [.ref a_o, .int x1, .int x2, .int x3] (dC, dI) (kT cI cJ cZ) sz [(a_o, .inr (4, [.ref a_o_queue, .ref a_o_steps, .ref a_o_firsts, .ref a_o_waysIn, .int o_reached])), (a_o_queue, .inl (cI, 720, .inl o_queue)), (a_o_steps, .inl (cI, 720, .inl o_steps)), (a_o_firsts, .inl (cI, 720, .inl o_firsts))] (fun _ => [(a_o, .inr (4, [.ref a_o_queue, .ref a_o_steps, .ref a_o_firsts, .ref a_o_waysIn, .int res.1])), (a_o_queue, .inl (cI, 720, .inl res.2.1)), (a_o_steps, .inl (cI, 720, .inl res.2.2.1)), (a_o_firsts, .inl (cI, 720, .inl res.2.2.2))]) := by
  refine Met.ofW (cc := cX5_reach) (maxL := 4) (ret := none) (by decide) rfl ?_
  intro p e s m args below meth c s₁ B hml hv
  obtain ⟨rfl, hsz, hP, hK, hD0⟩ := hv
  have hx := B.exec
  have hb := B.bytes
  have hr := B.returns
  have ht : ∀ w ∈ lw_g, w.before ([.ref a_o, .int x1, .int x2, .int x3] : List Value).toArray s = true := fun w h => atoms_spec (ws := kws yX5_reach cX5_reach 4 none) B.pre w (List.mem_cons_of_mem _ h)
  have hown : s.vm.findClass RX5 = some m.cls := findClass_of_methodNamed B.named
  have hlocks := B.notSynchronized
  subst hsz
  have hD := hD0.self (sz := s.heap.size)
  generalize hAe : va_A [(a_o, .inr (4, [.ref a_o_queue, .ref a_o_steps, .ref a_o_firsts, .ref a_o_waysIn, .int o_reached])), (a_o_queue, .inl (cI, 720, .inl o_queue)), (a_o_steps, .inl (cI, 720, .inl o_steps)), (a_o_firsts, .inl (cI, 720, .inl o_firsts))] s.heap.size = A at hD ⊢
  have hA : ∀ q : Nat, s.heap.size ≤ q → A q := fun q h => by rw [← hAe]; exact Or.inr h
  have hS : va_S A s.heap s.heap [] := va_S.rf
  have hret : ∀ (H : Heap) (locs : List Loc) (ls : Array Slot) (pc : Nat) (o0 : Int32) (o1 : Nat → Int32) (o2 : Nat → Int32) (o3 : Nat → Int32), some (o0, o1, o2, o3) = some res → decode cX5_reach pc = .ok (.return_, 1) → va_P (dC, dI) vwCl [(a_o, .inr (4, [.ref a_o_queue, .ref a_o_steps, .ref a_o_firsts, .ref a_o_waysIn, .int o0])), (a_o_queue, .inl (cI, 720, .inl o1)), (a_o_steps, .inl (cI, 720, .inl o2)), (a_o_firsts, .inl (cI, 720, .inl o3))] H → va_D A [(a_o, .inr (4, [.ref a_o_queue, .ref a_o_steps, .ref a_o_firsts, .ref a_o_waysIn, .int o0])), (a_o_queue, .inl (cI, 720, .inl o1)), (a_o_steps, .inl (cI, 720, .inl o2)), (a_o_firsts, .inl (cI, 720, .inl o3))] → va_S A s.heap H locs → W p l e (headSpec (kws yX5_reach cX5_reach 4 none) rm_X5_reach).room s m ([.ref a_o, .int x1, .int x2, .int x3] : List Value).toArray below meth c H locs 0 0 (MQ below (kQv Unit (dC, dI) A (fun _ => [(a_o, .inr (4, [.ref a_o_queue, .ref a_o_steps, .ref a_o_firsts, .ref a_o_waysIn, .int res.1])), (a_o_queue, .inl (cI, 720, .inl res.2.1)), (a_o_steps, .inl (cI, 720, .inl res.2.2.1)), (a_o_firsts, .inl (cI, 720, .inl res.2.2.2))])) ([.ref a_o, .int x1, .int x2, .int x3] : List Value).toArray s 0 0 A) (F0 m pc ls []) := by
    intro H locs ls pc o0 o1 o2 o3 he hd hP hD hS
    obtain rfl := Option.some.inj he
    exact krv hx hb hr hlocks () hP hD hS hd
  have hl := lv_entry ([.ref a_o, .int x1, .int x2, .int x3]) (n := 4) (Nat.le_of_ble_eq_true rfl)
  rw [lg_entry_eq]
  generalize (lg_sl ([.ref a_o, .int x1, .int x2, .int x3]) ++ List.replicate (4 - (lg_sl ([.ref a_o, .int x1, .int x2, .int x3])).length) Slot.unset).toArray = ls at hl ⊢
  have hl : lv_has ls 4 [(0, .ref a_o), (1, .int x1), (2, .int x2), (3, .int x3)] := hl
  generalize (MQ below _ ([.ref a_o, .int x1, .int x2, .int x3] : List Value).toArray s 0 0 A) = Q at hret ⊢
  generalize ([.ref a_o, .int x1, .int x2, .int x3] : List Value).toArray = args at ht hret ⊢
  have hP : va_P (dC, dI) vwCl [(a_o, .inr (4, [.ref a_o_queue, .ref a_o_steps, .ref a_o_firsts, .ref a_o_waysIn, .int o_reached])), (a_o_queue, .inl (cI, 720, .inl o_queue)), (a_o_steps, .inl (cI, 720, .inl o_steps)), (a_o_firsts, .inl (cI, 720, .inl o_firsts))] s.heap := hP
  unfold f_X5_reach at hf
  obtain ⟨H, hH⟩ : ∃ H, H = s.heap := ⟨_, rfl⟩
  obtain ⟨locs, hlo⟩ : ∃ L : List Loc, L = [] := ⟨_, rfl⟩
  rw [← hH] at hP
  have hS : va_S A s.heap H locs := by rw [hH, hlo]; exact hS
  rw [show W p l e (headSpec (kws yX5_reach cX5_reach 4 none) rm_X5_reach).room s m args below meth c s.heap [] 0 0 Q (F0 m 0 ls []) = W p l e (headSpec (kws yX5_reach cX5_reach 4 none) rm_X5_reach).room s m args below meth c H locs 0 0 Q (F0 m 0 ls []) from by rw [hH, hlo]]
  refine lv_iload_n hx hb dX5_reach_0 rfl (lv_at hl 1 rfl) ?_
  refine lv_if_lt (tgt := 64) hx hb dX5_reach_1 (by decide) (fun c_1 => ?_) (fun c_1 => ?_)
  · have hf := ifp c_1 hf
    exact hret H locs ls 64 o_reached o_queue o_steps o_firsts hf dX5_reach_64 hP hD hS
  · have hf := ifn c_1 hf
    refine lv_iload_n hx hb dX5_reach_4 rfl (lv_at hl 1 rfl) ?_
    refine lv_sipush (v := (720 : Int32)) hx hb dX5_reach_5 (by decide) ?_
    refine lv_icmp_ge (tgt := 64) hx hb dX5_reach_8 (by decide) (fun c_2 => ?_) (fun c_2 => ?_)
    · have hf := ifp c_2 hf
      exact hret H locs ls 64 o_reached o_queue o_steps o_firsts hf dX5_reach_64 hP hD hS
    · have hf := ifn c_2 hf
      refine lv_aload_n hx hb dX5_reach_11 rfl (lv_at hl 0 rfl) ?_
      refine va_get (ci := 4) (v := .ref a_o_steps) (C := RX5) (T := TX5) (N := 5) hx hb ht inX5 hown hK hP 0 rfl rfl 1 (by decide) (ht _ wd_1_164) (fun _ h9 => h9) rfl dX5_reach_12 ?_
      refine lv_iload_n hx hb dX5_reach_15 rfl (lv_at hl 1 rfl) ?_
      obtain ⟨b_3, hf⟩ := bd_some hf
      refine va_iald hx hb hK hP 2 0 rfl rfl b_3 dX5_reach_16 ?_
      refine lv_if_ge (tgt := 64) hx hb dX5_reach_17 (by decide) (fun c_4 => ?_) (fun c_4 => ?_)
      · have hf := ifp c_4 hf
        exact hret H locs ls 64 o_reached o_queue o_steps o_firsts hf dX5_reach_64 hP hD hS
      · have hf := ifn c_4 hf
        refine lv_aload_n hx hb dX5_reach_20 rfl (lv_at hl 0 rfl) ?_
        refine va_get (ci := 4) (v := .int o_reached) (C := RX5) (T := TX5) (N := 5) hx hb ht inX5 hown hK hP 0 rfl rfl 4 (by decide) (ht _ wd_1_167) (fun _ h9 => h9) rfl dX5_reach_21 ?_
        refine lv_sipush (v := (720 : Int32)) hx hb dX5_reach_24 (by decide) ?_
        refine lv_icmp_ge (tgt := 64) hx hb dX5_reach_27 (by decide) (fun c_5 => ?_) (fun c_5 => ?_)
        · have hf := ifp c_5 hf
          exact hret H locs ls 64 o_reached o_queue o_steps o_firsts hf dX5_reach_64 hP hD hS
        · have hf := ifn c_5 hf
          refine lv_aload_n hx hb dX5_reach_30 rfl (lv_at hl 0 rfl) ?_
          refine va_get (ci := 4) (v := .ref a_o_steps) (C := RX5) (T := TX5) (N := 5) hx hb ht inX5 hown hK hP 0 rfl rfl 1 (by decide) (ht _ wd_1_164) (fun _ h9 => h9) rfl dX5_reach_31 ?_
          refine lv_iload_n hx hb dX5_reach_34 rfl (lv_at hl 1 rfl) ?_
          refine lv_iload_n hx hb dX5_reach_35 rfl (lv_at hl 2 rfl) ?_
          obtain ⟨b_6, hf⟩ := bd_some hf
          refine va_iast hx hb hK hP hD hS 2 0 rfl rfl b_6 dX5_reach_36 (fun H locs hP hD hS => ?_)
          have hP : va_P (dC, dI) vwCl [(a_o, .inr (4, [.ref a_o_queue, .ref a_o_steps, .ref a_o_firsts, .ref a_o_waysIn, .int o_reached])), (a_o_queue, .inl (cI, 720, .inl o_queue)), (a_o_steps, .inl (cI, 720, .inl (upd o_steps x1.toNatClampNeg x2))), (a_o_firsts, .inl (cI, 720, .inl o_firsts))] H := hP
          have hD : va_D A [(a_o, .inr (4, [.ref a_o_queue, .ref a_o_steps, .ref a_o_firsts, .ref a_o_waysIn, .int o_reached])), (a_o_queue, .inl (cI, 720, .inl o_queue)), (a_o_steps, .inl (cI, 720, .inl (upd o_steps x1.toNatClampNeg x2))), (a_o_firsts, .inl (cI, 720, .inl o_firsts))] := hD
          refine lv_aload_n hx hb dX5_reach_37 rfl (lv_at hl 0 rfl) ?_
          refine va_get (ci := 4) (v := .ref a_o_firsts) (C := RX5) (T := TX5) (N := 5) hx hb ht inX5 hown hK hP 0 rfl rfl 2 (by decide) (ht _ wd_1_165) (fun _ h9 => h9) rfl dX5_reach_38 ?_
          refine lv_iload_n hx hb dX5_reach_41 rfl (lv_at hl 1 rfl) ?_
          refine lv_iload_n hx hb dX5_reach_42 rfl (lv_at hl 3 rfl) ?_
          obtain ⟨b_7, hf⟩ := bd_some hf
          refine va_iast hx hb hK hP hD hS 3 0 rfl rfl b_7 dX5_reach_43 (fun H locs hP hD hS => ?_)
          have hP : va_P (dC, dI) vwCl [(a_o, .inr (4, [.ref a_o_queue, .ref a_o_steps, .ref a_o_firsts, .ref a_o_waysIn, .int o_reached])), (a_o_queue, .inl (cI, 720, .inl o_queue)), (a_o_steps, .inl (cI, 720, .inl (upd o_steps x1.toNatClampNeg x2))), (a_o_firsts, .inl (cI, 720, .inl (upd o_firsts x1.toNatClampNeg x3)))] H := hP
          have hD : va_D A [(a_o, .inr (4, [.ref a_o_queue, .ref a_o_steps, .ref a_o_firsts, .ref a_o_waysIn, .int o_reached])), (a_o_queue, .inl (cI, 720, .inl o_queue)), (a_o_steps, .inl (cI, 720, .inl (upd o_steps x1.toNatClampNeg x2))), (a_o_firsts, .inl (cI, 720, .inl (upd o_firsts x1.toNatClampNeg x3)))] := hD
          refine lv_aload_n hx hb dX5_reach_44 rfl (lv_at hl 0 rfl) ?_
          refine va_get (ci := 4) (v := .ref a_o_queue) (C := RX5) (T := TX5) (N := 5) hx hb ht inX5 hown hK hP 0 rfl rfl 0 (by decide) (ht _ wd_1_163) (fun _ h9 => h9) rfl dX5_reach_45 ?_
          refine lv_aload_n hx hb dX5_reach_48 rfl (lv_at hl 0 rfl) ?_
          refine va_get (ci := 4) (v := .int o_reached) (C := RX5) (T := TX5) (N := 5) hx hb ht inX5 hown hK hP 0 rfl rfl 4 (by decide) (ht _ wd_1_167) (fun _ h9 => h9) rfl dX5_reach_49 ?_
          refine lv_iload_n hx hb dX5_reach_52 rfl (lv_at hl 1 rfl) ?_
          obtain ⟨b_8, hf⟩ := bd_some hf
          refine va_iast hx hb hK hP hD hS 1 0 rfl rfl b_8 dX5_reach_53 (fun H locs hP hD hS => ?_)
          have hP : va_P (dC, dI) vwCl [(a_o, .inr (4, [.ref a_o_queue, .ref a_o_steps, .ref a_o_firsts, .ref a_o_waysIn, .int o_reached])), (a_o_queue, .inl (cI, 720, .inl (upd o_queue o_reached.toNatClampNeg x1))), (a_o_steps, .inl (cI, 720, .inl (upd o_steps x1.toNatClampNeg x2))), (a_o_firsts, .inl (cI, 720, .inl (upd o_firsts x1.toNatClampNeg x3)))] H := hP
          have hD : va_D A [(a_o, .inr (4, [.ref a_o_queue, .ref a_o_steps, .ref a_o_firsts, .ref a_o_waysIn, .int o_reached])), (a_o_queue, .inl (cI, 720, .inl (upd o_queue o_reached.toNatClampNeg x1))), (a_o_steps, .inl (cI, 720, .inl (upd o_steps x1.toNatClampNeg x2))), (a_o_firsts, .inl (cI, 720, .inl (upd o_firsts x1.toNatClampNeg x3)))] := hD
          refine lv_aload_n hx hb dX5_reach_54 rfl (lv_at hl 0 rfl) ?_
          refine lv_dup hx hb dX5_reach_55 rfl ?_
          refine va_get (ci := 4) (v := .int o_reached) (C := RX5) (T := TX5) (N := 5) hx hb ht inX5 hown hK hP 0 rfl rfl 4 (by decide) (ht _ wd_1_167) (fun _ h9 => h9) rfl dX5_reach_56 ?_
          refine lv_iconst (v := (1 : Int32)) hx hb dX5_reach_59 (by decide) ?_
          refine lv_iadd hx hb dX5_reach_60 ?_
          refine va_put (ci := 4) (v := .int (o_reached + (1 : Int32))) (ty := .int) (C := RX5) (T := TX5) (N := 5) hx hb ht inX5 tyX5 tyX5_ok nmX5 hown hK hP hD hS 0 rfl rfl 4 (by decide) (ht _ wd_1_167) (fun _ h9 => h9) rfl (tyX5_ok 4 (by decide)) rfl rfl (Nat.le_of_ble_eq_true rfl) dX5_reach_61 (fun H locs hP hD hS => ?_)
          have hP : va_P (dC, dI) vwCl [(a_o, .inr (4, [.ref a_o_queue, .ref a_o_steps, .ref a_o_firsts, .ref a_o_waysIn, .int (o_reached + (1 : Int32))])), (a_o_queue, .inl (cI, 720, .inl (upd o_queue o_reached.toNatClampNeg x1))), (a_o_steps, .inl (cI, 720, .inl (upd o_steps x1.toNatClampNeg x2))), (a_o_firsts, .inl (cI, 720, .inl (upd o_firsts x1.toNatClampNeg x3)))] H := hP
          have hD : va_D A [(a_o, .inr (4, [.ref a_o_queue, .ref a_o_steps, .ref a_o_firsts, .ref a_o_waysIn, .int (o_reached + (1 : Int32))])), (a_o_queue, .inl (cI, 720, .inl (upd o_queue o_reached.toNatClampNeg x1))), (a_o_steps, .inl (cI, 720, .inl (upd o_steps x1.toNatClampNeg x2))), (a_o_firsts, .inl (cI, 720, .inl (upd o_firsts x1.toNatClampNeg x3)))] := hD
          exact hret H locs ls 64 (o_reached + (1 : Int32)) (upd o_queue o_reached.toNatClampNeg x1) (upd o_steps x1.toNatClampNeg x2) (upd o_firsts x1.toNatClampNeg x3) hf dX5_reach_64 hP hD hS
def f_X5_spread_b97 (q0_persons : Int32) (q0_size : Int32) (q0_changes : Int32) (q0_rows : Nat → Int32) (q0_edges : Nat → Int32) (K23 : Int32 → Int32 → Int32 → (Nat → Int32) → (Nat → Int32) → (Nat → Int32) → Option (Int32 × (Nat → Int32) × (Nat → Int32) × (Nat → Int32))) (K52 : Int32 → Int32 → Int32 → Int32 → Int32 → (Nat → Int32) → (Nat → Int32) → (Nat → Int32) → Option (Int32 × (Nat → Int32) × (Nat → Int32) × (Nat → Int32))) (x3 : Int32) (x4 : Int32) (x5 : Int32) (x6 : Int32) (t0 : Int32) (t1 : Int32) (t2 : Int32) (o_reached : Int32) (o_queue : Nat → Int32) (o_steps : Nat → Int32) (o_firsts : Nat → Int32) : Option (Int32 × (Nat → Int32) × (Nat → Int32) × (Nat → Int32)) := Option.bind (f_X5_reach t2 t1 t0 o_reached o_queue o_steps o_firsts) (fun u_1 => K52 x3 x4 x5 (x6 + (1 : Int32)) u_1.1 u_1.2.1 u_1.2.2.1 u_1.2.2.2)
def f_X5_spread_l52 (q0_persons : Int32) (q0_size : Int32) (q0_changes : Int32) (q0_rows : Nat → Int32) (q0_edges : Nat → Int32) (K23 : Int32 → Int32 → Int32 → (Nat → Int32) → (Nat → Int32) → (Nat → Int32) → Option (Int32 × (Nat → Int32) × (Nat → Int32) × (Nat → Int32))) : Nat → Int32 → Int32 → Int32 → Int32 → Int32 → (Nat → Int32) → (Nat → Int32) → (Nat → Int32) → Option (Int32 × (Nat → Int32) × (Nat → Int32) × (Nat → Int32))
  | 0, _, _, _, _, _, _, _, _ => none
  | n + 1, x3, x4, x5, x6, o_reached, o_queue, o_steps, o_firsts => if q0_changes ≤ x6 then K23 x3 (x4 + (1 : Int32)) o_reached o_queue o_steps o_firsts else Option.bind (f_X1_leadsTo x5 x6 x3 q0_persons q0_size q0_changes q0_rows q0_edges) (fun u_4 => bd x5 720 (if x4 = 0 then f_X5_spread_b97 q0_persons q0_size q0_changes q0_rows q0_edges K23 (f_X5_spread_l52 q0_persons q0_size q0_changes q0_rows q0_edges K23 n) x3 x4 x5 x6 x6 ((o_steps x5.toNatClampNeg) + (1 : Int32)) u_4 o_reached o_queue o_steps o_firsts else bd x5 720 (f_X5_spread_b97 q0_persons q0_size q0_changes q0_rows q0_edges K23 (f_X5_spread_l52 q0_persons q0_size q0_changes q0_rows q0_edges K23 n) x3 x4 x5 x6 (o_firsts x5.toNatClampNeg) ((o_steps x5.toNatClampNeg) + (1 : Int32)) u_4 o_reached o_queue o_steps o_firsts)))
def f_X5_spread_l23 (q0_persons : Int32) (q0_size : Int32) (q0_changes : Int32) (q0_rows : Nat → Int32) (q0_edges : Nat → Int32) : Nat → Int32 → Int32 → Int32 → (Nat → Int32) → (Nat → Int32) → (Nat → Int32) → Option (Int32 × (Nat → Int32) × (Nat → Int32) × (Nat → Int32))
  | 0, _, _, _, _, _, _ => none
  | n + 1, x3, x4, o_reached, o_queue, o_steps, o_firsts => if o_reached ≤ x4 then some (o_reached, o_queue, o_steps, o_firsts) else if (720 : Int32) ≤ x4 then some (o_reached, o_queue, o_steps, o_firsts) else bd x4 720 (f_X5_spread_l52 q0_persons q0_size q0_changes q0_rows q0_edges (f_X5_spread_l23 q0_persons q0_size q0_changes q0_rows q0_edges n) NF x3 x4 (o_queue x4.toNatClampNeg) (0 : Int32) o_reached o_queue o_steps o_firsts)
def f_X5_spread (x2 : Int32) (x3 : Int32) (o_reached : Int32) (o_queue : Nat → Int32) (o_steps : Nat → Int32) (o_firsts : Nat → Int32) (q0_persons : Int32) (q0_size : Int32) (q0_changes : Int32) (q0_rows : Nat → Int32) (q0_edges : Nat → Int32) : Option (Int32 × (Nat → Int32) × (Nat → Int32) × (Nat → Int32)) := Option.bind (f_J7_fill_53178 (-1 : Int32) 720 o_steps) (fun u_12 => Option.bind (f_X5_reach x2 (0 : Int32) (0 : Int32) (0 : Int32) o_queue u_12 o_firsts) (fun u_14 => f_X5_spread_l23 q0_persons q0_size q0_changes q0_rows q0_edges NF x3 (0 : Int32) u_14.1 u_14.2.1 u_14.2.2.1 u_14.2.2.2))
abbrev rm_X5_spread : Room := { frames := 2, cells := 0, slots := 0, locals := 47 }
theorem kd_X5_spread : yX5_spread.cls ≠ "java/lang/invoke/MethodHandle" ∧ yX5_spread.cls ≠ "java/lang/invoke/VarHandle" ∧ (parseMethodDescriptor yX5_spread.desc).map (fun d => d.parameters.length) = some 3 := by decide +kernel
set_option maxHeartbeats 4000000 in
set_option maxRecDepth 100000 in
theorem c_X5_spread (l : Launch) (dC : Nat → ClassId) (dI : Nat → Nat → Nat) (cI cJ cZ : ClassId) (a_o a_o_queue a_o_steps a_o_firsts a_o_waysIn a_q0 a_q0_rows a_q0_edges : Nat) (sz : Nat) (o_reached : Int32) (o_queue : Nat → Int32) (o_steps : Nat → Int32) (o_firsts : Nat → Int32) (q0_persons : Int32) (q0_size : Int32) (q0_changes : Int32) (q0_restCount : Int32) (q0_firstRest : Int32) (q0_rows : Nat → Int32) (q0_edges : Nat → Int32) (x2 : Int32) (x3 : Int32) (res : Int32 × (Nat → Int32) × (Nat → Int32) × (Nat → Int32)) (hf : f_X5_spread x2 x3 o_reached o_queue o_steps o_firsts q0_persons q0_size q0_changes q0_rows q0_edges = some res) : kMv Unit l yX5_spread cX5_spread 7 rm_X5_spread [.ref a_o, .ref a_q0, .int x2, .int x3] (dC, dI) (kT cI cJ cZ) sz [(a_o, .inr (4, [.ref a_o_queue, .ref a_o_steps, .ref a_o_firsts, .ref a_o_waysIn, .int o_reached])), (a_o_queue, .inl (cI, 720, .inl o_queue)), (a_o_steps, .inl (cI, 720, .inl o_steps)), (a_o_firsts, .inl (cI, 720, .inl o_firsts)), (a_q0, .inr (1, [.ref a_q0_rows, .ref a_q0_edges, .int q0_persons, .int q0_size, .int q0_changes, .int q0_restCount, .int q0_firstRest])), (a_q0_rows, .inl (cI, 720, .inl q0_rows)), (a_q0_edges, .inl (cI, 4320, .inl q0_edges))] (fun _ => [(a_o, .inr (4, [.ref a_o_queue, .ref a_o_steps, .ref a_o_firsts, .ref a_o_waysIn, .int res.1])), (a_o_queue, .inl (cI, 720, .inl res.2.1)), (a_o_steps, .inl (cI, 720, .inl res.2.2.1)), (a_o_firsts, .inl (cI, 720, .inl res.2.2.2)), (a_q0, .inr (1, [.ref a_q0_rows, .ref a_q0_edges, .int q0_persons, .int q0_size, .int q0_changes, .int q0_restCount, .int q0_firstRest])), (a_q0_rows, .inl (cI, 720, .inl q0_rows)), (a_q0_edges, .inl (cI, 4320, .inl q0_edges))]) := by
  refine Met.ofW (cc := cX5_spread) (maxL := 7) (ret := none) (by decide) rfl ?_
  intro p e s m args below meth c s₁ B hml hv
  obtain ⟨rfl, hsz, hP, hK, hD0⟩ := hv
  have hx := B.exec
  have hb := B.bytes
  have hr := B.returns
  have ht : ∀ w ∈ lw_g, w.before ([.ref a_o, .ref a_q0, .int x2, .int x3] : List Value).toArray s = true := fun w h => atoms_spec (ws := kws yX5_spread cX5_spread 7 none) B.pre w (List.mem_cons_of_mem _ h)
  have hown : s.vm.findClass RX5 = some m.cls := findClass_of_methodNamed B.named
  have hlocks := B.notSynchronized
  subst hsz
  have hD := hD0.self (sz := s.heap.size)
  generalize hAe : va_A [(a_o, .inr (4, [.ref a_o_queue, .ref a_o_steps, .ref a_o_firsts, .ref a_o_waysIn, .int o_reached])), (a_o_queue, .inl (cI, 720, .inl o_queue)), (a_o_steps, .inl (cI, 720, .inl o_steps)), (a_o_firsts, .inl (cI, 720, .inl o_firsts)), (a_q0, .inr (1, [.ref a_q0_rows, .ref a_q0_edges, .int q0_persons, .int q0_size, .int q0_changes, .int q0_restCount, .int q0_firstRest])), (a_q0_rows, .inl (cI, 720, .inl q0_rows)), (a_q0_edges, .inl (cI, 4320, .inl q0_edges))] s.heap.size = A at hD ⊢
  have hA : ∀ q : Nat, s.heap.size ≤ q → A q := fun q h => by rw [← hAe]; exact Or.inr h
  have hS : va_S A s.heap s.heap [] := va_S.rf
  have hret : ∀ (H : Heap) (locs : List Loc) (ls : Array Slot) (pc : Nat) (o0 : Int32) (o1 : Nat → Int32) (o2 : Nat → Int32) (o3 : Nat → Int32), some (o0, o1, o2, o3) = some res → decode cX5_spread pc = .ok (.return_, 1) → va_P (dC, dI) vwCl [(a_o, .inr (4, [.ref a_o_queue, .ref a_o_steps, .ref a_o_firsts, .ref a_o_waysIn, .int o0])), (a_o_queue, .inl (cI, 720, .inl o1)), (a_o_steps, .inl (cI, 720, .inl o2)), (a_o_firsts, .inl (cI, 720, .inl o3)), (a_q0, .inr (1, [.ref a_q0_rows, .ref a_q0_edges, .int q0_persons, .int q0_size, .int q0_changes, .int q0_restCount, .int q0_firstRest])), (a_q0_rows, .inl (cI, 720, .inl q0_rows)), (a_q0_edges, .inl (cI, 4320, .inl q0_edges))] H → va_D A [(a_o, .inr (4, [.ref a_o_queue, .ref a_o_steps, .ref a_o_firsts, .ref a_o_waysIn, .int o0])), (a_o_queue, .inl (cI, 720, .inl o1)), (a_o_steps, .inl (cI, 720, .inl o2)), (a_o_firsts, .inl (cI, 720, .inl o3)), (a_q0, .inr (1, [.ref a_q0_rows, .ref a_q0_edges, .int q0_persons, .int q0_size, .int q0_changes, .int q0_restCount, .int q0_firstRest])), (a_q0_rows, .inl (cI, 720, .inl q0_rows)), (a_q0_edges, .inl (cI, 4320, .inl q0_edges))] → va_S A s.heap H locs → W p l e (headSpec (kws yX5_spread cX5_spread 7 none) rm_X5_spread).room s m ([.ref a_o, .ref a_q0, .int x2, .int x3] : List Value).toArray below meth c H locs 0 0 (MQ below (kQv Unit (dC, dI) A (fun _ => [(a_o, .inr (4, [.ref a_o_queue, .ref a_o_steps, .ref a_o_firsts, .ref a_o_waysIn, .int res.1])), (a_o_queue, .inl (cI, 720, .inl res.2.1)), (a_o_steps, .inl (cI, 720, .inl res.2.2.1)), (a_o_firsts, .inl (cI, 720, .inl res.2.2.2)), (a_q0, .inr (1, [.ref a_q0_rows, .ref a_q0_edges, .int q0_persons, .int q0_size, .int q0_changes, .int q0_restCount, .int q0_firstRest])), (a_q0_rows, .inl (cI, 720, .inl q0_rows)), (a_q0_edges, .inl (cI, 4320, .inl q0_edges))])) ([.ref a_o, .ref a_q0, .int x2, .int x3] : List Value).toArray s 0 0 A) (F0 m pc ls []) := by
    intro H locs ls pc o0 o1 o2 o3 he hd hP hD hS
    obtain rfl := Option.some.inj he
    exact krv hx hb hr hlocks () hP hD hS hd
  have hl := lv_entry ([.ref a_o, .ref a_q0, .int x2, .int x3]) (n := 7) (Nat.le_of_ble_eq_true rfl)
  rw [lg_entry_eq]
  generalize (lg_sl ([.ref a_o, .ref a_q0, .int x2, .int x3]) ++ List.replicate (7 - (lg_sl ([.ref a_o, .ref a_q0, .int x2, .int x3])).length) Slot.unset).toArray = ls at hl ⊢
  have hl : lv_has ls 7 [(0, .ref a_o), (1, .ref a_q0), (2, .int x2), (3, .int x3)] := hl
  generalize (MQ below _ ([.ref a_o, .ref a_q0, .int x2, .int x3] : List Value).toArray s 0 0 A) = Q at hret ⊢
  generalize ([.ref a_o, .ref a_q0, .int x2, .int x3] : List Value).toArray = args at ht hret ⊢
  have hP : va_P (dC, dI) vwCl [(a_o, .inr (4, [.ref a_o_queue, .ref a_o_steps, .ref a_o_firsts, .ref a_o_waysIn, .int o_reached])), (a_o_queue, .inl (cI, 720, .inl o_queue)), (a_o_steps, .inl (cI, 720, .inl o_steps)), (a_o_firsts, .inl (cI, 720, .inl o_firsts)), (a_q0, .inr (1, [.ref a_q0_rows, .ref a_q0_edges, .int q0_persons, .int q0_size, .int q0_changes, .int q0_restCount, .int q0_firstRest])), (a_q0_rows, .inl (cI, 720, .inl q0_rows)), (a_q0_edges, .inl (cI, 4320, .inl q0_edges))] s.heap := hP
  unfold f_X5_spread at hf
  have L23 : ∀ (n : Nat) (x3 : Int32) (x4 : Int32) (o_reached : Int32) (o_queue : Nat → Int32) (o_steps : Nat → Int32) (o_firsts : Nat → Int32) (H : Heap) (locs : List Loc) (ls : Array Slot), f_X5_spread_l23 q0_persons q0_size q0_changes q0_rows q0_edges n x3 x4 o_reached o_queue o_steps o_firsts = some res → va_P (dC, dI) vwCl [(a_o, .inr (4, [.ref a_o_queue, .ref a_o_steps, .ref a_o_firsts, .ref a_o_waysIn, .int o_reached])), (a_o_queue, .inl (cI, 720, .inl o_queue)), (a_o_steps, .inl (cI, 720, .inl o_steps)), (a_o_firsts, .inl (cI, 720, .inl o_firsts)), (a_q0, .inr (1, [.ref a_q0_rows, .ref a_q0_edges, .int q0_persons, .int q0_size, .int q0_changes, .int q0_restCount, .int q0_firstRest])), (a_q0_rows, .inl (cI, 720, .inl q0_rows)), (a_q0_edges, .inl (cI, 4320, .inl q0_edges))] H → va_D A [(a_o, .inr (4, [.ref a_o_queue, .ref a_o_steps, .ref a_o_firsts, .ref a_o_waysIn, .int o_reached])), (a_o_queue, .inl (cI, 720, .inl o_queue)), (a_o_steps, .inl (cI, 720, .inl o_steps)), (a_o_firsts, .inl (cI, 720, .inl o_firsts)), (a_q0, .inr (1, [.ref a_q0_rows, .ref a_q0_edges, .int q0_persons, .int q0_size, .int q0_changes, .int q0_restCount, .int q0_firstRest])), (a_q0_rows, .inl (cI, 720, .inl q0_rows)), (a_q0_edges, .inl (cI, 4320, .inl q0_edges))] → va_S A s.heap H locs → lv_has ls 7 [(0, .ref a_o), (1, .ref a_q0), (3, .int x3), (4, .int x4)] → W p l e (headSpec (kws yX5_spread cX5_spread 7 none) rm_X5_spread).room s m args below meth c H locs 0 0 Q (F0 m 23 ls []) := by
    intro n
    induction n with
    | zero =>
      intro x3 x4 o_reached o_queue o_steps o_firsts H locs ls hf hP hD hS hl
      rw [f_X5_spread_l23.eq_1] at hf
      cases hf
    | succ n23 ih23 =>
      have L52 : ∀ (n : Nat) (x3 : Int32) (x4 : Int32) (x5 : Int32) (x6 : Int32) (o_reached : Int32) (o_queue : Nat → Int32) (o_steps : Nat → Int32) (o_firsts : Nat → Int32) (H : Heap) (locs : List Loc) (ls : Array Slot), f_X5_spread_l52 q0_persons q0_size q0_changes q0_rows q0_edges (f_X5_spread_l23 q0_persons q0_size q0_changes q0_rows q0_edges n23) n x3 x4 x5 x6 o_reached o_queue o_steps o_firsts = some res → va_P (dC, dI) vwCl [(a_o, .inr (4, [.ref a_o_queue, .ref a_o_steps, .ref a_o_firsts, .ref a_o_waysIn, .int o_reached])), (a_o_queue, .inl (cI, 720, .inl o_queue)), (a_o_steps, .inl (cI, 720, .inl o_steps)), (a_o_firsts, .inl (cI, 720, .inl o_firsts)), (a_q0, .inr (1, [.ref a_q0_rows, .ref a_q0_edges, .int q0_persons, .int q0_size, .int q0_changes, .int q0_restCount, .int q0_firstRest])), (a_q0_rows, .inl (cI, 720, .inl q0_rows)), (a_q0_edges, .inl (cI, 4320, .inl q0_edges))] H → va_D A [(a_o, .inr (4, [.ref a_o_queue, .ref a_o_steps, .ref a_o_firsts, .ref a_o_waysIn, .int o_reached])), (a_o_queue, .inl (cI, 720, .inl o_queue)), (a_o_steps, .inl (cI, 720, .inl o_steps)), (a_o_firsts, .inl (cI, 720, .inl o_firsts)), (a_q0, .inr (1, [.ref a_q0_rows, .ref a_q0_edges, .int q0_persons, .int q0_size, .int q0_changes, .int q0_restCount, .int q0_firstRest])), (a_q0_rows, .inl (cI, 720, .inl q0_rows)), (a_q0_edges, .inl (cI, 4320, .inl q0_edges))] → va_S A s.heap H locs → lv_has ls 7 [(0, .ref a_o), (1, .ref a_q0), (3, .int x3), (4, .int x4), (5, .int x5), (6, .int x6)] → W p l e (headSpec (kws yX5_spread cX5_spread 7 none) rm_X5_spread).room s m args below meth c H locs 0 0 Q (F0 m 52 ls []) := by
        intro n
        induction n with
        | zero =>
          intro x3 x4 x5 x6 o_reached o_queue o_steps o_firsts H locs ls hf hP hD hS hl
          rw [f_X5_spread_l52.eq_1] at hf
          cases hf
        | succ n52 ih52 =>
          have B97 : ∀ (x3 : Int32) (x4 : Int32) (x5 : Int32) (x6 : Int32) (t0 : Int32) (t1 : Int32) (t2 : Int32) (o_reached : Int32) (o_queue : Nat → Int32) (o_steps : Nat → Int32) (o_firsts : Nat → Int32) (H : Heap) (locs : List Loc) (ls : Array Slot), f_X5_spread_b97 q0_persons q0_size q0_changes q0_rows q0_edges (f_X5_spread_l23 q0_persons q0_size q0_changes q0_rows q0_edges n23) (f_X5_spread_l52 q0_persons q0_size q0_changes q0_rows q0_edges (f_X5_spread_l23 q0_persons q0_size q0_changes q0_rows q0_edges n23) n52) x3 x4 x5 x6 t0 t1 t2 o_reached o_queue o_steps o_firsts = some res → va_P (dC, dI) vwCl [(a_o, .inr (4, [.ref a_o_queue, .ref a_o_steps, .ref a_o_firsts, .ref a_o_waysIn, .int o_reached])), (a_o_queue, .inl (cI, 720, .inl o_queue)), (a_o_steps, .inl (cI, 720, .inl o_steps)), (a_o_firsts, .inl (cI, 720, .inl o_firsts)), (a_q0, .inr (1, [.ref a_q0_rows, .ref a_q0_edges, .int q0_persons, .int q0_size, .int q0_changes, .int q0_restCount, .int q0_firstRest])), (a_q0_rows, .inl (cI, 720, .inl q0_rows)), (a_q0_edges, .inl (cI, 4320, .inl q0_edges))] H → va_D A [(a_o, .inr (4, [.ref a_o_queue, .ref a_o_steps, .ref a_o_firsts, .ref a_o_waysIn, .int o_reached])), (a_o_queue, .inl (cI, 720, .inl o_queue)), (a_o_steps, .inl (cI, 720, .inl o_steps)), (a_o_firsts, .inl (cI, 720, .inl o_firsts)), (a_q0, .inr (1, [.ref a_q0_rows, .ref a_q0_edges, .int q0_persons, .int q0_size, .int q0_changes, .int q0_restCount, .int q0_firstRest])), (a_q0_rows, .inl (cI, 720, .inl q0_rows)), (a_q0_edges, .inl (cI, 4320, .inl q0_edges))] → va_S A s.heap H locs → lv_has ls 7 [(0, .ref a_o), (1, .ref a_q0), (3, .int x3), (4, .int x4), (5, .int x5), (6, .int x6)] → W p l e (headSpec (kws yX5_spread cX5_spread 7 none) rm_X5_spread).room s m args below meth c H locs 0 0 Q (F0 m 97 ls [.int t0, .int t1, .int t2, .ref a_o]) := by
            intro x3 x4 x5 x6 t0 t1 t2 o_reached o_queue o_steps o_firsts H locs ls hf hP hD hS hl
            unfold f_X5_spread_b97 at hf
            obtain ⟨u_1, h_2, hf⟩ := obs hf
            refine kcVv (rest := []) (wr := [(a_q0, .inr (1, [.ref a_q0_rows, .ref a_q0_edges, .int q0_persons, .int q0_size, .int q0_changes, .int q0_restCount, .int q0_firstRest])), (a_q0_rows, .inl (cI, 720, .inl q0_rows)), (a_q0_edges, .inl (cI, 4320, .inl q0_edges))]) (w2 := fun _ => [(a_o, .inr (4, [.ref a_o_queue, .ref a_o_steps, .ref a_o_firsts, .ref a_o_waysIn, .int u_1.1])), (a_o_queue, .inl (cI, 720, .inl u_1.2.1)), (a_o_steps, .inl (cI, 720, .inl u_1.2.2.1)), (a_o_firsts, .inl (cI, 720, .inl u_1.2.2.2)), (a_q0, .inr (1, [.ref a_q0_rows, .ref a_q0_edges, .int q0_persons, .int q0_size, .int q0_changes, .int q0_restCount, .int q0_firstRest])), (a_q0_rows, .inl (cI, 720, .inl q0_rows)), (a_q0_edges, .inl (cI, 4320, .inl q0_edges))]) hx hb hml hown ht (c_X5_reach l dC dI cI cJ cZ a_o a_o_queue a_o_steps a_o_firsts a_o_waysIn H.size o_reached o_queue o_steps o_firsts t2 t1 t0 u_1 h_2) (kcw 3 ht wd_3_66 wd_1_9 wd_3_63 kd_X5_reach ⟨rfl, rfl⟩ ⟨Nat.le_of_ble_eq_true rfl, Nat.le_of_ble_eq_true rfl⟩) wd_3_65 wd_s_9 hK hP hD hS hA [0, 1, 2, 3] [4, 5, 6] [3, 4, 5, 6, 0, 1, 2] rfl rfl rfl rfl (by decide) rfl (fun _ => rfl) (ci := 4) rfl rfl rfl rfl hl.1 rfl (Nat.le_of_ble_eq_true rfl) dX5_spread_97 ⟨Nat.zero_le _, Nat.zero_le _⟩ (fun _ H locs hP hD hS => ?_)
            have hP : va_P (dC, dI) vwCl [(a_o, .inr (4, [.ref a_o_queue, .ref a_o_steps, .ref a_o_firsts, .ref a_o_waysIn, .int u_1.1])), (a_o_queue, .inl (cI, 720, .inl u_1.2.1)), (a_o_steps, .inl (cI, 720, .inl u_1.2.2.1)), (a_o_firsts, .inl (cI, 720, .inl u_1.2.2.2)), (a_q0, .inr (1, [.ref a_q0_rows, .ref a_q0_edges, .int q0_persons, .int q0_size, .int q0_changes, .int q0_restCount, .int q0_firstRest])), (a_q0_rows, .inl (cI, 720, .inl q0_rows)), (a_q0_edges, .inl (cI, 4320, .inl q0_edges))] H := hP
            have hD : va_D A [(a_o, .inr (4, [.ref a_o_queue, .ref a_o_steps, .ref a_o_firsts, .ref a_o_waysIn, .int u_1.1])), (a_o_queue, .inl (cI, 720, .inl u_1.2.1)), (a_o_steps, .inl (cI, 720, .inl u_1.2.2.1)), (a_o_firsts, .inl (cI, 720, .inl u_1.2.2.2)), (a_q0, .inr (1, [.ref a_q0_rows, .ref a_q0_edges, .int q0_persons, .int q0_size, .int q0_changes, .int q0_restCount, .int q0_firstRest])), (a_q0_rows, .inl (cI, 720, .inl q0_rows)), (a_q0_edges, .inl (cI, 4320, .inl q0_edges))] := hD
            refine lv_iinc (v := (x6 + (1 : Int32))) (lv' := [(6, .int (x6 + (1 : Int32))), (0, .ref a_o), (1, .ref a_q0), (3, .int x3), (4, .int x4), (5, .int x5)]) hx hb dX5_spread_100 hl (k := 5) rfl rfl (by decide) rfl (fun ls hl => ?_)
            refine lv_goto (tgt := 52) hx hb dX5_spread_103 (by decide) ?_
            exact ih52 x3 x4 x5 (x6 + (1 : Int32)) u_1.1 u_1.2.1 u_1.2.2.1 u_1.2.2.2 H locs ls hf hP hD hS (lv_sub hl [1, 2, 3, 4, 5, 0] rfl)
          intro x3 x4 x5 x6 o_reached o_queue o_steps o_firsts H locs ls hf hP hD hS hl
          rw [f_X5_spread_l52.eq_2] at hf
          refine lv_iload hx hb dX5_spread_52 (lv_at hl 5 rfl) ?_
          refine lv_aload_n hx hb dX5_spread_54 rfl (lv_at hl 1 rfl) ?_
          refine va_get (ci := 1) (v := .int q0_changes) (C := RX1) (T := TX1) (N := 7) hx hb ht inX1 hown hK hP 4 rfl rfl 4 (by decide) (ht _ wd_1_137) (fun _ h9 => h9) rfl dX5_spread_55 ?_
          refine lv_icmp_ge (tgt := 106) hx hb dX5_spread_58 (by decide) (fun c_3 => ?_) (fun c_3 => ?_)
          · have hf := ifp c_3 hf
            refine lv_iinc (v := (x4 + (1 : Int32))) (lv' := [(4, .int (x4 + (1 : Int32))), (0, .ref a_o), (1, .ref a_q0), (3, .int x3), (5, .int x5), (6, .int x6)]) hx hb dX5_spread_106 hl (k := 3) rfl rfl (by decide) rfl (fun ls hl => ?_)
            refine lv_goto (tgt := 23) hx hb dX5_spread_109 (by decide) ?_
            exact ih23 x3 (x4 + (1 : Int32)) o_reached o_queue o_steps o_firsts H locs ls hf hP hD hS (lv_sub hl [1, 2, 3, 0] rfl)
          · have hf := ifn c_3 hf
            refine lv_aload_n hx hb dX5_spread_61 rfl (lv_at hl 0 rfl) ?_
            refine lv_aload_n hx hb dX5_spread_62 rfl (lv_at hl 1 rfl) ?_
            refine lv_iload hx hb dX5_spread_63 (lv_at hl 4 rfl) ?_
            refine lv_iload hx hb dX5_spread_65 (lv_at hl 5 rfl) ?_
            refine lv_iload_n hx hb dX5_spread_67 rfl (lv_at hl 2 rfl) ?_
            obtain ⟨u_4, h_5, hf⟩ := obs hf
            refine kcVi (rest := [.ref a_o]) (wr := [(a_o, .inr (4, [.ref a_o_queue, .ref a_o_steps, .ref a_o_firsts, .ref a_o_waysIn, .int o_reached])), (a_o_queue, .inl (cI, 720, .inl o_queue)), (a_o_steps, .inl (cI, 720, .inl o_steps)), (a_o_firsts, .inl (cI, 720, .inl o_firsts))]) (w2 := fun _ => [(a_o, .inr (4, [.ref a_o_queue, .ref a_o_steps, .ref a_o_firsts, .ref a_o_waysIn, .int o_reached])), (a_o_queue, .inl (cI, 720, .inl o_queue)), (a_o_steps, .inl (cI, 720, .inl o_steps)), (a_o_firsts, .inl (cI, 720, .inl o_firsts)), (a_q0, .inr (1, [.ref a_q0_rows, .ref a_q0_edges, .int q0_persons, .int q0_size, .int q0_changes, .int q0_restCount, .int q0_firstRest])), (a_q0_rows, .inl (cI, 720, .inl q0_rows)), (a_q0_edges, .inl (cI, 4320, .inl q0_edges))]) hx hb hml hown ht (c_X1_leadsTo l dC dI cI cJ cZ a_q0 a_q0_rows a_q0_edges H.size q0_persons q0_size q0_changes q0_restCount q0_firstRest q0_rows q0_edges x5 x6 x3 u_4 h_5) (kcw 3 ht wd_3_29 wd_1_8 wd_3_67 kd_X1_leadsTo ⟨rfl, rfl⟩ ⟨Nat.le_of_ble_eq_true rfl, Nat.le_of_ble_eq_true rfl⟩) wd_3_27 wd_3_28 hK hP hD hS hA [4, 5, 6] [0, 1, 2, 3] [0, 1, 2, 3, 4, 5, 6] rfl rfl rfl rfl (by decide) rfl (fun _ => rfl) (ci := 1) rfl rfl rfl rfl hl.1 rfl (Nat.le_of_ble_eq_true rfl) dX5_spread_68 ⟨Nat.zero_le _, Nat.zero_le _⟩ (fun _ H locs hP hD hS => ?_)
            have hP : va_P (dC, dI) vwCl [(a_o, .inr (4, [.ref a_o_queue, .ref a_o_steps, .ref a_o_firsts, .ref a_o_waysIn, .int o_reached])), (a_o_queue, .inl (cI, 720, .inl o_queue)), (a_o_steps, .inl (cI, 720, .inl o_steps)), (a_o_firsts, .inl (cI, 720, .inl o_firsts)), (a_q0, .inr (1, [.ref a_q0_rows, .ref a_q0_edges, .int q0_persons, .int q0_size, .int q0_changes, .int q0_restCount, .int q0_firstRest])), (a_q0_rows, .inl (cI, 720, .inl q0_rows)), (a_q0_edges, .inl (cI, 4320, .inl q0_edges))] H := hP
            have hD : va_D A [(a_o, .inr (4, [.ref a_o_queue, .ref a_o_steps, .ref a_o_firsts, .ref a_o_waysIn, .int o_reached])), (a_o_queue, .inl (cI, 720, .inl o_queue)), (a_o_steps, .inl (cI, 720, .inl o_steps)), (a_o_firsts, .inl (cI, 720, .inl o_firsts)), (a_q0, .inr (1, [.ref a_q0_rows, .ref a_q0_edges, .int q0_persons, .int q0_size, .int q0_changes, .int q0_restCount, .int q0_firstRest])), (a_q0_rows, .inl (cI, 720, .inl q0_rows)), (a_q0_edges, .inl (cI, 4320, .inl q0_edges))] := hD
            refine lv_aload_n hx hb dX5_spread_71 rfl (lv_at hl 0 rfl) ?_
            refine va_get (ci := 4) (v := .ref a_o_steps) (C := RX5) (T := TX5) (N := 5) hx hb ht inX5 hown hK hP 0 rfl rfl 1 (by decide) (ht _ wd_1_164) (fun _ h9 => h9) rfl dX5_spread_72 ?_
            refine lv_iload hx hb dX5_spread_75 (lv_at hl 4 rfl) ?_
            obtain ⟨b_6, hf⟩ := bd_some hf
            refine va_iald hx hb hK hP 2 0 rfl rfl b_6 dX5_spread_77 ?_
            refine lv_iconst (v := (1 : Int32)) hx hb dX5_spread_78 (by decide) ?_
            refine lv_iadd hx hb dX5_spread_79 ?_
            refine lv_iload hx hb dX5_spread_80 (lv_at hl 3 rfl) ?_
            refine lv_if_ne (tgt := 90) hx hb dX5_spread_82 (by decide) (fun c_7 => ?_) (fun c_7 => ?_)
            · have hf := ifn c_7 hf
              refine lv_aload_n hx hb dX5_spread_90 rfl (lv_at hl 0 rfl) ?_
              refine va_get (ci := 4) (v := .ref a_o_firsts) (C := RX5) (T := TX5) (N := 5) hx hb ht inX5 hown hK hP 0 rfl rfl 2 (by decide) (ht _ wd_1_165) (fun _ h9 => h9) rfl dX5_spread_91 ?_
              refine lv_iload hx hb dX5_spread_94 (lv_at hl 4 rfl) ?_
              obtain ⟨b_8, hf⟩ := bd_some hf
              refine va_iald hx hb hK hP 3 0 rfl rfl b_8 dX5_spread_96 ?_
              exact B97 x3 x4 x5 x6 (o_firsts x5.toNatClampNeg) ((o_steps x5.toNatClampNeg) + (1 : Int32)) u_4 o_reached o_queue o_steps o_firsts H locs ls hf hP hD hS (lv_sub hl [0, 1, 2, 3, 4, 5] rfl)
            · have hf := ifp c_7 hf
              refine lv_iload hx hb dX5_spread_85 (lv_at hl 5 rfl) ?_
              refine lv_goto (tgt := 97) hx hb dX5_spread_87 (by decide) ?_
              exact B97 x3 x4 x5 x6 x6 ((o_steps x5.toNatClampNeg) + (1 : Int32)) u_4 o_reached o_queue o_steps o_firsts H locs ls hf hP hD hS (lv_sub hl [0, 1, 2, 3, 4, 5] rfl)
      intro x3 x4 o_reached o_queue o_steps o_firsts H locs ls hf hP hD hS hl
      rw [f_X5_spread_l23.eq_2] at hf
      refine lv_iload hx hb dX5_spread_23 (lv_at hl 3 rfl) ?_
      refine lv_aload_n hx hb dX5_spread_25 rfl (lv_at hl 0 rfl) ?_
      refine va_get (ci := 4) (v := .int o_reached) (C := RX5) (T := TX5) (N := 5) hx hb ht inX5 hown hK hP 0 rfl rfl 4 (by decide) (ht _ wd_1_167) (fun _ h9 => h9) rfl dX5_spread_26 ?_
      refine lv_icmp_ge (tgt := 112) hx hb dX5_spread_29 (by decide) (fun c_9 => ?_) (fun c_9 => ?_)
      · have hf := ifp c_9 hf
        exact hret H locs ls 112 o_reached o_queue o_steps o_firsts hf dX5_spread_112 hP hD hS
      · have hf := ifn c_9 hf
        refine lv_iload hx hb dX5_spread_32 (lv_at hl 3 rfl) ?_
        refine lv_sipush (v := (720 : Int32)) hx hb dX5_spread_34 (by decide) ?_
        refine lv_icmp_ge (tgt := 112) hx hb dX5_spread_37 (by decide) (fun c_10 => ?_) (fun c_10 => ?_)
        · have hf := ifp c_10 hf
          exact hret H locs ls 112 o_reached o_queue o_steps o_firsts hf dX5_spread_112 hP hD hS
        · have hf := ifn c_10 hf
          refine lv_aload_n hx hb dX5_spread_40 rfl (lv_at hl 0 rfl) ?_
          refine va_get (ci := 4) (v := .ref a_o_queue) (C := RX5) (T := TX5) (N := 5) hx hb ht inX5 hown hK hP 0 rfl rfl 0 (by decide) (ht _ wd_1_163) (fun _ h9 => h9) rfl dX5_spread_41 ?_
          refine lv_iload hx hb dX5_spread_44 (lv_at hl 3 rfl) ?_
          obtain ⟨b_11, hf⟩ := bd_some hf
          refine va_iald hx hb hK hP 1 0 rfl rfl b_11 dX5_spread_46 ?_
          refine lv_istore (lv' := [(5, .int (o_queue x4.toNatClampNeg)), (0, .ref a_o), (1, .ref a_q0), (3, .int x3), (4, .int x4)]) hx hb dX5_spread_47 hl (by decide) rfl (fun ls hl => ?_)
          refine lv_iconst (v := (0 : Int32)) hx hb dX5_spread_49 (by decide) ?_
          refine lv_istore (lv' := [(6, .int (0 : Int32)), (5, .int (o_queue x4.toNatClampNeg)), (0, .ref a_o), (1, .ref a_q0), (3, .int x3), (4, .int x4)]) hx hb dX5_spread_50 hl (by decide) rfl (fun ls hl => ?_)
          exact L52 NF x3 x4 (o_queue x4.toNatClampNeg) (0 : Int32) o_reached o_queue o_steps o_firsts H locs ls hf hP hD hS (lv_sub hl [2, 3, 4, 5, 1, 0] rfl)
  obtain ⟨H, hH⟩ : ∃ H, H = s.heap := ⟨_, rfl⟩
  obtain ⟨locs, hlo⟩ : ∃ L : List Loc, L = [] := ⟨_, rfl⟩
  rw [← hH] at hP
  have hS : va_S A s.heap H locs := by rw [hH, hlo]; exact hS
  rw [show W p l e (headSpec (kws yX5_spread cX5_spread 7 none) rm_X5_spread).room s m args below meth c s.heap [] 0 0 Q (F0 m 0 ls []) = W p l e (headSpec (kws yX5_spread cX5_spread 7 none) rm_X5_spread).room s m args below meth c H locs 0 0 Q (F0 m 0 ls []) from by rw [hH, hlo]]
  refine lv_aload_n hx hb dX5_spread_0 rfl (lv_at hl 0 rfl) ?_
  refine va_get (ci := 4) (v := .ref a_o_steps) (C := RX5) (T := TX5) (N := 5) hx hb ht inX5 hown hK hP 0 rfl rfl 1 (by decide) (ht _ wd_1_164) (fun _ h9 => h9) rfl dX5_spread_1 ?_
  refine lv_iconst (v := (-1 : Int32)) hx hb dX5_spread_4 (by decide) ?_
  obtain ⟨u_12, h_13, hf⟩ := obs hf
  refine kcSv (rest := []) (wr := [(a_o, .inr (4, [.ref a_o_queue, .ref a_o_steps, .ref a_o_firsts, .ref a_o_waysIn, .int o_reached])), (a_o_queue, .inl (cI, 720, .inl o_queue)), (a_o_firsts, .inl (cI, 720, .inl o_firsts)), (a_q0, .inr (1, [.ref a_q0_rows, .ref a_q0_edges, .int q0_persons, .int q0_size, .int q0_changes, .int q0_restCount, .int q0_firstRest])), (a_q0_rows, .inl (cI, 720, .inl q0_rows)), (a_q0_edges, .inl (cI, 4320, .inl q0_edges))]) (w2 := fun _ => [(a_o, .inr (4, [.ref a_o_queue, .ref a_o_steps, .ref a_o_firsts, .ref a_o_waysIn, .int o_reached])), (a_o_queue, .inl (cI, 720, .inl o_queue)), (a_o_steps, .inl (cI, 720, .inl u_12)), (a_o_firsts, .inl (cI, 720, .inl o_firsts)), (a_q0, .inr (1, [.ref a_q0_rows, .ref a_q0_edges, .int q0_persons, .int q0_size, .int q0_changes, .int q0_restCount, .int q0_firstRest])), (a_q0_rows, .inl (cI, 720, .inl q0_rows)), (a_q0_edges, .inl (cI, 4320, .inl q0_edges))]) hx hb hml hown ht (c_J7_fill_53178 l dC dI cI cJ cZ a_o_steps H.size 720 o_steps (-1 : Int32) u_12 h_13) (kcw 2 ht wd_1_53 wd_1_4 wd_3_62 kd_J7_fill_53178 ⟨rfl, rfl⟩ ⟨Nat.le_of_ble_eq_true rfl, Nat.le_of_ble_eq_true rfl⟩) wd_1_52 hK hP hD hS hA [2] [0, 1, 3, 4, 5, 6] [0, 1, 6, 2, 3, 4, 5] rfl rfl rfl rfl (by decide) rfl (fun _ => rfl) rfl hl.1 rfl (Nat.le_of_ble_eq_true rfl) dX5_spread_5 ⟨Nat.zero_le _, Nat.zero_le _⟩ (fun _ H locs hP hD hS => ?_)
  have hP : va_P (dC, dI) vwCl [(a_o, .inr (4, [.ref a_o_queue, .ref a_o_steps, .ref a_o_firsts, .ref a_o_waysIn, .int o_reached])), (a_o_queue, .inl (cI, 720, .inl o_queue)), (a_o_steps, .inl (cI, 720, .inl u_12)), (a_o_firsts, .inl (cI, 720, .inl o_firsts)), (a_q0, .inr (1, [.ref a_q0_rows, .ref a_q0_edges, .int q0_persons, .int q0_size, .int q0_changes, .int q0_restCount, .int q0_firstRest])), (a_q0_rows, .inl (cI, 720, .inl q0_rows)), (a_q0_edges, .inl (cI, 4320, .inl q0_edges))] H := hP
  have hD : va_D A [(a_o, .inr (4, [.ref a_o_queue, .ref a_o_steps, .ref a_o_firsts, .ref a_o_waysIn, .int o_reached])), (a_o_queue, .inl (cI, 720, .inl o_queue)), (a_o_steps, .inl (cI, 720, .inl u_12)), (a_o_firsts, .inl (cI, 720, .inl o_firsts)), (a_q0, .inr (1, [.ref a_q0_rows, .ref a_q0_edges, .int q0_persons, .int q0_size, .int q0_changes, .int q0_restCount, .int q0_firstRest])), (a_q0_rows, .inl (cI, 720, .inl q0_rows)), (a_q0_edges, .inl (cI, 4320, .inl q0_edges))] := hD
  refine lv_aload_n hx hb dX5_spread_8 rfl (lv_at hl 0 rfl) ?_
  refine lv_iconst (v := (0 : Int32)) hx hb dX5_spread_9 (by decide) ?_
  refine va_put (ci := 4) (v := .int (0 : Int32)) (ty := .int) (C := RX5) (T := TX5) (N := 5) hx hb ht inX5 tyX5 tyX5_ok nmX5 hown hK hP hD hS 0 rfl rfl 4 (by decide) (ht _ wd_1_167) (fun _ h9 => h9) rfl (tyX5_ok 4 (by decide)) rfl rfl (Nat.le_of_ble_eq_true rfl) dX5_spread_10 (fun H locs hP hD hS => ?_)
  have hP : va_P (dC, dI) vwCl [(a_o, .inr (4, [.ref a_o_queue, .ref a_o_steps, .ref a_o_firsts, .ref a_o_waysIn, .int (0 : Int32)])), (a_o_queue, .inl (cI, 720, .inl o_queue)), (a_o_steps, .inl (cI, 720, .inl u_12)), (a_o_firsts, .inl (cI, 720, .inl o_firsts)), (a_q0, .inr (1, [.ref a_q0_rows, .ref a_q0_edges, .int q0_persons, .int q0_size, .int q0_changes, .int q0_restCount, .int q0_firstRest])), (a_q0_rows, .inl (cI, 720, .inl q0_rows)), (a_q0_edges, .inl (cI, 4320, .inl q0_edges))] H := hP
  have hD : va_D A [(a_o, .inr (4, [.ref a_o_queue, .ref a_o_steps, .ref a_o_firsts, .ref a_o_waysIn, .int (0 : Int32)])), (a_o_queue, .inl (cI, 720, .inl o_queue)), (a_o_steps, .inl (cI, 720, .inl u_12)), (a_o_firsts, .inl (cI, 720, .inl o_firsts)), (a_q0, .inr (1, [.ref a_q0_rows, .ref a_q0_edges, .int q0_persons, .int q0_size, .int q0_changes, .int q0_restCount, .int q0_firstRest])), (a_q0_rows, .inl (cI, 720, .inl q0_rows)), (a_q0_edges, .inl (cI, 4320, .inl q0_edges))] := hD
  refine lv_aload_n hx hb dX5_spread_13 rfl (lv_at hl 0 rfl) ?_
  refine lv_iload_n hx hb dX5_spread_14 rfl (lv_at hl 2 rfl) ?_
  refine lv_iconst (v := (0 : Int32)) hx hb dX5_spread_15 (by decide) ?_
  refine lv_iconst (v := (0 : Int32)) hx hb dX5_spread_16 (by decide) ?_
  obtain ⟨u_14, h_15, hf⟩ := obs hf
  refine kcVv (rest := []) (wr := [(a_q0, .inr (1, [.ref a_q0_rows, .ref a_q0_edges, .int q0_persons, .int q0_size, .int q0_changes, .int q0_restCount, .int q0_firstRest])), (a_q0_rows, .inl (cI, 720, .inl q0_rows)), (a_q0_edges, .inl (cI, 4320, .inl q0_edges))]) (w2 := fun _ => [(a_o, .inr (4, [.ref a_o_queue, .ref a_o_steps, .ref a_o_firsts, .ref a_o_waysIn, .int u_14.1])), (a_o_queue, .inl (cI, 720, .inl u_14.2.1)), (a_o_steps, .inl (cI, 720, .inl u_14.2.2.1)), (a_o_firsts, .inl (cI, 720, .inl u_14.2.2.2)), (a_q0, .inr (1, [.ref a_q0_rows, .ref a_q0_edges, .int q0_persons, .int q0_size, .int q0_changes, .int q0_restCount, .int q0_firstRest])), (a_q0_rows, .inl (cI, 720, .inl q0_rows)), (a_q0_edges, .inl (cI, 4320, .inl q0_edges))]) hx hb hml hown ht (c_X5_reach l dC dI cI cJ cZ a_o a_o_queue a_o_steps a_o_firsts a_o_waysIn H.size (0 : Int32) o_queue u_12 o_firsts x2 (0 : Int32) (0 : Int32) u_14 h_15) (kcw 3 ht wd_3_66 wd_1_9 wd_3_63 kd_X5_reach ⟨rfl, rfl⟩ ⟨Nat.le_of_ble_eq_true rfl, Nat.le_of_ble_eq_true rfl⟩) wd_3_65 wd_s_9 hK hP hD hS hA [0, 1, 2, 3] [4, 5, 6] [3, 4, 5, 6, 0, 1, 2] rfl rfl rfl rfl (by decide) rfl (fun _ => rfl) (ci := 4) rfl rfl rfl rfl hl.1 rfl (Nat.le_of_ble_eq_true rfl) dX5_spread_17 ⟨Nat.zero_le _, Nat.zero_le _⟩ (fun _ H locs hP hD hS => ?_)
  have hP : va_P (dC, dI) vwCl [(a_o, .inr (4, [.ref a_o_queue, .ref a_o_steps, .ref a_o_firsts, .ref a_o_waysIn, .int u_14.1])), (a_o_queue, .inl (cI, 720, .inl u_14.2.1)), (a_o_steps, .inl (cI, 720, .inl u_14.2.2.1)), (a_o_firsts, .inl (cI, 720, .inl u_14.2.2.2)), (a_q0, .inr (1, [.ref a_q0_rows, .ref a_q0_edges, .int q0_persons, .int q0_size, .int q0_changes, .int q0_restCount, .int q0_firstRest])), (a_q0_rows, .inl (cI, 720, .inl q0_rows)), (a_q0_edges, .inl (cI, 4320, .inl q0_edges))] H := hP
  have hD : va_D A [(a_o, .inr (4, [.ref a_o_queue, .ref a_o_steps, .ref a_o_firsts, .ref a_o_waysIn, .int u_14.1])), (a_o_queue, .inl (cI, 720, .inl u_14.2.1)), (a_o_steps, .inl (cI, 720, .inl u_14.2.2.1)), (a_o_firsts, .inl (cI, 720, .inl u_14.2.2.2)), (a_q0, .inr (1, [.ref a_q0_rows, .ref a_q0_edges, .int q0_persons, .int q0_size, .int q0_changes, .int q0_restCount, .int q0_firstRest])), (a_q0_rows, .inl (cI, 720, .inl q0_rows)), (a_q0_edges, .inl (cI, 4320, .inl q0_edges))] := hD
  refine lv_iconst (v := (0 : Int32)) hx hb dX5_spread_20 (by decide) ?_
  refine lv_istore (lv' := [(4, .int (0 : Int32)), (0, .ref a_o), (1, .ref a_q0), (2, .int x2), (3, .int x3)]) hx hb dX5_spread_21 hl (by decide) rfl (fun ls hl => ?_)
  exact L23 NF x3 (0 : Int32) u_14.1 u_14.2.1 u_14.2.2.1 u_14.2.2.2 H locs ls hf hP hD hS (lv_sub hl [1, 2, 4, 0] rfl)
def f_X5_stepsTo (x1 : Int32) (o_steps : Nat → Int32) : Option (Int32) := if x1 < 0 then some (-1 : Int32) else if (720 : Int32) ≤ x1 then some (-1 : Int32) else bd x1 720 (some (o_steps x1.toNatClampNeg))
abbrev rm_X5_stepsTo : Room := { frames := 0, cells := 0, slots := 0, locals := 0 }
theorem kd_X5_stepsTo : yX5_stepsTo.cls ≠ "java/lang/invoke/MethodHandle" ∧ yX5_stepsTo.cls ≠ "java/lang/invoke/VarHandle" ∧ (parseMethodDescriptor yX5_stepsTo.desc).map (fun d => d.parameters.length) = some 1 := by decide +kernel
set_option maxHeartbeats 4000000 in
set_option maxRecDepth 100000 in
theorem c_X5_stepsTo (l : Launch) (dC : Nat → ClassId) (dI : Nat → Nat → Nat) (cI cJ cZ : ClassId) (a_o a_o_queue a_o_steps a_o_firsts a_o_waysIn : Nat) (sz : Nat) (o_reached : Int32) (o_steps : Nat → Int32) (x1 : Int32) (res : Int32) (hf : f_X5_stepsTo x1 o_steps = some res) : kMi Unit l yX5_stepsTo cX5_stepsTo 2 (some .int) rm_X5_stepsTo [.ref a_o, .int x1] (dC, dI) (kT cI cJ cZ) sz [(a_o, .inr (4, [.ref a_o_queue, .ref a_o_steps, .ref a_o_firsts, .ref a_o_waysIn, .int o_reached])), (a_o_steps, .inl (cI, 720, .inl o_steps))] res (fun _ => [(a_o, .inr (4, [.ref a_o_queue, .ref a_o_steps, .ref a_o_firsts, .ref a_o_waysIn, .int o_reached])), (a_o_steps, .inl (cI, 720, .inl o_steps))]) := by
  refine Met.ofW (cc := cX5_stepsTo) (maxL := 2) (ret := (some .int)) (by decide) rfl ?_
  intro p e s m args below meth c s₁ B hml hv
  obtain ⟨rfl, hsz, hP, hK, hD0⟩ := hv
  have hx := B.exec
  have hb := B.bytes
  have hr := B.returns
  have ht : ∀ w ∈ lw_g, w.before ([.ref a_o, .int x1] : List Value).toArray s = true := fun w h => atoms_spec (ws := kws yX5_stepsTo cX5_stepsTo 2 (some .int)) B.pre w (List.mem_cons_of_mem _ h)
  have hown : s.vm.findClass RX5 = some m.cls := findClass_of_methodNamed B.named
  have hlocks := B.notSynchronized
  subst hsz
  have hD := hD0.self (sz := s.heap.size)
  generalize hAe : va_A [(a_o, .inr (4, [.ref a_o_queue, .ref a_o_steps, .ref a_o_firsts, .ref a_o_waysIn, .int o_reached])), (a_o_steps, .inl (cI, 720, .inl o_steps))] s.heap.size = A at hD ⊢
  have hA : ∀ q : Nat, s.heap.size ≤ q → A q := fun q h => by rw [← hAe]; exact Or.inr h
  have hS : va_S A s.heap s.heap [] := va_S.rf
  have hret : ∀ (H : Heap) (locs : List Loc) (ls : Array Slot) (pc : Nat) (v : Int32), some v = some res → decode cX5_stepsTo pc = .ok (.ireturn, 1) → va_P (dC, dI) vwCl [(a_o, .inr (4, [.ref a_o_queue, .ref a_o_steps, .ref a_o_firsts, .ref a_o_waysIn, .int o_reached])), (a_o_steps, .inl (cI, 720, .inl o_steps))] H → va_D A [(a_o, .inr (4, [.ref a_o_queue, .ref a_o_steps, .ref a_o_firsts, .ref a_o_waysIn, .int o_reached])), (a_o_steps, .inl (cI, 720, .inl o_steps))] → va_S A s.heap H locs → W p l e (headSpec (kws yX5_stepsTo cX5_stepsTo 2 (some .int)) rm_X5_stepsTo).room s m ([.ref a_o, .int x1] : List Value).toArray below meth c H locs 0 0 (MQ below (kQi Unit (dC, dI) A res (fun _ => [(a_o, .inr (4, [.ref a_o_queue, .ref a_o_steps, .ref a_o_firsts, .ref a_o_waysIn, .int o_reached])), (a_o_steps, .inl (cI, 720, .inl o_steps))])) ([.ref a_o, .int x1] : List Value).toArray s 0 0 A) (F0 m pc ls [.int v]) := by
    intro H locs ls pc v he hd hP hD hS
    obtain rfl := Option.some.inj he
    exact kri hx hb hr hlocks () hP hD hS hd
  have hl := lv_entry ([.ref a_o, .int x1]) (n := 2) (Nat.le_of_ble_eq_true rfl)
  rw [lg_entry_eq]
  generalize (lg_sl ([.ref a_o, .int x1]) ++ List.replicate (2 - (lg_sl ([.ref a_o, .int x1])).length) Slot.unset).toArray = ls at hl ⊢
  have hl : lv_has ls 2 [(0, .ref a_o), (1, .int x1)] := hl
  generalize (MQ below _ ([.ref a_o, .int x1] : List Value).toArray s 0 0 A) = Q at hret ⊢
  generalize ([.ref a_o, .int x1] : List Value).toArray = args at ht hret ⊢
  have hP : va_P (dC, dI) vwCl [(a_o, .inr (4, [.ref a_o_queue, .ref a_o_steps, .ref a_o_firsts, .ref a_o_waysIn, .int o_reached])), (a_o_steps, .inl (cI, 720, .inl o_steps))] s.heap := hP
  unfold f_X5_stepsTo at hf
  obtain ⟨H, hH⟩ : ∃ H, H = s.heap := ⟨_, rfl⟩
  obtain ⟨locs, hlo⟩ : ∃ L : List Loc, L = [] := ⟨_, rfl⟩
  rw [← hH] at hP
  have hS : va_S A s.heap H locs := by rw [hH, hlo]; exact hS
  rw [show W p l e (headSpec (kws yX5_stepsTo cX5_stepsTo 2 (some .int)) rm_X5_stepsTo).room s m args below meth c s.heap [] 0 0 Q (F0 m 0 ls []) = W p l e (headSpec (kws yX5_stepsTo cX5_stepsTo 2 (some .int)) rm_X5_stepsTo).room s m args below meth c H locs 0 0 Q (F0 m 0 ls []) from by rw [hH, hlo]]
  refine lv_iload_n hx hb dX5_stepsTo_0 rfl (lv_at hl 1 rfl) ?_
  refine lv_if_lt (tgt := 20) hx hb dX5_stepsTo_1 (by decide) (fun c_1 => ?_) (fun c_1 => ?_)
  · have hf := ifp c_1 hf
    refine lv_iconst (v := (-1 : Int32)) hx hb dX5_stepsTo_20 (by decide) ?_
    exact hret H locs ls 21 (-1 : Int32) hf dX5_stepsTo_21 hP hD hS
  · have hf := ifn c_1 hf
    refine lv_iload_n hx hb dX5_stepsTo_4 rfl (lv_at hl 1 rfl) ?_
    refine lv_sipush (v := (720 : Int32)) hx hb dX5_stepsTo_5 (by decide) ?_
    refine lv_icmp_ge (tgt := 20) hx hb dX5_stepsTo_8 (by decide) (fun c_2 => ?_) (fun c_2 => ?_)
    · have hf := ifp c_2 hf
      refine lv_iconst (v := (-1 : Int32)) hx hb dX5_stepsTo_20 (by decide) ?_
      exact hret H locs ls 21 (-1 : Int32) hf dX5_stepsTo_21 hP hD hS
    · have hf := ifn c_2 hf
      refine lv_aload_n hx hb dX5_stepsTo_11 rfl (lv_at hl 0 rfl) ?_
      refine va_get (ci := 4) (v := .ref a_o_steps) (C := RX5) (T := TX5) (N := 5) hx hb ht inX5 hown hK hP 0 rfl rfl 1 (by decide) (ht _ wd_1_164) (fun _ h9 => h9) rfl dX5_stepsTo_12 ?_
      refine lv_iload_n hx hb dX5_stepsTo_15 rfl (lv_at hl 1 rfl) ?_
      obtain ⟨b_3, hf⟩ := bd_some hf
      refine va_iald hx hb hK hP 1 0 rfl rfl b_3 dX5_stepsTo_16 ?_
      refine lv_goto (tgt := 21) hx hb dX5_stepsTo_17 (by decide) ?_
      exact hret H locs ls 21 (o_steps x1.toNatClampNeg) hf dX5_stepsTo_21 hP hD hS
def f_X5_firstTo (x1 : Int32) (o_firsts : Nat → Int32) : Option (Int32) := if x1 < 0 then some (-1 : Int32) else if (720 : Int32) ≤ x1 then some (-1 : Int32) else bd x1 720 (some (o_firsts x1.toNatClampNeg))
abbrev rm_X5_firstTo : Room := { frames := 0, cells := 0, slots := 0, locals := 0 }
theorem kd_X5_firstTo : yX5_firstTo.cls ≠ "java/lang/invoke/MethodHandle" ∧ yX5_firstTo.cls ≠ "java/lang/invoke/VarHandle" ∧ (parseMethodDescriptor yX5_firstTo.desc).map (fun d => d.parameters.length) = some 1 := by decide +kernel
set_option maxHeartbeats 4000000 in
set_option maxRecDepth 100000 in
theorem c_X5_firstTo (l : Launch) (dC : Nat → ClassId) (dI : Nat → Nat → Nat) (cI cJ cZ : ClassId) (a_o a_o_queue a_o_steps a_o_firsts a_o_waysIn : Nat) (sz : Nat) (o_reached : Int32) (o_firsts : Nat → Int32) (x1 : Int32) (res : Int32) (hf : f_X5_firstTo x1 o_firsts = some res) : kMi Unit l yX5_firstTo cX5_firstTo 2 (some .int) rm_X5_firstTo [.ref a_o, .int x1] (dC, dI) (kT cI cJ cZ) sz [(a_o, .inr (4, [.ref a_o_queue, .ref a_o_steps, .ref a_o_firsts, .ref a_o_waysIn, .int o_reached])), (a_o_firsts, .inl (cI, 720, .inl o_firsts))] res (fun _ => [(a_o, .inr (4, [.ref a_o_queue, .ref a_o_steps, .ref a_o_firsts, .ref a_o_waysIn, .int o_reached])), (a_o_firsts, .inl (cI, 720, .inl o_firsts))]) := by
  refine Met.ofW (cc := cX5_firstTo) (maxL := 2) (ret := (some .int)) (by decide) rfl ?_
  intro p e s m args below meth c s₁ B hml hv
  obtain ⟨rfl, hsz, hP, hK, hD0⟩ := hv
  have hx := B.exec
  have hb := B.bytes
  have hr := B.returns
  have ht : ∀ w ∈ lw_g, w.before ([.ref a_o, .int x1] : List Value).toArray s = true := fun w h => atoms_spec (ws := kws yX5_firstTo cX5_firstTo 2 (some .int)) B.pre w (List.mem_cons_of_mem _ h)
  have hown : s.vm.findClass RX5 = some m.cls := findClass_of_methodNamed B.named
  have hlocks := B.notSynchronized
  subst hsz
  have hD := hD0.self (sz := s.heap.size)
  generalize hAe : va_A [(a_o, .inr (4, [.ref a_o_queue, .ref a_o_steps, .ref a_o_firsts, .ref a_o_waysIn, .int o_reached])), (a_o_firsts, .inl (cI, 720, .inl o_firsts))] s.heap.size = A at hD ⊢
  have hA : ∀ q : Nat, s.heap.size ≤ q → A q := fun q h => by rw [← hAe]; exact Or.inr h
  have hS : va_S A s.heap s.heap [] := va_S.rf
  have hret : ∀ (H : Heap) (locs : List Loc) (ls : Array Slot) (pc : Nat) (v : Int32), some v = some res → decode cX5_firstTo pc = .ok (.ireturn, 1) → va_P (dC, dI) vwCl [(a_o, .inr (4, [.ref a_o_queue, .ref a_o_steps, .ref a_o_firsts, .ref a_o_waysIn, .int o_reached])), (a_o_firsts, .inl (cI, 720, .inl o_firsts))] H → va_D A [(a_o, .inr (4, [.ref a_o_queue, .ref a_o_steps, .ref a_o_firsts, .ref a_o_waysIn, .int o_reached])), (a_o_firsts, .inl (cI, 720, .inl o_firsts))] → va_S A s.heap H locs → W p l e (headSpec (kws yX5_firstTo cX5_firstTo 2 (some .int)) rm_X5_firstTo).room s m ([.ref a_o, .int x1] : List Value).toArray below meth c H locs 0 0 (MQ below (kQi Unit (dC, dI) A res (fun _ => [(a_o, .inr (4, [.ref a_o_queue, .ref a_o_steps, .ref a_o_firsts, .ref a_o_waysIn, .int o_reached])), (a_o_firsts, .inl (cI, 720, .inl o_firsts))])) ([.ref a_o, .int x1] : List Value).toArray s 0 0 A) (F0 m pc ls [.int v]) := by
    intro H locs ls pc v he hd hP hD hS
    obtain rfl := Option.some.inj he
    exact kri hx hb hr hlocks () hP hD hS hd
  have hl := lv_entry ([.ref a_o, .int x1]) (n := 2) (Nat.le_of_ble_eq_true rfl)
  rw [lg_entry_eq]
  generalize (lg_sl ([.ref a_o, .int x1]) ++ List.replicate (2 - (lg_sl ([.ref a_o, .int x1])).length) Slot.unset).toArray = ls at hl ⊢
  have hl : lv_has ls 2 [(0, .ref a_o), (1, .int x1)] := hl
  generalize (MQ below _ ([.ref a_o, .int x1] : List Value).toArray s 0 0 A) = Q at hret ⊢
  generalize ([.ref a_o, .int x1] : List Value).toArray = args at ht hret ⊢
  have hP : va_P (dC, dI) vwCl [(a_o, .inr (4, [.ref a_o_queue, .ref a_o_steps, .ref a_o_firsts, .ref a_o_waysIn, .int o_reached])), (a_o_firsts, .inl (cI, 720, .inl o_firsts))] s.heap := hP
  unfold f_X5_firstTo at hf
  obtain ⟨H, hH⟩ : ∃ H, H = s.heap := ⟨_, rfl⟩
  obtain ⟨locs, hlo⟩ : ∃ L : List Loc, L = [] := ⟨_, rfl⟩
  rw [← hH] at hP
  have hS : va_S A s.heap H locs := by rw [hH, hlo]; exact hS
  rw [show W p l e (headSpec (kws yX5_firstTo cX5_firstTo 2 (some .int)) rm_X5_firstTo).room s m args below meth c s.heap [] 0 0 Q (F0 m 0 ls []) = W p l e (headSpec (kws yX5_firstTo cX5_firstTo 2 (some .int)) rm_X5_firstTo).room s m args below meth c H locs 0 0 Q (F0 m 0 ls []) from by rw [hH, hlo]]
  refine lv_iload_n hx hb dX5_firstTo_0 rfl (lv_at hl 1 rfl) ?_
  refine lv_if_lt (tgt := 20) hx hb dX5_firstTo_1 (by decide) (fun c_1 => ?_) (fun c_1 => ?_)
  · have hf := ifp c_1 hf
    refine lv_iconst (v := (-1 : Int32)) hx hb dX5_firstTo_20 (by decide) ?_
    exact hret H locs ls 21 (-1 : Int32) hf dX5_firstTo_21 hP hD hS
  · have hf := ifn c_1 hf
    refine lv_iload_n hx hb dX5_firstTo_4 rfl (lv_at hl 1 rfl) ?_
    refine lv_sipush (v := (720 : Int32)) hx hb dX5_firstTo_5 (by decide) ?_
    refine lv_icmp_ge (tgt := 20) hx hb dX5_firstTo_8 (by decide) (fun c_2 => ?_) (fun c_2 => ?_)
    · have hf := ifp c_2 hf
      refine lv_iconst (v := (-1 : Int32)) hx hb dX5_firstTo_20 (by decide) ?_
      exact hret H locs ls 21 (-1 : Int32) hf dX5_firstTo_21 hP hD hS
    · have hf := ifn c_2 hf
      refine lv_aload_n hx hb dX5_firstTo_11 rfl (lv_at hl 0 rfl) ?_
      refine va_get (ci := 4) (v := .ref a_o_firsts) (C := RX5) (T := TX5) (N := 5) hx hb ht inX5 hown hK hP 0 rfl rfl 2 (by decide) (ht _ wd_1_165) (fun _ h9 => h9) rfl dX5_firstTo_12 ?_
      refine lv_iload_n hx hb dX5_firstTo_15 rfl (lv_at hl 1 rfl) ?_
      obtain ⟨b_3, hf⟩ := bd_some hf
      refine va_iald hx hb hK hP 1 0 rfl rfl b_3 dX5_firstTo_16 ?_
      refine lv_goto (tgt := 21) hx hb dX5_firstTo_17 (by decide) ?_
      exact hret H locs ls 21 (o_firsts x1.toNatClampNeg) hf dX5_firstTo_21 hP hD hS
def f_X5_nearestRest_l2 (o_reached : Int32) (o_queue : Nat → Int32) (q0_persons : Int32) (q0_size : Int32) (q0_changes : Int32) (q0_rows : Nat → Int32) (q0_edges : Nat → Int32) : Nat → Int32 → Option (Int32)
  | 0, _ => none
  | n + 1, x2 => if o_reached ≤ x2 then some (-1 : Int32) else bd x2 720 (Option.bind (f_X1_isRest (o_queue x2.toNatClampNeg) q0_persons q0_size q0_changes q0_rows q0_edges) (fun u_3 => if u_3 = 0 then (f_X5_nearestRest_l2 o_reached o_queue q0_persons q0_size q0_changes q0_rows q0_edges n) (x2 + (1 : Int32)) else bd x2 720 (some (o_queue x2.toNatClampNeg))))
def f_X5_nearestRest (o_reached : Int32) (o_queue : Nat → Int32) (q0_persons : Int32) (q0_size : Int32) (q0_changes : Int32) (q0_rows : Nat → Int32) (q0_edges : Nat → Int32) : Option (Int32) := f_X5_nearestRest_l2 o_reached o_queue q0_persons q0_size q0_changes q0_rows q0_edges NF (0 : Int32)
abbrev rm_X5_nearestRest : Room := { frames := 3, cells := 0, slots := 0, locals := 69 }
theorem kd_X5_nearestRest : yX5_nearestRest.cls ≠ "java/lang/invoke/MethodHandle" ∧ yX5_nearestRest.cls ≠ "java/lang/invoke/VarHandle" ∧ (parseMethodDescriptor yX5_nearestRest.desc).map (fun d => d.parameters.length) = some 1 := by decide +kernel
set_option maxHeartbeats 4000000 in
set_option maxRecDepth 100000 in
theorem c_X5_nearestRest (l : Launch) (dC : Nat → ClassId) (dI : Nat → Nat → Nat) (cI cJ cZ : ClassId) (a_o a_o_queue a_o_steps a_o_firsts a_o_waysIn a_q0 a_q0_rows a_q0_edges : Nat) (sz : Nat) (o_reached : Int32) (o_queue : Nat → Int32) (q0_persons : Int32) (q0_size : Int32) (q0_changes : Int32) (q0_restCount : Int32) (q0_firstRest : Int32) (q0_rows : Nat → Int32) (q0_edges : Nat → Int32) (res : Int32) (hf : f_X5_nearestRest o_reached o_queue q0_persons q0_size q0_changes q0_rows q0_edges = some res) : kMi Unit l yX5_nearestRest cX5_nearestRest 3 (some .int) rm_X5_nearestRest [.ref a_o, .ref a_q0] (dC, dI) (kT cI cJ cZ) sz [(a_o, .inr (4, [.ref a_o_queue, .ref a_o_steps, .ref a_o_firsts, .ref a_o_waysIn, .int o_reached])), (a_o_queue, .inl (cI, 720, .inl o_queue)), (a_q0, .inr (1, [.ref a_q0_rows, .ref a_q0_edges, .int q0_persons, .int q0_size, .int q0_changes, .int q0_restCount, .int q0_firstRest])), (a_q0_rows, .inl (cI, 720, .inl q0_rows)), (a_q0_edges, .inl (cI, 4320, .inl q0_edges))] res (fun _ => [(a_o, .inr (4, [.ref a_o_queue, .ref a_o_steps, .ref a_o_firsts, .ref a_o_waysIn, .int o_reached])), (a_o_queue, .inl (cI, 720, .inl o_queue)), (a_q0, .inr (1, [.ref a_q0_rows, .ref a_q0_edges, .int q0_persons, .int q0_size, .int q0_changes, .int q0_restCount, .int q0_firstRest])), (a_q0_rows, .inl (cI, 720, .inl q0_rows)), (a_q0_edges, .inl (cI, 4320, .inl q0_edges))]) := by
  refine Met.ofW (cc := cX5_nearestRest) (maxL := 3) (ret := (some .int)) (by decide) rfl ?_
  intro p e s m args below meth c s₁ B hml hv
  obtain ⟨rfl, hsz, hP, hK, hD0⟩ := hv
  have hx := B.exec
  have hb := B.bytes
  have hr := B.returns
  have ht : ∀ w ∈ lw_g, w.before ([.ref a_o, .ref a_q0] : List Value).toArray s = true := fun w h => atoms_spec (ws := kws yX5_nearestRest cX5_nearestRest 3 (some .int)) B.pre w (List.mem_cons_of_mem _ h)
  have hown : s.vm.findClass RX5 = some m.cls := findClass_of_methodNamed B.named
  have hlocks := B.notSynchronized
  subst hsz
  have hD := hD0.self (sz := s.heap.size)
  generalize hAe : va_A [(a_o, .inr (4, [.ref a_o_queue, .ref a_o_steps, .ref a_o_firsts, .ref a_o_waysIn, .int o_reached])), (a_o_queue, .inl (cI, 720, .inl o_queue)), (a_q0, .inr (1, [.ref a_q0_rows, .ref a_q0_edges, .int q0_persons, .int q0_size, .int q0_changes, .int q0_restCount, .int q0_firstRest])), (a_q0_rows, .inl (cI, 720, .inl q0_rows)), (a_q0_edges, .inl (cI, 4320, .inl q0_edges))] s.heap.size = A at hD ⊢
  have hA : ∀ q : Nat, s.heap.size ≤ q → A q := fun q h => by rw [← hAe]; exact Or.inr h
  have hS : va_S A s.heap s.heap [] := va_S.rf
  have hret : ∀ (H : Heap) (locs : List Loc) (ls : Array Slot) (pc : Nat) (v : Int32), some v = some res → decode cX5_nearestRest pc = .ok (.ireturn, 1) → va_P (dC, dI) vwCl [(a_o, .inr (4, [.ref a_o_queue, .ref a_o_steps, .ref a_o_firsts, .ref a_o_waysIn, .int o_reached])), (a_o_queue, .inl (cI, 720, .inl o_queue)), (a_q0, .inr (1, [.ref a_q0_rows, .ref a_q0_edges, .int q0_persons, .int q0_size, .int q0_changes, .int q0_restCount, .int q0_firstRest])), (a_q0_rows, .inl (cI, 720, .inl q0_rows)), (a_q0_edges, .inl (cI, 4320, .inl q0_edges))] H → va_D A [(a_o, .inr (4, [.ref a_o_queue, .ref a_o_steps, .ref a_o_firsts, .ref a_o_waysIn, .int o_reached])), (a_o_queue, .inl (cI, 720, .inl o_queue)), (a_q0, .inr (1, [.ref a_q0_rows, .ref a_q0_edges, .int q0_persons, .int q0_size, .int q0_changes, .int q0_restCount, .int q0_firstRest])), (a_q0_rows, .inl (cI, 720, .inl q0_rows)), (a_q0_edges, .inl (cI, 4320, .inl q0_edges))] → va_S A s.heap H locs → W p l e (headSpec (kws yX5_nearestRest cX5_nearestRest 3 (some .int)) rm_X5_nearestRest).room s m ([.ref a_o, .ref a_q0] : List Value).toArray below meth c H locs 0 0 (MQ below (kQi Unit (dC, dI) A res (fun _ => [(a_o, .inr (4, [.ref a_o_queue, .ref a_o_steps, .ref a_o_firsts, .ref a_o_waysIn, .int o_reached])), (a_o_queue, .inl (cI, 720, .inl o_queue)), (a_q0, .inr (1, [.ref a_q0_rows, .ref a_q0_edges, .int q0_persons, .int q0_size, .int q0_changes, .int q0_restCount, .int q0_firstRest])), (a_q0_rows, .inl (cI, 720, .inl q0_rows)), (a_q0_edges, .inl (cI, 4320, .inl q0_edges))])) ([.ref a_o, .ref a_q0] : List Value).toArray s 0 0 A) (F0 m pc ls [.int v]) := by
    intro H locs ls pc v he hd hP hD hS
    obtain rfl := Option.some.inj he
    exact kri hx hb hr hlocks () hP hD hS hd
  have hl := lv_entry ([.ref a_o, .ref a_q0]) (n := 3) (Nat.le_of_ble_eq_true rfl)
  rw [lg_entry_eq]
  generalize (lg_sl ([.ref a_o, .ref a_q0]) ++ List.replicate (3 - (lg_sl ([.ref a_o, .ref a_q0])).length) Slot.unset).toArray = ls at hl ⊢
  have hl : lv_has ls 3 [(0, .ref a_o), (1, .ref a_q0)] := hl
  generalize (MQ below _ ([.ref a_o, .ref a_q0] : List Value).toArray s 0 0 A) = Q at hret ⊢
  generalize ([.ref a_o, .ref a_q0] : List Value).toArray = args at ht hret ⊢
  have hP : va_P (dC, dI) vwCl [(a_o, .inr (4, [.ref a_o_queue, .ref a_o_steps, .ref a_o_firsts, .ref a_o_waysIn, .int o_reached])), (a_o_queue, .inl (cI, 720, .inl o_queue)), (a_q0, .inr (1, [.ref a_q0_rows, .ref a_q0_edges, .int q0_persons, .int q0_size, .int q0_changes, .int q0_restCount, .int q0_firstRest])), (a_q0_rows, .inl (cI, 720, .inl q0_rows)), (a_q0_edges, .inl (cI, 4320, .inl q0_edges))] s.heap := hP
  unfold f_X5_nearestRest at hf
  have L2 : ∀ (n : Nat) (x2 : Int32) (H : Heap) (locs : List Loc) (ls : Array Slot), f_X5_nearestRest_l2 o_reached o_queue q0_persons q0_size q0_changes q0_rows q0_edges n x2 = some res → va_P (dC, dI) vwCl [(a_o, .inr (4, [.ref a_o_queue, .ref a_o_steps, .ref a_o_firsts, .ref a_o_waysIn, .int o_reached])), (a_o_queue, .inl (cI, 720, .inl o_queue)), (a_q0, .inr (1, [.ref a_q0_rows, .ref a_q0_edges, .int q0_persons, .int q0_size, .int q0_changes, .int q0_restCount, .int q0_firstRest])), (a_q0_rows, .inl (cI, 720, .inl q0_rows)), (a_q0_edges, .inl (cI, 4320, .inl q0_edges))] H → va_D A [(a_o, .inr (4, [.ref a_o_queue, .ref a_o_steps, .ref a_o_firsts, .ref a_o_waysIn, .int o_reached])), (a_o_queue, .inl (cI, 720, .inl o_queue)), (a_q0, .inr (1, [.ref a_q0_rows, .ref a_q0_edges, .int q0_persons, .int q0_size, .int q0_changes, .int q0_restCount, .int q0_firstRest])), (a_q0_rows, .inl (cI, 720, .inl q0_rows)), (a_q0_edges, .inl (cI, 4320, .inl q0_edges))] → va_S A s.heap H locs → lv_has ls 3 [(0, .ref a_o), (1, .ref a_q0), (2, .int x2)] → W p l e (headSpec (kws yX5_nearestRest cX5_nearestRest 3 (some .int)) rm_X5_nearestRest).room s m args below meth c H locs 0 0 Q (F0 m 2 ls []) := by
    intro n
    induction n with
    | zero =>
      intro x2 H locs ls hf hP hD hS hl
      rw [f_X5_nearestRest_l2.eq_1] at hf
      cases hf
    | succ n2 ih2 =>
      intro x2 H locs ls hf hP hD hS hl
      rw [f_X5_nearestRest_l2.eq_2] at hf
      refine lv_iload_n hx hb dX5_nearestRest_2 rfl (lv_at hl 2 rfl) ?_
      refine lv_aload_n hx hb dX5_nearestRest_3 rfl (lv_at hl 0 rfl) ?_
      refine va_get (ci := 4) (v := .int o_reached) (C := RX5) (T := TX5) (N := 5) hx hb ht inX5 hown hK hP 0 rfl rfl 4 (by decide) (ht _ wd_1_167) (fun _ h9 => h9) rfl dX5_nearestRest_4 ?_
      refine lv_icmp_ge (tgt := 36) hx hb dX5_nearestRest_7 (by decide) (fun c_1 => ?_) (fun c_1 => ?_)
      · have hf := ifp c_1 hf
        refine lv_iconst (v := (-1 : Int32)) hx hb dX5_nearestRest_36 (by decide) ?_
        exact hret H locs ls 37 (-1 : Int32) hf dX5_nearestRest_37 hP hD hS
      · have hf := ifn c_1 hf
        refine lv_aload_n hx hb dX5_nearestRest_10 rfl (lv_at hl 1 rfl) ?_
        refine lv_aload_n hx hb dX5_nearestRest_11 rfl (lv_at hl 0 rfl) ?_
        refine va_get (ci := 4) (v := .ref a_o_queue) (C := RX5) (T := TX5) (N := 5) hx hb ht inX5 hown hK hP 0 rfl rfl 0 (by decide) (ht _ wd_1_163) (fun _ h9 => h9) rfl dX5_nearestRest_12 ?_
        refine lv_iload_n hx hb dX5_nearestRest_15 rfl (lv_at hl 2 rfl) ?_
        obtain ⟨b_2, hf⟩ := bd_some hf
        refine va_iald hx hb hK hP 1 0 rfl rfl b_2 dX5_nearestRest_16 ?_
        obtain ⟨u_3, h_4, hf⟩ := obs hf
        refine kcVi (rest := []) (wr := [(a_o, .inr (4, [.ref a_o_queue, .ref a_o_steps, .ref a_o_firsts, .ref a_o_waysIn, .int o_reached])), (a_o_queue, .inl (cI, 720, .inl o_queue))]) (w2 := fun _ => [(a_o, .inr (4, [.ref a_o_queue, .ref a_o_steps, .ref a_o_firsts, .ref a_o_waysIn, .int o_reached])), (a_o_queue, .inl (cI, 720, .inl o_queue)), (a_q0, .inr (1, [.ref a_q0_rows, .ref a_q0_edges, .int q0_persons, .int q0_size, .int q0_changes, .int q0_restCount, .int q0_firstRest])), (a_q0_rows, .inl (cI, 720, .inl q0_rows)), (a_q0_edges, .inl (cI, 4320, .inl q0_edges))]) hx hb hml hown ht (c_X1_isRest l dC dI cI cJ cZ a_q0 a_q0_rows a_q0_edges H.size q0_persons q0_size q0_changes q0_restCount q0_firstRest q0_rows q0_edges (o_queue x2.toNatClampNeg) u_3 h_4) (kcw 1 ht wd_3_25 wd_1_8 wd_3_89 kd_X1_isRest ⟨rfl, rfl⟩ ⟨Nat.le_of_ble_eq_true rfl, Nat.le_of_ble_eq_true rfl⟩) wd_3_23 wd_3_24 hK hP hD hS hA [2, 3, 4] [0, 1] [0, 1, 2, 3, 4] rfl rfl rfl rfl (by decide) rfl (fun _ => rfl) (ci := 1) rfl rfl rfl rfl hl.1 rfl (Nat.le_of_ble_eq_true rfl) dX5_nearestRest_17 ⟨Nat.zero_le _, Nat.zero_le _⟩ (fun _ H locs hP hD hS => ?_)
        have hP : va_P (dC, dI) vwCl [(a_o, .inr (4, [.ref a_o_queue, .ref a_o_steps, .ref a_o_firsts, .ref a_o_waysIn, .int o_reached])), (a_o_queue, .inl (cI, 720, .inl o_queue)), (a_q0, .inr (1, [.ref a_q0_rows, .ref a_q0_edges, .int q0_persons, .int q0_size, .int q0_changes, .int q0_restCount, .int q0_firstRest])), (a_q0_rows, .inl (cI, 720, .inl q0_rows)), (a_q0_edges, .inl (cI, 4320, .inl q0_edges))] H := hP
        have hD : va_D A [(a_o, .inr (4, [.ref a_o_queue, .ref a_o_steps, .ref a_o_firsts, .ref a_o_waysIn, .int o_reached])), (a_o_queue, .inl (cI, 720, .inl o_queue)), (a_q0, .inr (1, [.ref a_q0_rows, .ref a_q0_edges, .int q0_persons, .int q0_size, .int q0_changes, .int q0_restCount, .int q0_firstRest])), (a_q0_rows, .inl (cI, 720, .inl q0_rows)), (a_q0_edges, .inl (cI, 4320, .inl q0_edges))] := hD
        refine lv_if_eq (tgt := 30) hx hb dX5_nearestRest_20 (by decide) (fun c_5 => ?_) (fun c_5 => ?_)
        · have hf := ifp c_5 hf
          refine lv_iinc (v := (x2 + (1 : Int32))) (lv' := [(2, .int (x2 + (1 : Int32))), (0, .ref a_o), (1, .ref a_q0)]) hx hb dX5_nearestRest_30 hl (k := 2) rfl rfl (by decide) rfl (fun ls hl => ?_)
          refine lv_goto (tgt := 2) hx hb dX5_nearestRest_33 (by decide) ?_
          exact ih2 (x2 + (1 : Int32)) H locs ls hf hP hD hS (lv_sub hl [1, 2, 0] rfl)
        · have hf := ifn c_5 hf
          refine lv_aload_n hx hb dX5_nearestRest_23 rfl (lv_at hl 0 rfl) ?_
          refine va_get (ci := 4) (v := .ref a_o_queue) (C := RX5) (T := TX5) (N := 5) hx hb ht inX5 hown hK hP 0 rfl rfl 0 (by decide) (ht _ wd_1_163) (fun _ h9 => h9) rfl dX5_nearestRest_24 ?_
          refine lv_iload_n hx hb dX5_nearestRest_27 rfl (lv_at hl 2 rfl) ?_
          obtain ⟨b_6, hf⟩ := bd_some hf
          refine va_iald hx hb hK hP 1 0 rfl rfl b_6 dX5_nearestRest_28 ?_
          exact hret H locs ls 29 (o_queue x2.toNatClampNeg) hf dX5_nearestRest_29 hP hD hS
  obtain ⟨H, hH⟩ : ∃ H, H = s.heap := ⟨_, rfl⟩
  obtain ⟨locs, hlo⟩ : ∃ L : List Loc, L = [] := ⟨_, rfl⟩
  rw [← hH] at hP
  have hS : va_S A s.heap H locs := by rw [hH, hlo]; exact hS
  rw [show W p l e (headSpec (kws yX5_nearestRest cX5_nearestRest 3 (some .int)) rm_X5_nearestRest).room s m args below meth c s.heap [] 0 0 Q (F0 m 0 ls []) = W p l e (headSpec (kws yX5_nearestRest cX5_nearestRest 3 (some .int)) rm_X5_nearestRest).room s m args below meth c H locs 0 0 Q (F0 m 0 ls []) from by rw [hH, hlo]]
  refine lv_iconst (v := (0 : Int32)) hx hb dX5_nearestRest_0 (by decide) ?_
  refine lv_istore_n (lv' := [(2, .int (0 : Int32)), (0, .ref a_o), (1, .ref a_q0)]) hx hb dX5_nearestRest_1 rfl hl (by decide) rfl (fun ls hl => ?_)
  exact L2 NF (0 : Int32) H locs ls hf hP hD hS (lv_sub hl [1, 2, 0] rfl)
def f_X5_nearestWith_l3 (o_reached : Int32) (o_queue : Nat → Int32) (q0_size : Int32) (q0_rows : Nat → Int32) : Nat → Int32 → Int32 → Int32 → Option (Int32)
  | 0, _, _, _ => none
  | n + 1, x2, x3, x4 => if o_reached ≤ x4 then some (-1 : Int32) else bd x4 720 (Option.bind (f_X1_rowOf (o_queue x4.toNatClampNeg) q0_size q0_rows) (fun u_3 => Option.bind (f_X4_who u_3 x3) (fun u_5 => if u_5 = x2 then bd x4 720 (some (o_queue x4.toNatClampNeg)) else (f_X5_nearestWith_l3 o_reached o_queue q0_size q0_rows n) x2 x3 (x4 + (1 : Int32)))))
def f_X5_nearestWith (x2 : Int32) (x3 : Int32) (o_reached : Int32) (o_queue : Nat → Int32) (q0_size : Int32) (q0_rows : Nat → Int32) : Option (Int32) := f_X5_nearestWith_l3 o_reached o_queue q0_size q0_rows NF x2 x3 (0 : Int32)
abbrev rm_X5_nearestWith : Room := { frames := 1, cells := 0, slots := 0, locals := 21 }
theorem kd_X5_nearestWith : yX5_nearestWith.cls ≠ "java/lang/invoke/MethodHandle" ∧ yX5_nearestWith.cls ≠ "java/lang/invoke/VarHandle" ∧ (parseMethodDescriptor yX5_nearestWith.desc).map (fun d => d.parameters.length) = some 3 := by decide +kernel
set_option maxHeartbeats 4000000 in
set_option maxRecDepth 100000 in
theorem c_X5_nearestWith (l : Launch) (dC : Nat → ClassId) (dI : Nat → Nat → Nat) (cI cJ cZ : ClassId) (a_o a_o_queue a_o_steps a_o_firsts a_o_waysIn a_q0 a_q0_rows a_q0_edges : Nat) (sz : Nat) (o_reached : Int32) (o_queue : Nat → Int32) (q0_persons : Int32) (q0_size : Int32) (q0_changes : Int32) (q0_restCount : Int32) (q0_firstRest : Int32) (q0_rows : Nat → Int32) (x2 : Int32) (x3 : Int32) (res : Int32) (hf : f_X5_nearestWith x2 x3 o_reached o_queue q0_size q0_rows = some res) : kMi Unit l yX5_nearestWith cX5_nearestWith 5 (some .int) rm_X5_nearestWith [.ref a_o, .ref a_q0, .int x2, .int x3] (dC, dI) (kT cI cJ cZ) sz [(a_o, .inr (4, [.ref a_o_queue, .ref a_o_steps, .ref a_o_firsts, .ref a_o_waysIn, .int o_reached])), (a_o_queue, .inl (cI, 720, .inl o_queue)), (a_q0, .inr (1, [.ref a_q0_rows, .ref a_q0_edges, .int q0_persons, .int q0_size, .int q0_changes, .int q0_restCount, .int q0_firstRest])), (a_q0_rows, .inl (cI, 720, .inl q0_rows))] res (fun _ => [(a_o, .inr (4, [.ref a_o_queue, .ref a_o_steps, .ref a_o_firsts, .ref a_o_waysIn, .int o_reached])), (a_o_queue, .inl (cI, 720, .inl o_queue)), (a_q0, .inr (1, [.ref a_q0_rows, .ref a_q0_edges, .int q0_persons, .int q0_size, .int q0_changes, .int q0_restCount, .int q0_firstRest])), (a_q0_rows, .inl (cI, 720, .inl q0_rows))]) := by
  refine Met.ofW (cc := cX5_nearestWith) (maxL := 5) (ret := (some .int)) (by decide) rfl ?_
  intro p e s m args below meth c s₁ B hml hv
  obtain ⟨rfl, hsz, hP, hK, hD0⟩ := hv
  have hx := B.exec
  have hb := B.bytes
  have hr := B.returns
  have ht : ∀ w ∈ lw_g, w.before ([.ref a_o, .ref a_q0, .int x2, .int x3] : List Value).toArray s = true := fun w h => atoms_spec (ws := kws yX5_nearestWith cX5_nearestWith 5 (some .int)) B.pre w (List.mem_cons_of_mem _ h)
  have hown : s.vm.findClass RX5 = some m.cls := findClass_of_methodNamed B.named
  have hlocks := B.notSynchronized
  subst hsz
  have hD := hD0.self (sz := s.heap.size)
  generalize hAe : va_A [(a_o, .inr (4, [.ref a_o_queue, .ref a_o_steps, .ref a_o_firsts, .ref a_o_waysIn, .int o_reached])), (a_o_queue, .inl (cI, 720, .inl o_queue)), (a_q0, .inr (1, [.ref a_q0_rows, .ref a_q0_edges, .int q0_persons, .int q0_size, .int q0_changes, .int q0_restCount, .int q0_firstRest])), (a_q0_rows, .inl (cI, 720, .inl q0_rows))] s.heap.size = A at hD ⊢
  have hA : ∀ q : Nat, s.heap.size ≤ q → A q := fun q h => by rw [← hAe]; exact Or.inr h
  have hS : va_S A s.heap s.heap [] := va_S.rf
  have hret : ∀ (H : Heap) (locs : List Loc) (ls : Array Slot) (pc : Nat) (v : Int32), some v = some res → decode cX5_nearestWith pc = .ok (.ireturn, 1) → va_P (dC, dI) vwCl [(a_o, .inr (4, [.ref a_o_queue, .ref a_o_steps, .ref a_o_firsts, .ref a_o_waysIn, .int o_reached])), (a_o_queue, .inl (cI, 720, .inl o_queue)), (a_q0, .inr (1, [.ref a_q0_rows, .ref a_q0_edges, .int q0_persons, .int q0_size, .int q0_changes, .int q0_restCount, .int q0_firstRest])), (a_q0_rows, .inl (cI, 720, .inl q0_rows))] H → va_D A [(a_o, .inr (4, [.ref a_o_queue, .ref a_o_steps, .ref a_o_firsts, .ref a_o_waysIn, .int o_reached])), (a_o_queue, .inl (cI, 720, .inl o_queue)), (a_q0, .inr (1, [.ref a_q0_rows, .ref a_q0_edges, .int q0_persons, .int q0_size, .int q0_changes, .int q0_restCount, .int q0_firstRest])), (a_q0_rows, .inl (cI, 720, .inl q0_rows))] → va_S A s.heap H locs → W p l e (headSpec (kws yX5_nearestWith cX5_nearestWith 5 (some .int)) rm_X5_nearestWith).room s m ([.ref a_o, .ref a_q0, .int x2, .int x3] : List Value).toArray below meth c H locs 0 0 (MQ below (kQi Unit (dC, dI) A res (fun _ => [(a_o, .inr (4, [.ref a_o_queue, .ref a_o_steps, .ref a_o_firsts, .ref a_o_waysIn, .int o_reached])), (a_o_queue, .inl (cI, 720, .inl o_queue)), (a_q0, .inr (1, [.ref a_q0_rows, .ref a_q0_edges, .int q0_persons, .int q0_size, .int q0_changes, .int q0_restCount, .int q0_firstRest])), (a_q0_rows, .inl (cI, 720, .inl q0_rows))])) ([.ref a_o, .ref a_q0, .int x2, .int x3] : List Value).toArray s 0 0 A) (F0 m pc ls [.int v]) := by
    intro H locs ls pc v he hd hP hD hS
    obtain rfl := Option.some.inj he
    exact kri hx hb hr hlocks () hP hD hS hd
  have hl := lv_entry ([.ref a_o, .ref a_q0, .int x2, .int x3]) (n := 5) (Nat.le_of_ble_eq_true rfl)
  rw [lg_entry_eq]
  generalize (lg_sl ([.ref a_o, .ref a_q0, .int x2, .int x3]) ++ List.replicate (5 - (lg_sl ([.ref a_o, .ref a_q0, .int x2, .int x3])).length) Slot.unset).toArray = ls at hl ⊢
  have hl : lv_has ls 5 [(0, .ref a_o), (1, .ref a_q0), (2, .int x2), (3, .int x3)] := hl
  generalize (MQ below _ ([.ref a_o, .ref a_q0, .int x2, .int x3] : List Value).toArray s 0 0 A) = Q at hret ⊢
  generalize ([.ref a_o, .ref a_q0, .int x2, .int x3] : List Value).toArray = args at ht hret ⊢
  have hP : va_P (dC, dI) vwCl [(a_o, .inr (4, [.ref a_o_queue, .ref a_o_steps, .ref a_o_firsts, .ref a_o_waysIn, .int o_reached])), (a_o_queue, .inl (cI, 720, .inl o_queue)), (a_q0, .inr (1, [.ref a_q0_rows, .ref a_q0_edges, .int q0_persons, .int q0_size, .int q0_changes, .int q0_restCount, .int q0_firstRest])), (a_q0_rows, .inl (cI, 720, .inl q0_rows))] s.heap := hP
  unfold f_X5_nearestWith at hf
  have L3 : ∀ (n : Nat) (x2 : Int32) (x3 : Int32) (x4 : Int32) (H : Heap) (locs : List Loc) (ls : Array Slot), f_X5_nearestWith_l3 o_reached o_queue q0_size q0_rows n x2 x3 x4 = some res → va_P (dC, dI) vwCl [(a_o, .inr (4, [.ref a_o_queue, .ref a_o_steps, .ref a_o_firsts, .ref a_o_waysIn, .int o_reached])), (a_o_queue, .inl (cI, 720, .inl o_queue)), (a_q0, .inr (1, [.ref a_q0_rows, .ref a_q0_edges, .int q0_persons, .int q0_size, .int q0_changes, .int q0_restCount, .int q0_firstRest])), (a_q0_rows, .inl (cI, 720, .inl q0_rows))] H → va_D A [(a_o, .inr (4, [.ref a_o_queue, .ref a_o_steps, .ref a_o_firsts, .ref a_o_waysIn, .int o_reached])), (a_o_queue, .inl (cI, 720, .inl o_queue)), (a_q0, .inr (1, [.ref a_q0_rows, .ref a_q0_edges, .int q0_persons, .int q0_size, .int q0_changes, .int q0_restCount, .int q0_firstRest])), (a_q0_rows, .inl (cI, 720, .inl q0_rows))] → va_S A s.heap H locs → lv_has ls 5 [(0, .ref a_o), (1, .ref a_q0), (2, .int x2), (3, .int x3), (4, .int x4)] → W p l e (headSpec (kws yX5_nearestWith cX5_nearestWith 5 (some .int)) rm_X5_nearestWith).room s m args below meth c H locs 0 0 Q (F0 m 3 ls []) := by
    intro n
    induction n with
    | zero =>
      intro x2 x3 x4 H locs ls hf hP hD hS hl
      rw [f_X5_nearestWith_l3.eq_1] at hf
      cases hf
    | succ n3 ih3 =>
      intro x2 x3 x4 H locs ls hf hP hD hS hl
      rw [f_X5_nearestWith_l3.eq_2] at hf
      refine lv_iload hx hb dX5_nearestWith_3 (lv_at hl 4 rfl) ?_
      refine lv_aload_n hx hb dX5_nearestWith_5 rfl (lv_at hl 0 rfl) ?_
      refine va_get (ci := 4) (v := .int o_reached) (C := RX5) (T := TX5) (N := 5) hx hb ht inX5 hown hK hP 0 rfl rfl 4 (by decide) (ht _ wd_1_167) (fun _ h9 => h9) rfl dX5_nearestWith_6 ?_
      refine lv_icmp_ge (tgt := 45) hx hb dX5_nearestWith_9 (by decide) (fun c_1 => ?_) (fun c_1 => ?_)
      · have hf := ifp c_1 hf
        refine lv_iconst (v := (-1 : Int32)) hx hb dX5_nearestWith_45 (by decide) ?_
        exact hret H locs ls 46 (-1 : Int32) hf dX5_nearestWith_46 hP hD hS
      · have hf := ifn c_1 hf
        refine lv_aload_n hx hb dX5_nearestWith_12 rfl (lv_at hl 1 rfl) ?_
        refine lv_aload_n hx hb dX5_nearestWith_13 rfl (lv_at hl 0 rfl) ?_
        refine va_get (ci := 4) (v := .ref a_o_queue) (C := RX5) (T := TX5) (N := 5) hx hb ht inX5 hown hK hP 0 rfl rfl 0 (by decide) (ht _ wd_1_163) (fun _ h9 => h9) rfl dX5_nearestWith_14 ?_
        refine lv_iload hx hb dX5_nearestWith_17 (lv_at hl 4 rfl) ?_
        obtain ⟨b_2, hf⟩ := bd_some hf
        refine va_iald hx hb hK hP 1 0 rfl rfl b_2 dX5_nearestWith_19 ?_
        obtain ⟨u_3, h_4, hf⟩ := obs hf
        refine kcVi (rest := []) (wr := [(a_o, .inr (4, [.ref a_o_queue, .ref a_o_steps, .ref a_o_firsts, .ref a_o_waysIn, .int o_reached])), (a_o_queue, .inl (cI, 720, .inl o_queue))]) (w2 := fun _ => [(a_o, .inr (4, [.ref a_o_queue, .ref a_o_steps, .ref a_o_firsts, .ref a_o_waysIn, .int o_reached])), (a_o_queue, .inl (cI, 720, .inl o_queue)), (a_q0, .inr (1, [.ref a_q0_rows, .ref a_q0_edges, .int q0_persons, .int q0_size, .int q0_changes, .int q0_restCount, .int q0_firstRest])), (a_q0_rows, .inl (cI, 720, .inl q0_rows))]) hx hb hml hown ht (c_X1_rowOf l dC dI cI cJ cZ a_q0 a_q0_rows a_q0_edges H.size q0_persons q0_size q0_changes q0_restCount q0_firstRest q0_rows (o_queue x4.toNatClampNeg) u_3 h_4) (kcw 1 ht wd_3_34 wd_1_8 wd_3_114 kd_X1_rowOf ⟨rfl, rfl⟩ ⟨Nat.le_of_ble_eq_true rfl, Nat.le_of_ble_eq_true rfl⟩) wd_3_32 wd_3_33 hK hP hD hS hA [2, 3] [0, 1] [0, 1, 2, 3] rfl rfl rfl rfl (by decide) rfl (fun _ => rfl) (ci := 1) rfl rfl rfl rfl hl.1 rfl (Nat.le_of_ble_eq_true rfl) dX5_nearestWith_20 ⟨Nat.zero_le _, Nat.zero_le _⟩ (fun _ H locs hP hD hS => ?_)
        have hP : va_P (dC, dI) vwCl [(a_o, .inr (4, [.ref a_o_queue, .ref a_o_steps, .ref a_o_firsts, .ref a_o_waysIn, .int o_reached])), (a_o_queue, .inl (cI, 720, .inl o_queue)), (a_q0, .inr (1, [.ref a_q0_rows, .ref a_q0_edges, .int q0_persons, .int q0_size, .int q0_changes, .int q0_restCount, .int q0_firstRest])), (a_q0_rows, .inl (cI, 720, .inl q0_rows))] H := hP
        have hD : va_D A [(a_o, .inr (4, [.ref a_o_queue, .ref a_o_steps, .ref a_o_firsts, .ref a_o_waysIn, .int o_reached])), (a_o_queue, .inl (cI, 720, .inl o_queue)), (a_q0, .inr (1, [.ref a_q0_rows, .ref a_q0_edges, .int q0_persons, .int q0_size, .int q0_changes, .int q0_restCount, .int q0_firstRest])), (a_q0_rows, .inl (cI, 720, .inl q0_rows))] := hD
        refine lv_iload_n hx hb dX5_nearestWith_23 rfl (lv_at hl 3 rfl) ?_
        obtain ⟨u_5, h_6, hf⟩ := obs hf
        refine kcSi (rest := []) (wr := [(a_o, .inr (4, [.ref a_o_queue, .ref a_o_steps, .ref a_o_firsts, .ref a_o_waysIn, .int o_reached])), (a_o_queue, .inl (cI, 720, .inl o_queue)), (a_q0, .inr (1, [.ref a_q0_rows, .ref a_q0_edges, .int q0_persons, .int q0_size, .int q0_changes, .int q0_restCount, .int q0_firstRest])), (a_q0_rows, .inl (cI, 720, .inl q0_rows))]) (w2 := fun _ => [(a_o, .inr (4, [.ref a_o_queue, .ref a_o_steps, .ref a_o_firsts, .ref a_o_waysIn, .int o_reached])), (a_o_queue, .inl (cI, 720, .inl o_queue)), (a_q0, .inr (1, [.ref a_q0_rows, .ref a_q0_edges, .int q0_persons, .int q0_size, .int q0_changes, .int q0_restCount, .int q0_firstRest])), (a_q0_rows, .inl (cI, 720, .inl q0_rows))]) hx hb hml hown ht (c_X4_who l dC dI cI cJ cZ H.size u_3 x3 u_5 h_6) (kcw 2 ht wd_2_93 wd_1_12 wd_3_115 kd_X4_who ⟨rfl, rfl⟩ ⟨Nat.le_of_ble_eq_true rfl, Nat.le_of_ble_eq_true rfl⟩) wd_2_92 hK hP hD hS hA [] [0, 1, 2, 3] [0, 1, 2, 3] rfl rfl rfl rfl (by decide) rfl (fun _ => rfl) rfl hl.1 rfl (Nat.le_of_ble_eq_true rfl) dX5_nearestWith_24 ⟨Nat.zero_le _, Nat.zero_le _⟩ (fun _ H locs hP hD hS => ?_)
        have hP : va_P (dC, dI) vwCl [(a_o, .inr (4, [.ref a_o_queue, .ref a_o_steps, .ref a_o_firsts, .ref a_o_waysIn, .int o_reached])), (a_o_queue, .inl (cI, 720, .inl o_queue)), (a_q0, .inr (1, [.ref a_q0_rows, .ref a_q0_edges, .int q0_persons, .int q0_size, .int q0_changes, .int q0_restCount, .int q0_firstRest])), (a_q0_rows, .inl (cI, 720, .inl q0_rows))] H := hP
        have hD : va_D A [(a_o, .inr (4, [.ref a_o_queue, .ref a_o_steps, .ref a_o_firsts, .ref a_o_waysIn, .int o_reached])), (a_o_queue, .inl (cI, 720, .inl o_queue)), (a_q0, .inr (1, [.ref a_q0_rows, .ref a_q0_edges, .int q0_persons, .int q0_size, .int q0_changes, .int q0_restCount, .int q0_firstRest])), (a_q0_rows, .inl (cI, 720, .inl q0_rows))] := hD
        refine lv_iload_n hx hb dX5_nearestWith_27 rfl (lv_at hl 2 rfl) ?_
        refine lv_icmp_ne (tgt := 39) hx hb dX5_nearestWith_28 (by decide) (fun c_7 => ?_) (fun c_7 => ?_)
        · have hf := ifn c_7 hf
          refine lv_iinc (v := (x4 + (1 : Int32))) (lv' := [(4, .int (x4 + (1 : Int32))), (0, .ref a_o), (1, .ref a_q0), (2, .int x2), (3, .int x3)]) hx hb dX5_nearestWith_39 hl (k := 4) rfl rfl (by decide) rfl (fun ls hl => ?_)
          refine lv_goto (tgt := 3) hx hb dX5_nearestWith_42 (by decide) ?_
          exact ih3 x2 x3 (x4 + (1 : Int32)) H locs ls hf hP hD hS (lv_sub hl [1, 2, 3, 4, 0] rfl)
        · have hf := ifp c_7 hf
          refine lv_aload_n hx hb dX5_nearestWith_31 rfl (lv_at hl 0 rfl) ?_
          refine va_get (ci := 4) (v := .ref a_o_queue) (C := RX5) (T := TX5) (N := 5) hx hb ht inX5 hown hK hP 0 rfl rfl 0 (by decide) (ht _ wd_1_163) (fun _ h9 => h9) rfl dX5_nearestWith_32 ?_
          refine lv_iload hx hb dX5_nearestWith_35 (lv_at hl 4 rfl) ?_
          obtain ⟨b_8, hf⟩ := bd_some hf
          refine va_iald hx hb hK hP 1 0 rfl rfl b_8 dX5_nearestWith_37 ?_
          exact hret H locs ls 38 (o_queue x4.toNatClampNeg) hf dX5_nearestWith_38 hP hD hS
  obtain ⟨H, hH⟩ : ∃ H, H = s.heap := ⟨_, rfl⟩
  obtain ⟨locs, hlo⟩ : ∃ L : List Loc, L = [] := ⟨_, rfl⟩
  rw [← hH] at hP
  have hS : va_S A s.heap H locs := by rw [hH, hlo]; exact hS
  rw [show W p l e (headSpec (kws yX5_nearestWith cX5_nearestWith 5 (some .int)) rm_X5_nearestWith).room s m args below meth c s.heap [] 0 0 Q (F0 m 0 ls []) = W p l e (headSpec (kws yX5_nearestWith cX5_nearestWith 5 (some .int)) rm_X5_nearestWith).room s m args below meth c H locs 0 0 Q (F0 m 0 ls []) from by rw [hH, hlo]]
  refine lv_iconst (v := (0 : Int32)) hx hb dX5_nearestWith_0 (by decide) ?_
  refine lv_istore (lv' := [(4, .int (0 : Int32)), (0, .ref a_o), (1, .ref a_q0), (2, .int x2), (3, .int x3)]) hx hb dX5_nearestWith_1 hl (by decide) rfl (fun ls hl => ?_)
  exact L3 NF x2 x3 (0 : Int32) H locs ls hf hP hD hS (lv_sub hl [1, 2, 3, 4, 0] rfl)
def f_X5_countWaysIn_b58 (o_reached : Int32) (o_queue : Nat → Int32) (q0_persons : Int32) (q0_size : Int32) (q0_changes : Int32) (q0_rows : Nat → Int32) (q0_edges : Nat → Int32) (K10 : Int32 → (Nat → Int32) → Option ((Nat → Int32))) (K20 : Int32 → Int32 → (Nat → Int32) → Option ((Nat → Int32))) (x2 : Int32) (x3 : Int32) (o_waysIn : Nat → Int32) : Option ((Nat → Int32)) := K20 x2 (x3 + (1 : Int32)) o_waysIn
def f_X5_countWaysIn_l20 (o_reached : Int32) (o_queue : Nat → Int32) (q0_persons : Int32) (q0_size : Int32) (q0_changes : Int32) (q0_rows : Nat → Int32) (q0_edges : Nat → Int32) (K10 : Int32 → (Nat → Int32) → Option ((Nat → Int32))) : Nat → Int32 → Int32 → (Nat → Int32) → Option ((Nat → Int32))
  | 0, _, _, _ => none
  | n + 1, x2, x3, o_waysIn => if q0_changes ≤ x3 then K10 (x2 + (1 : Int32)) o_waysIn else bd x2 720 (Option.bind (f_X1_leadsTo (o_queue x2.toNatClampNeg) x3 (-1 : Int32) q0_persons q0_size q0_changes q0_rows q0_edges) (fun u_3 => if u_3 < 0 then f_X5_countWaysIn_b58 o_reached o_queue q0_persons q0_size q0_changes q0_rows q0_edges K10 (f_X5_countWaysIn_l20 o_reached o_queue q0_persons q0_size q0_changes q0_rows q0_edges K10 n) x2 x3 o_waysIn else bd u_3 720 (bd u_3 720 (f_X5_countWaysIn_b58 o_reached o_queue q0_persons q0_size q0_changes q0_rows q0_edges K10 (f_X5_countWaysIn_l20 o_reached o_queue q0_persons q0_size q0_changes q0_rows q0_edges K10 n) x2 x3 (upd o_waysIn u_3.toNatClampNeg ((o_waysIn u_3.toNatClampNeg) + (1 : Int32)))))))
def f_X5_countWaysIn_l10 (o_reached : Int32) (o_queue : Nat → Int32) (q0_persons : Int32) (q0_size : Int32) (q0_changes : Int32) (q0_rows : Nat → Int32) (q0_edges : Nat → Int32) : Nat → Int32 → (Nat → Int32) → Option ((Nat → Int32))
  | 0, _, _ => none
  | n + 1, x2, o_waysIn => if o_reached ≤ x2 then some o_waysIn else f_X5_countWaysIn_l20 o_reached o_queue q0_persons q0_size q0_changes q0_rows q0_edges (f_X5_countWaysIn_l10 o_reached o_queue q0_persons q0_size q0_changes q0_rows q0_edges n) NF x2 (0 : Int32) o_waysIn
def f_X5_countWaysIn (o_reached : Int32) (o_queue : Nat → Int32) (o_waysIn : Nat → Int32) (q0_persons : Int32) (q0_size : Int32) (q0_changes : Int32) (q0_rows : Nat → Int32) (q0_edges : Nat → Int32) : Option ((Nat → Int32)) := Option.bind (f_J7_fill_53178 (0 : Int32) 720 o_waysIn) (fun u_9 => f_X5_countWaysIn_l10 o_reached o_queue q0_persons q0_size q0_changes q0_rows q0_edges NF (0 : Int32) u_9)
abbrev rm_X5_countWaysIn : Room := { frames := 2, cells := 0, slots := 0, locals := 47 }
theorem kd_X5_countWaysIn : yX5_countWaysIn.cls ≠ "java/lang/invoke/MethodHandle" ∧ yX5_countWaysIn.cls ≠ "java/lang/invoke/VarHandle" ∧ (parseMethodDescriptor yX5_countWaysIn.desc).map (fun d => d.parameters.length) = some 1 := by decide +kernel
set_option maxHeartbeats 4000000 in
set_option maxRecDepth 100000 in
theorem c_X5_countWaysIn (l : Launch) (dC : Nat → ClassId) (dI : Nat → Nat → Nat) (cI cJ cZ : ClassId) (a_o a_o_queue a_o_steps a_o_firsts a_o_waysIn a_q0 a_q0_rows a_q0_edges : Nat) (sz : Nat) (o_reached : Int32) (o_queue : Nat → Int32) (o_waysIn : Nat → Int32) (q0_persons : Int32) (q0_size : Int32) (q0_changes : Int32) (q0_restCount : Int32) (q0_firstRest : Int32) (q0_rows : Nat → Int32) (q0_edges : Nat → Int32) (res : (Nat → Int32)) (hf : f_X5_countWaysIn o_reached o_queue o_waysIn q0_persons q0_size q0_changes q0_rows q0_edges = some res) : kMv Unit l yX5_countWaysIn cX5_countWaysIn 5 rm_X5_countWaysIn [.ref a_o, .ref a_q0] (dC, dI) (kT cI cJ cZ) sz [(a_o, .inr (4, [.ref a_o_queue, .ref a_o_steps, .ref a_o_firsts, .ref a_o_waysIn, .int o_reached])), (a_o_queue, .inl (cI, 720, .inl o_queue)), (a_o_waysIn, .inl (cI, 720, .inl o_waysIn)), (a_q0, .inr (1, [.ref a_q0_rows, .ref a_q0_edges, .int q0_persons, .int q0_size, .int q0_changes, .int q0_restCount, .int q0_firstRest])), (a_q0_rows, .inl (cI, 720, .inl q0_rows)), (a_q0_edges, .inl (cI, 4320, .inl q0_edges))] (fun _ => [(a_o, .inr (4, [.ref a_o_queue, .ref a_o_steps, .ref a_o_firsts, .ref a_o_waysIn, .int o_reached])), (a_o_queue, .inl (cI, 720, .inl o_queue)), (a_o_waysIn, .inl (cI, 720, .inl res)), (a_q0, .inr (1, [.ref a_q0_rows, .ref a_q0_edges, .int q0_persons, .int q0_size, .int q0_changes, .int q0_restCount, .int q0_firstRest])), (a_q0_rows, .inl (cI, 720, .inl q0_rows)), (a_q0_edges, .inl (cI, 4320, .inl q0_edges))]) := by
  refine Met.ofW (cc := cX5_countWaysIn) (maxL := 5) (ret := none) (by decide) rfl ?_
  intro p e s m args below meth c s₁ B hml hv
  obtain ⟨rfl, hsz, hP, hK, hD0⟩ := hv
  have hx := B.exec
  have hb := B.bytes
  have hr := B.returns
  have ht : ∀ w ∈ lw_g, w.before ([.ref a_o, .ref a_q0] : List Value).toArray s = true := fun w h => atoms_spec (ws := kws yX5_countWaysIn cX5_countWaysIn 5 none) B.pre w (List.mem_cons_of_mem _ h)
  have hown : s.vm.findClass RX5 = some m.cls := findClass_of_methodNamed B.named
  have hlocks := B.notSynchronized
  subst hsz
  have hD := hD0.self (sz := s.heap.size)
  generalize hAe : va_A [(a_o, .inr (4, [.ref a_o_queue, .ref a_o_steps, .ref a_o_firsts, .ref a_o_waysIn, .int o_reached])), (a_o_queue, .inl (cI, 720, .inl o_queue)), (a_o_waysIn, .inl (cI, 720, .inl o_waysIn)), (a_q0, .inr (1, [.ref a_q0_rows, .ref a_q0_edges, .int q0_persons, .int q0_size, .int q0_changes, .int q0_restCount, .int q0_firstRest])), (a_q0_rows, .inl (cI, 720, .inl q0_rows)), (a_q0_edges, .inl (cI, 4320, .inl q0_edges))] s.heap.size = A at hD ⊢
  have hA : ∀ q : Nat, s.heap.size ≤ q → A q := fun q h => by rw [← hAe]; exact Or.inr h
  have hS : va_S A s.heap s.heap [] := va_S.rf
  have hret : ∀ (H : Heap) (locs : List Loc) (ls : Array Slot) (pc : Nat) (o0 : Nat → Int32), some o0 = some res → decode cX5_countWaysIn pc = .ok (.return_, 1) → va_P (dC, dI) vwCl [(a_o, .inr (4, [.ref a_o_queue, .ref a_o_steps, .ref a_o_firsts, .ref a_o_waysIn, .int o_reached])), (a_o_queue, .inl (cI, 720, .inl o_queue)), (a_o_waysIn, .inl (cI, 720, .inl o0)), (a_q0, .inr (1, [.ref a_q0_rows, .ref a_q0_edges, .int q0_persons, .int q0_size, .int q0_changes, .int q0_restCount, .int q0_firstRest])), (a_q0_rows, .inl (cI, 720, .inl q0_rows)), (a_q0_edges, .inl (cI, 4320, .inl q0_edges))] H → va_D A [(a_o, .inr (4, [.ref a_o_queue, .ref a_o_steps, .ref a_o_firsts, .ref a_o_waysIn, .int o_reached])), (a_o_queue, .inl (cI, 720, .inl o_queue)), (a_o_waysIn, .inl (cI, 720, .inl o0)), (a_q0, .inr (1, [.ref a_q0_rows, .ref a_q0_edges, .int q0_persons, .int q0_size, .int q0_changes, .int q0_restCount, .int q0_firstRest])), (a_q0_rows, .inl (cI, 720, .inl q0_rows)), (a_q0_edges, .inl (cI, 4320, .inl q0_edges))] → va_S A s.heap H locs → W p l e (headSpec (kws yX5_countWaysIn cX5_countWaysIn 5 none) rm_X5_countWaysIn).room s m ([.ref a_o, .ref a_q0] : List Value).toArray below meth c H locs 0 0 (MQ below (kQv Unit (dC, dI) A (fun _ => [(a_o, .inr (4, [.ref a_o_queue, .ref a_o_steps, .ref a_o_firsts, .ref a_o_waysIn, .int o_reached])), (a_o_queue, .inl (cI, 720, .inl o_queue)), (a_o_waysIn, .inl (cI, 720, .inl res)), (a_q0, .inr (1, [.ref a_q0_rows, .ref a_q0_edges, .int q0_persons, .int q0_size, .int q0_changes, .int q0_restCount, .int q0_firstRest])), (a_q0_rows, .inl (cI, 720, .inl q0_rows)), (a_q0_edges, .inl (cI, 4320, .inl q0_edges))])) ([.ref a_o, .ref a_q0] : List Value).toArray s 0 0 A) (F0 m pc ls []) := by
    intro H locs ls pc o0 he hd hP hD hS
    obtain rfl := Option.some.inj he
    exact krv hx hb hr hlocks () hP hD hS hd
  have hl := lv_entry ([.ref a_o, .ref a_q0]) (n := 5) (Nat.le_of_ble_eq_true rfl)
  rw [lg_entry_eq]
  generalize (lg_sl ([.ref a_o, .ref a_q0]) ++ List.replicate (5 - (lg_sl ([.ref a_o, .ref a_q0])).length) Slot.unset).toArray = ls at hl ⊢
  have hl : lv_has ls 5 [(0, .ref a_o), (1, .ref a_q0)] := hl
  generalize (MQ below _ ([.ref a_o, .ref a_q0] : List Value).toArray s 0 0 A) = Q at hret ⊢
  generalize ([.ref a_o, .ref a_q0] : List Value).toArray = args at ht hret ⊢
  have hP : va_P (dC, dI) vwCl [(a_o, .inr (4, [.ref a_o_queue, .ref a_o_steps, .ref a_o_firsts, .ref a_o_waysIn, .int o_reached])), (a_o_queue, .inl (cI, 720, .inl o_queue)), (a_o_waysIn, .inl (cI, 720, .inl o_waysIn)), (a_q0, .inr (1, [.ref a_q0_rows, .ref a_q0_edges, .int q0_persons, .int q0_size, .int q0_changes, .int q0_restCount, .int q0_firstRest])), (a_q0_rows, .inl (cI, 720, .inl q0_rows)), (a_q0_edges, .inl (cI, 4320, .inl q0_edges))] s.heap := hP
  unfold f_X5_countWaysIn at hf
  have L10 : ∀ (n : Nat) (x2 : Int32) (o_waysIn : Nat → Int32) (H : Heap) (locs : List Loc) (ls : Array Slot), f_X5_countWaysIn_l10 o_reached o_queue q0_persons q0_size q0_changes q0_rows q0_edges n x2 o_waysIn = some res → va_P (dC, dI) vwCl [(a_o, .inr (4, [.ref a_o_queue, .ref a_o_steps, .ref a_o_firsts, .ref a_o_waysIn, .int o_reached])), (a_o_queue, .inl (cI, 720, .inl o_queue)), (a_o_waysIn, .inl (cI, 720, .inl o_waysIn)), (a_q0, .inr (1, [.ref a_q0_rows, .ref a_q0_edges, .int q0_persons, .int q0_size, .int q0_changes, .int q0_restCount, .int q0_firstRest])), (a_q0_rows, .inl (cI, 720, .inl q0_rows)), (a_q0_edges, .inl (cI, 4320, .inl q0_edges))] H → va_D A [(a_o, .inr (4, [.ref a_o_queue, .ref a_o_steps, .ref a_o_firsts, .ref a_o_waysIn, .int o_reached])), (a_o_queue, .inl (cI, 720, .inl o_queue)), (a_o_waysIn, .inl (cI, 720, .inl o_waysIn)), (a_q0, .inr (1, [.ref a_q0_rows, .ref a_q0_edges, .int q0_persons, .int q0_size, .int q0_changes, .int q0_restCount, .int q0_firstRest])), (a_q0_rows, .inl (cI, 720, .inl q0_rows)), (a_q0_edges, .inl (cI, 4320, .inl q0_edges))] → va_S A s.heap H locs → lv_has ls 5 [(0, .ref a_o), (1, .ref a_q0), (2, .int x2)] → W p l e (headSpec (kws yX5_countWaysIn cX5_countWaysIn 5 none) rm_X5_countWaysIn).room s m args below meth c H locs 0 0 Q (F0 m 10 ls []) := by
    intro n
    induction n with
    | zero =>
      intro x2 o_waysIn H locs ls hf hP hD hS hl
      rw [f_X5_countWaysIn_l10.eq_1] at hf
      cases hf
    | succ n10 ih10 =>
      have L20 : ∀ (n : Nat) (x2 : Int32) (x3 : Int32) (o_waysIn : Nat → Int32) (H : Heap) (locs : List Loc) (ls : Array Slot), f_X5_countWaysIn_l20 o_reached o_queue q0_persons q0_size q0_changes q0_rows q0_edges (f_X5_countWaysIn_l10 o_reached o_queue q0_persons q0_size q0_changes q0_rows q0_edges n10) n x2 x3 o_waysIn = some res → va_P (dC, dI) vwCl [(a_o, .inr (4, [.ref a_o_queue, .ref a_o_steps, .ref a_o_firsts, .ref a_o_waysIn, .int o_reached])), (a_o_queue, .inl (cI, 720, .inl o_queue)), (a_o_waysIn, .inl (cI, 720, .inl o_waysIn)), (a_q0, .inr (1, [.ref a_q0_rows, .ref a_q0_edges, .int q0_persons, .int q0_size, .int q0_changes, .int q0_restCount, .int q0_firstRest])), (a_q0_rows, .inl (cI, 720, .inl q0_rows)), (a_q0_edges, .inl (cI, 4320, .inl q0_edges))] H → va_D A [(a_o, .inr (4, [.ref a_o_queue, .ref a_o_steps, .ref a_o_firsts, .ref a_o_waysIn, .int o_reached])), (a_o_queue, .inl (cI, 720, .inl o_queue)), (a_o_waysIn, .inl (cI, 720, .inl o_waysIn)), (a_q0, .inr (1, [.ref a_q0_rows, .ref a_q0_edges, .int q0_persons, .int q0_size, .int q0_changes, .int q0_restCount, .int q0_firstRest])), (a_q0_rows, .inl (cI, 720, .inl q0_rows)), (a_q0_edges, .inl (cI, 4320, .inl q0_edges))] → va_S A s.heap H locs → lv_has ls 5 [(0, .ref a_o), (1, .ref a_q0), (2, .int x2), (3, .int x3)] → W p l e (headSpec (kws yX5_countWaysIn cX5_countWaysIn 5 none) rm_X5_countWaysIn).room s m args below meth c H locs 0 0 Q (F0 m 20 ls []) := by
        intro n
        induction n with
        | zero =>
          intro x2 x3 o_waysIn H locs ls hf hP hD hS hl
          rw [f_X5_countWaysIn_l20.eq_1] at hf
          cases hf
        | succ n20 ih20 =>
          have B58 : ∀ (x2 : Int32) (x3 : Int32) (o_waysIn : Nat → Int32) (H : Heap) (locs : List Loc) (ls : Array Slot), f_X5_countWaysIn_b58 o_reached o_queue q0_persons q0_size q0_changes q0_rows q0_edges (f_X5_countWaysIn_l10 o_reached o_queue q0_persons q0_size q0_changes q0_rows q0_edges n10) (f_X5_countWaysIn_l20 o_reached o_queue q0_persons q0_size q0_changes q0_rows q0_edges (f_X5_countWaysIn_l10 o_reached o_queue q0_persons q0_size q0_changes q0_rows q0_edges n10) n20) x2 x3 o_waysIn = some res → va_P (dC, dI) vwCl [(a_o, .inr (4, [.ref a_o_queue, .ref a_o_steps, .ref a_o_firsts, .ref a_o_waysIn, .int o_reached])), (a_o_queue, .inl (cI, 720, .inl o_queue)), (a_o_waysIn, .inl (cI, 720, .inl o_waysIn)), (a_q0, .inr (1, [.ref a_q0_rows, .ref a_q0_edges, .int q0_persons, .int q0_size, .int q0_changes, .int q0_restCount, .int q0_firstRest])), (a_q0_rows, .inl (cI, 720, .inl q0_rows)), (a_q0_edges, .inl (cI, 4320, .inl q0_edges))] H → va_D A [(a_o, .inr (4, [.ref a_o_queue, .ref a_o_steps, .ref a_o_firsts, .ref a_o_waysIn, .int o_reached])), (a_o_queue, .inl (cI, 720, .inl o_queue)), (a_o_waysIn, .inl (cI, 720, .inl o_waysIn)), (a_q0, .inr (1, [.ref a_q0_rows, .ref a_q0_edges, .int q0_persons, .int q0_size, .int q0_changes, .int q0_restCount, .int q0_firstRest])), (a_q0_rows, .inl (cI, 720, .inl q0_rows)), (a_q0_edges, .inl (cI, 4320, .inl q0_edges))] → va_S A s.heap H locs → lv_has ls 5 [(0, .ref a_o), (1, .ref a_q0), (2, .int x2), (3, .int x3)] → W p l e (headSpec (kws yX5_countWaysIn cX5_countWaysIn 5 none) rm_X5_countWaysIn).room s m args below meth c H locs 0 0 Q (F0 m 58 ls []) := by
            intro x2 x3 o_waysIn H locs ls hf hP hD hS hl
            unfold f_X5_countWaysIn_b58 at hf
            refine lv_iinc (v := (x3 + (1 : Int32))) (lv' := [(3, .int (x3 + (1 : Int32))), (0, .ref a_o), (1, .ref a_q0), (2, .int x2)]) hx hb dX5_countWaysIn_58 hl (k := 3) rfl rfl (by decide) rfl (fun ls hl => ?_)
            refine lv_goto (tgt := 20) hx hb dX5_countWaysIn_61 (by decide) ?_
            exact ih20 x2 (x3 + (1 : Int32)) o_waysIn H locs ls hf hP hD hS (lv_sub hl [1, 2, 3, 0] rfl)
          intro x2 x3 o_waysIn H locs ls hf hP hD hS hl
          rw [f_X5_countWaysIn_l20.eq_2] at hf
          refine lv_iload_n hx hb dX5_countWaysIn_20 rfl (lv_at hl 3 rfl) ?_
          refine lv_aload_n hx hb dX5_countWaysIn_21 rfl (lv_at hl 1 rfl) ?_
          refine va_get (ci := 1) (v := .int q0_changes) (C := RX1) (T := TX1) (N := 7) hx hb ht inX1 hown hK hP 3 rfl rfl 4 (by decide) (ht _ wd_1_137) (fun _ h9 => h9) rfl dX5_countWaysIn_22 ?_
          refine lv_icmp_ge (tgt := 64) hx hb dX5_countWaysIn_25 (by decide) (fun c_1 => ?_) (fun c_1 => ?_)
          · have hf := ifp c_1 hf
            refine lv_iinc (v := (x2 + (1 : Int32))) (lv' := [(2, .int (x2 + (1 : Int32))), (0, .ref a_o), (1, .ref a_q0), (3, .int x3)]) hx hb dX5_countWaysIn_64 hl (k := 2) rfl rfl (by decide) rfl (fun ls hl => ?_)
            refine lv_goto (tgt := 10) hx hb dX5_countWaysIn_67 (by decide) ?_
            exact ih10 (x2 + (1 : Int32)) o_waysIn H locs ls hf hP hD hS (lv_sub hl [1, 2, 0] rfl)
          · have hf := ifn c_1 hf
            refine lv_aload_n hx hb dX5_countWaysIn_28 rfl (lv_at hl 1 rfl) ?_
            refine lv_aload_n hx hb dX5_countWaysIn_29 rfl (lv_at hl 0 rfl) ?_
            refine va_get (ci := 4) (v := .ref a_o_queue) (C := RX5) (T := TX5) (N := 5) hx hb ht inX5 hown hK hP 0 rfl rfl 0 (by decide) (ht _ wd_1_163) (fun _ h9 => h9) rfl dX5_countWaysIn_30 ?_
            refine lv_iload_n hx hb dX5_countWaysIn_33 rfl (lv_at hl 2 rfl) ?_
            obtain ⟨b_2, hf⟩ := bd_some hf
            refine va_iald hx hb hK hP 1 0 rfl rfl b_2 dX5_countWaysIn_34 ?_
            refine lv_iload_n hx hb dX5_countWaysIn_35 rfl (lv_at hl 3 rfl) ?_
            refine lv_iconst (v := (-1 : Int32)) hx hb dX5_countWaysIn_36 (by decide) ?_
            obtain ⟨u_3, h_4, hf⟩ := obs hf
            refine kcVi (rest := []) (wr := [(a_o, .inr (4, [.ref a_o_queue, .ref a_o_steps, .ref a_o_firsts, .ref a_o_waysIn, .int o_reached])), (a_o_queue, .inl (cI, 720, .inl o_queue)), (a_o_waysIn, .inl (cI, 720, .inl o_waysIn))]) (w2 := fun _ => [(a_o, .inr (4, [.ref a_o_queue, .ref a_o_steps, .ref a_o_firsts, .ref a_o_waysIn, .int o_reached])), (a_o_queue, .inl (cI, 720, .inl o_queue)), (a_o_waysIn, .inl (cI, 720, .inl o_waysIn)), (a_q0, .inr (1, [.ref a_q0_rows, .ref a_q0_edges, .int q0_persons, .int q0_size, .int q0_changes, .int q0_restCount, .int q0_firstRest])), (a_q0_rows, .inl (cI, 720, .inl q0_rows)), (a_q0_edges, .inl (cI, 4320, .inl q0_edges))]) hx hb hml hown ht (c_X1_leadsTo l dC dI cI cJ cZ a_q0 a_q0_rows a_q0_edges H.size q0_persons q0_size q0_changes q0_restCount q0_firstRest q0_rows q0_edges (o_queue x2.toNatClampNeg) x3 (-1 : Int32) u_3 h_4) (kcw 3 ht wd_3_29 wd_1_8 wd_3_67 kd_X1_leadsTo ⟨rfl, rfl⟩ ⟨Nat.le_of_ble_eq_true rfl, Nat.le_of_ble_eq_true rfl⟩) wd_3_27 wd_3_28 hK hP hD hS hA [3, 4, 5] [0, 1, 2] [0, 1, 2, 3, 4, 5] rfl rfl rfl rfl (by decide) rfl (fun _ => rfl) (ci := 1) rfl rfl rfl rfl hl.1 rfl (Nat.le_of_ble_eq_true rfl) dX5_countWaysIn_37 ⟨Nat.zero_le _, Nat.zero_le _⟩ (fun _ H locs hP hD hS => ?_)
            have hP : va_P (dC, dI) vwCl [(a_o, .inr (4, [.ref a_o_queue, .ref a_o_steps, .ref a_o_firsts, .ref a_o_waysIn, .int o_reached])), (a_o_queue, .inl (cI, 720, .inl o_queue)), (a_o_waysIn, .inl (cI, 720, .inl o_waysIn)), (a_q0, .inr (1, [.ref a_q0_rows, .ref a_q0_edges, .int q0_persons, .int q0_size, .int q0_changes, .int q0_restCount, .int q0_firstRest])), (a_q0_rows, .inl (cI, 720, .inl q0_rows)), (a_q0_edges, .inl (cI, 4320, .inl q0_edges))] H := hP
            have hD : va_D A [(a_o, .inr (4, [.ref a_o_queue, .ref a_o_steps, .ref a_o_firsts, .ref a_o_waysIn, .int o_reached])), (a_o_queue, .inl (cI, 720, .inl o_queue)), (a_o_waysIn, .inl (cI, 720, .inl o_waysIn)), (a_q0, .inr (1, [.ref a_q0_rows, .ref a_q0_edges, .int q0_persons, .int q0_size, .int q0_changes, .int q0_restCount, .int q0_firstRest])), (a_q0_rows, .inl (cI, 720, .inl q0_rows)), (a_q0_edges, .inl (cI, 4320, .inl q0_edges))] := hD
            refine lv_istore (lv' := [(4, .int u_3), (0, .ref a_o), (1, .ref a_q0), (2, .int x2), (3, .int x3)]) hx hb dX5_countWaysIn_40 hl (by decide) rfl (fun ls hl => ?_)
            refine lv_iload hx hb dX5_countWaysIn_42 (lv_at hl 0 rfl) ?_
            refine lv_if_lt (tgt := 58) hx hb dX5_countWaysIn_44 (by decide) (fun c_5 => ?_) (fun c_5 => ?_)
            · have hf := ifp c_5 hf
              exact B58 x2 x3 o_waysIn H locs ls hf hP hD hS (lv_sub hl [1, 2, 3, 4] rfl)
            · have hf := ifn c_5 hf
              refine lv_aload_n hx hb dX5_countWaysIn_47 rfl (lv_at hl 1 rfl) ?_
              refine va_get (ci := 4) (v := .ref a_o_waysIn) (C := RX5) (T := TX5) (N := 5) hx hb ht inX5 hown hK hP 0 rfl rfl 3 (by decide) (ht _ wd_1_166) (fun _ h9 => h9) rfl dX5_countWaysIn_48 ?_
              refine lv_iload hx hb dX5_countWaysIn_51 (lv_at hl 0 rfl) ?_
              refine lv_dup2_11 hx hb dX5_countWaysIn_53 rfl rfl ?_
              obtain ⟨b_6, hf⟩ := bd_some hf
              refine va_iald hx hb hK hP 2 0 rfl rfl b_6 dX5_countWaysIn_54 ?_
              refine lv_iconst (v := (1 : Int32)) hx hb dX5_countWaysIn_55 (by decide) ?_
              refine lv_iadd hx hb dX5_countWaysIn_56 ?_
              obtain ⟨b_7, hf⟩ := bd_some hf
              refine va_iast hx hb hK hP hD hS 2 0 rfl rfl b_7 dX5_countWaysIn_57 (fun H locs hP hD hS => ?_)
              have hP : va_P (dC, dI) vwCl [(a_o, .inr (4, [.ref a_o_queue, .ref a_o_steps, .ref a_o_firsts, .ref a_o_waysIn, .int o_reached])), (a_o_queue, .inl (cI, 720, .inl o_queue)), (a_o_waysIn, .inl (cI, 720, .inl (upd o_waysIn u_3.toNatClampNeg ((o_waysIn u_3.toNatClampNeg) + (1 : Int32))))), (a_q0, .inr (1, [.ref a_q0_rows, .ref a_q0_edges, .int q0_persons, .int q0_size, .int q0_changes, .int q0_restCount, .int q0_firstRest])), (a_q0_rows, .inl (cI, 720, .inl q0_rows)), (a_q0_edges, .inl (cI, 4320, .inl q0_edges))] H := hP
              have hD : va_D A [(a_o, .inr (4, [.ref a_o_queue, .ref a_o_steps, .ref a_o_firsts, .ref a_o_waysIn, .int o_reached])), (a_o_queue, .inl (cI, 720, .inl o_queue)), (a_o_waysIn, .inl (cI, 720, .inl (upd o_waysIn u_3.toNatClampNeg ((o_waysIn u_3.toNatClampNeg) + (1 : Int32))))), (a_q0, .inr (1, [.ref a_q0_rows, .ref a_q0_edges, .int q0_persons, .int q0_size, .int q0_changes, .int q0_restCount, .int q0_firstRest])), (a_q0_rows, .inl (cI, 720, .inl q0_rows)), (a_q0_edges, .inl (cI, 4320, .inl q0_edges))] := hD
              exact B58 x2 x3 (upd o_waysIn u_3.toNatClampNeg ((o_waysIn u_3.toNatClampNeg) + (1 : Int32))) H locs ls hf hP hD hS (lv_sub hl [1, 2, 3, 4] rfl)
      intro x2 o_waysIn H locs ls hf hP hD hS hl
      rw [f_X5_countWaysIn_l10.eq_2] at hf
      refine lv_iload_n hx hb dX5_countWaysIn_10 rfl (lv_at hl 2 rfl) ?_
      refine lv_aload_n hx hb dX5_countWaysIn_11 rfl (lv_at hl 0 rfl) ?_
      refine va_get (ci := 4) (v := .int o_reached) (C := RX5) (T := TX5) (N := 5) hx hb ht inX5 hown hK hP 0 rfl rfl 4 (by decide) (ht _ wd_1_167) (fun _ h9 => h9) rfl dX5_countWaysIn_12 ?_
      refine lv_icmp_ge (tgt := 70) hx hb dX5_countWaysIn_15 (by decide) (fun c_8 => ?_) (fun c_8 => ?_)
      · have hf := ifp c_8 hf
        exact hret H locs ls 70 o_waysIn hf dX5_countWaysIn_70 hP hD hS
      · have hf := ifn c_8 hf
        refine lv_iconst (v := (0 : Int32)) hx hb dX5_countWaysIn_18 (by decide) ?_
        refine lv_istore_n (lv' := [(3, .int (0 : Int32)), (0, .ref a_o), (1, .ref a_q0), (2, .int x2)]) hx hb dX5_countWaysIn_19 rfl hl (by decide) rfl (fun ls hl => ?_)
        exact L20 NF x2 (0 : Int32) o_waysIn H locs ls hf hP hD hS (lv_sub hl [1, 2, 3, 0] rfl)
  obtain ⟨H, hH⟩ : ∃ H, H = s.heap := ⟨_, rfl⟩
  obtain ⟨locs, hlo⟩ : ∃ L : List Loc, L = [] := ⟨_, rfl⟩
  rw [← hH] at hP
  have hS : va_S A s.heap H locs := by rw [hH, hlo]; exact hS
  rw [show W p l e (headSpec (kws yX5_countWaysIn cX5_countWaysIn 5 none) rm_X5_countWaysIn).room s m args below meth c s.heap [] 0 0 Q (F0 m 0 ls []) = W p l e (headSpec (kws yX5_countWaysIn cX5_countWaysIn 5 none) rm_X5_countWaysIn).room s m args below meth c H locs 0 0 Q (F0 m 0 ls []) from by rw [hH, hlo]]
  refine lv_aload_n hx hb dX5_countWaysIn_0 rfl (lv_at hl 0 rfl) ?_
  refine va_get (ci := 4) (v := .ref a_o_waysIn) (C := RX5) (T := TX5) (N := 5) hx hb ht inX5 hown hK hP 0 rfl rfl 3 (by decide) (ht _ wd_1_166) (fun _ h9 => h9) rfl dX5_countWaysIn_1 ?_
  refine lv_iconst (v := (0 : Int32)) hx hb dX5_countWaysIn_4 (by decide) ?_
  obtain ⟨u_9, h_10, hf⟩ := obs hf
  refine kcSv (rest := []) (wr := [(a_o, .inr (4, [.ref a_o_queue, .ref a_o_steps, .ref a_o_firsts, .ref a_o_waysIn, .int o_reached])), (a_o_queue, .inl (cI, 720, .inl o_queue)), (a_q0, .inr (1, [.ref a_q0_rows, .ref a_q0_edges, .int q0_persons, .int q0_size, .int q0_changes, .int q0_restCount, .int q0_firstRest])), (a_q0_rows, .inl (cI, 720, .inl q0_rows)), (a_q0_edges, .inl (cI, 4320, .inl q0_edges))]) (w2 := fun _ => [(a_o, .inr (4, [.ref a_o_queue, .ref a_o_steps, .ref a_o_firsts, .ref a_o_waysIn, .int o_reached])), (a_o_queue, .inl (cI, 720, .inl o_queue)), (a_o_waysIn, .inl (cI, 720, .inl u_9)), (a_q0, .inr (1, [.ref a_q0_rows, .ref a_q0_edges, .int q0_persons, .int q0_size, .int q0_changes, .int q0_restCount, .int q0_firstRest])), (a_q0_rows, .inl (cI, 720, .inl q0_rows)), (a_q0_edges, .inl (cI, 4320, .inl q0_edges))]) hx hb hml hown ht (c_J7_fill_53178 l dC dI cI cJ cZ a_o_waysIn H.size 720 o_waysIn (0 : Int32) u_9 h_10) (kcw 2 ht wd_1_53 wd_1_4 wd_3_62 kd_J7_fill_53178 ⟨rfl, rfl⟩ ⟨Nat.le_of_ble_eq_true rfl, Nat.le_of_ble_eq_true rfl⟩) wd_1_52 hK hP hD hS hA [2] [0, 1, 3, 4, 5] [0, 1, 5, 2, 3, 4] rfl rfl rfl rfl (by decide) rfl (fun _ => rfl) rfl hl.1 rfl (Nat.le_of_ble_eq_true rfl) dX5_countWaysIn_5 ⟨Nat.zero_le _, Nat.zero_le _⟩ (fun _ H locs hP hD hS => ?_)
  have hP : va_P (dC, dI) vwCl [(a_o, .inr (4, [.ref a_o_queue, .ref a_o_steps, .ref a_o_firsts, .ref a_o_waysIn, .int o_reached])), (a_o_queue, .inl (cI, 720, .inl o_queue)), (a_o_waysIn, .inl (cI, 720, .inl u_9)), (a_q0, .inr (1, [.ref a_q0_rows, .ref a_q0_edges, .int q0_persons, .int q0_size, .int q0_changes, .int q0_restCount, .int q0_firstRest])), (a_q0_rows, .inl (cI, 720, .inl q0_rows)), (a_q0_edges, .inl (cI, 4320, .inl q0_edges))] H := hP
  have hD : va_D A [(a_o, .inr (4, [.ref a_o_queue, .ref a_o_steps, .ref a_o_firsts, .ref a_o_waysIn, .int o_reached])), (a_o_queue, .inl (cI, 720, .inl o_queue)), (a_o_waysIn, .inl (cI, 720, .inl u_9)), (a_q0, .inr (1, [.ref a_q0_rows, .ref a_q0_edges, .int q0_persons, .int q0_size, .int q0_changes, .int q0_restCount, .int q0_firstRest])), (a_q0_rows, .inl (cI, 720, .inl q0_rows)), (a_q0_edges, .inl (cI, 4320, .inl q0_edges))] := hD
  refine lv_iconst (v := (0 : Int32)) hx hb dX5_countWaysIn_8 (by decide) ?_
  refine lv_istore_n (lv' := [(2, .int (0 : Int32)), (0, .ref a_o), (1, .ref a_q0)]) hx hb dX5_countWaysIn_9 rfl hl (by decide) rfl (fun ls hl => ?_)
  exact L10 NF (0 : Int32) u_9 H locs ls hf hP hD hS (lv_sub hl [1, 2, 0] rfl)
def f_X5_goThrough (x1 : Int32) (x2 : Int32) (o_reached : Int32) (o_queue : Nat → Int32) (o_steps : Nat → Int32) (o_waysIn : Nat → Int32) : Option (Int32 × (Nat → Int32) × (Nat → Int32) × (Nat → Int32)) := if x1 < 0 then some (o_reached, o_queue, o_steps, o_waysIn) else if x1 < (720 : Int32) then bd x1 720 (bd x1 720 (bd x1 720 (bd x1 720 (bd x1 720 (if ((upd o_waysIn x1.toNatClampNeg ((o_waysIn x1.toNatClampNeg) - (1 : Int32))) x1.toNatClampNeg) = 0 then if (720 : Int32) ≤ o_reached then some (o_reached, o_queue, (upd o_steps x1.toNatClampNeg (if (o_steps x1.toNatClampNeg) < x2 then x2 else (o_steps x1.toNatClampNeg))), (upd o_waysIn x1.toNatClampNeg ((o_waysIn x1.toNatClampNeg) - (1 : Int32)))) else bd o_reached 720 (some ((o_reached + (1 : Int32)), (upd o_queue o_reached.toNatClampNeg x1), (upd o_steps x1.toNatClampNeg (if (o_steps x1.toNatClampNeg) < x2 then x2 else (o_steps x1.toNatClampNeg))), (upd o_waysIn x1.toNatClampNeg ((o_waysIn x1.toNatClampNeg) - (1 : Int32))))) else some (o_reached, o_queue, (upd o_steps x1.toNatClampNeg (if (o_steps x1.toNatClampNeg) < x2 then x2 else (o_steps x1.toNatClampNeg))), (upd o_waysIn x1.toNatClampNeg ((o_waysIn x1.toNatClampNeg) - (1 : Int32))))))))) else some (o_reached, o_queue, o_steps, o_waysIn)
abbrev rm_X5_goThrough : Room := { frames := 1, cells := 0, slots := 0, locals := 24 }
theorem kd_X5_goThrough : yX5_goThrough.cls ≠ "java/lang/invoke/MethodHandle" ∧ yX5_goThrough.cls ≠ "java/lang/invoke/VarHandle" ∧ (parseMethodDescriptor yX5_goThrough.desc).map (fun d => d.parameters.length) = some 2 := by decide +kernel
set_option maxHeartbeats 4000000 in
set_option maxRecDepth 100000 in
theorem c_X5_goThrough (l : Launch) (dC : Nat → ClassId) (dI : Nat → Nat → Nat) (cI cJ cZ : ClassId) (a_o a_o_queue a_o_steps a_o_firsts a_o_waysIn : Nat) (sz : Nat) (o_reached : Int32) (o_queue : Nat → Int32) (o_steps : Nat → Int32) (o_waysIn : Nat → Int32) (x1 : Int32) (x2 : Int32) (res : Int32 × (Nat → Int32) × (Nat → Int32) × (Nat → Int32)) (hf : f_X5_goThrough x1 x2 o_reached o_queue o_steps o_waysIn = some res) : kMv Unit l yX5_goThrough cX5_goThrough 3 rm_X5_goThrough [.ref a_o, .int x1, .int x2] (dC, dI) (kT cI cJ cZ) sz [(a_o, .inr (4, [.ref a_o_queue, .ref a_o_steps, .ref a_o_firsts, .ref a_o_waysIn, .int o_reached])), (a_o_queue, .inl (cI, 720, .inl o_queue)), (a_o_steps, .inl (cI, 720, .inl o_steps)), (a_o_waysIn, .inl (cI, 720, .inl o_waysIn))] (fun _ => [(a_o, .inr (4, [.ref a_o_queue, .ref a_o_steps, .ref a_o_firsts, .ref a_o_waysIn, .int res.1])), (a_o_queue, .inl (cI, 720, .inl res.2.1)), (a_o_steps, .inl (cI, 720, .inl res.2.2.1)), (a_o_waysIn, .inl (cI, 720, .inl res.2.2.2))]) := by
  refine Met.ofW (cc := cX5_goThrough) (maxL := 3) (ret := none) (by decide) rfl ?_
  intro p e s m args below meth c s₁ B hml hv
  obtain ⟨rfl, hsz, hP, hK, hD0⟩ := hv
  have hx := B.exec
  have hb := B.bytes
  have hr := B.returns
  have ht : ∀ w ∈ lw_g, w.before ([.ref a_o, .int x1, .int x2] : List Value).toArray s = true := fun w h => atoms_spec (ws := kws yX5_goThrough cX5_goThrough 3 none) B.pre w (List.mem_cons_of_mem _ h)
  have hown : s.vm.findClass RX5 = some m.cls := findClass_of_methodNamed B.named
  have hlocks := B.notSynchronized
  subst hsz
  have hD := hD0.self (sz := s.heap.size)
  generalize hAe : va_A [(a_o, .inr (4, [.ref a_o_queue, .ref a_o_steps, .ref a_o_firsts, .ref a_o_waysIn, .int o_reached])), (a_o_queue, .inl (cI, 720, .inl o_queue)), (a_o_steps, .inl (cI, 720, .inl o_steps)), (a_o_waysIn, .inl (cI, 720, .inl o_waysIn))] s.heap.size = A at hD ⊢
  have hA : ∀ q : Nat, s.heap.size ≤ q → A q := fun q h => by rw [← hAe]; exact Or.inr h
  have hS : va_S A s.heap s.heap [] := va_S.rf
  have hret : ∀ (H : Heap) (locs : List Loc) (ls : Array Slot) (pc : Nat) (o0 : Int32) (o1 : Nat → Int32) (o2 : Nat → Int32) (o3 : Nat → Int32), some (o0, o1, o2, o3) = some res → decode cX5_goThrough pc = .ok (.return_, 1) → va_P (dC, dI) vwCl [(a_o, .inr (4, [.ref a_o_queue, .ref a_o_steps, .ref a_o_firsts, .ref a_o_waysIn, .int o0])), (a_o_queue, .inl (cI, 720, .inl o1)), (a_o_steps, .inl (cI, 720, .inl o2)), (a_o_waysIn, .inl (cI, 720, .inl o3))] H → va_D A [(a_o, .inr (4, [.ref a_o_queue, .ref a_o_steps, .ref a_o_firsts, .ref a_o_waysIn, .int o0])), (a_o_queue, .inl (cI, 720, .inl o1)), (a_o_steps, .inl (cI, 720, .inl o2)), (a_o_waysIn, .inl (cI, 720, .inl o3))] → va_S A s.heap H locs → W p l e (headSpec (kws yX5_goThrough cX5_goThrough 3 none) rm_X5_goThrough).room s m ([.ref a_o, .int x1, .int x2] : List Value).toArray below meth c H locs 0 0 (MQ below (kQv Unit (dC, dI) A (fun _ => [(a_o, .inr (4, [.ref a_o_queue, .ref a_o_steps, .ref a_o_firsts, .ref a_o_waysIn, .int res.1])), (a_o_queue, .inl (cI, 720, .inl res.2.1)), (a_o_steps, .inl (cI, 720, .inl res.2.2.1)), (a_o_waysIn, .inl (cI, 720, .inl res.2.2.2))])) ([.ref a_o, .int x1, .int x2] : List Value).toArray s 0 0 A) (F0 m pc ls []) := by
    intro H locs ls pc o0 o1 o2 o3 he hd hP hD hS
    obtain rfl := Option.some.inj he
    exact krv hx hb hr hlocks () hP hD hS hd
  have hl := lv_entry ([.ref a_o, .int x1, .int x2]) (n := 3) (Nat.le_of_ble_eq_true rfl)
  rw [lg_entry_eq]
  generalize (lg_sl ([.ref a_o, .int x1, .int x2]) ++ List.replicate (3 - (lg_sl ([.ref a_o, .int x1, .int x2])).length) Slot.unset).toArray = ls at hl ⊢
  have hl : lv_has ls 3 [(0, .ref a_o), (1, .int x1), (2, .int x2)] := hl
  generalize (MQ below _ ([.ref a_o, .int x1, .int x2] : List Value).toArray s 0 0 A) = Q at hret ⊢
  generalize ([.ref a_o, .int x1, .int x2] : List Value).toArray = args at ht hret ⊢
  have hP : va_P (dC, dI) vwCl [(a_o, .inr (4, [.ref a_o_queue, .ref a_o_steps, .ref a_o_firsts, .ref a_o_waysIn, .int o_reached])), (a_o_queue, .inl (cI, 720, .inl o_queue)), (a_o_steps, .inl (cI, 720, .inl o_steps)), (a_o_waysIn, .inl (cI, 720, .inl o_waysIn))] s.heap := hP
  unfold f_X5_goThrough at hf
  obtain ⟨H, hH⟩ : ∃ H, H = s.heap := ⟨_, rfl⟩
  obtain ⟨locs, hlo⟩ : ∃ L : List Loc, L = [] := ⟨_, rfl⟩
  rw [← hH] at hP
  have hS : va_S A s.heap H locs := by rw [hH, hlo]; exact hS
  rw [show W p l e (headSpec (kws yX5_goThrough cX5_goThrough 3 none) rm_X5_goThrough).room s m args below meth c s.heap [] 0 0 Q (F0 m 0 ls []) = W p l e (headSpec (kws yX5_goThrough cX5_goThrough 3 none) rm_X5_goThrough).room s m args below meth c H locs 0 0 Q (F0 m 0 ls []) from by rw [hH, hlo]]
  refine lv_iload_n hx hb dX5_goThrough_0 rfl (lv_at hl 1 rfl) ?_
  refine lv_if_lt (tgt := 11) hx hb dX5_goThrough_1 (by decide) (fun c_1 => ?_) (fun c_1 => ?_)
  · have hf := ifp c_1 hf
    exact hret H locs ls 11 o_reached o_queue o_steps o_waysIn hf dX5_goThrough_11 hP hD hS
  · have hf := ifn c_1 hf
    refine lv_iload_n hx hb dX5_goThrough_4 rfl (lv_at hl 1 rfl) ?_
    refine lv_sipush (v := (720 : Int32)) hx hb dX5_goThrough_5 (by decide) ?_
    refine lv_icmp_lt (tgt := 12) hx hb dX5_goThrough_8 (by decide) (fun c_2 => ?_) (fun c_2 => ?_)
    · have hf := ifp c_2 hf
      refine lv_aload_n hx hb dX5_goThrough_12 rfl (lv_at hl 0 rfl) ?_
      refine va_get (ci := 4) (v := .ref a_o_steps) (C := RX5) (T := TX5) (N := 5) hx hb ht inX5 hown hK hP 0 rfl rfl 1 (by decide) (ht _ wd_1_164) (fun _ h9 => h9) rfl dX5_goThrough_13 ?_
      refine lv_iload_n hx hb dX5_goThrough_16 rfl (lv_at hl 1 rfl) ?_
      refine lv_aload_n hx hb dX5_goThrough_17 rfl (lv_at hl 0 rfl) ?_
      refine va_get (ci := 4) (v := .ref a_o_steps) (C := RX5) (T := TX5) (N := 5) hx hb ht inX5 hown hK hP 0 rfl rfl 1 (by decide) (ht _ wd_1_164) (fun _ h9 => h9) rfl dX5_goThrough_18 ?_
      refine lv_iload_n hx hb dX5_goThrough_21 rfl (lv_at hl 1 rfl) ?_
      obtain ⟨b_3, hf⟩ := bd_some hf
      refine va_iald hx hb hK hP 2 0 rfl rfl b_3 dX5_goThrough_22 ?_
      refine lv_iload_n hx hb dX5_goThrough_23 rfl (lv_at hl 2 rfl) ?_
      refine va_mmax hx hb (hml.trans hl.1.symm) hown (ht _ wd_3_72) (ht _ wd_1_90) (ht _ wd_1_6) (ht _ wd_1_91) (Nat.le_of_ble_eq_true rfl) (Nat.le_of_ble_eq_true rfl) (Nat.zero_le _) (Nat.zero_le _) dX5_goThrough_24 ?_
      obtain ⟨b_4, hf⟩ := bd_some hf
      refine va_iast hx hb hK hP hD hS 2 0 rfl rfl b_4 dX5_goThrough_27 (fun H locs hP hD hS => ?_)
      have hP : va_P (dC, dI) vwCl [(a_o, .inr (4, [.ref a_o_queue, .ref a_o_steps, .ref a_o_firsts, .ref a_o_waysIn, .int o_reached])), (a_o_queue, .inl (cI, 720, .inl o_queue)), (a_o_steps, .inl (cI, 720, .inl (upd o_steps x1.toNatClampNeg (if (o_steps x1.toNatClampNeg) < x2 then x2 else (o_steps x1.toNatClampNeg))))), (a_o_waysIn, .inl (cI, 720, .inl o_waysIn))] H := hP
      have hD : va_D A [(a_o, .inr (4, [.ref a_o_queue, .ref a_o_steps, .ref a_o_firsts, .ref a_o_waysIn, .int o_reached])), (a_o_queue, .inl (cI, 720, .inl o_queue)), (a_o_steps, .inl (cI, 720, .inl (upd o_steps x1.toNatClampNeg (if (o_steps x1.toNatClampNeg) < x2 then x2 else (o_steps x1.toNatClampNeg))))), (a_o_waysIn, .inl (cI, 720, .inl o_waysIn))] := hD
      refine lv_aload_n hx hb dX5_goThrough_28 rfl (lv_at hl 0 rfl) ?_
      refine va_get (ci := 4) (v := .ref a_o_waysIn) (C := RX5) (T := TX5) (N := 5) hx hb ht inX5 hown hK hP 0 rfl rfl 3 (by decide) (ht _ wd_1_166) (fun _ h9 => h9) rfl dX5_goThrough_29 ?_
      refine lv_iload_n hx hb dX5_goThrough_32 rfl (lv_at hl 1 rfl) ?_
      refine lv_dup2_11 hx hb dX5_goThrough_33 rfl rfl ?_
      obtain ⟨b_5, hf⟩ := bd_some hf
      refine va_iald hx hb hK hP 3 0 rfl rfl b_5 dX5_goThrough_34 ?_
      refine lv_iconst (v := (1 : Int32)) hx hb dX5_goThrough_35 (by decide) ?_
      refine lv_isub hx hb dX5_goThrough_36 ?_
      obtain ⟨b_6, hf⟩ := bd_some hf
      refine va_iast hx hb hK hP hD hS 3 0 rfl rfl b_6 dX5_goThrough_37 (fun H locs hP hD hS => ?_)
      have hP : va_P (dC, dI) vwCl [(a_o, .inr (4, [.ref a_o_queue, .ref a_o_steps, .ref a_o_firsts, .ref a_o_waysIn, .int o_reached])), (a_o_queue, .inl (cI, 720, .inl o_queue)), (a_o_steps, .inl (cI, 720, .inl (upd o_steps x1.toNatClampNeg (if (o_steps x1.toNatClampNeg) < x2 then x2 else (o_steps x1.toNatClampNeg))))), (a_o_waysIn, .inl (cI, 720, .inl (upd o_waysIn x1.toNatClampNeg ((o_waysIn x1.toNatClampNeg) - (1 : Int32)))))] H := hP
      have hD : va_D A [(a_o, .inr (4, [.ref a_o_queue, .ref a_o_steps, .ref a_o_firsts, .ref a_o_waysIn, .int o_reached])), (a_o_queue, .inl (cI, 720, .inl o_queue)), (a_o_steps, .inl (cI, 720, .inl (upd o_steps x1.toNatClampNeg (if (o_steps x1.toNatClampNeg) < x2 then x2 else (o_steps x1.toNatClampNeg))))), (a_o_waysIn, .inl (cI, 720, .inl (upd o_waysIn x1.toNatClampNeg ((o_waysIn x1.toNatClampNeg) - (1 : Int32)))))] := hD
      refine lv_aload_n hx hb dX5_goThrough_38 rfl (lv_at hl 0 rfl) ?_
      refine va_get (ci := 4) (v := .ref a_o_waysIn) (C := RX5) (T := TX5) (N := 5) hx hb ht inX5 hown hK hP 0 rfl rfl 3 (by decide) (ht _ wd_1_166) (fun _ h9 => h9) rfl dX5_goThrough_39 ?_
      refine lv_iload_n hx hb dX5_goThrough_42 rfl (lv_at hl 1 rfl) ?_
      obtain ⟨b_7, hf⟩ := bd_some hf
      refine va_iald hx hb hK hP 3 0 rfl rfl b_7 dX5_goThrough_43 ?_
      refine lv_if_ne (tgt := 77) hx hb dX5_goThrough_44 (by decide) (fun c_8 => ?_) (fun c_8 => ?_)
      · have hf := ifn c_8 hf
        exact hret H locs ls 77 o_reached o_queue (upd o_steps x1.toNatClampNeg (if (o_steps x1.toNatClampNeg) < x2 then x2 else (o_steps x1.toNatClampNeg))) (upd o_waysIn x1.toNatClampNeg ((o_waysIn x1.toNatClampNeg) - (1 : Int32))) hf dX5_goThrough_77 hP hD hS
      · have hf := ifp c_8 hf
        refine lv_aload_n hx hb dX5_goThrough_47 rfl (lv_at hl 0 rfl) ?_
        refine va_get (ci := 4) (v := .int o_reached) (C := RX5) (T := TX5) (N := 5) hx hb ht inX5 hown hK hP 0 rfl rfl 4 (by decide) (ht _ wd_1_167) (fun _ h9 => h9) rfl dX5_goThrough_48 ?_
        refine lv_sipush (v := (720 : Int32)) hx hb dX5_goThrough_51 (by decide) ?_
        refine lv_icmp_ge (tgt := 77) hx hb dX5_goThrough_54 (by decide) (fun c_9 => ?_) (fun c_9 => ?_)
        · have hf := ifp c_9 hf
          exact hret H locs ls 77 o_reached o_queue (upd o_steps x1.toNatClampNeg (if (o_steps x1.toNatClampNeg) < x2 then x2 else (o_steps x1.toNatClampNeg))) (upd o_waysIn x1.toNatClampNeg ((o_waysIn x1.toNatClampNeg) - (1 : Int32))) hf dX5_goThrough_77 hP hD hS
        · have hf := ifn c_9 hf
          refine lv_aload_n hx hb dX5_goThrough_57 rfl (lv_at hl 0 rfl) ?_
          refine va_get (ci := 4) (v := .ref a_o_queue) (C := RX5) (T := TX5) (N := 5) hx hb ht inX5 hown hK hP 0 rfl rfl 0 (by decide) (ht _ wd_1_163) (fun _ h9 => h9) rfl dX5_goThrough_58 ?_
          refine lv_aload_n hx hb dX5_goThrough_61 rfl (lv_at hl 0 rfl) ?_
          refine va_get (ci := 4) (v := .int o_reached) (C := RX5) (T := TX5) (N := 5) hx hb ht inX5 hown hK hP 0 rfl rfl 4 (by decide) (ht _ wd_1_167) (fun _ h9 => h9) rfl dX5_goThrough_62 ?_
          refine lv_iload_n hx hb dX5_goThrough_65 rfl (lv_at hl 1 rfl) ?_
          obtain ⟨b_10, hf⟩ := bd_some hf
          refine va_iast hx hb hK hP hD hS 1 0 rfl rfl b_10 dX5_goThrough_66 (fun H locs hP hD hS => ?_)
          have hP : va_P (dC, dI) vwCl [(a_o, .inr (4, [.ref a_o_queue, .ref a_o_steps, .ref a_o_firsts, .ref a_o_waysIn, .int o_reached])), (a_o_queue, .inl (cI, 720, .inl (upd o_queue o_reached.toNatClampNeg x1))), (a_o_steps, .inl (cI, 720, .inl (upd o_steps x1.toNatClampNeg (if (o_steps x1.toNatClampNeg) < x2 then x2 else (o_steps x1.toNatClampNeg))))), (a_o_waysIn, .inl (cI, 720, .inl (upd o_waysIn x1.toNatClampNeg ((o_waysIn x1.toNatClampNeg) - (1 : Int32)))))] H := hP
          have hD : va_D A [(a_o, .inr (4, [.ref a_o_queue, .ref a_o_steps, .ref a_o_firsts, .ref a_o_waysIn, .int o_reached])), (a_o_queue, .inl (cI, 720, .inl (upd o_queue o_reached.toNatClampNeg x1))), (a_o_steps, .inl (cI, 720, .inl (upd o_steps x1.toNatClampNeg (if (o_steps x1.toNatClampNeg) < x2 then x2 else (o_steps x1.toNatClampNeg))))), (a_o_waysIn, .inl (cI, 720, .inl (upd o_waysIn x1.toNatClampNeg ((o_waysIn x1.toNatClampNeg) - (1 : Int32)))))] := hD
          refine lv_aload_n hx hb dX5_goThrough_67 rfl (lv_at hl 0 rfl) ?_
          refine lv_dup hx hb dX5_goThrough_68 rfl ?_
          refine va_get (ci := 4) (v := .int o_reached) (C := RX5) (T := TX5) (N := 5) hx hb ht inX5 hown hK hP 0 rfl rfl 4 (by decide) (ht _ wd_1_167) (fun _ h9 => h9) rfl dX5_goThrough_69 ?_
          refine lv_iconst (v := (1 : Int32)) hx hb dX5_goThrough_72 (by decide) ?_
          refine lv_iadd hx hb dX5_goThrough_73 ?_
          refine va_put (ci := 4) (v := .int (o_reached + (1 : Int32))) (ty := .int) (C := RX5) (T := TX5) (N := 5) hx hb ht inX5 tyX5 tyX5_ok nmX5 hown hK hP hD hS 0 rfl rfl 4 (by decide) (ht _ wd_1_167) (fun _ h9 => h9) rfl (tyX5_ok 4 (by decide)) rfl rfl (Nat.le_of_ble_eq_true rfl) dX5_goThrough_74 (fun H locs hP hD hS => ?_)
          have hP : va_P (dC, dI) vwCl [(a_o, .inr (4, [.ref a_o_queue, .ref a_o_steps, .ref a_o_firsts, .ref a_o_waysIn, .int (o_reached + (1 : Int32))])), (a_o_queue, .inl (cI, 720, .inl (upd o_queue o_reached.toNatClampNeg x1))), (a_o_steps, .inl (cI, 720, .inl (upd o_steps x1.toNatClampNeg (if (o_steps x1.toNatClampNeg) < x2 then x2 else (o_steps x1.toNatClampNeg))))), (a_o_waysIn, .inl (cI, 720, .inl (upd o_waysIn x1.toNatClampNeg ((o_waysIn x1.toNatClampNeg) - (1 : Int32)))))] H := hP
          have hD : va_D A [(a_o, .inr (4, [.ref a_o_queue, .ref a_o_steps, .ref a_o_firsts, .ref a_o_waysIn, .int (o_reached + (1 : Int32))])), (a_o_queue, .inl (cI, 720, .inl (upd o_queue o_reached.toNatClampNeg x1))), (a_o_steps, .inl (cI, 720, .inl (upd o_steps x1.toNatClampNeg (if (o_steps x1.toNatClampNeg) < x2 then x2 else (o_steps x1.toNatClampNeg))))), (a_o_waysIn, .inl (cI, 720, .inl (upd o_waysIn x1.toNatClampNeg ((o_waysIn x1.toNatClampNeg) - (1 : Int32)))))] := hD
          exact hret H locs ls 77 (o_reached + (1 : Int32)) (upd o_queue o_reached.toNatClampNeg x1) (upd o_steps x1.toNatClampNeg (if (o_steps x1.toNatClampNeg) < x2 then x2 else (o_steps x1.toNatClampNeg))) (upd o_waysIn x1.toNatClampNeg ((o_waysIn x1.toNatClampNeg) - (1 : Int32))) hf dX5_goThrough_77 hP hD hS
    · have hf := ifn c_2 hf
      exact hret H locs ls 11 o_reached o_queue o_steps o_waysIn hf dX5_goThrough_11 hP hD hS
def f_X5_longestFrom_b136 (q0_persons : Int32) (q0_size : Int32) (q0_changes : Int32) (q0_rows : Nat → Int32) (q0_edges : Nat → Int32) (x3 : Int32) (x4 : Int32) (o_reached : Int32) (o_queue : Nat → Int32) (o_steps : Nat → Int32) (o_firsts : Nat → Int32) (o_waysIn : Nat → Int32) : Option (Int32 × Int32 × (Nat → Int32) × (Nat → Int32) × (Nat → Int32) × (Nat → Int32)) := if o_reached = x3 then some (x4, o_reached, o_queue, o_steps, o_firsts, o_waysIn) else some ((-1 : Int32), o_reached, o_queue, o_steps, o_firsts, o_waysIn)
def f_X5_longestFrom_l93 (q0_persons : Int32) (q0_size : Int32) (q0_changes : Int32) (q0_rows : Nat → Int32) (q0_edges : Nat → Int32) (K50 : Int32 → Int32 → Int32 → Int32 → (Nat → Int32) → (Nat → Int32) → (Nat → Int32) → (Nat → Int32) → Option (Int32 × Int32 × (Nat → Int32) × (Nat → Int32) × (Nat → Int32) × (Nat → Int32))) : Nat → Int32 → Int32 → Int32 → Int32 → Int32 → Int32 → (Nat → Int32) → (Nat → Int32) → (Nat → Int32) → (Nat → Int32) → Option (Int32 × Int32 × (Nat → Int32) × (Nat → Int32) × (Nat → Int32) × (Nat → Int32))
  | 0, _, _, _, _, _, _, _, _, _, _ => none
  | n + 1, x3, x4, x5, x6, x7, o_reached, o_queue, o_steps, o_firsts, o_waysIn => if q0_changes ≤ x7 then K50 x3 x4 (x5 + (1 : Int32)) o_reached o_queue o_steps o_firsts o_waysIn else Option.bind (f_X1_leadsTo x6 x7 (-1 : Int32) q0_persons q0_size q0_changes q0_rows q0_edges) (fun u_3 => bd x6 720 (Option.bind (f_X5_goThrough u_3 ((o_steps x6.toNatClampNeg) + (1 : Int32)) o_reached o_queue o_steps o_waysIn) (fun u_6 => (f_X5_longestFrom_l93 q0_persons q0_size q0_changes q0_rows q0_edges K50 n) x3 x4 x5 x6 (x7 + (1 : Int32)) u_6.1 u_6.2.1 u_6.2.2.1 o_firsts u_6.2.2.2)))
def f_X5_longestFrom_l50 (q0_persons : Int32) (q0_size : Int32) (q0_changes : Int32) (q0_rows : Nat → Int32) (q0_edges : Nat → Int32) : Nat → Int32 → Int32 → Int32 → Int32 → (Nat → Int32) → (Nat → Int32) → (Nat → Int32) → (Nat → Int32) → Option (Int32 × Int32 × (Nat → Int32) × (Nat → Int32) × (Nat → Int32) × (Nat → Int32))
  | 0, _, _, _, _, _, _, _, _ => none
  | n + 1, x3, x4, x5, o_reached, o_queue, o_steps, o_firsts, o_waysIn => if o_reached ≤ x5 then f_X5_longestFrom_b136 q0_persons q0_size q0_changes q0_rows q0_edges x3 x4 o_reached o_queue o_steps o_firsts o_waysIn else if (720 : Int32) ≤ x5 then f_X5_longestFrom_b136 q0_persons q0_size q0_changes q0_rows q0_edges x3 x4 o_reached o_queue o_steps o_firsts o_waysIn else bd x5 720 (bd (o_queue x5.toNatClampNeg) 720 (f_X5_longestFrom_l93 q0_persons q0_size q0_changes q0_rows q0_edges (f_X5_longestFrom_l50 q0_persons q0_size q0_changes q0_rows q0_edges n) NF x3 (if x4 < (o_steps (o_queue x5.toNatClampNeg).toNatClampNeg) then (o_steps (o_queue x5.toNatClampNeg).toNatClampNeg) else x4) x5 (o_queue x5.toNatClampNeg) (0 : Int32) o_reached o_queue o_steps o_firsts o_waysIn))
def f_X5_longestFrom_b44 (q0_persons : Int32) (q0_size : Int32) (q0_changes : Int32) (q0_rows : Nat → Int32) (q0_edges : Nat → Int32) (x3 : Int32) (x4 : Int32) (t0 : Int32) (o_reached : Int32) (o_queue : Nat → Int32) (o_steps : Nat → Int32) (o_firsts : Nat → Int32) (o_waysIn : Nat → Int32) : Option (Int32 × Int32 × (Nat → Int32) × (Nat → Int32) × (Nat → Int32) × (Nat → Int32)) := f_X5_longestFrom_l50 q0_persons q0_size q0_changes q0_rows q0_edges NF x3 x4 (0 : Int32) t0 o_queue o_steps o_firsts o_waysIn
def f_X5_longestFrom_b43 (q0_persons : Int32) (q0_size : Int32) (q0_changes : Int32) (q0_rows : Nat → Int32) (q0_edges : Nat → Int32) (x3 : Int32) (x4 : Int32) (o_reached : Int32) (o_queue : Nat → Int32) (o_steps : Nat → Int32) (o_firsts : Nat → Int32) (o_waysIn : Nat → Int32) : Option (Int32 × Int32 × (Nat → Int32) × (Nat → Int32) × (Nat → Int32) × (Nat → Int32)) := f_X5_longestFrom_b44 q0_persons q0_size q0_changes q0_rows q0_edges x3 x4 (0 : Int32) o_reached o_queue o_steps o_firsts o_waysIn
def f_X5_longestFrom (x2 : Int32) (o_reached : Int32) (o_queue : Nat → Int32) (o_steps : Nat → Int32) (o_firsts : Nat → Int32) (o_waysIn : Nat → Int32) (q0_persons : Int32) (q0_size : Int32) (q0_changes : Int32) (q0_rows : Nat → Int32) (q0_edges : Nat → Int32) : Option (Int32 × Int32 × (Nat → Int32) × (Nat → Int32) × (Nat → Int32) × (Nat → Int32)) := Option.bind (f_X5_spread x2 (-1 : Int32) o_reached o_queue o_steps o_firsts q0_persons q0_size q0_changes q0_rows q0_edges) (fun u_12 => Option.bind (f_X5_countWaysIn u_12.1 u_12.2.1 o_waysIn q0_persons q0_size q0_changes q0_rows q0_edges) (fun u_14 => if u_12.1 ≤ 0 then f_X5_longestFrom_b43 q0_persons q0_size q0_changes q0_rows q0_edges u_12.1 (0 : Int32) u_12.1 u_12.2.1 u_12.2.2.1 u_12.2.2.2 u_14 else bd (0 : Int32) 720 (bd (u_12.2.1 (0 : Int32).toNatClampNeg) 720 (if (u_14 (u_12.2.1 (0 : Int32).toNatClampNeg).toNatClampNeg) = 0 then f_X5_longestFrom_b44 q0_persons q0_size q0_changes q0_rows q0_edges u_12.1 (0 : Int32) (1 : Int32) u_12.1 u_12.2.1 u_12.2.2.1 u_12.2.2.2 u_14 else f_X5_longestFrom_b43 q0_persons q0_size q0_changes q0_rows q0_edges u_12.1 (0 : Int32) u_12.1 u_12.2.1 u_12.2.2.1 u_12.2.2.2 u_14))))
abbrev rm_X5_longestFrom : Room := { frames := 3, cells := 0, slots := 0, locals := 73 }
theorem kd_X5_longestFrom : yX5_longestFrom.cls ≠ "java/lang/invoke/MethodHandle" ∧ yX5_longestFrom.cls ≠ "java/lang/invoke/VarHandle" ∧ (parseMethodDescriptor yX5_longestFrom.desc).map (fun d => d.parameters.length) = some 2 := by decide +kernel
set_option maxHeartbeats 4000000 in
set_option maxRecDepth 100000 in
theorem c_X5_longestFrom (l : Launch) (dC : Nat → ClassId) (dI : Nat → Nat → Nat) (cI cJ cZ : ClassId) (a_o a_o_queue a_o_steps a_o_firsts a_o_waysIn a_q0 a_q0_rows a_q0_edges : Nat) (sz : Nat) (o_reached : Int32) (o_queue : Nat → Int32) (o_steps : Nat → Int32) (o_firsts : Nat → Int32) (o_waysIn : Nat → Int32) (q0_persons : Int32) (q0_size : Int32) (q0_changes : Int32) (q0_restCount : Int32) (q0_firstRest : Int32) (q0_rows : Nat → Int32) (q0_edges : Nat → Int32) (x2 : Int32) (res : Int32 × Int32 × (Nat → Int32) × (Nat → Int32) × (Nat → Int32) × (Nat → Int32)) (hf : f_X5_longestFrom x2 o_reached o_queue o_steps o_firsts o_waysIn q0_persons q0_size q0_changes q0_rows q0_edges = some res) : kMi Unit l yX5_longestFrom cX5_longestFrom 8 (some .int) rm_X5_longestFrom [.ref a_o, .ref a_q0, .int x2] (dC, dI) (kT cI cJ cZ) sz [(a_o, .inr (4, [.ref a_o_queue, .ref a_o_steps, .ref a_o_firsts, .ref a_o_waysIn, .int o_reached])), (a_o_queue, .inl (cI, 720, .inl o_queue)), (a_o_steps, .inl (cI, 720, .inl o_steps)), (a_o_firsts, .inl (cI, 720, .inl o_firsts)), (a_o_waysIn, .inl (cI, 720, .inl o_waysIn)), (a_q0, .inr (1, [.ref a_q0_rows, .ref a_q0_edges, .int q0_persons, .int q0_size, .int q0_changes, .int q0_restCount, .int q0_firstRest])), (a_q0_rows, .inl (cI, 720, .inl q0_rows)), (a_q0_edges, .inl (cI, 4320, .inl q0_edges))] res.1 (fun _ => [(a_o, .inr (4, [.ref a_o_queue, .ref a_o_steps, .ref a_o_firsts, .ref a_o_waysIn, .int res.2.1])), (a_o_queue, .inl (cI, 720, .inl res.2.2.1)), (a_o_steps, .inl (cI, 720, .inl res.2.2.2.1)), (a_o_firsts, .inl (cI, 720, .inl res.2.2.2.2.1)), (a_o_waysIn, .inl (cI, 720, .inl res.2.2.2.2.2)), (a_q0, .inr (1, [.ref a_q0_rows, .ref a_q0_edges, .int q0_persons, .int q0_size, .int q0_changes, .int q0_restCount, .int q0_firstRest])), (a_q0_rows, .inl (cI, 720, .inl q0_rows)), (a_q0_edges, .inl (cI, 4320, .inl q0_edges))]) := by
  refine Met.ofW (cc := cX5_longestFrom) (maxL := 8) (ret := (some .int)) (by decide) rfl ?_
  intro p e s m args below meth c s₁ B hml hv
  obtain ⟨rfl, hsz, hP, hK, hD0⟩ := hv
  have hx := B.exec
  have hb := B.bytes
  have hr := B.returns
  have ht : ∀ w ∈ lw_g, w.before ([.ref a_o, .ref a_q0, .int x2] : List Value).toArray s = true := fun w h => atoms_spec (ws := kws yX5_longestFrom cX5_longestFrom 8 (some .int)) B.pre w (List.mem_cons_of_mem _ h)
  have hown : s.vm.findClass RX5 = some m.cls := findClass_of_methodNamed B.named
  have hlocks := B.notSynchronized
  subst hsz
  have hD := hD0.self (sz := s.heap.size)
  generalize hAe : va_A [(a_o, .inr (4, [.ref a_o_queue, .ref a_o_steps, .ref a_o_firsts, .ref a_o_waysIn, .int o_reached])), (a_o_queue, .inl (cI, 720, .inl o_queue)), (a_o_steps, .inl (cI, 720, .inl o_steps)), (a_o_firsts, .inl (cI, 720, .inl o_firsts)), (a_o_waysIn, .inl (cI, 720, .inl o_waysIn)), (a_q0, .inr (1, [.ref a_q0_rows, .ref a_q0_edges, .int q0_persons, .int q0_size, .int q0_changes, .int q0_restCount, .int q0_firstRest])), (a_q0_rows, .inl (cI, 720, .inl q0_rows)), (a_q0_edges, .inl (cI, 4320, .inl q0_edges))] s.heap.size = A at hD ⊢
  have hA : ∀ q : Nat, s.heap.size ≤ q → A q := fun q h => by rw [← hAe]; exact Or.inr h
  have hS : va_S A s.heap s.heap [] := va_S.rf
  have hret : ∀ (H : Heap) (locs : List Loc) (ls : Array Slot) (pc : Nat) (v : Int32) (o0 : Int32) (o1 : Nat → Int32) (o2 : Nat → Int32) (o3 : Nat → Int32) (o4 : Nat → Int32), some (v, o0, o1, o2, o3, o4) = some res → decode cX5_longestFrom pc = .ok (.ireturn, 1) → va_P (dC, dI) vwCl [(a_o, .inr (4, [.ref a_o_queue, .ref a_o_steps, .ref a_o_firsts, .ref a_o_waysIn, .int o0])), (a_o_queue, .inl (cI, 720, .inl o1)), (a_o_steps, .inl (cI, 720, .inl o2)), (a_o_firsts, .inl (cI, 720, .inl o3)), (a_o_waysIn, .inl (cI, 720, .inl o4)), (a_q0, .inr (1, [.ref a_q0_rows, .ref a_q0_edges, .int q0_persons, .int q0_size, .int q0_changes, .int q0_restCount, .int q0_firstRest])), (a_q0_rows, .inl (cI, 720, .inl q0_rows)), (a_q0_edges, .inl (cI, 4320, .inl q0_edges))] H → va_D A [(a_o, .inr (4, [.ref a_o_queue, .ref a_o_steps, .ref a_o_firsts, .ref a_o_waysIn, .int o0])), (a_o_queue, .inl (cI, 720, .inl o1)), (a_o_steps, .inl (cI, 720, .inl o2)), (a_o_firsts, .inl (cI, 720, .inl o3)), (a_o_waysIn, .inl (cI, 720, .inl o4)), (a_q0, .inr (1, [.ref a_q0_rows, .ref a_q0_edges, .int q0_persons, .int q0_size, .int q0_changes, .int q0_restCount, .int q0_firstRest])), (a_q0_rows, .inl (cI, 720, .inl q0_rows)), (a_q0_edges, .inl (cI, 4320, .inl q0_edges))] → va_S A s.heap H locs → W p l e (headSpec (kws yX5_longestFrom cX5_longestFrom 8 (some .int)) rm_X5_longestFrom).room s m ([.ref a_o, .ref a_q0, .int x2] : List Value).toArray below meth c H locs 0 0 (MQ below (kQi Unit (dC, dI) A res.1 (fun _ => [(a_o, .inr (4, [.ref a_o_queue, .ref a_o_steps, .ref a_o_firsts, .ref a_o_waysIn, .int res.2.1])), (a_o_queue, .inl (cI, 720, .inl res.2.2.1)), (a_o_steps, .inl (cI, 720, .inl res.2.2.2.1)), (a_o_firsts, .inl (cI, 720, .inl res.2.2.2.2.1)), (a_o_waysIn, .inl (cI, 720, .inl res.2.2.2.2.2)), (a_q0, .inr (1, [.ref a_q0_rows, .ref a_q0_edges, .int q0_persons, .int q0_size, .int q0_changes, .int q0_restCount, .int q0_firstRest])), (a_q0_rows, .inl (cI, 720, .inl q0_rows)), (a_q0_edges, .inl (cI, 4320, .inl q0_edges))])) ([.ref a_o, .ref a_q0, .int x2] : List Value).toArray s 0 0 A) (F0 m pc ls [.int v]) := by
    intro H locs ls pc v o0 o1 o2 o3 o4 he hd hP hD hS
    obtain rfl := Option.some.inj he
    exact kri hx hb hr hlocks () hP hD hS hd
  have hl := lv_entry ([.ref a_o, .ref a_q0, .int x2]) (n := 8) (Nat.le_of_ble_eq_true rfl)
  rw [lg_entry_eq]
  generalize (lg_sl ([.ref a_o, .ref a_q0, .int x2]) ++ List.replicate (8 - (lg_sl ([.ref a_o, .ref a_q0, .int x2])).length) Slot.unset).toArray = ls at hl ⊢
  have hl : lv_has ls 8 [(0, .ref a_o), (1, .ref a_q0), (2, .int x2)] := hl
  generalize (MQ below _ ([.ref a_o, .ref a_q0, .int x2] : List Value).toArray s 0 0 A) = Q at hret ⊢
  generalize ([.ref a_o, .ref a_q0, .int x2] : List Value).toArray = args at ht hret ⊢
  have hP : va_P (dC, dI) vwCl [(a_o, .inr (4, [.ref a_o_queue, .ref a_o_steps, .ref a_o_firsts, .ref a_o_waysIn, .int o_reached])), (a_o_queue, .inl (cI, 720, .inl o_queue)), (a_o_steps, .inl (cI, 720, .inl o_steps)), (a_o_firsts, .inl (cI, 720, .inl o_firsts)), (a_o_waysIn, .inl (cI, 720, .inl o_waysIn)), (a_q0, .inr (1, [.ref a_q0_rows, .ref a_q0_edges, .int q0_persons, .int q0_size, .int q0_changes, .int q0_restCount, .int q0_firstRest])), (a_q0_rows, .inl (cI, 720, .inl q0_rows)), (a_q0_edges, .inl (cI, 4320, .inl q0_edges))] s.heap := hP
  unfold f_X5_longestFrom at hf
  have B136 : ∀ (x3 : Int32) (x4 : Int32) (o_reached : Int32) (o_queue : Nat → Int32) (o_steps : Nat → Int32) (o_firsts : Nat → Int32) (o_waysIn : Nat → Int32) (H : Heap) (locs : List Loc) (ls : Array Slot), f_X5_longestFrom_b136 q0_persons q0_size q0_changes q0_rows q0_edges x3 x4 o_reached o_queue o_steps o_firsts o_waysIn = some res → va_P (dC, dI) vwCl [(a_o, .inr (4, [.ref a_o_queue, .ref a_o_steps, .ref a_o_firsts, .ref a_o_waysIn, .int o_reached])), (a_o_queue, .inl (cI, 720, .inl o_queue)), (a_o_steps, .inl (cI, 720, .inl o_steps)), (a_o_firsts, .inl (cI, 720, .inl o_firsts)), (a_o_waysIn, .inl (cI, 720, .inl o_waysIn)), (a_q0, .inr (1, [.ref a_q0_rows, .ref a_q0_edges, .int q0_persons, .int q0_size, .int q0_changes, .int q0_restCount, .int q0_firstRest])), (a_q0_rows, .inl (cI, 720, .inl q0_rows)), (a_q0_edges, .inl (cI, 4320, .inl q0_edges))] H → va_D A [(a_o, .inr (4, [.ref a_o_queue, .ref a_o_steps, .ref a_o_firsts, .ref a_o_waysIn, .int o_reached])), (a_o_queue, .inl (cI, 720, .inl o_queue)), (a_o_steps, .inl (cI, 720, .inl o_steps)), (a_o_firsts, .inl (cI, 720, .inl o_firsts)), (a_o_waysIn, .inl (cI, 720, .inl o_waysIn)), (a_q0, .inr (1, [.ref a_q0_rows, .ref a_q0_edges, .int q0_persons, .int q0_size, .int q0_changes, .int q0_restCount, .int q0_firstRest])), (a_q0_rows, .inl (cI, 720, .inl q0_rows)), (a_q0_edges, .inl (cI, 4320, .inl q0_edges))] → va_S A s.heap H locs → lv_has ls 8 [(0, .ref a_o), (3, .int x3), (4, .int x4)] → W p l e (headSpec (kws yX5_longestFrom cX5_longestFrom 8 (some .int)) rm_X5_longestFrom).room s m args below meth c H locs 0 0 Q (F0 m 136 ls []) := by
    intro x3 x4 o_reached o_queue o_steps o_firsts o_waysIn H locs ls hf hP hD hS hl
    unfold f_X5_longestFrom_b136 at hf
    refine lv_aload_n hx hb dX5_longestFrom_136 rfl (lv_at hl 0 rfl) ?_
    refine va_get (ci := 4) (v := .int o_reached) (C := RX5) (T := TX5) (N := 5) hx hb ht inX5 hown hK hP 0 rfl rfl 4 (by decide) (ht _ wd_1_167) (fun _ h9 => h9) rfl dX5_longestFrom_137 ?_
    refine lv_iload_n hx hb dX5_longestFrom_140 rfl (lv_at hl 1 rfl) ?_
    refine lv_icmp_ne (tgt := 149) hx hb dX5_longestFrom_141 (by decide) (fun c_1 => ?_) (fun c_1 => ?_)
    · have hf := ifn c_1 hf
      refine lv_iconst (v := (-1 : Int32)) hx hb dX5_longestFrom_149 (by decide) ?_
      exact hret H locs ls 150 (-1 : Int32) o_reached o_queue o_steps o_firsts o_waysIn hf dX5_longestFrom_150 hP hD hS
    · have hf := ifp c_1 hf
      refine lv_iload hx hb dX5_longestFrom_144 (lv_at hl 2 rfl) ?_
      refine lv_goto (tgt := 150) hx hb dX5_longestFrom_146 (by decide) ?_
      exact hret H locs ls 150 x4 o_reached o_queue o_steps o_firsts o_waysIn hf dX5_longestFrom_150 hP hD hS
  have L50 : ∀ (n : Nat) (x3 : Int32) (x4 : Int32) (x5 : Int32) (o_reached : Int32) (o_queue : Nat → Int32) (o_steps : Nat → Int32) (o_firsts : Nat → Int32) (o_waysIn : Nat → Int32) (H : Heap) (locs : List Loc) (ls : Array Slot), f_X5_longestFrom_l50 q0_persons q0_size q0_changes q0_rows q0_edges n x3 x4 x5 o_reached o_queue o_steps o_firsts o_waysIn = some res → va_P (dC, dI) vwCl [(a_o, .inr (4, [.ref a_o_queue, .ref a_o_steps, .ref a_o_firsts, .ref a_o_waysIn, .int o_reached])), (a_o_queue, .inl (cI, 720, .inl o_queue)), (a_o_steps, .inl (cI, 720, .inl o_steps)), (a_o_firsts, .inl (cI, 720, .inl o_firsts)), (a_o_waysIn, .inl (cI, 720, .inl o_waysIn)), (a_q0, .inr (1, [.ref a_q0_rows, .ref a_q0_edges, .int q0_persons, .int q0_size, .int q0_changes, .int q0_restCount, .int q0_firstRest])), (a_q0_rows, .inl (cI, 720, .inl q0_rows)), (a_q0_edges, .inl (cI, 4320, .inl q0_edges))] H → va_D A [(a_o, .inr (4, [.ref a_o_queue, .ref a_o_steps, .ref a_o_firsts, .ref a_o_waysIn, .int o_reached])), (a_o_queue, .inl (cI, 720, .inl o_queue)), (a_o_steps, .inl (cI, 720, .inl o_steps)), (a_o_firsts, .inl (cI, 720, .inl o_firsts)), (a_o_waysIn, .inl (cI, 720, .inl o_waysIn)), (a_q0, .inr (1, [.ref a_q0_rows, .ref a_q0_edges, .int q0_persons, .int q0_size, .int q0_changes, .int q0_restCount, .int q0_firstRest])), (a_q0_rows, .inl (cI, 720, .inl q0_rows)), (a_q0_edges, .inl (cI, 4320, .inl q0_edges))] → va_S A s.heap H locs → lv_has ls 8 [(0, .ref a_o), (1, .ref a_q0), (3, .int x3), (4, .int x4), (5, .int x5)] → W p l e (headSpec (kws yX5_longestFrom cX5_longestFrom 8 (some .int)) rm_X5_longestFrom).room s m args below meth c H locs 0 0 Q (F0 m 50 ls []) := by
    intro n
    induction n with
    | zero =>
      intro x3 x4 x5 o_reached o_queue o_steps o_firsts o_waysIn H locs ls hf hP hD hS hl
      rw [f_X5_longestFrom_l50.eq_1] at hf
      cases hf
    | succ n50 ih50 =>
      have L93 : ∀ (n : Nat) (x3 : Int32) (x4 : Int32) (x5 : Int32) (x6 : Int32) (x7 : Int32) (o_reached : Int32) (o_queue : Nat → Int32) (o_steps : Nat → Int32) (o_firsts : Nat → Int32) (o_waysIn : Nat → Int32) (H : Heap) (locs : List Loc) (ls : Array Slot), f_X5_longestFrom_l93 q0_persons q0_size q0_changes q0_rows q0_edges (f_X5_longestFrom_l50 q0_persons q0_size q0_changes q0_rows q0_edges n50) n x3 x4 x5 x6 x7 o_reached o_queue o_steps o_firsts o_waysIn = some res → va_P (dC, dI) vwCl [(a_o, .inr (4, [.ref a_o_queue, .ref a_o_steps, .ref a_o_firsts, .ref a_o_waysIn, .int o_reached])), (a_o_queue, .inl (cI, 720, .inl o_queue)), (a_o_steps, .inl (cI, 720, .inl o_steps)), (a_o_firsts, .inl (cI, 720, .inl o_firsts)), (a_o_waysIn, .inl (cI, 720, .inl o_waysIn)), (a_q0, .inr (1, [.ref a_q0_rows, .ref a_q0_edges, .int q0_persons, .int q0_size, .int q0_changes, .int q0_restCount, .int q0_firstRest])), (a_q0_rows, .inl (cI, 720, .inl q0_rows)), (a_q0_edges, .inl (cI, 4320, .inl q0_edges))] H → va_D A [(a_o, .inr (4, [.ref a_o_queue, .ref a_o_steps, .ref a_o_firsts, .ref a_o_waysIn, .int o_reached])), (a_o_queue, .inl (cI, 720, .inl o_queue)), (a_o_steps, .inl (cI, 720, .inl o_steps)), (a_o_firsts, .inl (cI, 720, .inl o_firsts)), (a_o_waysIn, .inl (cI, 720, .inl o_waysIn)), (a_q0, .inr (1, [.ref a_q0_rows, .ref a_q0_edges, .int q0_persons, .int q0_size, .int q0_changes, .int q0_restCount, .int q0_firstRest])), (a_q0_rows, .inl (cI, 720, .inl q0_rows)), (a_q0_edges, .inl (cI, 4320, .inl q0_edges))] → va_S A s.heap H locs → lv_has ls 8 [(0, .ref a_o), (1, .ref a_q0), (3, .int x3), (4, .int x4), (5, .int x5), (6, .int x6), (7, .int x7)] → W p l e (headSpec (kws yX5_longestFrom cX5_longestFrom 8 (some .int)) rm_X5_longestFrom).room s m args below meth c H locs 0 0 Q (F0 m 93 ls []) := by
        intro n
        induction n with
        | zero =>
          intro x3 x4 x5 x6 x7 o_reached o_queue o_steps o_firsts o_waysIn H locs ls hf hP hD hS hl
          rw [f_X5_longestFrom_l93.eq_1] at hf
          cases hf
        | succ n93 ih93 =>
          intro x3 x4 x5 x6 x7 o_reached o_queue o_steps o_firsts o_waysIn H locs ls hf hP hD hS hl
          rw [f_X5_longestFrom_l93.eq_2] at hf
          refine lv_iload hx hb dX5_longestFrom_93 (lv_at hl 6 rfl) ?_
          refine lv_aload_n hx hb dX5_longestFrom_95 rfl (lv_at hl 1 rfl) ?_
          refine va_get (ci := 1) (v := .int q0_changes) (C := RX1) (T := TX1) (N := 7) hx hb ht inX1 hown hK hP 5 rfl rfl 4 (by decide) (ht _ wd_1_137) (fun _ h9 => h9) rfl dX5_longestFrom_96 ?_
          refine lv_icmp_ge (tgt := 130) hx hb dX5_longestFrom_99 (by decide) (fun c_2 => ?_) (fun c_2 => ?_)
          · have hf := ifp c_2 hf
            refine lv_iinc (v := (x5 + (1 : Int32))) (lv' := [(5, .int (x5 + (1 : Int32))), (0, .ref a_o), (1, .ref a_q0), (3, .int x3), (4, .int x4), (6, .int x6), (7, .int x7)]) hx hb dX5_longestFrom_130 hl (k := 4) rfl rfl (by decide) rfl (fun ls hl => ?_)
            refine lv_goto (tgt := 50) hx hb dX5_longestFrom_133 (by decide) ?_
            exact ih50 x3 x4 (x5 + (1 : Int32)) o_reached o_queue o_steps o_firsts o_waysIn H locs ls hf hP hD hS (lv_sub hl [1, 2, 3, 4, 0] rfl)
          · have hf := ifn c_2 hf
            refine lv_aload_n hx hb dX5_longestFrom_102 rfl (lv_at hl 0 rfl) ?_
            refine lv_aload_n hx hb dX5_longestFrom_103 rfl (lv_at hl 1 rfl) ?_
            refine lv_iload hx hb dX5_longestFrom_104 (lv_at hl 5 rfl) ?_
            refine lv_iload hx hb dX5_longestFrom_106 (lv_at hl 6 rfl) ?_
            refine lv_iconst (v := (-1 : Int32)) hx hb dX5_longestFrom_108 (by decide) ?_
            obtain ⟨u_3, h_4, hf⟩ := obs hf
            refine kcVi (rest := [.ref a_o]) (wr := [(a_o, .inr (4, [.ref a_o_queue, .ref a_o_steps, .ref a_o_firsts, .ref a_o_waysIn, .int o_reached])), (a_o_queue, .inl (cI, 720, .inl o_queue)), (a_o_steps, .inl (cI, 720, .inl o_steps)), (a_o_firsts, .inl (cI, 720, .inl o_firsts)), (a_o_waysIn, .inl (cI, 720, .inl o_waysIn))]) (w2 := fun _ => [(a_o, .inr (4, [.ref a_o_queue, .ref a_o_steps, .ref a_o_firsts, .ref a_o_waysIn, .int o_reached])), (a_o_queue, .inl (cI, 720, .inl o_queue)), (a_o_steps, .inl (cI, 720, .inl o_steps)), (a_o_firsts, .inl (cI, 720, .inl o_firsts)), (a_o_waysIn, .inl (cI, 720, .inl o_waysIn)), (a_q0, .inr (1, [.ref a_q0_rows, .ref a_q0_edges, .int q0_persons, .int q0_size, .int q0_changes, .int q0_restCount, .int q0_firstRest])), (a_q0_rows, .inl (cI, 720, .inl q0_rows)), (a_q0_edges, .inl (cI, 4320, .inl q0_edges))]) hx hb hml hown ht (c_X1_leadsTo l dC dI cI cJ cZ a_q0 a_q0_rows a_q0_edges H.size q0_persons q0_size q0_changes q0_restCount q0_firstRest q0_rows q0_edges x6 x7 (-1 : Int32) u_3 h_4) (kcw 3 ht wd_3_29 wd_1_8 wd_3_67 kd_X1_leadsTo ⟨rfl, rfl⟩ ⟨Nat.le_of_ble_eq_true rfl, Nat.le_of_ble_eq_true rfl⟩) wd_3_27 wd_3_28 hK hP hD hS hA [5, 6, 7] [0, 1, 2, 3, 4] [0, 1, 2, 3, 4, 5, 6, 7] rfl rfl rfl rfl (by decide) rfl (fun _ => rfl) (ci := 1) rfl rfl rfl rfl hl.1 rfl (Nat.le_of_ble_eq_true rfl) dX5_longestFrom_109 ⟨Nat.zero_le _, Nat.zero_le _⟩ (fun _ H locs hP hD hS => ?_)
            have hP : va_P (dC, dI) vwCl [(a_o, .inr (4, [.ref a_o_queue, .ref a_o_steps, .ref a_o_firsts, .ref a_o_waysIn, .int o_reached])), (a_o_queue, .inl (cI, 720, .inl o_queue)), (a_o_steps, .inl (cI, 720, .inl o_steps)), (a_o_firsts, .inl (cI, 720, .inl o_firsts)), (a_o_waysIn, .inl (cI, 720, .inl o_waysIn)), (a_q0, .inr (1, [.ref a_q0_rows, .ref a_q0_edges, .int q0_persons, .int q0_size, .int q0_changes, .int q0_restCount, .int q0_firstRest])), (a_q0_rows, .inl (cI, 720, .inl q0_rows)), (a_q0_edges, .inl (cI, 4320, .inl q0_edges))] H := hP
            have hD : va_D A [(a_o, .inr (4, [.ref a_o_queue, .ref a_o_steps, .ref a_o_firsts, .ref a_o_waysIn, .int o_reached])), (a_o_queue, .inl (cI, 720, .inl o_queue)), (a_o_steps, .inl (cI, 720, .inl o_steps)), (a_o_firsts, .inl (cI, 720, .inl o_firsts)), (a_o_waysIn, .inl (cI, 720, .inl o_waysIn)), (a_q0, .inr (1, [.ref a_q0_rows, .ref a_q0_edges, .int q0_persons, .int q0_size, .int q0_changes, .int q0_restCount, .int q0_firstRest])), (a_q0_rows, .inl (cI, 720, .inl q0_rows)), (a_q0_edges, .inl (cI, 4320, .inl q0_edges))] := hD
            refine lv_aload_n hx hb dX5_longestFrom_112 rfl (lv_at hl 0 rfl) ?_
            refine va_get (ci := 4) (v := .ref a_o_steps) (C := RX5) (T := TX5) (N := 5) hx hb ht inX5 hown hK hP 0 rfl rfl 1 (by decide) (ht _ wd_1_164) (fun _ h9 => h9) rfl dX5_longestFrom_113 ?_
            refine lv_iload hx hb dX5_longestFrom_116 (lv_at hl 5 rfl) ?_
            obtain ⟨b_5, hf⟩ := bd_some hf
            refine va_iald hx hb hK hP 2 0 rfl rfl b_5 dX5_longestFrom_118 ?_
            refine lv_iconst (v := (1 : Int32)) hx hb dX5_longestFrom_119 (by decide) ?_
            refine lv_iadd hx hb dX5_longestFrom_120 ?_
            obtain ⟨u_6, h_7, hf⟩ := obs hf
            refine kcVv (rest := []) (wr := [(a_o_firsts, .inl (cI, 720, .inl o_firsts)), (a_q0, .inr (1, [.ref a_q0_rows, .ref a_q0_edges, .int q0_persons, .int q0_size, .int q0_changes, .int q0_restCount, .int q0_firstRest])), (a_q0_rows, .inl (cI, 720, .inl q0_rows)), (a_q0_edges, .inl (cI, 4320, .inl q0_edges))]) (w2 := fun _ => [(a_o, .inr (4, [.ref a_o_queue, .ref a_o_steps, .ref a_o_firsts, .ref a_o_waysIn, .int u_6.1])), (a_o_queue, .inl (cI, 720, .inl u_6.2.1)), (a_o_steps, .inl (cI, 720, .inl u_6.2.2.1)), (a_o_firsts, .inl (cI, 720, .inl o_firsts)), (a_o_waysIn, .inl (cI, 720, .inl u_6.2.2.2)), (a_q0, .inr (1, [.ref a_q0_rows, .ref a_q0_edges, .int q0_persons, .int q0_size, .int q0_changes, .int q0_restCount, .int q0_firstRest])), (a_q0_rows, .inl (cI, 720, .inl q0_rows)), (a_q0_edges, .inl (cI, 4320, .inl q0_edges))]) hx hb hml hown ht (c_X5_goThrough l dC dI cI cJ cZ a_o a_o_queue a_o_steps a_o_firsts a_o_waysIn H.size o_reached o_queue o_steps o_waysIn u_3 ((o_steps x6.toNatClampNeg) + (1 : Int32)) u_6 h_7) (kcw 2 ht wd_3_76 wd_1_9 wd_3_73 kd_X5_goThrough ⟨rfl, rfl⟩ ⟨Nat.le_of_ble_eq_true rfl, Nat.le_of_ble_eq_true rfl⟩) wd_3_75 wd_s_11 hK hP hD hS hA [0, 1, 2, 4] [3, 5, 6, 7] [4, 5, 6, 0, 7, 1, 2, 3] rfl rfl rfl rfl (by decide) rfl (fun _ => rfl) (ci := 4) rfl rfl rfl rfl hl.1 rfl (Nat.le_of_ble_eq_true rfl) dX5_longestFrom_121 ⟨Nat.zero_le _, Nat.zero_le _⟩ (fun _ H locs hP hD hS => ?_)
            have hP : va_P (dC, dI) vwCl [(a_o, .inr (4, [.ref a_o_queue, .ref a_o_steps, .ref a_o_firsts, .ref a_o_waysIn, .int u_6.1])), (a_o_queue, .inl (cI, 720, .inl u_6.2.1)), (a_o_steps, .inl (cI, 720, .inl u_6.2.2.1)), (a_o_firsts, .inl (cI, 720, .inl o_firsts)), (a_o_waysIn, .inl (cI, 720, .inl u_6.2.2.2)), (a_q0, .inr (1, [.ref a_q0_rows, .ref a_q0_edges, .int q0_persons, .int q0_size, .int q0_changes, .int q0_restCount, .int q0_firstRest])), (a_q0_rows, .inl (cI, 720, .inl q0_rows)), (a_q0_edges, .inl (cI, 4320, .inl q0_edges))] H := hP
            have hD : va_D A [(a_o, .inr (4, [.ref a_o_queue, .ref a_o_steps, .ref a_o_firsts, .ref a_o_waysIn, .int u_6.1])), (a_o_queue, .inl (cI, 720, .inl u_6.2.1)), (a_o_steps, .inl (cI, 720, .inl u_6.2.2.1)), (a_o_firsts, .inl (cI, 720, .inl o_firsts)), (a_o_waysIn, .inl (cI, 720, .inl u_6.2.2.2)), (a_q0, .inr (1, [.ref a_q0_rows, .ref a_q0_edges, .int q0_persons, .int q0_size, .int q0_changes, .int q0_restCount, .int q0_firstRest])), (a_q0_rows, .inl (cI, 720, .inl q0_rows)), (a_q0_edges, .inl (cI, 4320, .inl q0_edges))] := hD
            refine lv_iinc (v := (x7 + (1 : Int32))) (lv' := [(7, .int (x7 + (1 : Int32))), (0, .ref a_o), (1, .ref a_q0), (3, .int x3), (4, .int x4), (5, .int x5), (6, .int x6)]) hx hb dX5_longestFrom_124 hl (k := 6) rfl rfl (by decide) rfl (fun ls hl => ?_)
            refine lv_goto (tgt := 93) hx hb dX5_longestFrom_127 (by decide) ?_
            exact ih93 x3 x4 x5 x6 (x7 + (1 : Int32)) u_6.1 u_6.2.1 u_6.2.2.1 o_firsts u_6.2.2.2 H locs ls hf hP hD hS (lv_sub hl [1, 2, 3, 4, 5, 6, 0] rfl)
      intro x3 x4 x5 o_reached o_queue o_steps o_firsts o_waysIn H locs ls hf hP hD hS hl
      rw [f_X5_longestFrom_l50.eq_2] at hf
      refine lv_iload hx hb dX5_longestFrom_50 (lv_at hl 4 rfl) ?_
      refine lv_aload_n hx hb dX5_longestFrom_52 rfl (lv_at hl 0 rfl) ?_
      refine va_get (ci := 4) (v := .int o_reached) (C := RX5) (T := TX5) (N := 5) hx hb ht inX5 hown hK hP 0 rfl rfl 4 (by decide) (ht _ wd_1_167) (fun _ h9 => h9) rfl dX5_longestFrom_53 ?_
      refine lv_icmp_ge (tgt := 136) hx hb dX5_longestFrom_56 (by decide) (fun c_8 => ?_) (fun c_8 => ?_)
      · have hf := ifp c_8 hf
        exact B136 x3 x4 o_reached o_queue o_steps o_firsts o_waysIn H locs ls hf hP hD hS (lv_sub hl [0, 2, 3] rfl)
      · have hf := ifn c_8 hf
        refine lv_iload hx hb dX5_longestFrom_59 (lv_at hl 4 rfl) ?_
        refine lv_sipush (v := (720 : Int32)) hx hb dX5_longestFrom_61 (by decide) ?_
        refine lv_icmp_ge (tgt := 136) hx hb dX5_longestFrom_64 (by decide) (fun c_9 => ?_) (fun c_9 => ?_)
        · have hf := ifp c_9 hf
          exact B136 x3 x4 o_reached o_queue o_steps o_firsts o_waysIn H locs ls hf hP hD hS (lv_sub hl [0, 2, 3] rfl)
        · have hf := ifn c_9 hf
          refine lv_aload_n hx hb dX5_longestFrom_67 rfl (lv_at hl 0 rfl) ?_
          refine va_get (ci := 4) (v := .ref a_o_queue) (C := RX5) (T := TX5) (N := 5) hx hb ht inX5 hown hK hP 0 rfl rfl 0 (by decide) (ht _ wd_1_163) (fun _ h9 => h9) rfl dX5_longestFrom_68 ?_
          refine lv_iload hx hb dX5_longestFrom_71 (lv_at hl 4 rfl) ?_
          obtain ⟨b_10, hf⟩ := bd_some hf
          refine va_iald hx hb hK hP 1 0 rfl rfl b_10 dX5_longestFrom_73 ?_
          refine lv_istore (lv' := [(6, .int (o_queue x5.toNatClampNeg)), (0, .ref a_o), (1, .ref a_q0), (3, .int x3), (4, .int x4), (5, .int x5)]) hx hb dX5_longestFrom_74 hl (by decide) rfl (fun ls hl => ?_)
          refine lv_iload hx hb dX5_longestFrom_76 (lv_at hl 4 rfl) ?_
          refine lv_aload_n hx hb dX5_longestFrom_78 rfl (lv_at hl 1 rfl) ?_
          refine va_get (ci := 4) (v := .ref a_o_steps) (C := RX5) (T := TX5) (N := 5) hx hb ht inX5 hown hK hP 0 rfl rfl 1 (by decide) (ht _ wd_1_164) (fun _ h9 => h9) rfl dX5_longestFrom_79 ?_
          refine lv_iload hx hb dX5_longestFrom_82 (lv_at hl 0 rfl) ?_
          obtain ⟨b_11, hf⟩ := bd_some hf
          refine va_iald hx hb hK hP 2 0 rfl rfl b_11 dX5_longestFrom_84 ?_
          refine va_mmax hx hb (hml.trans hl.1.symm) hown (ht _ wd_3_72) (ht _ wd_1_90) (ht _ wd_1_6) (ht _ wd_1_91) (Nat.le_of_ble_eq_true rfl) (Nat.le_of_ble_eq_true rfl) (Nat.zero_le _) (Nat.zero_le _) dX5_longestFrom_85 ?_
          refine lv_istore (lv' := [(4, .int (if x4 < (o_steps (o_queue x5.toNatClampNeg).toNatClampNeg) then (o_steps (o_queue x5.toNatClampNeg).toNatClampNeg) else x4)), (6, .int (o_queue x5.toNatClampNeg)), (0, .ref a_o), (1, .ref a_q0), (3, .int x3), (5, .int x5)]) hx hb dX5_longestFrom_88 hl (by decide) rfl (fun ls hl => ?_)
          refine lv_iconst (v := (0 : Int32)) hx hb dX5_longestFrom_90 (by decide) ?_
          refine lv_istore (lv' := [(7, .int (0 : Int32)), (4, .int (if x4 < (o_steps (o_queue x5.toNatClampNeg).toNatClampNeg) then (o_steps (o_queue x5.toNatClampNeg).toNatClampNeg) else x4)), (6, .int (o_queue x5.toNatClampNeg)), (0, .ref a_o), (1, .ref a_q0), (3, .int x3), (5, .int x5)]) hx hb dX5_longestFrom_91 hl (by decide) rfl (fun ls hl => ?_)
          exact L93 NF x3 (if x4 < (o_steps (o_queue x5.toNatClampNeg).toNatClampNeg) then (o_steps (o_queue x5.toNatClampNeg).toNatClampNeg) else x4) x5 (o_queue x5.toNatClampNeg) (0 : Int32) o_reached o_queue o_steps o_firsts o_waysIn H locs ls hf hP hD hS (lv_sub hl [3, 4, 5, 1, 6, 2, 0] rfl)
  have B44 : ∀ (x3 : Int32) (x4 : Int32) (t0 : Int32) (o_reached : Int32) (o_queue : Nat → Int32) (o_steps : Nat → Int32) (o_firsts : Nat → Int32) (o_waysIn : Nat → Int32) (H : Heap) (locs : List Loc) (ls : Array Slot), f_X5_longestFrom_b44 q0_persons q0_size q0_changes q0_rows q0_edges x3 x4 t0 o_reached o_queue o_steps o_firsts o_waysIn = some res → va_P (dC, dI) vwCl [(a_o, .inr (4, [.ref a_o_queue, .ref a_o_steps, .ref a_o_firsts, .ref a_o_waysIn, .int o_reached])), (a_o_queue, .inl (cI, 720, .inl o_queue)), (a_o_steps, .inl (cI, 720, .inl o_steps)), (a_o_firsts, .inl (cI, 720, .inl o_firsts)), (a_o_waysIn, .inl (cI, 720, .inl o_waysIn)), (a_q0, .inr (1, [.ref a_q0_rows, .ref a_q0_edges, .int q0_persons, .int q0_size, .int q0_changes, .int q0_restCount, .int q0_firstRest])), (a_q0_rows, .inl (cI, 720, .inl q0_rows)), (a_q0_edges, .inl (cI, 4320, .inl q0_edges))] H → va_D A [(a_o, .inr (4, [.ref a_o_queue, .ref a_o_steps, .ref a_o_firsts, .ref a_o_waysIn, .int o_reached])), (a_o_queue, .inl (cI, 720, .inl o_queue)), (a_o_steps, .inl (cI, 720, .inl o_steps)), (a_o_firsts, .inl (cI, 720, .inl o_firsts)), (a_o_waysIn, .inl (cI, 720, .inl o_waysIn)), (a_q0, .inr (1, [.ref a_q0_rows, .ref a_q0_edges, .int q0_persons, .int q0_size, .int q0_changes, .int q0_restCount, .int q0_firstRest])), (a_q0_rows, .inl (cI, 720, .inl q0_rows)), (a_q0_edges, .inl (cI, 4320, .inl q0_edges))] → va_S A s.heap H locs → lv_has ls 8 [(0, .ref a_o), (1, .ref a_q0), (3, .int x3), (4, .int x4)] → W p l e (headSpec (kws yX5_longestFrom cX5_longestFrom 8 (some .int)) rm_X5_longestFrom).room s m args below meth c H locs 0 0 Q (F0 m 44 ls [.int t0, .ref a_o]) := by
    intro x3 x4 t0 o_reached o_queue o_steps o_firsts o_waysIn H locs ls hf hP hD hS hl
    unfold f_X5_longestFrom_b44 at hf
    refine va_put (ci := 4) (v := .int t0) (ty := .int) (C := RX5) (T := TX5) (N := 5) hx hb ht inX5 tyX5 tyX5_ok nmX5 hown hK hP hD hS 0 rfl rfl 4 (by decide) (ht _ wd_1_167) (fun _ h9 => h9) rfl (tyX5_ok 4 (by decide)) rfl rfl (Nat.le_of_ble_eq_true rfl) dX5_longestFrom_44 (fun H locs hP hD hS => ?_)
    have hP : va_P (dC, dI) vwCl [(a_o, .inr (4, [.ref a_o_queue, .ref a_o_steps, .ref a_o_firsts, .ref a_o_waysIn, .int t0])), (a_o_queue, .inl (cI, 720, .inl o_queue)), (a_o_steps, .inl (cI, 720, .inl o_steps)), (a_o_firsts, .inl (cI, 720, .inl o_firsts)), (a_o_waysIn, .inl (cI, 720, .inl o_waysIn)), (a_q0, .inr (1, [.ref a_q0_rows, .ref a_q0_edges, .int q0_persons, .int q0_size, .int q0_changes, .int q0_restCount, .int q0_firstRest])), (a_q0_rows, .inl (cI, 720, .inl q0_rows)), (a_q0_edges, .inl (cI, 4320, .inl q0_edges))] H := hP
    have hD : va_D A [(a_o, .inr (4, [.ref a_o_queue, .ref a_o_steps, .ref a_o_firsts, .ref a_o_waysIn, .int t0])), (a_o_queue, .inl (cI, 720, .inl o_queue)), (a_o_steps, .inl (cI, 720, .inl o_steps)), (a_o_firsts, .inl (cI, 720, .inl o_firsts)), (a_o_waysIn, .inl (cI, 720, .inl o_waysIn)), (a_q0, .inr (1, [.ref a_q0_rows, .ref a_q0_edges, .int q0_persons, .int q0_size, .int q0_changes, .int q0_restCount, .int q0_firstRest])), (a_q0_rows, .inl (cI, 720, .inl q0_rows)), (a_q0_edges, .inl (cI, 4320, .inl q0_edges))] := hD
    refine lv_iconst (v := (0 : Int32)) hx hb dX5_longestFrom_47 (by decide) ?_
    refine lv_istore (lv' := [(5, .int (0 : Int32)), (0, .ref a_o), (1, .ref a_q0), (3, .int x3), (4, .int x4)]) hx hb dX5_longestFrom_48 hl (by decide) rfl (fun ls hl => ?_)
    exact L50 NF x3 x4 (0 : Int32) t0 o_queue o_steps o_firsts o_waysIn H locs ls hf hP hD hS (lv_sub hl [1, 2, 3, 4, 0] rfl)
  have B43 : ∀ (x3 : Int32) (x4 : Int32) (o_reached : Int32) (o_queue : Nat → Int32) (o_steps : Nat → Int32) (o_firsts : Nat → Int32) (o_waysIn : Nat → Int32) (H : Heap) (locs : List Loc) (ls : Array Slot), f_X5_longestFrom_b43 q0_persons q0_size q0_changes q0_rows q0_edges x3 x4 o_reached o_queue o_steps o_firsts o_waysIn = some res → va_P (dC, dI) vwCl [(a_o, .inr (4, [.ref a_o_queue, .ref a_o_steps, .ref a_o_firsts, .ref a_o_waysIn, .int o_reached])), (a_o_queue, .inl (cI, 720, .inl o_queue)), (a_o_steps, .inl (cI, 720, .inl o_steps)), (a_o_firsts, .inl (cI, 720, .inl o_firsts)), (a_o_waysIn, .inl (cI, 720, .inl o_waysIn)), (a_q0, .inr (1, [.ref a_q0_rows, .ref a_q0_edges, .int q0_persons, .int q0_size, .int q0_changes, .int q0_restCount, .int q0_firstRest])), (a_q0_rows, .inl (cI, 720, .inl q0_rows)), (a_q0_edges, .inl (cI, 4320, .inl q0_edges))] H → va_D A [(a_o, .inr (4, [.ref a_o_queue, .ref a_o_steps, .ref a_o_firsts, .ref a_o_waysIn, .int o_reached])), (a_o_queue, .inl (cI, 720, .inl o_queue)), (a_o_steps, .inl (cI, 720, .inl o_steps)), (a_o_firsts, .inl (cI, 720, .inl o_firsts)), (a_o_waysIn, .inl (cI, 720, .inl o_waysIn)), (a_q0, .inr (1, [.ref a_q0_rows, .ref a_q0_edges, .int q0_persons, .int q0_size, .int q0_changes, .int q0_restCount, .int q0_firstRest])), (a_q0_rows, .inl (cI, 720, .inl q0_rows)), (a_q0_edges, .inl (cI, 4320, .inl q0_edges))] → va_S A s.heap H locs → lv_has ls 8 [(0, .ref a_o), (1, .ref a_q0), (3, .int x3), (4, .int x4)] → W p l e (headSpec (kws yX5_longestFrom cX5_longestFrom 8 (some .int)) rm_X5_longestFrom).room s m args below meth c H locs 0 0 Q (F0 m 43 ls [.ref a_o]) := by
    intro x3 x4 o_reached o_queue o_steps o_firsts o_waysIn H locs ls hf hP hD hS hl
    unfold f_X5_longestFrom_b43 at hf
    refine lv_iconst (v := (0 : Int32)) hx hb dX5_longestFrom_43 (by decide) ?_
    exact B44 x3 x4 (0 : Int32) o_reached o_queue o_steps o_firsts o_waysIn H locs ls hf hP hD hS (lv_sub hl [0, 1, 2, 3] rfl)
  obtain ⟨H, hH⟩ : ∃ H, H = s.heap := ⟨_, rfl⟩
  obtain ⟨locs, hlo⟩ : ∃ L : List Loc, L = [] := ⟨_, rfl⟩
  rw [← hH] at hP
  have hS : va_S A s.heap H locs := by rw [hH, hlo]; exact hS
  rw [show W p l e (headSpec (kws yX5_longestFrom cX5_longestFrom 8 (some .int)) rm_X5_longestFrom).room s m args below meth c s.heap [] 0 0 Q (F0 m 0 ls []) = W p l e (headSpec (kws yX5_longestFrom cX5_longestFrom 8 (some .int)) rm_X5_longestFrom).room s m args below meth c H locs 0 0 Q (F0 m 0 ls []) from by rw [hH, hlo]]
  refine lv_aload_n hx hb dX5_longestFrom_0 rfl (lv_at hl 0 rfl) ?_
  refine lv_aload_n hx hb dX5_longestFrom_1 rfl (lv_at hl 1 rfl) ?_
  refine lv_iload_n hx hb dX5_longestFrom_2 rfl (lv_at hl 2 rfl) ?_
  refine lv_iconst (v := (-1 : Int32)) hx hb dX5_longestFrom_3 (by decide) ?_
  obtain ⟨u_12, h_13, hf⟩ := obs hf
  refine kcVv (rest := []) (wr := [(a_o_waysIn, .inl (cI, 720, .inl o_waysIn))]) (w2 := fun _ => [(a_o, .inr (4, [.ref a_o_queue, .ref a_o_steps, .ref a_o_firsts, .ref a_o_waysIn, .int u_12.1])), (a_o_queue, .inl (cI, 720, .inl u_12.2.1)), (a_o_steps, .inl (cI, 720, .inl u_12.2.2.1)), (a_o_firsts, .inl (cI, 720, .inl u_12.2.2.2)), (a_o_waysIn, .inl (cI, 720, .inl o_waysIn)), (a_q0, .inr (1, [.ref a_q0_rows, .ref a_q0_edges, .int q0_persons, .int q0_size, .int q0_changes, .int q0_restCount, .int q0_firstRest])), (a_q0_rows, .inl (cI, 720, .inl q0_rows)), (a_q0_edges, .inl (cI, 4320, .inl q0_edges))]) hx hb hml hown ht (c_X5_spread l dC dI cI cJ cZ a_o a_o_queue a_o_steps a_o_firsts a_o_waysIn a_q0 a_q0_rows a_q0_edges H.size o_reached o_queue o_steps o_firsts q0_persons q0_size q0_changes q0_restCount q0_firstRest q0_rows q0_edges x2 (-1 : Int32) u_12 h_13) (kcw 3 ht wd_3_61 wd_1_9 wd_3_58 kd_X5_spread ⟨rfl, rfl⟩ ⟨Nat.le_of_ble_eq_true rfl, Nat.le_of_ble_eq_true rfl⟩) wd_3_59 wd_3_60 hK hP hD hS hA [0, 1, 2, 3, 5, 6, 7] [4] [1, 2, 3, 4, 0, 5, 6, 7] rfl rfl rfl rfl (by decide) rfl (fun _ => rfl) (ci := 4) rfl rfl rfl rfl hl.1 rfl (Nat.le_of_ble_eq_true rfl) dX5_longestFrom_4 ⟨Nat.zero_le _, Nat.zero_le _⟩ (fun _ H locs hP hD hS => ?_)
  have hP : va_P (dC, dI) vwCl [(a_o, .inr (4, [.ref a_o_queue, .ref a_o_steps, .ref a_o_firsts, .ref a_o_waysIn, .int u_12.1])), (a_o_queue, .inl (cI, 720, .inl u_12.2.1)), (a_o_steps, .inl (cI, 720, .inl u_12.2.2.1)), (a_o_firsts, .inl (cI, 720, .inl u_12.2.2.2)), (a_o_waysIn, .inl (cI, 720, .inl o_waysIn)), (a_q0, .inr (1, [.ref a_q0_rows, .ref a_q0_edges, .int q0_persons, .int q0_size, .int q0_changes, .int q0_restCount, .int q0_firstRest])), (a_q0_rows, .inl (cI, 720, .inl q0_rows)), (a_q0_edges, .inl (cI, 4320, .inl q0_edges))] H := hP
  have hD : va_D A [(a_o, .inr (4, [.ref a_o_queue, .ref a_o_steps, .ref a_o_firsts, .ref a_o_waysIn, .int u_12.1])), (a_o_queue, .inl (cI, 720, .inl u_12.2.1)), (a_o_steps, .inl (cI, 720, .inl u_12.2.2.1)), (a_o_firsts, .inl (cI, 720, .inl u_12.2.2.2)), (a_o_waysIn, .inl (cI, 720, .inl o_waysIn)), (a_q0, .inr (1, [.ref a_q0_rows, .ref a_q0_edges, .int q0_persons, .int q0_size, .int q0_changes, .int q0_restCount, .int q0_firstRest])), (a_q0_rows, .inl (cI, 720, .inl q0_rows)), (a_q0_edges, .inl (cI, 4320, .inl q0_edges))] := hD
  refine lv_aload_n hx hb dX5_longestFrom_7 rfl (lv_at hl 0 rfl) ?_
  refine lv_aload_n hx hb dX5_longestFrom_8 rfl (lv_at hl 1 rfl) ?_
  obtain ⟨u_14, h_15, hf⟩ := obs hf
  refine kcVv (rest := []) (wr := [(a_o_steps, .inl (cI, 720, .inl u_12.2.2.1)), (a_o_firsts, .inl (cI, 720, .inl u_12.2.2.2))]) (w2 := fun _ => [(a_o, .inr (4, [.ref a_o_queue, .ref a_o_steps, .ref a_o_firsts, .ref a_o_waysIn, .int u_12.1])), (a_o_queue, .inl (cI, 720, .inl u_12.2.1)), (a_o_steps, .inl (cI, 720, .inl u_12.2.2.1)), (a_o_firsts, .inl (cI, 720, .inl u_12.2.2.2)), (a_o_waysIn, .inl (cI, 720, .inl u_14)), (a_q0, .inr (1, [.ref a_q0_rows, .ref a_q0_edges, .int q0_persons, .int q0_size, .int q0_changes, .int q0_restCount, .int q0_firstRest])), (a_q0_rows, .inl (cI, 720, .inl q0_rows)), (a_q0_edges, .inl (cI, 4320, .inl q0_edges))]) hx hb hml hown ht (c_X5_countWaysIn l dC dI cI cJ cZ a_o a_o_queue a_o_steps a_o_firsts a_o_waysIn a_q0 a_q0_rows a_q0_edges H.size u_12.1 u_12.2.1 o_waysIn q0_persons q0_size q0_changes q0_restCount q0_firstRest q0_rows q0_edges u_14 h_15) (kcw 1 ht wd_3_71 wd_1_9 wd_3_68 kd_X5_countWaysIn ⟨rfl, rfl⟩ ⟨Nat.le_of_ble_eq_true rfl, Nat.le_of_ble_eq_true rfl⟩) wd_3_70 wd_s_10 hK hP hD hS hA [0, 1, 4, 5, 6, 7] [2, 3] [2, 3, 0, 1, 4, 5, 6, 7] rfl rfl rfl rfl (by decide) rfl (fun _ => rfl) (ci := 4) rfl rfl rfl rfl hl.1 rfl (Nat.le_of_ble_eq_true rfl) dX5_longestFrom_9 ⟨Nat.zero_le _, Nat.zero_le _⟩ (fun _ H locs hP hD hS => ?_)
  have hP : va_P (dC, dI) vwCl [(a_o, .inr (4, [.ref a_o_queue, .ref a_o_steps, .ref a_o_firsts, .ref a_o_waysIn, .int u_12.1])), (a_o_queue, .inl (cI, 720, .inl u_12.2.1)), (a_o_steps, .inl (cI, 720, .inl u_12.2.2.1)), (a_o_firsts, .inl (cI, 720, .inl u_12.2.2.2)), (a_o_waysIn, .inl (cI, 720, .inl u_14)), (a_q0, .inr (1, [.ref a_q0_rows, .ref a_q0_edges, .int q0_persons, .int q0_size, .int q0_changes, .int q0_restCount, .int q0_firstRest])), (a_q0_rows, .inl (cI, 720, .inl q0_rows)), (a_q0_edges, .inl (cI, 4320, .inl q0_edges))] H := hP
  have hD : va_D A [(a_o, .inr (4, [.ref a_o_queue, .ref a_o_steps, .ref a_o_firsts, .ref a_o_waysIn, .int u_12.1])), (a_o_queue, .inl (cI, 720, .inl u_12.2.1)), (a_o_steps, .inl (cI, 720, .inl u_12.2.2.1)), (a_o_firsts, .inl (cI, 720, .inl u_12.2.2.2)), (a_o_waysIn, .inl (cI, 720, .inl u_14)), (a_q0, .inr (1, [.ref a_q0_rows, .ref a_q0_edges, .int q0_persons, .int q0_size, .int q0_changes, .int q0_restCount, .int q0_firstRest])), (a_q0_rows, .inl (cI, 720, .inl q0_rows)), (a_q0_edges, .inl (cI, 4320, .inl q0_edges))] := hD
  refine lv_aload_n hx hb dX5_longestFrom_12 rfl (lv_at hl 0 rfl) ?_
  refine va_get (ci := 4) (v := .int u_12.1) (C := RX5) (T := TX5) (N := 5) hx hb ht inX5 hown hK hP 0 rfl rfl 4 (by decide) (ht _ wd_1_167) (fun _ h9 => h9) rfl dX5_longestFrom_13 ?_
  refine lv_istore_n (lv' := [(3, .int u_12.1), (0, .ref a_o), (1, .ref a_q0), (2, .int x2)]) hx hb dX5_longestFrom_16 rfl hl (by decide) rfl (fun ls hl => ?_)
  refine lv_iconst (v := (0 : Int32)) hx hb dX5_longestFrom_17 (by decide) ?_
  refine lv_istore (lv' := [(4, .int (0 : Int32)), (3, .int u_12.1), (0, .ref a_o), (1, .ref a_q0), (2, .int x2)]) hx hb dX5_longestFrom_18 hl (by decide) rfl (fun ls hl => ?_)
  refine lv_aload_n hx hb dX5_longestFrom_20 rfl (lv_at hl 2 rfl) ?_
  refine lv_iload_n hx hb dX5_longestFrom_21 rfl (lv_at hl 1 rfl) ?_
  refine lv_if_le (tgt := 43) hx hb dX5_longestFrom_22 (by decide) (fun c_16 => ?_) (fun c_16 => ?_)
  · have hf := ifp c_16 hf
    exact B43 u_12.1 (0 : Int32) u_12.1 u_12.2.1 u_12.2.2.1 u_12.2.2.2 u_14 H locs ls hf hP hD hS (lv_sub hl [2, 3, 1, 0] rfl)
  · have hf := ifn c_16 hf
    refine lv_aload_n hx hb dX5_longestFrom_25 rfl (lv_at hl 2 rfl) ?_
    refine va_get (ci := 4) (v := .ref a_o_waysIn) (C := RX5) (T := TX5) (N := 5) hx hb ht inX5 hown hK hP 0 rfl rfl 3 (by decide) (ht _ wd_1_166) (fun _ h9 => h9) rfl dX5_longestFrom_26 ?_
    refine lv_aload_n hx hb dX5_longestFrom_29 rfl (lv_at hl 2 rfl) ?_
    refine va_get (ci := 4) (v := .ref a_o_queue) (C := RX5) (T := TX5) (N := 5) hx hb ht inX5 hown hK hP 0 rfl rfl 0 (by decide) (ht _ wd_1_163) (fun _ h9 => h9) rfl dX5_longestFrom_30 ?_
    refine lv_iconst (v := (0 : Int32)) hx hb dX5_longestFrom_33 (by decide) ?_
    obtain ⟨b_17, hf⟩ := bd_some hf
    refine va_iald hx hb hK hP 1 0 rfl rfl b_17 dX5_longestFrom_34 ?_
    obtain ⟨b_18, hf⟩ := bd_some hf
    refine va_iald hx hb hK hP 4 0 rfl rfl b_18 dX5_longestFrom_35 ?_
    refine lv_if_ne (tgt := 43) hx hb dX5_longestFrom_36 (by decide) (fun c_19 => ?_) (fun c_19 => ?_)
    · have hf := ifn c_19 hf
      exact B43 u_12.1 (0 : Int32) u_12.1 u_12.2.1 u_12.2.2.1 u_12.2.2.2 u_14 H locs ls hf hP hD hS (lv_sub hl [2, 3, 1, 0] rfl)
    · have hf := ifp c_19 hf
      refine lv_iconst (v := (1 : Int32)) hx hb dX5_longestFrom_39 (by decide) ?_
      refine lv_goto (tgt := 44) hx hb dX5_longestFrom_40 (by decide) ?_
      exact B44 u_12.1 (0 : Int32) (1 : Int32) u_12.1 u_12.2.1 u_12.2.2.1 u_12.2.2.2 u_14 H locs ls hf hP hD hS (lv_sub hl [2, 3, 1, 0] rfl)
def f_X0_commonDivisor_l7 : Nat → Int32 → Int32 → Int32 → Option (Int32)
  | 0, _, _, _ => none
  | n + 1, x2, x3, x4 => if (64 : Int32) ≤ x4 then some x2 else if x3 = 0 then some x2 else dz x3 ((f_X0_commonDivisor_l7 n) x3 (x2 - x2 / x3 * x3) (x4 + (1 : Int32)))
def f_X0_commonDivisor (x0 : Int32) (x1 : Int32) : Option (Int32) := f_X0_commonDivisor_l7 NF x0 x1 (0 : Int32)
abbrev rm_X0_commonDivisor : Room := { frames := 0, cells := 0, slots := 0, locals := 0 }
theorem kd_X0_commonDivisor : yX0_commonDivisor.cls ≠ "java/lang/invoke/MethodHandle" ∧ yX0_commonDivisor.cls ≠ "java/lang/invoke/VarHandle" ∧ (parseMethodDescriptor yX0_commonDivisor.desc).map (fun d => d.parameters.length) = some 2 := by decide +kernel
set_option maxHeartbeats 4000000 in
set_option maxRecDepth 100000 in
theorem c_X0_commonDivisor (l : Launch) (dC : Nat → ClassId) (dI : Nat → Nat → Nat) (cI cJ cZ : ClassId) (sz : Nat) (x0 : Int32) (x1 : Int32) (res : Int32) (hf : f_X0_commonDivisor x0 x1 = some res) : kMi Unit l yX0_commonDivisor cX0_commonDivisor 6 (some .int) rm_X0_commonDivisor [.int x0, .int x1] (dC, dI) (kT cI cJ cZ) sz [] res (fun _ => []) := by
  refine Met.ofW (cc := cX0_commonDivisor) (maxL := 6) (ret := (some .int)) (by decide) rfl ?_
  intro p e s m args below meth c s₁ B hml hv
  obtain ⟨rfl, hsz, hP, hK, hD0⟩ := hv
  have hx := B.exec
  have hb := B.bytes
  have hr := B.returns
  have ht : ∀ w ∈ lw_g, w.before ([.int x0, .int x1] : List Value).toArray s = true := fun w h => atoms_spec (ws := kws yX0_commonDivisor cX0_commonDivisor 6 (some .int)) B.pre w (List.mem_cons_of_mem _ h)
  have hown : s.vm.findClass RX0 = some m.cls := findClass_of_methodNamed B.named
  have hlocks := B.notSynchronized
  subst hsz
  have hD := hD0.self (sz := s.heap.size)
  generalize hAe : va_A [] s.heap.size = A at hD ⊢
  have hA : ∀ q : Nat, s.heap.size ≤ q → A q := fun q h => by rw [← hAe]; exact Or.inr h
  have hS : va_S A s.heap s.heap [] := va_S.rf
  have hret : ∀ (H : Heap) (locs : List Loc) (ls : Array Slot) (pc : Nat) (v : Int32), some v = some res → decode cX0_commonDivisor pc = .ok (.ireturn, 1) → va_P (dC, dI) vwCl [] H → va_D A [] → va_S A s.heap H locs → W p l e (headSpec (kws yX0_commonDivisor cX0_commonDivisor 6 (some .int)) rm_X0_commonDivisor).room s m ([.int x0, .int x1] : List Value).toArray below meth c H locs 0 0 (MQ below (kQi Unit (dC, dI) A res (fun _ => [])) ([.int x0, .int x1] : List Value).toArray s 0 0 A) (F0 m pc ls [.int v]) := by
    intro H locs ls pc v he hd hP hD hS
    obtain rfl := Option.some.inj he
    exact kri hx hb hr hlocks () hP hD hS hd
  have hl := lv_entry ([.int x0, .int x1]) (n := 6) (Nat.le_of_ble_eq_true rfl)
  rw [lg_entry_eq]
  generalize (lg_sl ([.int x0, .int x1]) ++ List.replicate (6 - (lg_sl ([.int x0, .int x1])).length) Slot.unset).toArray = ls at hl ⊢
  have hl : lv_has ls 6 [(0, .int x0), (1, .int x1)] := hl
  generalize (MQ below _ ([.int x0, .int x1] : List Value).toArray s 0 0 A) = Q at hret ⊢
  generalize ([.int x0, .int x1] : List Value).toArray = args at ht hret ⊢
  have hP : va_P (dC, dI) vwCl [] s.heap := hP
  unfold f_X0_commonDivisor at hf
  have L7 : ∀ (n : Nat) (x2 : Int32) (x3 : Int32) (x4 : Int32) (H : Heap) (locs : List Loc) (ls : Array Slot), f_X0_commonDivisor_l7 n x2 x3 x4 = some res → va_P (dC, dI) vwCl [] H → va_D A [] → va_S A s.heap H locs → lv_has ls 6 [(2, .int x2), (3, .int x3), (4, .int x4)] → W p l e (headSpec (kws yX0_commonDivisor cX0_commonDivisor 6 (some .int)) rm_X0_commonDivisor).room s m args below meth c H locs 0 0 Q (F0 m 7 ls []) := by
    intro n
    induction n with
    | zero =>
      intro x2 x3 x4 H locs ls hf hP hD hS hl
      rw [f_X0_commonDivisor_l7.eq_1] at hf
      cases hf
    | succ n7 ih7 =>
      intro x2 x3 x4 H locs ls hf hP hD hS hl
      rw [f_X0_commonDivisor_l7.eq_2] at hf
      refine lv_iload hx hb dX0_commonDivisor_7 (lv_at hl 2 rfl) ?_
      refine lv_bipush (v := (64 : Int32)) hx hb dX0_commonDivisor_9 (by decide) ?_
      refine lv_icmp_ge (tgt := 34) hx hb dX0_commonDivisor_11 (by decide) (fun c_1 => ?_) (fun c_1 => ?_)
      · have hf := ifp c_1 hf
        refine lv_iload_n hx hb dX0_commonDivisor_34 rfl (lv_at hl 0 rfl) ?_
        exact hret H locs ls 35 x2 hf dX0_commonDivisor_35 hP hD hS
      · have hf := ifn c_1 hf
        refine lv_iload_n hx hb dX0_commonDivisor_14 rfl (lv_at hl 1 rfl) ?_
        refine lv_if_eq (tgt := 34) hx hb dX0_commonDivisor_15 (by decide) (fun c_2 => ?_) (fun c_2 => ?_)
        · have hf := ifp c_2 hf
          refine lv_iload_n hx hb dX0_commonDivisor_34 rfl (lv_at hl 0 rfl) ?_
          exact hret H locs ls 35 x2 hf dX0_commonDivisor_35 hP hD hS
        · have hf := ifn c_2 hf
          refine lv_iload_n hx hb dX0_commonDivisor_18 rfl (lv_at hl 0 rfl) ?_
          refine lv_iload_n hx hb dX0_commonDivisor_19 rfl (lv_at hl 1 rfl) ?_
          obtain ⟨z_3, hf⟩ := dz_some hf
          refine lv_irem hx hb dX0_commonDivisor_20 z_3 ?_
          refine lv_istore (lv' := [(5, .int (x2 - x2 / x3 * x3)), (2, .int x2), (3, .int x3), (4, .int x4)]) hx hb dX0_commonDivisor_21 hl (by decide) rfl (fun ls hl => ?_)
          refine lv_iload_n hx hb dX0_commonDivisor_23 rfl (lv_at hl 2 rfl) ?_
          refine lv_istore_n (lv' := [(2, .int x3), (5, .int (x2 - x2 / x3 * x3)), (3, .int x3), (4, .int x4)]) hx hb dX0_commonDivisor_24 rfl hl (by decide) rfl (fun ls hl => ?_)
          refine lv_iload hx hb dX0_commonDivisor_25 (lv_at hl 1 rfl) ?_
          refine lv_istore_n (lv' := [(3, .int (x2 - x2 / x3 * x3)), (2, .int x3), (5, .int (x2 - x2 / x3 * x3)), (4, .int x4)]) hx hb dX0_commonDivisor_27 rfl hl (by decide) rfl (fun ls hl => ?_)
          refine lv_iinc (v := (x4 + (1 : Int32))) (lv' := [(4, .int (x4 + (1 : Int32))), (3, .int (x2 - x2 / x3 * x3)), (2, .int x3), (5, .int (x2 - x2 / x3 * x3))]) hx hb dX0_commonDivisor_28 hl (k := 3) rfl rfl (by decide) rfl (fun ls hl => ?_)
          refine lv_goto (tgt := 7) hx hb dX0_commonDivisor_31 (by decide) ?_
          exact ih7 x3 (x2 - x2 / x3 * x3) (x4 + (1 : Int32)) H locs ls hf hP hD hS (lv_sub hl [2, 1, 0] rfl)
  obtain ⟨H, hH⟩ : ∃ H, H = s.heap := ⟨_, rfl⟩
  obtain ⟨locs, hlo⟩ : ∃ L : List Loc, L = [] := ⟨_, rfl⟩
  rw [← hH] at hP
  have hS : va_S A s.heap H locs := by rw [hH, hlo]; exact hS
  rw [show W p l e (headSpec (kws yX0_commonDivisor cX0_commonDivisor 6 (some .int)) rm_X0_commonDivisor).room s m args below meth c s.heap [] 0 0 Q (F0 m 0 ls []) = W p l e (headSpec (kws yX0_commonDivisor cX0_commonDivisor 6 (some .int)) rm_X0_commonDivisor).room s m args below meth c H locs 0 0 Q (F0 m 0 ls []) from by rw [hH, hlo]]
  refine lv_iload_n hx hb dX0_commonDivisor_0 rfl (lv_at hl 0 rfl) ?_
  refine lv_istore_n (lv' := [(2, .int x0), (0, .int x0), (1, .int x1)]) hx hb dX0_commonDivisor_1 rfl hl (by decide) rfl (fun ls hl => ?_)
  refine lv_iload_n hx hb dX0_commonDivisor_2 rfl (lv_at hl 2 rfl) ?_
  refine lv_istore_n (lv' := [(3, .int x1), (2, .int x0), (0, .int x0), (1, .int x1)]) hx hb dX0_commonDivisor_3 rfl hl (by decide) rfl (fun ls hl => ?_)
  refine lv_iconst (v := (0 : Int32)) hx hb dX0_commonDivisor_4 (by decide) ?_
  refine lv_istore (lv' := [(4, .int (0 : Int32)), (3, .int x1), (2, .int x0), (0, .int x0), (1, .int x1)]) hx hb dX0_commonDivisor_5 hl (by decide) rfl (fun ls hl => ?_)
  exact L7 NF x0 x1 (0 : Int32) H locs ls hf hP hD hS (lv_sub hl [2, 1, 0] rfl)
def f_X0_takeMean_b55 (o_now : Nat → Int32) (q0_size : Int32) (q0_rows : Nat → Int32) (q1_persons : Int32) (q1_ring : Int32) (q1_bestPlace : Nat → Int32) (q1_stepCost : Nat → Int32) (q1_likings : Nat → Int32) (K8 : Int32 → Int32 → Int32 → Int32 → Option (Int32 × Int32)) (x3 : Int32) (x4 : Int32) (o_above : Int32) (o_below : Int32) : Option (Int32 × Int32) := K8 x3 (x4 + (1 : Int32)) o_above o_below
def f_X0_takeMean_l8 (o_now : Nat → Int32) (q0_size : Int32) (q0_rows : Nat → Int32) (q1_persons : Int32) (q1_ring : Int32) (q1_bestPlace : Nat → Int32) (q1_stepCost : Nat → Int32) (q1_likings : Nat → Int32) : Nat → Int32 → Int32 → Int32 → Int32 → Option (Int32 × Int32)
  | 0, _, _, _, _ => none
  | n + 1, x3, x4, o_above, o_below => if q0_size ≤ x4 then Option.bind (f_X0_commonDivisor (if 0 ≤ o_above then o_above else 0 - o_above) o_below) (fun u_2 => if u_2 ≤ (1 : Int32) then some (o_above, o_below) else dz u_2 (dz u_2 (some ((o_above / u_2), (o_below / u_2))))) else bd x4 720 (if (o_now x4.toNatClampNeg) ≤ 0 then f_X0_takeMean_b55 o_now q0_size q0_rows q1_persons q1_ring q1_bestPlace q1_stepCost q1_likings (f_X0_takeMean_l8 o_now q0_size q0_rows q1_persons q1_ring q1_bestPlace q1_stepCost q1_likings n) x3 x4 o_above o_below else bd x4 720 (Option.bind (f_X1_rowOf x4 q0_size q0_rows) (fun u_10 => Option.bind (f_X2_worthOf u_10 x3 q1_persons q1_ring q1_bestPlace q1_stepCost q1_likings) (fun u_12 => f_X0_takeMean_b55 o_now q0_size q0_rows q1_persons q1_ring q1_bestPlace q1_stepCost q1_likings (f_X0_takeMean_l8 o_now q0_size q0_rows q1_persons q1_ring q1_bestPlace q1_stepCost q1_likings n) x3 x4 (o_above + ((o_now x4.toNatClampNeg) * u_12)) o_below))))
def f_X0_takeMean (x3 : Int32) (o_above : Int32) (o_below : Int32) (o_now : Nat → Int32) (q0_size : Int32) (q0_rows : Nat → Int32) (q1_persons : Int32) (q1_ring : Int32) (q1_bestPlace : Nat → Int32) (q1_stepCost : Nat → Int32) (q1_likings : Nat → Int32) : Option (Int32 × Int32) := f_X0_takeMean_l8 o_now q0_size q0_rows q1_persons q1_ring q1_bestPlace q1_stepCost q1_likings NF x3 (0 : Int32) (0 : Int32) o_below
abbrev rm_X0_takeMean : Room := { frames := 3, cells := 0, slots := 0, locals := 71 }
theorem kd_X0_takeMean : yX0_takeMean.cls ≠ "java/lang/invoke/MethodHandle" ∧ yX0_takeMean.cls ≠ "java/lang/invoke/VarHandle" ∧ (parseMethodDescriptor yX0_takeMean.desc).map (fun d => d.parameters.length) = some 3 := by decide +kernel
set_option maxHeartbeats 4000000 in
set_option maxRecDepth 100000 in
theorem c_X0_takeMean (l : Launch) (dC : Nat → ClassId) (dI : Nat → Nat → Nat) (cI cJ cZ : ClassId) (a_o a_o_now a_o_then a_q0 a_q0_rows a_q0_edges a_q1 a_q1_bestPlace a_q1_stepCost a_q1_kind a_q1_likings : Nat) (sz : Nat) (o_above : Int32) (o_below : Int32) (o_now : Nat → Int32) (q0_persons : Int32) (q0_size : Int32) (q0_changes : Int32) (q0_restCount : Int32) (q0_firstRest : Int32) (q0_rows : Nat → Int32) (q1_persons : Int32) (q1_ring : Int32) (q1_highestTold : Int32) (q1_bestPlace : Nat → Int32) (q1_stepCost : Nat → Int32) (q1_likings : Nat → Int32) (x3 : Int32) (res : Int32 × Int32) (hf : f_X0_takeMean x3 o_above o_below o_now q0_size q0_rows q1_persons q1_ring q1_bestPlace q1_stepCost q1_likings = some res) : kMv Unit l yX0_takeMean cX0_takeMean 5 rm_X0_takeMean [.ref a_o, .ref a_q0, .ref a_q1, .int x3] (dC, dI) (kT cI cJ cZ) sz [(a_o, .inr (0, [.ref a_o_now, .ref a_o_then, .int o_above, .int o_below])), (a_o_now, .inl (cI, 720, .inl o_now)), (a_q0, .inr (1, [.ref a_q0_rows, .ref a_q0_edges, .int q0_persons, .int q0_size, .int q0_changes, .int q0_restCount, .int q0_firstRest])), (a_q0_rows, .inl (cI, 720, .inl q0_rows)), (a_q1, .inr (2, [.int q1_persons, .int q1_ring, .int q1_highestTold, .ref a_q1_bestPlace, .ref a_q1_stepCost, .ref a_q1_kind, .ref a_q1_likings])), (a_q1_bestPlace, .inl (cI, 8, .inl q1_bestPlace)), (a_q1_stepCost, .inl (cI, 8, .inl q1_stepCost)), (a_q1_likings, .inl (cI, 64, .inl q1_likings))] (fun _ => [(a_o, .inr (0, [.ref a_o_now, .ref a_o_then, .int res.1, .int res.2])), (a_o_now, .inl (cI, 720, .inl o_now)), (a_q0, .inr (1, [.ref a_q0_rows, .ref a_q0_edges, .int q0_persons, .int q0_size, .int q0_changes, .int q0_restCount, .int q0_firstRest])), (a_q0_rows, .inl (cI, 720, .inl q0_rows)), (a_q1, .inr (2, [.int q1_persons, .int q1_ring, .int q1_highestTold, .ref a_q1_bestPlace, .ref a_q1_stepCost, .ref a_q1_kind, .ref a_q1_likings])), (a_q1_bestPlace, .inl (cI, 8, .inl q1_bestPlace)), (a_q1_stepCost, .inl (cI, 8, .inl q1_stepCost)), (a_q1_likings, .inl (cI, 64, .inl q1_likings))]) := by
  refine Met.ofW (cc := cX0_takeMean) (maxL := 5) (ret := none) (by decide) rfl ?_
  intro p e s m args below meth c s₁ B hml hv
  obtain ⟨rfl, hsz, hP, hK, hD0⟩ := hv
  have hx := B.exec
  have hb := B.bytes
  have hr := B.returns
  have ht : ∀ w ∈ lw_g, w.before ([.ref a_o, .ref a_q0, .ref a_q1, .int x3] : List Value).toArray s = true := fun w h => atoms_spec (ws := kws yX0_takeMean cX0_takeMean 5 none) B.pre w (List.mem_cons_of_mem _ h)
  have hown : s.vm.findClass RX0 = some m.cls := findClass_of_methodNamed B.named
  have hlocks := B.notSynchronized
  subst hsz
  have hD := hD0.self (sz := s.heap.size)
  generalize hAe : va_A [(a_o, .inr (0, [.ref a_o_now, .ref a_o_then, .int o_above, .int o_below])), (a_o_now, .inl (cI, 720, .inl o_now)), (a_q0, .inr (1, [.ref a_q0_rows, .ref a_q0_edges, .int q0_persons, .int q0_size, .int q0_changes, .int q0_restCount, .int q0_firstRest])), (a_q0_rows, .inl (cI, 720, .inl q0_rows)), (a_q1, .inr (2, [.int q1_persons, .int q1_ring, .int q1_highestTold, .ref a_q1_bestPlace, .ref a_q1_stepCost, .ref a_q1_kind, .ref a_q1_likings])), (a_q1_bestPlace, .inl (cI, 8, .inl q1_bestPlace)), (a_q1_stepCost, .inl (cI, 8, .inl q1_stepCost)), (a_q1_likings, .inl (cI, 64, .inl q1_likings))] s.heap.size = A at hD ⊢
  have hA : ∀ q : Nat, s.heap.size ≤ q → A q := fun q h => by rw [← hAe]; exact Or.inr h
  have hS : va_S A s.heap s.heap [] := va_S.rf
  have hret : ∀ (H : Heap) (locs : List Loc) (ls : Array Slot) (pc : Nat) (o0 : Int32) (o1 : Int32), some (o0, o1) = some res → decode cX0_takeMean pc = .ok (.return_, 1) → va_P (dC, dI) vwCl [(a_o, .inr (0, [.ref a_o_now, .ref a_o_then, .int o0, .int o1])), (a_o_now, .inl (cI, 720, .inl o_now)), (a_q0, .inr (1, [.ref a_q0_rows, .ref a_q0_edges, .int q0_persons, .int q0_size, .int q0_changes, .int q0_restCount, .int q0_firstRest])), (a_q0_rows, .inl (cI, 720, .inl q0_rows)), (a_q1, .inr (2, [.int q1_persons, .int q1_ring, .int q1_highestTold, .ref a_q1_bestPlace, .ref a_q1_stepCost, .ref a_q1_kind, .ref a_q1_likings])), (a_q1_bestPlace, .inl (cI, 8, .inl q1_bestPlace)), (a_q1_stepCost, .inl (cI, 8, .inl q1_stepCost)), (a_q1_likings, .inl (cI, 64, .inl q1_likings))] H → va_D A [(a_o, .inr (0, [.ref a_o_now, .ref a_o_then, .int o0, .int o1])), (a_o_now, .inl (cI, 720, .inl o_now)), (a_q0, .inr (1, [.ref a_q0_rows, .ref a_q0_edges, .int q0_persons, .int q0_size, .int q0_changes, .int q0_restCount, .int q0_firstRest])), (a_q0_rows, .inl (cI, 720, .inl q0_rows)), (a_q1, .inr (2, [.int q1_persons, .int q1_ring, .int q1_highestTold, .ref a_q1_bestPlace, .ref a_q1_stepCost, .ref a_q1_kind, .ref a_q1_likings])), (a_q1_bestPlace, .inl (cI, 8, .inl q1_bestPlace)), (a_q1_stepCost, .inl (cI, 8, .inl q1_stepCost)), (a_q1_likings, .inl (cI, 64, .inl q1_likings))] → va_S A s.heap H locs → W p l e (headSpec (kws yX0_takeMean cX0_takeMean 5 none) rm_X0_takeMean).room s m ([.ref a_o, .ref a_q0, .ref a_q1, .int x3] : List Value).toArray below meth c H locs 0 0 (MQ below (kQv Unit (dC, dI) A (fun _ => [(a_o, .inr (0, [.ref a_o_now, .ref a_o_then, .int res.1, .int res.2])), (a_o_now, .inl (cI, 720, .inl o_now)), (a_q0, .inr (1, [.ref a_q0_rows, .ref a_q0_edges, .int q0_persons, .int q0_size, .int q0_changes, .int q0_restCount, .int q0_firstRest])), (a_q0_rows, .inl (cI, 720, .inl q0_rows)), (a_q1, .inr (2, [.int q1_persons, .int q1_ring, .int q1_highestTold, .ref a_q1_bestPlace, .ref a_q1_stepCost, .ref a_q1_kind, .ref a_q1_likings])), (a_q1_bestPlace, .inl (cI, 8, .inl q1_bestPlace)), (a_q1_stepCost, .inl (cI, 8, .inl q1_stepCost)), (a_q1_likings, .inl (cI, 64, .inl q1_likings))])) ([.ref a_o, .ref a_q0, .ref a_q1, .int x3] : List Value).toArray s 0 0 A) (F0 m pc ls []) := by
    intro H locs ls pc o0 o1 he hd hP hD hS
    obtain rfl := Option.some.inj he
    exact krv hx hb hr hlocks () hP hD hS hd
  have hl := lv_entry ([.ref a_o, .ref a_q0, .ref a_q1, .int x3]) (n := 5) (Nat.le_of_ble_eq_true rfl)
  rw [lg_entry_eq]
  generalize (lg_sl ([.ref a_o, .ref a_q0, .ref a_q1, .int x3]) ++ List.replicate (5 - (lg_sl ([.ref a_o, .ref a_q0, .ref a_q1, .int x3])).length) Slot.unset).toArray = ls at hl ⊢
  have hl : lv_has ls 5 [(0, .ref a_o), (1, .ref a_q0), (2, .ref a_q1), (3, .int x3)] := hl
  generalize (MQ below _ ([.ref a_o, .ref a_q0, .ref a_q1, .int x3] : List Value).toArray s 0 0 A) = Q at hret ⊢
  generalize ([.ref a_o, .ref a_q0, .ref a_q1, .int x3] : List Value).toArray = args at ht hret ⊢
  have hP : va_P (dC, dI) vwCl [(a_o, .inr (0, [.ref a_o_now, .ref a_o_then, .int o_above, .int o_below])), (a_o_now, .inl (cI, 720, .inl o_now)), (a_q0, .inr (1, [.ref a_q0_rows, .ref a_q0_edges, .int q0_persons, .int q0_size, .int q0_changes, .int q0_restCount, .int q0_firstRest])), (a_q0_rows, .inl (cI, 720, .inl q0_rows)), (a_q1, .inr (2, [.int q1_persons, .int q1_ring, .int q1_highestTold, .ref a_q1_bestPlace, .ref a_q1_stepCost, .ref a_q1_kind, .ref a_q1_likings])), (a_q1_bestPlace, .inl (cI, 8, .inl q1_bestPlace)), (a_q1_stepCost, .inl (cI, 8, .inl q1_stepCost)), (a_q1_likings, .inl (cI, 64, .inl q1_likings))] s.heap := hP
  unfold f_X0_takeMean at hf
  have L8 : ∀ (n : Nat) (x3 : Int32) (x4 : Int32) (o_above : Int32) (o_below : Int32) (H : Heap) (locs : List Loc) (ls : Array Slot), f_X0_takeMean_l8 o_now q0_size q0_rows q1_persons q1_ring q1_bestPlace q1_stepCost q1_likings n x3 x4 o_above o_below = some res → va_P (dC, dI) vwCl [(a_o, .inr (0, [.ref a_o_now, .ref a_o_then, .int o_above, .int o_below])), (a_o_now, .inl (cI, 720, .inl o_now)), (a_q0, .inr (1, [.ref a_q0_rows, .ref a_q0_edges, .int q0_persons, .int q0_size, .int q0_changes, .int q0_restCount, .int q0_firstRest])), (a_q0_rows, .inl (cI, 720, .inl q0_rows)), (a_q1, .inr (2, [.int q1_persons, .int q1_ring, .int q1_highestTold, .ref a_q1_bestPlace, .ref a_q1_stepCost, .ref a_q1_kind, .ref a_q1_likings])), (a_q1_bestPlace, .inl (cI, 8, .inl q1_bestPlace)), (a_q1_stepCost, .inl (cI, 8, .inl q1_stepCost)), (a_q1_likings, .inl (cI, 64, .inl q1_likings))] H → va_D A [(a_o, .inr (0, [.ref a_o_now, .ref a_o_then, .int o_above, .int o_below])), (a_o_now, .inl (cI, 720, .inl o_now)), (a_q0, .inr (1, [.ref a_q0_rows, .ref a_q0_edges, .int q0_persons, .int q0_size, .int q0_changes, .int q0_restCount, .int q0_firstRest])), (a_q0_rows, .inl (cI, 720, .inl q0_rows)), (a_q1, .inr (2, [.int q1_persons, .int q1_ring, .int q1_highestTold, .ref a_q1_bestPlace, .ref a_q1_stepCost, .ref a_q1_kind, .ref a_q1_likings])), (a_q1_bestPlace, .inl (cI, 8, .inl q1_bestPlace)), (a_q1_stepCost, .inl (cI, 8, .inl q1_stepCost)), (a_q1_likings, .inl (cI, 64, .inl q1_likings))] → va_S A s.heap H locs → lv_has ls 5 [(0, .ref a_o), (1, .ref a_q0), (2, .ref a_q1), (3, .int x3), (4, .int x4)] → W p l e (headSpec (kws yX0_takeMean cX0_takeMean 5 none) rm_X0_takeMean).room s m args below meth c H locs 0 0 Q (F0 m 8 ls []) := by
    intro n
    induction n with
    | zero =>
      intro x3 x4 o_above o_below H locs ls hf hP hD hS hl
      rw [f_X0_takeMean_l8.eq_1] at hf
      cases hf
    | succ n8 ih8 =>
      have B55 : ∀ (x3 : Int32) (x4 : Int32) (o_above : Int32) (o_below : Int32) (H : Heap) (locs : List Loc) (ls : Array Slot), f_X0_takeMean_b55 o_now q0_size q0_rows q1_persons q1_ring q1_bestPlace q1_stepCost q1_likings (f_X0_takeMean_l8 o_now q0_size q0_rows q1_persons q1_ring q1_bestPlace q1_stepCost q1_likings n8) x3 x4 o_above o_below = some res → va_P (dC, dI) vwCl [(a_o, .inr (0, [.ref a_o_now, .ref a_o_then, .int o_above, .int o_below])), (a_o_now, .inl (cI, 720, .inl o_now)), (a_q0, .inr (1, [.ref a_q0_rows, .ref a_q0_edges, .int q0_persons, .int q0_size, .int q0_changes, .int q0_restCount, .int q0_firstRest])), (a_q0_rows, .inl (cI, 720, .inl q0_rows)), (a_q1, .inr (2, [.int q1_persons, .int q1_ring, .int q1_highestTold, .ref a_q1_bestPlace, .ref a_q1_stepCost, .ref a_q1_kind, .ref a_q1_likings])), (a_q1_bestPlace, .inl (cI, 8, .inl q1_bestPlace)), (a_q1_stepCost, .inl (cI, 8, .inl q1_stepCost)), (a_q1_likings, .inl (cI, 64, .inl q1_likings))] H → va_D A [(a_o, .inr (0, [.ref a_o_now, .ref a_o_then, .int o_above, .int o_below])), (a_o_now, .inl (cI, 720, .inl o_now)), (a_q0, .inr (1, [.ref a_q0_rows, .ref a_q0_edges, .int q0_persons, .int q0_size, .int q0_changes, .int q0_restCount, .int q0_firstRest])), (a_q0_rows, .inl (cI, 720, .inl q0_rows)), (a_q1, .inr (2, [.int q1_persons, .int q1_ring, .int q1_highestTold, .ref a_q1_bestPlace, .ref a_q1_stepCost, .ref a_q1_kind, .ref a_q1_likings])), (a_q1_bestPlace, .inl (cI, 8, .inl q1_bestPlace)), (a_q1_stepCost, .inl (cI, 8, .inl q1_stepCost)), (a_q1_likings, .inl (cI, 64, .inl q1_likings))] → va_S A s.heap H locs → lv_has ls 5 [(0, .ref a_o), (1, .ref a_q0), (2, .ref a_q1), (3, .int x3), (4, .int x4)] → W p l e (headSpec (kws yX0_takeMean cX0_takeMean 5 none) rm_X0_takeMean).room s m args below meth c H locs 0 0 Q (F0 m 55 ls []) := by
        intro x3 x4 o_above o_below H locs ls hf hP hD hS hl
        unfold f_X0_takeMean_b55 at hf
        refine lv_iinc (v := (x4 + (1 : Int32))) (lv' := [(4, .int (x4 + (1 : Int32))), (0, .ref a_o), (1, .ref a_q0), (2, .ref a_q1), (3, .int x3)]) hx hb dX0_takeMean_55 hl (k := 4) rfl rfl (by decide) rfl (fun ls hl => ?_)
        refine lv_goto (tgt := 8) hx hb dX0_takeMean_58 (by decide) ?_
        exact ih8 x3 (x4 + (1 : Int32)) o_above o_below H locs ls hf hP hD hS (lv_sub hl [1, 2, 3, 4, 0] rfl)
      intro x3 x4 o_above o_below H locs ls hf hP hD hS hl
      rw [f_X0_takeMean_l8.eq_2] at hf
      refine lv_iload hx hb dX0_takeMean_8 (lv_at hl 4 rfl) ?_
      refine lv_aload_n hx hb dX0_takeMean_10 rfl (lv_at hl 1 rfl) ?_
      refine va_get (ci := 1) (v := .int q0_size) (C := RX1) (T := TX1) (N := 7) hx hb ht inX1 hown hK hP 2 rfl rfl 3 (by decide) (ht _ wd_1_134) (fun _ h9 => h9) rfl dX0_takeMean_11 ?_
      refine lv_icmp_ge (tgt := 61) hx hb dX0_takeMean_14 (by decide) (fun c_1 => ?_) (fun c_1 => ?_)
      · have hf := ifp c_1 hf
        refine lv_aload_n hx hb dX0_takeMean_61 rfl (lv_at hl 0 rfl) ?_
        refine va_get (ci := 0) (v := .int o_above) (C := RX0) (T := TX0) (N := 4) hx hb ht inX0 hown hK hP 0 rfl rfl 2 (by decide) (ht _ wd_1_187) (fun _ h9 => h9) rfl dX0_takeMean_62 ?_
        refine va_mabs hx hb (hml.trans hl.1.symm) hown (ht _ wd_3_203) (ht _ wd_3_204) (ht _ wd_1_6) (ht _ wd_3_205) (Nat.le_of_ble_eq_true rfl) (Nat.le_of_ble_eq_true rfl) (Nat.zero_le _) (Nat.zero_le _) dX0_takeMean_65 ?_
        refine lv_aload_n hx hb dX0_takeMean_68 rfl (lv_at hl 0 rfl) ?_
        refine va_get (ci := 0) (v := .int o_below) (C := RX0) (T := TX0) (N := 4) hx hb ht inX0 hown hK hP 0 rfl rfl 3 (by decide) (ht _ wd_1_189) (fun _ h9 => h9) rfl dX0_takeMean_69 ?_
        obtain ⟨u_2, h_3, hf⟩ := obs hf
        refine kcSi (rest := []) (wr := [(a_o, .inr (0, [.ref a_o_now, .ref a_o_then, .int o_above, .int o_below])), (a_o_now, .inl (cI, 720, .inl o_now)), (a_q0, .inr (1, [.ref a_q0_rows, .ref a_q0_edges, .int q0_persons, .int q0_size, .int q0_changes, .int q0_restCount, .int q0_firstRest])), (a_q0_rows, .inl (cI, 720, .inl q0_rows)), (a_q1, .inr (2, [.int q1_persons, .int q1_ring, .int q1_highestTold, .ref a_q1_bestPlace, .ref a_q1_stepCost, .ref a_q1_kind, .ref a_q1_likings])), (a_q1_bestPlace, .inl (cI, 8, .inl q1_bestPlace)), (a_q1_stepCost, .inl (cI, 8, .inl q1_stepCost)), (a_q1_likings, .inl (cI, 64, .inl q1_likings))]) (w2 := fun _ => [(a_o, .inr (0, [.ref a_o_now, .ref a_o_then, .int o_above, .int o_below])), (a_o_now, .inl (cI, 720, .inl o_now)), (a_q0, .inr (1, [.ref a_q0_rows, .ref a_q0_edges, .int q0_persons, .int q0_size, .int q0_changes, .int q0_restCount, .int q0_firstRest])), (a_q0_rows, .inl (cI, 720, .inl q0_rows)), (a_q1, .inr (2, [.int q1_persons, .int q1_ring, .int q1_highestTold, .ref a_q1_bestPlace, .ref a_q1_stepCost, .ref a_q1_kind, .ref a_q1_likings])), (a_q1_bestPlace, .inl (cI, 8, .inl q1_bestPlace)), (a_q1_stepCost, .inl (cI, 8, .inl q1_stepCost)), (a_q1_likings, .inl (cI, 64, .inl q1_likings))]) hx hb hml hown ht (c_X0_commonDivisor l dC dI cI cJ cZ H.size (if 0 ≤ o_above then o_above else 0 - o_above) o_below u_2 h_3) (kcw 2 ht wd_3_208 wd_1_10 wd_3_206 kd_X0_commonDivisor ⟨rfl, rfl⟩ ⟨Nat.le_of_ble_eq_true rfl, Nat.le_of_ble_eq_true rfl⟩) wd_3_207 hK hP hD hS hA [] [0, 1, 2, 3, 4, 5, 6, 7] [0, 1, 2, 3, 4, 5, 6, 7] rfl rfl rfl rfl (by decide) rfl (fun _ => rfl) rfl hl.1 rfl (Nat.le_of_ble_eq_true rfl) dX0_takeMean_72 ⟨Nat.zero_le _, Nat.zero_le _⟩ (fun _ H locs hP hD hS => ?_)
        have hP : va_P (dC, dI) vwCl [(a_o, .inr (0, [.ref a_o_now, .ref a_o_then, .int o_above, .int o_below])), (a_o_now, .inl (cI, 720, .inl o_now)), (a_q0, .inr (1, [.ref a_q0_rows, .ref a_q0_edges, .int q0_persons, .int q0_size, .int q0_changes, .int q0_restCount, .int q0_firstRest])), (a_q0_rows, .inl (cI, 720, .inl q0_rows)), (a_q1, .inr (2, [.int q1_persons, .int q1_ring, .int q1_highestTold, .ref a_q1_bestPlace, .ref a_q1_stepCost, .ref a_q1_kind, .ref a_q1_likings])), (a_q1_bestPlace, .inl (cI, 8, .inl q1_bestPlace)), (a_q1_stepCost, .inl (cI, 8, .inl q1_stepCost)), (a_q1_likings, .inl (cI, 64, .inl q1_likings))] H := hP
        have hD : va_D A [(a_o, .inr (0, [.ref a_o_now, .ref a_o_then, .int o_above, .int o_below])), (a_o_now, .inl (cI, 720, .inl o_now)), (a_q0, .inr (1, [.ref a_q0_rows, .ref a_q0_edges, .int q0_persons, .int q0_size, .int q0_changes, .int q0_restCount, .int q0_firstRest])), (a_q0_rows, .inl (cI, 720, .inl q0_rows)), (a_q1, .inr (2, [.int q1_persons, .int q1_ring, .int q1_highestTold, .ref a_q1_bestPlace, .ref a_q1_stepCost, .ref a_q1_kind, .ref a_q1_likings])), (a_q1_bestPlace, .inl (cI, 8, .inl q1_bestPlace)), (a_q1_stepCost, .inl (cI, 8, .inl q1_stepCost)), (a_q1_likings, .inl (cI, 64, .inl q1_likings))] := hD
        refine lv_istore (lv' := [(4, .int u_2), (0, .ref a_o), (1, .ref a_q0), (2, .ref a_q1), (3, .int x3)]) hx hb dX0_takeMean_75 hl (by decide) rfl (fun ls hl => ?_)
        refine lv_iload hx hb dX0_takeMean_77 (lv_at hl 0 rfl) ?_
        refine lv_iconst (v := (1 : Int32)) hx hb dX0_takeMean_79 (by decide) ?_
        refine lv_icmp_le (tgt := 105) hx hb dX0_takeMean_80 (by decide) (fun c_4 => ?_) (fun c_4 => ?_)
        · have hf := ifp c_4 hf
          exact hret H locs ls 105 o_above o_below hf dX0_takeMean_105 hP hD hS
        · have hf := ifn c_4 hf
          refine lv_aload_n hx hb dX0_takeMean_83 rfl (lv_at hl 1 rfl) ?_
          refine lv_dup hx hb dX0_takeMean_84 rfl ?_
          refine va_get (ci := 0) (v := .int o_above) (C := RX0) (T := TX0) (N := 4) hx hb ht inX0 hown hK hP 0 rfl rfl 2 (by decide) (ht _ wd_1_187) (fun _ h9 => h9) rfl dX0_takeMean_85 ?_
          refine lv_iload hx hb dX0_takeMean_88 (lv_at hl 0 rfl) ?_
          obtain ⟨z_5, hf⟩ := dz_some hf
          refine lv_idiv hx hb dX0_takeMean_90 z_5 ?_
          refine va_put (ci := 0) (v := .int (o_above / u_2)) (ty := .int) (C := RX0) (T := TX0) (N := 4) hx hb ht inX0 tyX0 tyX0_ok nmX0 hown hK hP hD hS 0 rfl rfl 2 (by decide) (ht _ wd_1_187) (fun _ h9 => h9) rfl (tyX0_ok 2 (by decide)) rfl rfl (Nat.le_of_ble_eq_true rfl) dX0_takeMean_91 (fun H locs hP hD hS => ?_)
          have hP : va_P (dC, dI) vwCl [(a_o, .inr (0, [.ref a_o_now, .ref a_o_then, .int (o_above / u_2), .int o_below])), (a_o_now, .inl (cI, 720, .inl o_now)), (a_q0, .inr (1, [.ref a_q0_rows, .ref a_q0_edges, .int q0_persons, .int q0_size, .int q0_changes, .int q0_restCount, .int q0_firstRest])), (a_q0_rows, .inl (cI, 720, .inl q0_rows)), (a_q1, .inr (2, [.int q1_persons, .int q1_ring, .int q1_highestTold, .ref a_q1_bestPlace, .ref a_q1_stepCost, .ref a_q1_kind, .ref a_q1_likings])), (a_q1_bestPlace, .inl (cI, 8, .inl q1_bestPlace)), (a_q1_stepCost, .inl (cI, 8, .inl q1_stepCost)), (a_q1_likings, .inl (cI, 64, .inl q1_likings))] H := hP
          have hD : va_D A [(a_o, .inr (0, [.ref a_o_now, .ref a_o_then, .int (o_above / u_2), .int o_below])), (a_o_now, .inl (cI, 720, .inl o_now)), (a_q0, .inr (1, [.ref a_q0_rows, .ref a_q0_edges, .int q0_persons, .int q0_size, .int q0_changes, .int q0_restCount, .int q0_firstRest])), (a_q0_rows, .inl (cI, 720, .inl q0_rows)), (a_q1, .inr (2, [.int q1_persons, .int q1_ring, .int q1_highestTold, .ref a_q1_bestPlace, .ref a_q1_stepCost, .ref a_q1_kind, .ref a_q1_likings])), (a_q1_bestPlace, .inl (cI, 8, .inl q1_bestPlace)), (a_q1_stepCost, .inl (cI, 8, .inl q1_stepCost)), (a_q1_likings, .inl (cI, 64, .inl q1_likings))] := hD
          refine lv_aload_n hx hb dX0_takeMean_94 rfl (lv_at hl 1 rfl) ?_
          refine lv_dup hx hb dX0_takeMean_95 rfl ?_
          refine va_get (ci := 0) (v := .int o_below) (C := RX0) (T := TX0) (N := 4) hx hb ht inX0 hown hK hP 0 rfl rfl 3 (by decide) (ht _ wd_1_189) (fun _ h9 => h9) rfl dX0_takeMean_96 ?_
          refine lv_iload hx hb dX0_takeMean_99 (lv_at hl 0 rfl) ?_
          obtain ⟨z_6, hf⟩ := dz_some hf
          refine lv_idiv hx hb dX0_takeMean_101 z_6 ?_
          refine va_put (ci := 0) (v := .int (o_below / u_2)) (ty := .int) (C := RX0) (T := TX0) (N := 4) hx hb ht inX0 tyX0 tyX0_ok nmX0 hown hK hP hD hS 0 rfl rfl 3 (by decide) (ht _ wd_1_189) (fun _ h9 => h9) rfl (tyX0_ok 3 (by decide)) rfl rfl (Nat.le_of_ble_eq_true rfl) dX0_takeMean_102 (fun H locs hP hD hS => ?_)
          have hP : va_P (dC, dI) vwCl [(a_o, .inr (0, [.ref a_o_now, .ref a_o_then, .int (o_above / u_2), .int (o_below / u_2)])), (a_o_now, .inl (cI, 720, .inl o_now)), (a_q0, .inr (1, [.ref a_q0_rows, .ref a_q0_edges, .int q0_persons, .int q0_size, .int q0_changes, .int q0_restCount, .int q0_firstRest])), (a_q0_rows, .inl (cI, 720, .inl q0_rows)), (a_q1, .inr (2, [.int q1_persons, .int q1_ring, .int q1_highestTold, .ref a_q1_bestPlace, .ref a_q1_stepCost, .ref a_q1_kind, .ref a_q1_likings])), (a_q1_bestPlace, .inl (cI, 8, .inl q1_bestPlace)), (a_q1_stepCost, .inl (cI, 8, .inl q1_stepCost)), (a_q1_likings, .inl (cI, 64, .inl q1_likings))] H := hP
          have hD : va_D A [(a_o, .inr (0, [.ref a_o_now, .ref a_o_then, .int (o_above / u_2), .int (o_below / u_2)])), (a_o_now, .inl (cI, 720, .inl o_now)), (a_q0, .inr (1, [.ref a_q0_rows, .ref a_q0_edges, .int q0_persons, .int q0_size, .int q0_changes, .int q0_restCount, .int q0_firstRest])), (a_q0_rows, .inl (cI, 720, .inl q0_rows)), (a_q1, .inr (2, [.int q1_persons, .int q1_ring, .int q1_highestTold, .ref a_q1_bestPlace, .ref a_q1_stepCost, .ref a_q1_kind, .ref a_q1_likings])), (a_q1_bestPlace, .inl (cI, 8, .inl q1_bestPlace)), (a_q1_stepCost, .inl (cI, 8, .inl q1_stepCost)), (a_q1_likings, .inl (cI, 64, .inl q1_likings))] := hD
          exact hret H locs ls 105 (o_above / u_2) (o_below / u_2) hf dX0_takeMean_105 hP hD hS
      · have hf := ifn c_1 hf
        refine lv_aload_n hx hb dX0_takeMean_17 rfl (lv_at hl 0 rfl) ?_
        refine va_get (ci := 0) (v := .ref a_o_now) (C := RX0) (T := TX0) (N := 4) hx hb ht inX0 hown hK hP 0 rfl rfl 0 (by decide) (ht _ wd_1_185) (fun _ h9 => h9) rfl dX0_takeMean_18 ?_
        refine lv_iload hx hb dX0_takeMean_21 (lv_at hl 4 rfl) ?_
        obtain ⟨b_7, hf⟩ := bd_some hf
        refine va_iald hx hb hK hP 1 0 rfl rfl b_7 dX0_takeMean_23 ?_
        refine lv_if_le (tgt := 55) hx hb dX0_takeMean_24 (by decide) (fun c_8 => ?_) (fun c_8 => ?_)
        · have hf := ifp c_8 hf
          exact B55 x3 x4 o_above o_below H locs ls hf hP hD hS (lv_sub hl [0, 1, 2, 3, 4] rfl)
        · have hf := ifn c_8 hf
          refine lv_aload_n hx hb dX0_takeMean_27 rfl (lv_at hl 0 rfl) ?_
          refine lv_dup hx hb dX0_takeMean_28 rfl ?_
          refine va_get (ci := 0) (v := .int o_above) (C := RX0) (T := TX0) (N := 4) hx hb ht inX0 hown hK hP 0 rfl rfl 2 (by decide) (ht _ wd_1_187) (fun _ h9 => h9) rfl dX0_takeMean_29 ?_
          refine lv_aload_n hx hb dX0_takeMean_32 rfl (lv_at hl 0 rfl) ?_
          refine va_get (ci := 0) (v := .ref a_o_now) (C := RX0) (T := TX0) (N := 4) hx hb ht inX0 hown hK hP 0 rfl rfl 0 (by decide) (ht _ wd_1_185) (fun _ h9 => h9) rfl dX0_takeMean_33 ?_
          refine lv_iload hx hb dX0_takeMean_36 (lv_at hl 4 rfl) ?_
          obtain ⟨b_9, hf⟩ := bd_some hf
          refine va_iald hx hb hK hP 1 0 rfl rfl b_9 dX0_takeMean_38 ?_
          refine lv_aload_n hx hb dX0_takeMean_39 rfl (lv_at hl 2 rfl) ?_
          refine lv_aload_n hx hb dX0_takeMean_40 rfl (lv_at hl 1 rfl) ?_
          refine lv_iload hx hb dX0_takeMean_41 (lv_at hl 4 rfl) ?_
          obtain ⟨u_10, h_11, hf⟩ := obs hf
          refine kcVi (rest := [.ref a_q1, .int (o_now x4.toNatClampNeg), .int o_above, .ref a_o]) (wr := [(a_o, .inr (0, [.ref a_o_now, .ref a_o_then, .int o_above, .int o_below])), (a_o_now, .inl (cI, 720, .inl o_now)), (a_q1, .inr (2, [.int q1_persons, .int q1_ring, .int q1_highestTold, .ref a_q1_bestPlace, .ref a_q1_stepCost, .ref a_q1_kind, .ref a_q1_likings])), (a_q1_bestPlace, .inl (cI, 8, .inl q1_bestPlace)), (a_q1_stepCost, .inl (cI, 8, .inl q1_stepCost)), (a_q1_likings, .inl (cI, 64, .inl q1_likings))]) (w2 := fun _ => [(a_o, .inr (0, [.ref a_o_now, .ref a_o_then, .int o_above, .int o_below])), (a_o_now, .inl (cI, 720, .inl o_now)), (a_q0, .inr (1, [.ref a_q0_rows, .ref a_q0_edges, .int q0_persons, .int q0_size, .int q0_changes, .int q0_restCount, .int q0_firstRest])), (a_q0_rows, .inl (cI, 720, .inl q0_rows)), (a_q1, .inr (2, [.int q1_persons, .int q1_ring, .int q1_highestTold, .ref a_q1_bestPlace, .ref a_q1_stepCost, .ref a_q1_kind, .ref a_q1_likings])), (a_q1_bestPlace, .inl (cI, 8, .inl q1_bestPlace)), (a_q1_stepCost, .inl (cI, 8, .inl q1_stepCost)), (a_q1_likings, .inl (cI, 64, .inl q1_likings))]) hx hb hml hown ht (c_X1_rowOf l dC dI cI cJ cZ a_q0 a_q0_rows a_q0_edges H.size q0_persons q0_size q0_changes q0_restCount q0_firstRest q0_rows x4 u_10 h_11) (kcw 1 ht wd_3_34 wd_1_8 wd_3_201 kd_X1_rowOf ⟨rfl, rfl⟩ ⟨Nat.le_of_ble_eq_true rfl, Nat.le_of_ble_eq_true rfl⟩) wd_3_32 wd_3_33 hK hP hD hS hA [2, 3] [0, 1, 4, 5, 6, 7] [0, 1, 6, 7, 2, 3, 4, 5] rfl rfl rfl rfl (by decide) rfl (fun _ => rfl) (ci := 1) rfl rfl rfl rfl hl.1 rfl (Nat.le_of_ble_eq_true rfl) dX0_takeMean_43 ⟨Nat.zero_le _, Nat.zero_le _⟩ (fun _ H locs hP hD hS => ?_)
          have hP : va_P (dC, dI) vwCl [(a_o, .inr (0, [.ref a_o_now, .ref a_o_then, .int o_above, .int o_below])), (a_o_now, .inl (cI, 720, .inl o_now)), (a_q0, .inr (1, [.ref a_q0_rows, .ref a_q0_edges, .int q0_persons, .int q0_size, .int q0_changes, .int q0_restCount, .int q0_firstRest])), (a_q0_rows, .inl (cI, 720, .inl q0_rows)), (a_q1, .inr (2, [.int q1_persons, .int q1_ring, .int q1_highestTold, .ref a_q1_bestPlace, .ref a_q1_stepCost, .ref a_q1_kind, .ref a_q1_likings])), (a_q1_bestPlace, .inl (cI, 8, .inl q1_bestPlace)), (a_q1_stepCost, .inl (cI, 8, .inl q1_stepCost)), (a_q1_likings, .inl (cI, 64, .inl q1_likings))] H := hP
          have hD : va_D A [(a_o, .inr (0, [.ref a_o_now, .ref a_o_then, .int o_above, .int o_below])), (a_o_now, .inl (cI, 720, .inl o_now)), (a_q0, .inr (1, [.ref a_q0_rows, .ref a_q0_edges, .int q0_persons, .int q0_size, .int q0_changes, .int q0_restCount, .int q0_firstRest])), (a_q0_rows, .inl (cI, 720, .inl q0_rows)), (a_q1, .inr (2, [.int q1_persons, .int q1_ring, .int q1_highestTold, .ref a_q1_bestPlace, .ref a_q1_stepCost, .ref a_q1_kind, .ref a_q1_likings])), (a_q1_bestPlace, .inl (cI, 8, .inl q1_bestPlace)), (a_q1_stepCost, .inl (cI, 8, .inl q1_stepCost)), (a_q1_likings, .inl (cI, 64, .inl q1_likings))] := hD
          refine lv_iload_n hx hb dX0_takeMean_46 rfl (lv_at hl 3 rfl) ?_
          obtain ⟨u_12, h_13, hf⟩ := obs hf
          refine kcVi (rest := [.int (o_now x4.toNatClampNeg), .int o_above, .ref a_o]) (wr := [(a_o, .inr (0, [.ref a_o_now, .ref a_o_then, .int o_above, .int o_below])), (a_o_now, .inl (cI, 720, .inl o_now)), (a_q0, .inr (1, [.ref a_q0_rows, .ref a_q0_edges, .int q0_persons, .int q0_size, .int q0_changes, .int q0_restCount, .int q0_firstRest])), (a_q0_rows, .inl (cI, 720, .inl q0_rows))]) (w2 := fun _ => [(a_o, .inr (0, [.ref a_o_now, .ref a_o_then, .int o_above, .int o_below])), (a_o_now, .inl (cI, 720, .inl o_now)), (a_q0, .inr (1, [.ref a_q0_rows, .ref a_q0_edges, .int q0_persons, .int q0_size, .int q0_changes, .int q0_restCount, .int q0_firstRest])), (a_q0_rows, .inl (cI, 720, .inl q0_rows)), (a_q1, .inr (2, [.int q1_persons, .int q1_ring, .int q1_highestTold, .ref a_q1_bestPlace, .ref a_q1_stepCost, .ref a_q1_kind, .ref a_q1_likings])), (a_q1_bestPlace, .inl (cI, 8, .inl q1_bestPlace)), (a_q1_stepCost, .inl (cI, 8, .inl q1_stepCost)), (a_q1_likings, .inl (cI, 64, .inl q1_likings))]) hx hb hml hown ht (c_X2_worthOf l dC dI cI cJ cZ a_q1 a_q1_bestPlace a_q1_stepCost a_q1_kind a_q1_likings H.size q1_persons q1_ring q1_highestTold q1_bestPlace q1_stepCost q1_likings u_10 x3 u_12 h_13) (kcw 2 ht wd_2_109 wd_1_3 wd_3_202 kd_X2_worthOf ⟨rfl, rfl⟩ ⟨Nat.le_of_ble_eq_true rfl, Nat.le_of_ble_eq_true rfl⟩) wd_2_107 wd_2_108 hK hP hD hS hA [4, 5, 6, 7] [0, 1, 2, 3] [0, 1, 2, 3, 4, 5, 6, 7] rfl rfl rfl rfl (by decide) rfl (fun _ => rfl) (ci := 2) rfl rfl rfl rfl hl.1 rfl (Nat.le_of_ble_eq_true rfl) dX0_takeMean_47 ⟨Nat.zero_le _, Nat.zero_le _⟩ (fun _ H locs hP hD hS => ?_)
          have hP : va_P (dC, dI) vwCl [(a_o, .inr (0, [.ref a_o_now, .ref a_o_then, .int o_above, .int o_below])), (a_o_now, .inl (cI, 720, .inl o_now)), (a_q0, .inr (1, [.ref a_q0_rows, .ref a_q0_edges, .int q0_persons, .int q0_size, .int q0_changes, .int q0_restCount, .int q0_firstRest])), (a_q0_rows, .inl (cI, 720, .inl q0_rows)), (a_q1, .inr (2, [.int q1_persons, .int q1_ring, .int q1_highestTold, .ref a_q1_bestPlace, .ref a_q1_stepCost, .ref a_q1_kind, .ref a_q1_likings])), (a_q1_bestPlace, .inl (cI, 8, .inl q1_bestPlace)), (a_q1_stepCost, .inl (cI, 8, .inl q1_stepCost)), (a_q1_likings, .inl (cI, 64, .inl q1_likings))] H := hP
          have hD : va_D A [(a_o, .inr (0, [.ref a_o_now, .ref a_o_then, .int o_above, .int o_below])), (a_o_now, .inl (cI, 720, .inl o_now)), (a_q0, .inr (1, [.ref a_q0_rows, .ref a_q0_edges, .int q0_persons, .int q0_size, .int q0_changes, .int q0_restCount, .int q0_firstRest])), (a_q0_rows, .inl (cI, 720, .inl q0_rows)), (a_q1, .inr (2, [.int q1_persons, .int q1_ring, .int q1_highestTold, .ref a_q1_bestPlace, .ref a_q1_stepCost, .ref a_q1_kind, .ref a_q1_likings])), (a_q1_bestPlace, .inl (cI, 8, .inl q1_bestPlace)), (a_q1_stepCost, .inl (cI, 8, .inl q1_stepCost)), (a_q1_likings, .inl (cI, 64, .inl q1_likings))] := hD
          refine lv_imul hx hb dX0_takeMean_50 ?_
          refine lv_iadd hx hb dX0_takeMean_51 ?_
          refine va_put (ci := 0) (v := .int (o_above + ((o_now x4.toNatClampNeg) * u_12))) (ty := .int) (C := RX0) (T := TX0) (N := 4) hx hb ht inX0 tyX0 tyX0_ok nmX0 hown hK hP hD hS 0 rfl rfl 2 (by decide) (ht _ wd_1_187) (fun _ h9 => h9) rfl (tyX0_ok 2 (by decide)) rfl rfl (Nat.le_of_ble_eq_true rfl) dX0_takeMean_52 (fun H locs hP hD hS => ?_)
          have hP : va_P (dC, dI) vwCl [(a_o, .inr (0, [.ref a_o_now, .ref a_o_then, .int (o_above + ((o_now x4.toNatClampNeg) * u_12)), .int o_below])), (a_o_now, .inl (cI, 720, .inl o_now)), (a_q0, .inr (1, [.ref a_q0_rows, .ref a_q0_edges, .int q0_persons, .int q0_size, .int q0_changes, .int q0_restCount, .int q0_firstRest])), (a_q0_rows, .inl (cI, 720, .inl q0_rows)), (a_q1, .inr (2, [.int q1_persons, .int q1_ring, .int q1_highestTold, .ref a_q1_bestPlace, .ref a_q1_stepCost, .ref a_q1_kind, .ref a_q1_likings])), (a_q1_bestPlace, .inl (cI, 8, .inl q1_bestPlace)), (a_q1_stepCost, .inl (cI, 8, .inl q1_stepCost)), (a_q1_likings, .inl (cI, 64, .inl q1_likings))] H := hP
          have hD : va_D A [(a_o, .inr (0, [.ref a_o_now, .ref a_o_then, .int (o_above + ((o_now x4.toNatClampNeg) * u_12)), .int o_below])), (a_o_now, .inl (cI, 720, .inl o_now)), (a_q0, .inr (1, [.ref a_q0_rows, .ref a_q0_edges, .int q0_persons, .int q0_size, .int q0_changes, .int q0_restCount, .int q0_firstRest])), (a_q0_rows, .inl (cI, 720, .inl q0_rows)), (a_q1, .inr (2, [.int q1_persons, .int q1_ring, .int q1_highestTold, .ref a_q1_bestPlace, .ref a_q1_stepCost, .ref a_q1_kind, .ref a_q1_likings])), (a_q1_bestPlace, .inl (cI, 8, .inl q1_bestPlace)), (a_q1_stepCost, .inl (cI, 8, .inl q1_stepCost)), (a_q1_likings, .inl (cI, 64, .inl q1_likings))] := hD
          exact B55 x3 x4 (o_above + ((o_now x4.toNatClampNeg) * u_12)) o_below H locs ls hf hP hD hS (lv_sub hl [0, 1, 2, 3, 4] rfl)
  obtain ⟨H, hH⟩ : ∃ H, H = s.heap := ⟨_, rfl⟩
  obtain ⟨locs, hlo⟩ : ∃ L : List Loc, L = [] := ⟨_, rfl⟩
  rw [← hH] at hP
  have hS : va_S A s.heap H locs := by rw [hH, hlo]; exact hS
  rw [show W p l e (headSpec (kws yX0_takeMean cX0_takeMean 5 none) rm_X0_takeMean).room s m args below meth c s.heap [] 0 0 Q (F0 m 0 ls []) = W p l e (headSpec (kws yX0_takeMean cX0_takeMean 5 none) rm_X0_takeMean).room s m args below meth c H locs 0 0 Q (F0 m 0 ls []) from by rw [hH, hlo]]
  refine lv_aload_n hx hb dX0_takeMean_0 rfl (lv_at hl 0 rfl) ?_
  refine lv_iconst (v := (0 : Int32)) hx hb dX0_takeMean_1 (by decide) ?_
  refine va_put (ci := 0) (v := .int (0 : Int32)) (ty := .int) (C := RX0) (T := TX0) (N := 4) hx hb ht inX0 tyX0 tyX0_ok nmX0 hown hK hP hD hS 0 rfl rfl 2 (by decide) (ht _ wd_1_187) (fun _ h9 => h9) rfl (tyX0_ok 2 (by decide)) rfl rfl (Nat.le_of_ble_eq_true rfl) dX0_takeMean_2 (fun H locs hP hD hS => ?_)
  have hP : va_P (dC, dI) vwCl [(a_o, .inr (0, [.ref a_o_now, .ref a_o_then, .int (0 : Int32), .int o_below])), (a_o_now, .inl (cI, 720, .inl o_now)), (a_q0, .inr (1, [.ref a_q0_rows, .ref a_q0_edges, .int q0_persons, .int q0_size, .int q0_changes, .int q0_restCount, .int q0_firstRest])), (a_q0_rows, .inl (cI, 720, .inl q0_rows)), (a_q1, .inr (2, [.int q1_persons, .int q1_ring, .int q1_highestTold, .ref a_q1_bestPlace, .ref a_q1_stepCost, .ref a_q1_kind, .ref a_q1_likings])), (a_q1_bestPlace, .inl (cI, 8, .inl q1_bestPlace)), (a_q1_stepCost, .inl (cI, 8, .inl q1_stepCost)), (a_q1_likings, .inl (cI, 64, .inl q1_likings))] H := hP
  have hD : va_D A [(a_o, .inr (0, [.ref a_o_now, .ref a_o_then, .int (0 : Int32), .int o_below])), (a_o_now, .inl (cI, 720, .inl o_now)), (a_q0, .inr (1, [.ref a_q0_rows, .ref a_q0_edges, .int q0_persons, .int q0_size, .int q0_changes, .int q0_restCount, .int q0_firstRest])), (a_q0_rows, .inl (cI, 720, .inl q0_rows)), (a_q1, .inr (2, [.int q1_persons, .int q1_ring, .int q1_highestTold, .ref a_q1_bestPlace, .ref a_q1_stepCost, .ref a_q1_kind, .ref a_q1_likings])), (a_q1_bestPlace, .inl (cI, 8, .inl q1_bestPlace)), (a_q1_stepCost, .inl (cI, 8, .inl q1_stepCost)), (a_q1_likings, .inl (cI, 64, .inl q1_likings))] := hD
  refine lv_iconst (v := (0 : Int32)) hx hb dX0_takeMean_5 (by decide) ?_
  refine lv_istore (lv' := [(4, .int (0 : Int32)), (0, .ref a_o), (1, .ref a_q0), (2, .ref a_q1), (3, .int x3)]) hx hb dX0_takeMean_6 hl (by decide) rfl (fun ls hl => ?_)
  exact L8 NF x3 (0 : Int32) (0 : Int32) o_below H locs ls hf hP hD hS (lv_sub hl [1, 2, 3, 4, 0] rfl)
