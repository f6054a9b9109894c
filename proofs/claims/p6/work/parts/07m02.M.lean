def f_X8_goes_2 (x1 : Int32) : Nat → SM → Int32 → Option (SM)
  | 0, _, _ => none
  | n + 1, σ, x2 => if (σ.1 3) ≤ (x2 + 1) then (some (SMi σ 3 ((σ.1 3) - 1))) else ((f_X8_copyFile σ (x2 + 1) x2).bind fun q17 => f_X8_goes_2 x1 n q17 (x2 + 1))
def f_X8_goes (σ : SM) (x1 : Int32) : Option (SM) := f_X8_goes_2 x1 fu σ x1
def rm_X8_goes : Room := { frames := 1, cells := 0, slots := 0, locals := 23 }
set_option maxHeartbeats 4000000 in
set_option maxRecDepth 100000 in
theorem met_X8_goes (l : Launch) (dC : Nat → ClassId) (dI : Nat → Nat → Nat) (cyI cyE : ClassId) (tC : Nat) (ad : Nat → Nat) (σ : SM) (x1 : Int32) (res : SM) (hf : f_X8_goes σ x1 = some res) : ax_Mv l dC dI cyI cyE tC 12 (cM cyI ad) ad yX8_goes cX8_goes 3 none rm_X8_goes [.ref (ad 11), .int x1] σ res := by
  intro sz
  refine Met.ofW (cc := cX8_goes) (maxL := 3) (ret := none) (by decide) rfl ?_
  intro p e s m args below meth c s₁ B hml hv
  obtain ⟨hargs, hsz, hP, hJ, hE⟩ := hv
  subst hsz
  have hx := B.exec
  have hb := B.bytes
  have hr := B.returns
  have hlocks := B.notSynchronized
  have hts := atoms_spec (ws := wsY yX8_goes cX8_goes 3 none) B.pre
  have hown : s.vm.findClass RX8 = some m.cls := findClass_of_methodNamed B.named
  have C0 : CallFix p m c cX8_goes 3 s args (wsY yX8_goes cX8_goes 3 none) RX8 := ⟨hx, hb, hml, hown, hts⟩
  have hT : ∀ w ∈ bw, w ∈ wsY yX8_goes cX8_goes 3 none := fun w h => List.mem_cons_of_mem _ h
  have hS : va_S (ax_A 12 ad s.heap.size) s.heap s.heap [] := va_S.rf
  rw [show entryFrame m args 3 = entryFrame m ([.ref (ad 11), .int x1] : List Value).toArray 3 by rw [hargs]]
  have hl := lv_entry ([.ref (ad 11), .int x1]) (n := 3) (Nat.le_of_ble_eq_true rfl)
  rw [lg_entry_eq]
  generalize (lg_sl ([.ref (ad 11), .int x1]) ++ List.replicate (3 - (lg_sl ([.ref (ad 11), .int x1])).length) Slot.unset).toArray = ls at hl ⊢
  have hl : lv_has ls 3 [(0, .ref (ad 11)), (1, .int x1)] := hl
  obtain ⟨Q, hQ⟩ : ∃ Q : State → Prop, Q = MQ below (va_Qv (fun (u : SM) => u = res) (ax_B dC dI 12 (cM cyI ad) ad) (ax_A 12 ad s.heap.size)) args s 0 0 (ax_A 12 ad s.heap.size) := ⟨_, rfl⟩
  show W p l e rm_X8_goes s m args below meth c s.heap [] 0 0 _ _
  rw [← hQ]
  have hret : ∀ (σ : SM) (H : Heap) (locs : List Loc) (ls : Array Slot) (pc : Nat), some σ = some res → va_P (dC, dI) vwCl (ax_w 12 ad (cM cyI ad σ)) H → va_S (ax_A 12 ad s.heap.size) s.heap H locs → decode cX8_goes pc = .ok (.return_, 1) → W p l e rm_X8_goes s m args below meth c H locs 0 0 Q (F0 m pc ls []) := by
    intro σ H locs ls pc hf hP hS hd
    cases hf
    rw [hQ]
    exact ax_vret hx hb hr hlocks hP hS hd rfl
  have L2 : ∀ (n : Nat), ∀ (σ : SM) (x2 : Int32), ∀ (H : Heap) (locs : List Loc) (ls : Array Slot), va_P (dC, dI) vwCl (ax_w 12 ad (cM cyI ad σ)) H → va_S (ax_A 12 ad s.heap.size) s.heap H locs → lv_has ls 3 [(0, .ref (ad 11)), (2, .int x2)] → f_X8_goes_2 x1 n σ x2 = some res → W p l e rm_X8_goes s m args below meth c H locs 0 0 Q (F0 m 2 ls []) := by
    intro n
    induction n with
    | zero =>
      intro σ x2  H locs ls hP hS hl hf
      cases hf
    | succ n ih =>
      intro σ x2  H locs ls hP hS hl hf
      rw [f_X8_goes_2] at hf
      refine lv_iload_n hx hb dX8_goes_2 rfl (lv_at hl 1 rfl) ?_
      refine lv_iconst (v := 1) hx hb dX8_goes_3 (by decide) ?_
      refine lv_iadd hx hb dX8_goes_4 ?_
      refine lv_aload_n hx hb dX8_goes_5 rfl (lv_at hl 0 rfl) ?_
      refine g_Model_files C0 hT hE hP mf_X8_59 dX8_goes_6 ?_
      refine lv_icmp_ge (tgt := 26) hx hb dX8_goes_9 (by decide) (fun h9 => ?_) (fun h9 => ?_)
      · rw [if_pos h9] at hf
        refine lv_aload_n hx hb dX8_goes_26 rfl (lv_at hl 0 rfl) ?_
        refine lv_dup hx hb dX8_goes_27 rfl ?_
        refine g_Model_files C0 hT hE hP mf_X8_59 dX8_goes_28 ?_
        refine lv_iconst (v := 1) hx hb dX8_goes_31 (by decide) ?_
        refine lv_isub hx hb dX8_goes_32 ?_
        refine p_Model_files C0 hT hE hJ hP hS mf_X8_59 dX8_goes_33 (fun H locs hP hS => ?_)
        exact hret _ _ _ _ _ hf hP hS dX8_goes_36
      · rw [if_neg h9] at hf
        refine lv_aload_n hx hb dX8_goes_12 rfl (lv_at hl 0 rfl) ?_
        refine lv_iload_n hx hb dX8_goes_13 rfl (lv_at hl 1 rfl) ?_
        refine lv_iconst (v := 1) hx hb dX8_goes_14 (by decide) ?_
        refine lv_iadd hx hb dX8_goes_15 ?_
        refine lv_iload_n hx hb dX8_goes_16 rfl (lv_at hl 1 rfl) ?_
        obtain ⟨q17, hq, hf⟩ := ob_bind hf
        refine ax_callVv (b := 0) (i := 11) (k := 2) (ci := 6) [.int (x2 + 1), .int x2] C0 hT hJ hE (met_X8_copyFile l dC dI cyI cyE tC ad σ (x2 + 1) x2 _ hq) hP hS mc_X8_copyFile ml_X8_62 mi_X8_copyFile ms_X8_copyFile mz_X8 (by decide +kernel) ⟨rfl, rfl⟩ ⟨by decide, by decide⟩ (by decide) cM_O rfl rfl rfl hl.1 (Nat.le_of_ble_eq_true rfl) dX8_goes_17 ⟨Nat.zero_le _, Nat.zero_le _⟩ (fun H locs hP hS => ?_)
        refine lv_iinc (v := x2 + 1) (lv' := [(2, .int (x2 + 1)), (0, .ref (ad 11))]) hx hb dX8_goes_20 hl (k := 1) rfl rfl (by decide) rfl (fun ls hl => ?_)
        refine lv_goto (tgt := 2) hx hb dX8_goes_23 (by decide) ?_
        exact ih _ _ _ _ _ hP hS (lv_sub hl [1, 0] rfl) hf
  unfold f_X8_goes at hf
  refine lv_iload_n hx hb dX8_goes_0 rfl (lv_at hl 1 rfl) ?_
  refine lv_istore_n (lv' := [(2, .int x1), (0, .ref (ad 11)), (1, .int x1)]) hx hb dX8_goes_1 rfl hl (by decide) rfl (fun ls hl => ?_)
  exact L2 fu _ _ _ _ _ hP hS (lv_sub hl [1, 0] rfl) hf
def f_X8_add_94 (x1 : Int32) (σ : SM)  : Option (Int32 × SM) := if (σ.1 0) ≤ 0 then ((f_X8_setName σ (σ.1 3) 0 x1).bind fun q110 => (f_X8_setBytes q110 (q110.1 3) x1 ((q110.1 1) - x1)).bind fun q125 => some (((SMi (SMi q125 3 ((q125.1 3) + 1)) 1 0).1 3) - 1, (SMi (SMi q125 3 ((q125.1 3) + 1)) 1 0))) else (some (0, σ))
def f_X8_add_89 (x1 : Int32) (σ : SM)  : Option (Int32 × SM) := f_X8_add_94 x1 (SMi σ 0 2) 
def f_X8_add_39 (x1 : Int32) (σ : SM) (s1 : Int32) : Option (Int32 × SM) := if ((SMi σ 0 s1).1 0) = 0 then ((f_X8_named (SMi σ 0 s1) 0 x1 ((SMi σ 0 s1).1 3)).bind fun q56 => if q56.1 = (-1) then (if (q56.2.1 3) = 20 then (f_X8_add_89 x1 q56.2 ) else ((f_X8_total q56.2 ).bind fun q73 => if ((q73.1 + (q73.2.1 1)) - x1) ≤ 6000 then (f_X8_add_94 x1 q73.2 ) else (f_X8_add_89 x1 q73.2 ))) else (f_X8_add_89 x1 q56.2 )) else (f_X8_add_94 x1 (SMi σ 0 s1) )
def f_X8_add (σ : SM) (x1 : Int32) : Option (Int32 × SM) := if x1 < 0 then (f_X8_add_39 x1 σ 1) else (if (σ.1 1) < x1 then (f_X8_add_39 x1 σ 1) else ((f_X8_isName σ 0 x1).bind fun q16 => if q16.1 = 0 then (f_X8_add_39 x1 q16.2 1) else (if ((q16.2.1 1) - x1) ≤ 1500 then (f_X8_add_39 x1 q16.2 0) else (f_X8_add_39 x1 q16.2 1))))
def rm_X8_add : Room := { frames := 1, cells := 0, slots := 0, locals := 26 }
set_option maxHeartbeats 4000000 in
set_option maxRecDepth 100000 in
theorem met_X8_add (l : Launch) (dC : Nat → ClassId) (dI : Nat → Nat → Nat) (cyI cyE : ClassId) (tC : Nat) (ad : Nat → Nat) (σ : SM) (x1 : Int32) (res : Int32 × SM) (hf : f_X8_add σ x1 = some res) : ax_Mi l dC dI cyI cyE tC 12 (cM cyI ad) ad yX8_add cX8_add 2 (some .int) rm_X8_add [.ref (ad 11), .int x1] σ res.1 res.2 := by
  intro sz
  refine Met.ofW (cc := cX8_add) (maxL := 2) (ret := (some .int)) (by decide) rfl ?_
  intro p e s m args below meth c s₁ B hml hv
  obtain ⟨hargs, hsz, hP, hJ, hE⟩ := hv
  subst hsz
  have hx := B.exec
  have hb := B.bytes
  have hr := B.returns
  have hlocks := B.notSynchronized
  have hts := atoms_spec (ws := wsY yX8_add cX8_add 2 (some .int)) B.pre
  have hown : s.vm.findClass RX8 = some m.cls := findClass_of_methodNamed B.named
  have C0 : CallFix p m c cX8_add 2 s args (wsY yX8_add cX8_add 2 (some .int)) RX8 := ⟨hx, hb, hml, hown, hts⟩
  have hT : ∀ w ∈ bw, w ∈ wsY yX8_add cX8_add 2 (some .int) := fun w h => List.mem_cons_of_mem _ h
  have hS : va_S (ax_A 12 ad s.heap.size) s.heap s.heap [] := va_S.rf
  rw [show entryFrame m args 2 = entryFrame m ([.ref (ad 11), .int x1] : List Value).toArray 2 by rw [hargs]]
  have hl := lv_entry ([.ref (ad 11), .int x1]) (n := 2) (Nat.le_of_ble_eq_true rfl)
  rw [lg_entry_eq]
  generalize (lg_sl ([.ref (ad 11), .int x1]) ++ List.replicate (2 - (lg_sl ([.ref (ad 11), .int x1])).length) Slot.unset).toArray = ls at hl ⊢
  have hl : lv_has ls 2 [(0, .ref (ad 11)), (1, .int x1)] := hl
  obtain ⟨Q, hQ⟩ : ∃ Q : State → Prop, Q = MQ below (va_Qi (fun (a : Int32) (u : SM) => a = res.1 ∧ u = res.2) (ax_B dC dI 12 (cM cyI ad) ad) (ax_A 12 ad s.heap.size)) args s 0 0 (ax_A 12 ad s.heap.size) := ⟨_, rfl⟩
  show W p l e rm_X8_add s m args below meth c s.heap [] 0 0 _ _
  rw [← hQ]
  have hret : ∀ (v : Int32) (σ : SM) (H : Heap) (locs : List Loc) (ls : Array Slot) (pc : Nat), narrow .int (.int v) = .int v → some (v, σ) = some res → va_P (dC, dI) vwCl (ax_w 12 ad (cM cyI ad σ)) H → va_S (ax_A 12 ad s.heap.size) s.heap H locs → decode cX8_add pc = .ok (.ireturn, 1) → W p l e rm_X8_add s m args below meth c H locs 0 0 Q (F0 m pc ls [.int v]) := by
    intro v σ H locs ls pc hn hf hP hS hd
    cases hf
    rw [hQ]
    exact ax_iret hx hb hr hlocks hn hP hS hd rfl rfl
  have L94 : ∀ (σ : SM) , ∀ (H : Heap) (locs : List Loc) (ls : Array Slot), va_P (dC, dI) vwCl (ax_w 12 ad (cM cyI ad σ)) H → va_S (ax_A 12 ad s.heap.size) s.heap H locs → lv_has ls 2 [(0, .ref (ad 11)), (1, .int x1)] → f_X8_add_94 x1 σ  = some res → W p l e rm_X8_add s m args below meth c H locs 0 0 Q (F0 m 94 ls []) := by
    intro σ   H locs ls hP hS hl hf
    unfold f_X8_add_94 at hf
    refine lv_aload_n hx hb dX8_add_94 rfl (lv_at hl 0 rfl) ?_
    refine g_Model_thrown C0 hT hE hP mf_X8_50 dX8_add_95 ?_
    refine lv_if_le (tgt := 103) hx hb dX8_add_98 (by decide) (fun h98 => ?_) (fun h98 => ?_)
    · rw [if_pos h98] at hf
      refine lv_aload_n hx hb dX8_add_103 rfl (lv_at hl 0 rfl) ?_
      refine lv_aload_n hx hb dX8_add_104 rfl (lv_at hl 0 rfl) ?_
      refine g_Model_files C0 hT hE hP mf_X8_59 dX8_add_105 ?_
      refine lv_iconst (v := 0) hx hb dX8_add_108 (by decide) ?_
      refine lv_iload_n hx hb dX8_add_109 rfl (lv_at hl 1 rfl) ?_
      obtain ⟨q110, hq, hf⟩ := ob_bind hf
      refine ax_callVv (b := 0) (i := 11) (k := 3) (ci := 6) [.int (σ.1 3), .int 0, .int x1] C0 hT hJ hE (met_X8_setName l dC dI cyI cyE tC ad σ (σ.1 3) 0 x1 _ hq) hP hS mc_X8_setName ml_X8_78 mi_X8_setName ms_X8_setName mz_X8 (by decide +kernel) ⟨rfl, rfl⟩ ⟨by decide, by decide⟩ (by decide) cM_O rfl rfl rfl hl.1 (Nat.le_of_ble_eq_true rfl) dX8_add_110 ⟨Nat.zero_le _, Nat.zero_le _⟩ (fun H locs hP hS => ?_)
      refine lv_aload_n hx hb dX8_add_113 rfl (lv_at hl 0 rfl) ?_
      refine lv_aload_n hx hb dX8_add_114 rfl (lv_at hl 0 rfl) ?_
      refine g_Model_files C0 hT hE hP mf_X8_59 dX8_add_115 ?_
      refine lv_iload_n hx hb dX8_add_118 rfl (lv_at hl 1 rfl) ?_
      refine lv_aload_n hx hb dX8_add_119 rfl (lv_at hl 0 rfl) ?_
      refine g_Model_size C0 hT hE hP mf_X8_53 dX8_add_120 ?_
      refine lv_iload_n hx hb dX8_add_123 rfl (lv_at hl 1 rfl) ?_
      refine lv_isub hx hb dX8_add_124 ?_
      obtain ⟨q125, hq, hf⟩ := ob_bind hf
      refine ax_callVv (b := 0) (i := 11) (k := 3) (ci := 6) [.int (q110.1 3), .int x1, .int ((q110.1 1) - x1)] C0 hT hJ hE (met_X8_setBytes l dC dI cyI cyE tC ad q110 (q110.1 3) x1 ((q110.1 1) - x1) _ hq) hP hS mc_X8_setBytes ml_X8_82 mi_X8_setBytes ms_X8_setBytes mz_X8 (by decide +kernel) ⟨rfl, rfl⟩ ⟨by decide, by decide⟩ (by decide) cM_O rfl rfl rfl hl.1 (Nat.le_of_ble_eq_true rfl) dX8_add_125 ⟨Nat.zero_le _, Nat.zero_le _⟩ (fun H locs hP hS => ?_)
      refine lv_aload_n hx hb dX8_add_128 rfl (lv_at hl 0 rfl) ?_
      refine lv_dup hx hb dX8_add_129 rfl ?_
      refine g_Model_files C0 hT hE hP mf_X8_59 dX8_add_130 ?_
      refine lv_iconst (v := 1) hx hb dX8_add_133 (by decide) ?_
      refine lv_iadd hx hb dX8_add_134 ?_
      refine p_Model_files C0 hT hE hJ hP hS mf_X8_59 dX8_add_135 (fun H locs hP hS => ?_)
      refine lv_aload_n hx hb dX8_add_138 rfl (lv_at hl 0 rfl) ?_
      refine lv_iconst (v := 0) hx hb dX8_add_139 (by decide) ?_
      refine p_Model_size C0 hT hE hJ hP hS mf_X8_53 dX8_add_140 (fun H locs hP hS => ?_)
      refine lv_aload_n hx hb dX8_add_143 rfl (lv_at hl 0 rfl) ?_
      refine g_Model_files C0 hT hE hP mf_X8_59 dX8_add_144 ?_
      refine lv_iconst (v := 1) hx hb dX8_add_147 (by decide) ?_
      refine lv_isub hx hb dX8_add_148 ?_
      exact hret _ _ _ _ _ _ rfl hf hP hS dX8_add_149
    · rw [if_neg h98] at hf
      refine lv_iconst (v := 0) hx hb dX8_add_101 (by decide) ?_
      exact hret _ _ _ _ _ _ rfl hf hP hS dX8_add_102
  have L89 : ∀ (σ : SM) , ∀ (H : Heap) (locs : List Loc) (ls : Array Slot), va_P (dC, dI) vwCl (ax_w 12 ad (cM cyI ad σ)) H → va_S (ax_A 12 ad s.heap.size) s.heap H locs → lv_has ls 2 [(0, .ref (ad 11)), (1, .int x1)] → f_X8_add_89 x1 σ  = some res → W p l e rm_X8_add s m args below meth c H locs 0 0 Q (F0 m 89 ls []) := by
    intro σ   H locs ls hP hS hl hf
    unfold f_X8_add_89 at hf
    refine lv_aload_n hx hb dX8_add_89 rfl (lv_at hl 0 rfl) ?_
    refine lv_iconst (v := 2) hx hb dX8_add_90 (by decide) ?_
    refine p_Model_thrown C0 hT hE hJ hP hS mf_X8_50 dX8_add_91 (fun H locs hP hS => ?_)
    exact L94 _  _ _ _ hP hS (lv_sub hl [0, 1] rfl) hf
  have L39 : ∀ (σ : SM) (s1 : Int32), ∀ (H : Heap) (locs : List Loc) (ls : Array Slot), va_P (dC, dI) vwCl (ax_w 12 ad (cM cyI ad σ)) H → va_S (ax_A 12 ad s.heap.size) s.heap H locs → lv_has ls 2 [(0, .ref (ad 11)), (1, .int x1)] → f_X8_add_39 x1 σ s1 = some res → W p l e rm_X8_add s m args below meth c H locs 0 0 Q (F0 m 39 ls [.int s1, .ref (ad 11)]) := by
    intro σ s1  H locs ls hP hS hl hf
    unfold f_X8_add_39 at hf
    refine p_Model_thrown C0 hT hE hJ hP hS mf_X8_50 dX8_add_39 (fun H locs hP hS => ?_)
    refine lv_aload_n hx hb dX8_add_42 rfl (lv_at hl 0 rfl) ?_
    refine g_Model_thrown C0 hT hE hP mf_X8_50 dX8_add_43 ?_
    refine lv_if_ne (tgt := 94) hx hb dX8_add_46 (by decide) (fun h46 => ?_) (fun h46 => ?_)
    · rw [if_neg h46] at hf
      exact L94 _  _ _ _ hP hS (lv_sub hl [0, 1] rfl) hf
    · rw [if_pos h46] at hf
      refine lv_aload_n hx hb dX8_add_49 rfl (lv_at hl 0 rfl) ?_
      refine lv_iconst (v := 0) hx hb dX8_add_50 (by decide) ?_
      refine lv_iload_n hx hb dX8_add_51 rfl (lv_at hl 1 rfl) ?_
      refine lv_aload_n hx hb dX8_add_52 rfl (lv_at hl 0 rfl) ?_
      refine g_Model_files C0 hT hE hP mf_X8_59 dX8_add_53 ?_
      obtain ⟨q56, hq, hf⟩ := ob_bind hf
      refine ax_callVi (C := "") (b := 0) (i := 11) (k := 3) (ci := 6) [.int 0, .int x1, .int ((SMi σ 0 s1).1 3)] C0 hT hJ hE (met_X8_named l dC dI cyI cyE tC ad (SMi σ 0 s1) 0 x1 ((SMi σ 0 s1).1 3) _ hq) hP hS mc_X8_named ml_X8_70 mi_X8_named ms_X8_named mz_X8 (by decide +kernel) ⟨rfl, rfl⟩ ⟨by decide, by decide⟩ (by decide) cM_O rfl rfl rfl hl.1 (Nat.le_of_ble_eq_true rfl) dX8_add_56 ⟨Nat.zero_le _, Nat.zero_le _⟩ (fun H locs hP hS => ?_)
      refine lv_iconst (v := (-1)) hx hb dX8_add_59 (by decide) ?_
      refine lv_icmp_ne (tgt := 89) hx hb dX8_add_60 (by decide) (fun h60 => ?_) (fun h60 => ?_)
      · rw [if_neg h60] at hf
        exact L89 _  _ _ _ hP hS (lv_sub hl [0, 1] rfl) hf
      · rw [if_pos h60] at hf
        refine lv_aload_n hx hb dX8_add_63 rfl (lv_at hl 0 rfl) ?_
        refine g_Model_files C0 hT hE hP mf_X8_59 dX8_add_64 ?_
        refine lv_bipush (v := 20) hx hb dX8_add_67 (by decide) ?_
        refine lv_icmp_eq (tgt := 89) hx hb dX8_add_69 (by decide) (fun h69 => ?_) (fun h69 => ?_)
        · rw [if_pos h69] at hf
          exact L89 _  _ _ _ hP hS (lv_sub hl [0, 1] rfl) hf
        · rw [if_neg h69] at hf
          refine lv_aload_n hx hb dX8_add_72 rfl (lv_at hl 0 rfl) ?_
          obtain ⟨q73, hq, hf⟩ := ob_bind hf
          refine ax_callVi (C := "") (b := 0) (i := 11) (k := 0) (ci := 6) [] C0 hT hJ hE (met_X8_total l dC dI cyI cyE tC ad q56.2 _ hq) hP hS mc_X8_total ml_X8_74 mi_X8_total ms_X8_total mz_X8 (by decide +kernel) ⟨rfl, rfl⟩ ⟨by decide, by decide⟩ (by decide) cM_O rfl rfl rfl hl.1 (Nat.le_of_ble_eq_true rfl) dX8_add_73 ⟨Nat.zero_le _, Nat.zero_le _⟩ (fun H locs hP hS => ?_)
          refine lv_aload_n hx hb dX8_add_76 rfl (lv_at hl 0 rfl) ?_
          refine g_Model_size C0 hT hE hP mf_X8_53 dX8_add_77 ?_
          refine lv_iadd hx hb dX8_add_80 ?_
          refine lv_iload_n hx hb dX8_add_81 rfl (lv_at hl 1 rfl) ?_
          refine lv_isub hx hb dX8_add_82 ?_
          refine lv_sipush (v := 6000) hx hb dX8_add_83 (by decide) ?_
          refine lv_icmp_le (tgt := 94) hx hb dX8_add_86 (by decide) (fun h86 => ?_) (fun h86 => ?_)
          · rw [if_pos h86] at hf
            exact L94 _  _ _ _ hP hS (lv_sub hl [0, 1] rfl) hf
          · rw [if_neg h86] at hf
            exact L89 _  _ _ _ hP hS (lv_sub hl [0, 1] rfl) hf
  unfold f_X8_add at hf
  refine lv_aload_n hx hb dX8_add_0 rfl (lv_at hl 0 rfl) ?_
  refine lv_iload_n hx hb dX8_add_1 rfl (lv_at hl 1 rfl) ?_
  refine lv_if_lt (tgt := 34) hx hb dX8_add_2 (by decide) (fun h2 => ?_) (fun h2 => ?_)
  · rw [if_pos h2] at hf
    refine lv_iconst (v := 1) hx hb dX8_add_34 (by decide) ?_
    refine lv_goto (tgt := 39) hx hb dX8_add_35 (by decide) ?_
    exact L39 _ _ _ _ _ hP hS (lv_sub hl [0, 1] rfl) hf
  · rw [if_neg h2] at hf
    refine lv_iload_n hx hb dX8_add_5 rfl (lv_at hl 1 rfl) ?_
    refine lv_aload_n hx hb dX8_add_6 rfl (lv_at hl 0 rfl) ?_
    refine g_Model_size C0 hT hE hP mf_X8_53 dX8_add_7 ?_
    refine lv_icmp_gt (tgt := 34) hx hb dX8_add_10 (by decide) (fun h10 => ?_) (fun h10 => ?_)
    · rw [if_pos h10] at hf
      refine lv_iconst (v := 1) hx hb dX8_add_34 (by decide) ?_
      refine lv_goto (tgt := 39) hx hb dX8_add_35 (by decide) ?_
      exact L39 _ _ _ _ _ hP hS (lv_sub hl [0, 1] rfl) hf
    · rw [if_neg h10] at hf
      refine lv_aload_n hx hb dX8_add_13 rfl (lv_at hl 0 rfl) ?_
      refine lv_iconst (v := 0) hx hb dX8_add_14 (by decide) ?_
      refine lv_iload_n hx hb dX8_add_15 rfl (lv_at hl 1 rfl) ?_
      obtain ⟨q16, hq, hf⟩ := ob_bind hf
      refine ax_callVi (C := "") (b := 0) (i := 11) (k := 2) (ci := 6) [.int 0, .int x1] C0 hT hJ hE (met_X8_isName l dC dI cyI cyE tC ad σ 0 x1 _ hq) hP hS mc_X8_isName ml_X8_66 mi_X8_isName ms_X8_isName mz_X8 (by decide +kernel) ⟨rfl, rfl⟩ ⟨by decide, by decide⟩ (by decide) cM_O rfl rfl rfl hl.1 (Nat.le_of_ble_eq_true rfl) dX8_add_16 ⟨Nat.zero_le _, Nat.zero_le _⟩ (fun H locs hP hS => ?_)
      refine lv_if_eq (tgt := 34) hx hb dX8_add_19 (by decide) (fun h19 => ?_) (fun h19 => ?_)
      · rw [if_pos h19] at hf
        refine lv_iconst (v := 1) hx hb dX8_add_34 (by decide) ?_
        refine lv_goto (tgt := 39) hx hb dX8_add_35 (by decide) ?_
        exact L39 _ _ _ _ _ hP hS (lv_sub hl [0, 1] rfl) hf
      · rw [if_neg h19] at hf
        refine lv_aload_n hx hb dX8_add_22 rfl (lv_at hl 0 rfl) ?_
        refine g_Model_size C0 hT hE hP mf_X8_53 dX8_add_23 ?_
        refine lv_iload_n hx hb dX8_add_26 rfl (lv_at hl 1 rfl) ?_
        refine lv_isub hx hb dX8_add_27 ?_
        refine lv_sipush (v := 1500) hx hb dX8_add_28 (by decide) ?_
        refine lv_icmp_le (tgt := 38) hx hb dX8_add_31 (by decide) (fun h31 => ?_) (fun h31 => ?_)
        · rw [if_pos h31] at hf
          refine lv_iconst (v := 0) hx hb dX8_add_38 (by decide) ?_
          exact L39 _ _ _ _ _ hP hS (lv_sub hl [0, 1] rfl) hf
        · rw [if_neg h31] at hf
          refine lv_iconst (v := 1) hx hb dX8_add_34 (by decide) ?_
          refine lv_goto (tgt := 39) hx hb dX8_add_35 (by decide) ?_
          exact L39 _ _ _ _ _ hP hS (lv_sub hl [0, 1] rfl) hf
def f_X8_replace_54 (x1 : Int32) (σ : SM) (s1 : Int32) : Option (SM) := if ((SMi σ 0 s1).1 0) ≤ 0 then ((f_X8_setBytes (SMi σ 0 s1) x1 0 ((SMi σ 0 s1).1 1)).bind fun q72 => some (SMi q72 1 0)) else (some (SMi σ 0 s1))
def f_X8_replace (σ : SM) (x1 : Int32) : Option (SM) := (f_X8_isFile σ x1).bind fun q3 => if q3.1 = 0 then (f_X8_replace_54 x1 q3.2 1) else (if (q3.2.1 1) ≤ 1500 then ((f_X8_total q3.2 ).bind fun q28 => if inb x1 (capM 6) = true then (if ((q28.1 - (q28.2.2 6 x1.toNatClampNeg)) + (q28.2.1 1)) ≤ 6000 then (f_X8_replace_54 x1 q28.2 0) else (f_X8_replace_54 x1 q28.2 3)) else none) else (f_X8_replace_54 x1 q3.2 2))
def rm_X8_replace : Room := { frames := 1, cells := 0, slots := 0, locals := 24 }
set_option maxHeartbeats 4000000 in
set_option maxRecDepth 100000 in
theorem met_X8_replace (l : Launch) (dC : Nat → ClassId) (dI : Nat → Nat → Nat) (cyI cyE : ClassId) (tC : Nat) (ad : Nat → Nat) (σ : SM) (x1 : Int32) (res : SM) (hf : f_X8_replace σ x1 = some res) : ax_Mv l dC dI cyI cyE tC 12 (cM cyI ad) ad yX8_replace cX8_replace 2 none rm_X8_replace [.ref (ad 11), .int x1] σ res := by
  intro sz
  refine Met.ofW (cc := cX8_replace) (maxL := 2) (ret := none) (by decide) rfl ?_
  intro p e s m args below meth c s₁ B hml hv
  obtain ⟨hargs, hsz, hP, hJ, hE⟩ := hv
  subst hsz
  have hx := B.exec
  have hb := B.bytes
  have hr := B.returns
  have hlocks := B.notSynchronized
  have hts := atoms_spec (ws := wsY yX8_replace cX8_replace 2 none) B.pre
  have hown : s.vm.findClass RX8 = some m.cls := findClass_of_methodNamed B.named
  have C0 : CallFix p m c cX8_replace 2 s args (wsY yX8_replace cX8_replace 2 none) RX8 := ⟨hx, hb, hml, hown, hts⟩
  have hT : ∀ w ∈ bw, w ∈ wsY yX8_replace cX8_replace 2 none := fun w h => List.mem_cons_of_mem _ h
  have hS : va_S (ax_A 12 ad s.heap.size) s.heap s.heap [] := va_S.rf
  rw [show entryFrame m args 2 = entryFrame m ([.ref (ad 11), .int x1] : List Value).toArray 2 by rw [hargs]]
  have hl := lv_entry ([.ref (ad 11), .int x1]) (n := 2) (Nat.le_of_ble_eq_true rfl)
  rw [lg_entry_eq]
  generalize (lg_sl ([.ref (ad 11), .int x1]) ++ List.replicate (2 - (lg_sl ([.ref (ad 11), .int x1])).length) Slot.unset).toArray = ls at hl ⊢
  have hl : lv_has ls 2 [(0, .ref (ad 11)), (1, .int x1)] := hl
  obtain ⟨Q, hQ⟩ : ∃ Q : State → Prop, Q = MQ below (va_Qv (fun (u : SM) => u = res) (ax_B dC dI 12 (cM cyI ad) ad) (ax_A 12 ad s.heap.size)) args s 0 0 (ax_A 12 ad s.heap.size) := ⟨_, rfl⟩
  show W p l e rm_X8_replace s m args below meth c s.heap [] 0 0 _ _
  rw [← hQ]
  have hret : ∀ (σ : SM) (H : Heap) (locs : List Loc) (ls : Array Slot) (pc : Nat), some σ = some res → va_P (dC, dI) vwCl (ax_w 12 ad (cM cyI ad σ)) H → va_S (ax_A 12 ad s.heap.size) s.heap H locs → decode cX8_replace pc = .ok (.return_, 1) → W p l e rm_X8_replace s m args below meth c H locs 0 0 Q (F0 m pc ls []) := by
    intro σ H locs ls pc hf hP hS hd
    cases hf
    rw [hQ]
    exact ax_vret hx hb hr hlocks hP hS hd rfl
  have L54 : ∀ (σ : SM) (s1 : Int32), ∀ (H : Heap) (locs : List Loc) (ls : Array Slot), va_P (dC, dI) vwCl (ax_w 12 ad (cM cyI ad σ)) H → va_S (ax_A 12 ad s.heap.size) s.heap H locs → lv_has ls 2 [(0, .ref (ad 11)), (1, .int x1)] → f_X8_replace_54 x1 σ s1 = some res → W p l e rm_X8_replace s m args below meth c H locs 0 0 Q (F0 m 54 ls [.int s1, .ref (ad 11)]) := by
    intro σ s1  H locs ls hP hS hl hf
    unfold f_X8_replace_54 at hf
    refine p_Model_thrown C0 hT hE hJ hP hS mf_X8_50 dX8_replace_54 (fun H locs hP hS => ?_)
    refine lv_aload_n hx hb dX8_replace_57 rfl (lv_at hl 0 rfl) ?_
    refine g_Model_thrown C0 hT hE hP mf_X8_50 dX8_replace_58 ?_
    refine lv_if_le (tgt := 65) hx hb dX8_replace_61 (by decide) (fun h61 => ?_) (fun h61 => ?_)
    · rw [if_pos h61] at hf
      refine lv_aload_n hx hb dX8_replace_65 rfl (lv_at hl 0 rfl) ?_
      refine lv_iload_n hx hb dX8_replace_66 rfl (lv_at hl 1 rfl) ?_
      refine lv_iconst (v := 0) hx hb dX8_replace_67 (by decide) ?_
      refine lv_aload_n hx hb dX8_replace_68 rfl (lv_at hl 0 rfl) ?_
      refine g_Model_size C0 hT hE hP mf_X8_53 dX8_replace_69 ?_
      obtain ⟨q72, hq, hf⟩ := ob_bind hf
      refine ax_callVv (b := 0) (i := 11) (k := 3) (ci := 6) [.int x1, .int 0, .int ((SMi σ 0 s1).1 1)] C0 hT hJ hE (met_X8_setBytes l dC dI cyI cyE tC ad (SMi σ 0 s1) x1 0 ((SMi σ 0 s1).1 1) _ hq) hP hS mc_X8_setBytes ml_X8_82 mi_X8_setBytes ms_X8_setBytes mz_X8 (by decide +kernel) ⟨rfl, rfl⟩ ⟨by decide, by decide⟩ (by decide) cM_O rfl rfl rfl hl.1 (Nat.le_of_ble_eq_true rfl) dX8_replace_72 ⟨Nat.zero_le _, Nat.zero_le _⟩ (fun H locs hP hS => ?_)
      refine lv_aload_n hx hb dX8_replace_75 rfl (lv_at hl 0 rfl) ?_
      refine lv_iconst (v := 0) hx hb dX8_replace_76 (by decide) ?_
      refine p_Model_size C0 hT hE hJ hP hS mf_X8_53 dX8_replace_77 (fun H locs hP hS => ?_)
      exact hret _ _ _ _ _ hf hP hS dX8_replace_80
    · rw [if_neg h61] at hf
      exact hret _ _ _ _ _ hf hP hS dX8_replace_64
  unfold f_X8_replace at hf
  refine lv_aload_n hx hb dX8_replace_0 rfl (lv_at hl 0 rfl) ?_
  refine lv_aload_n hx hb dX8_replace_1 rfl (lv_at hl 0 rfl) ?_
  refine lv_iload_n hx hb dX8_replace_2 rfl (lv_at hl 1 rfl) ?_
  obtain ⟨q3, hq, hf⟩ := ob_bind hf
  refine ax_callVi (C := "") (b := 0) (i := 11) (k := 1) (ci := 6) [.int x1] C0 hT hJ hE (met_X8_isFile l dC dI cyI cyE tC ad σ x1 _ hq) hP hS mc_X8_isFile ml_X8_85 mi_X8_isFile ms_X8_isFile mz_X8 (by decide +kernel) ⟨rfl, rfl⟩ ⟨by decide, by decide⟩ (by decide) cM_O rfl rfl rfl hl.1 (Nat.le_of_ble_eq_true rfl) dX8_replace_3 ⟨Nat.zero_le _, Nat.zero_le _⟩ (fun H locs hP hS => ?_)
  refine lv_if_ne (tgt := 13) hx hb dX8_replace_6 (by decide) (fun h6 => ?_) (fun h6 => ?_)
  · rw [if_neg h6] at hf
    refine lv_aload_n hx hb dX8_replace_13 rfl (lv_at hl 0 rfl) ?_
    refine g_Model_size C0 hT hE hP mf_X8_53 dX8_replace_14 ?_
    refine lv_sipush (v := 1500) hx hb dX8_replace_17 (by decide) ?_
    refine lv_icmp_le (tgt := 27) hx hb dX8_replace_20 (by decide) (fun h20 => ?_) (fun h20 => ?_)
    · rw [if_pos h20] at hf
      refine lv_aload_n hx hb dX8_replace_27 rfl (lv_at hl 0 rfl) ?_
      obtain ⟨q28, hq, hf⟩ := ob_bind hf
      refine ax_callVi (C := "") (b := 0) (i := 11) (k := 0) (ci := 6) [] C0 hT hJ hE (met_X8_total l dC dI cyI cyE tC ad q3.2 _ hq) hP hS mc_X8_total ml_X8_74 mi_X8_total ms_X8_total mz_X8 (by decide +kernel) ⟨rfl, rfl⟩ ⟨by decide, by decide⟩ (by decide) cM_O rfl rfl rfl hl.1 (Nat.le_of_ble_eq_true rfl) dX8_replace_28 ⟨Nat.zero_le _, Nat.zero_le _⟩ (fun H locs hP hS => ?_)
      refine lv_aload_n hx hb dX8_replace_31 rfl (lv_at hl 0 rfl) ?_
      refine g_Model_many C0 hT hE hP mf_X8_28 dX8_replace_32 ?_
      refine lv_iload_n hx hb dX8_replace_35 rfl (lv_at hl 1 rfl) ?_
      obtain ⟨hin, hf⟩ := ob_if hf
      refine aM_ld (a := 6) (by decide) C0 hT hE hP (inb_in hin) dX8_replace_36 ?_
      refine lv_isub hx hb dX8_replace_37 ?_
      refine lv_aload_n hx hb dX8_replace_38 rfl (lv_at hl 0 rfl) ?_
      refine g_Model_size C0 hT hE hP mf_X8_53 dX8_replace_39 ?_
      refine lv_iadd hx hb dX8_replace_42 ?_
      refine lv_sipush (v := 6000) hx hb dX8_replace_43 (by decide) ?_
      refine lv_icmp_le (tgt := 53) hx hb dX8_replace_46 (by decide) (fun h46 => ?_) (fun h46 => ?_)
      · rw [if_pos h46] at hf
        refine lv_iconst (v := 0) hx hb dX8_replace_53 (by decide) ?_
        exact L54 _ _ _ _ _ hP hS (lv_sub hl [0, 1] rfl) hf
      · rw [if_neg h46] at hf
        refine lv_iconst (v := 3) hx hb dX8_replace_49 (by decide) ?_
        refine lv_goto (tgt := 54) hx hb dX8_replace_50 (by decide) ?_
        exact L54 _ _ _ _ _ hP hS (lv_sub hl [0, 1] rfl) hf
    · rw [if_neg h20] at hf
      refine lv_iconst (v := 2) hx hb dX8_replace_23 (by decide) ?_
      refine lv_goto (tgt := 54) hx hb dX8_replace_24 (by decide) ?_
      exact L54 _ _ _ _ _ hP hS (lv_sub hl [0, 1] rfl) hf
  · rw [if_pos h6] at hf
    refine lv_iconst (v := 1) hx hb dX8_replace_9 (by decide) ?_
    refine lv_goto (tgt := 54) hx hb dX8_replace_10 (by decide) ?_
    exact L54 _ _ _ _ _ hP hS (lv_sub hl [0, 1] rfl) hf
def f_X8_rename_71 (x1 : Int32) (σ : SM) (s1 : Int32) : Option (SM) := if ((SMi σ 0 s1).1 0) ≤ 0 then ((f_X8_setName (SMi σ 0 s1) x1 0 ((SMi σ 0 s1).1 1)).bind fun q89 => some (SMi q89 1 0)) else (some (SMi σ 0 s1))
def f_X8_rename_30 (x1 : Int32) (σ : SM) (s1 : Int32) : Option (SM) := if ((SMi σ 0 s1).1 0) ≤ 0 then ((f_X8_named (SMi σ 0 s1) 0 ((SMi σ 0 s1).1 1) ((SMi σ 0 s1).1 3)).bind fun q51 => if q51.1 = (-1) then (f_X8_rename_71 x1 q51.2 0) else (if q51.1 = x1 then (f_X8_rename_71 x1 q51.2 0) else (f_X8_rename_71 x1 q51.2 3))) else (some (SMi σ 0 s1))
def f_X8_rename (σ : SM) (x1 : Int32) : Option (SM) := (f_X8_isFile σ x1).bind fun q3 => if q3.1 = 0 then (f_X8_rename_30 x1 q3.2 1) else ((f_X8_isName q3.2 0 (q3.2.1 1)).bind fun q19 => if q19.1 = 0 then (f_X8_rename_30 x1 q19.2 2) else (f_X8_rename_30 x1 q19.2 0))
def rm_X8_rename : Room := { frames := 1, cells := 0, slots := 0, locals := 26 }
set_option maxHeartbeats 4000000 in
set_option maxRecDepth 100000 in
theorem met_X8_rename (l : Launch) (dC : Nat → ClassId) (dI : Nat → Nat → Nat) (cyI cyE : ClassId) (tC : Nat) (ad : Nat → Nat) (σ : SM) (x1 : Int32) (res : SM) (hf : f_X8_rename σ x1 = some res) : ax_Mv l dC dI cyI cyE tC 12 (cM cyI ad) ad yX8_rename cX8_rename 3 none rm_X8_rename [.ref (ad 11), .int x1] σ res := by
  intro sz
  refine Met.ofW (cc := cX8_rename) (maxL := 3) (ret := none) (by decide) rfl ?_
  intro p e s m args below meth c s₁ B hml hv
  obtain ⟨hargs, hsz, hP, hJ, hE⟩ := hv
  subst hsz
  have hx := B.exec
  have hb := B.bytes
  have hr := B.returns
  have hlocks := B.notSynchronized
  have hts := atoms_spec (ws := wsY yX8_rename cX8_rename 3 none) B.pre
  have hown : s.vm.findClass RX8 = some m.cls := findClass_of_methodNamed B.named
  have C0 : CallFix p m c cX8_rename 3 s args (wsY yX8_rename cX8_rename 3 none) RX8 := ⟨hx, hb, hml, hown, hts⟩
  have hT : ∀ w ∈ bw, w ∈ wsY yX8_rename cX8_rename 3 none := fun w h => List.mem_cons_of_mem _ h
  have hS : va_S (ax_A 12 ad s.heap.size) s.heap s.heap [] := va_S.rf
  rw [show entryFrame m args 3 = entryFrame m ([.ref (ad 11), .int x1] : List Value).toArray 3 by rw [hargs]]
  have hl := lv_entry ([.ref (ad 11), .int x1]) (n := 3) (Nat.le_of_ble_eq_true rfl)
  rw [lg_entry_eq]
  generalize (lg_sl ([.ref (ad 11), .int x1]) ++ List.replicate (3 - (lg_sl ([.ref (ad 11), .int x1])).length) Slot.unset).toArray = ls at hl ⊢
  have hl : lv_has ls 3 [(0, .ref (ad 11)), (1, .int x1)] := hl
  obtain ⟨Q, hQ⟩ : ∃ Q : State → Prop, Q = MQ below (va_Qv (fun (u : SM) => u = res) (ax_B dC dI 12 (cM cyI ad) ad) (ax_A 12 ad s.heap.size)) args s 0 0 (ax_A 12 ad s.heap.size) := ⟨_, rfl⟩
  show W p l e rm_X8_rename s m args below meth c s.heap [] 0 0 _ _
  rw [← hQ]
  have hret : ∀ (σ : SM) (H : Heap) (locs : List Loc) (ls : Array Slot) (pc : Nat), some σ = some res → va_P (dC, dI) vwCl (ax_w 12 ad (cM cyI ad σ)) H → va_S (ax_A 12 ad s.heap.size) s.heap H locs → decode cX8_rename pc = .ok (.return_, 1) → W p l e rm_X8_rename s m args below meth c H locs 0 0 Q (F0 m pc ls []) := by
    intro σ H locs ls pc hf hP hS hd
    cases hf
    rw [hQ]
    exact ax_vret hx hb hr hlocks hP hS hd rfl
  have L71 : ∀ (σ : SM) (s1 : Int32), ∀ (H : Heap) (locs : List Loc) (ls : Array Slot), va_P (dC, dI) vwCl (ax_w 12 ad (cM cyI ad σ)) H → va_S (ax_A 12 ad s.heap.size) s.heap H locs → lv_has ls 3 [(0, .ref (ad 11)), (1, .int x1)] → f_X8_rename_71 x1 σ s1 = some res → W p l e rm_X8_rename s m args below meth c H locs 0 0 Q (F0 m 71 ls [.int s1, .ref (ad 11)]) := by
    intro σ s1  H locs ls hP hS hl hf
    unfold f_X8_rename_71 at hf
    refine p_Model_thrown C0 hT hE hJ hP hS mf_X8_50 dX8_rename_71 (fun H locs hP hS => ?_)
    refine lv_aload_n hx hb dX8_rename_74 rfl (lv_at hl 0 rfl) ?_
    refine g_Model_thrown C0 hT hE hP mf_X8_50 dX8_rename_75 ?_
    refine lv_if_le (tgt := 82) hx hb dX8_rename_78 (by decide) (fun h78 => ?_) (fun h78 => ?_)
    · rw [if_pos h78] at hf
      refine lv_aload_n hx hb dX8_rename_82 rfl (lv_at hl 0 rfl) ?_
      refine lv_iload_n hx hb dX8_rename_83 rfl (lv_at hl 1 rfl) ?_
      refine lv_iconst (v := 0) hx hb dX8_rename_84 (by decide) ?_
      refine lv_aload_n hx hb dX8_rename_85 rfl (lv_at hl 0 rfl) ?_
      refine g_Model_size C0 hT hE hP mf_X8_53 dX8_rename_86 ?_
      obtain ⟨q89, hq, hf⟩ := ob_bind hf
      refine ax_callVv (b := 0) (i := 11) (k := 3) (ci := 6) [.int x1, .int 0, .int ((SMi σ 0 s1).1 1)] C0 hT hJ hE (met_X8_setName l dC dI cyI cyE tC ad (SMi σ 0 s1) x1 0 ((SMi σ 0 s1).1 1) _ hq) hP hS mc_X8_setName ml_X8_78 mi_X8_setName ms_X8_setName mz_X8 (by decide +kernel) ⟨rfl, rfl⟩ ⟨by decide, by decide⟩ (by decide) cM_O rfl rfl rfl hl.1 (Nat.le_of_ble_eq_true rfl) dX8_rename_89 ⟨Nat.zero_le _, Nat.zero_le _⟩ (fun H locs hP hS => ?_)
      refine lv_aload_n hx hb dX8_rename_92 rfl (lv_at hl 0 rfl) ?_
      refine lv_iconst (v := 0) hx hb dX8_rename_93 (by decide) ?_
      refine p_Model_size C0 hT hE hJ hP hS mf_X8_53 dX8_rename_94 (fun H locs hP hS => ?_)
      exact hret _ _ _ _ _ hf hP hS dX8_rename_97
    · rw [if_neg h78] at hf
      exact hret _ _ _ _ _ hf hP hS dX8_rename_81
  have L30 : ∀ (σ : SM) (s1 : Int32), ∀ (H : Heap) (locs : List Loc) (ls : Array Slot), va_P (dC, dI) vwCl (ax_w 12 ad (cM cyI ad σ)) H → va_S (ax_A 12 ad s.heap.size) s.heap H locs → lv_has ls 3 [(0, .ref (ad 11)), (1, .int x1)] → f_X8_rename_30 x1 σ s1 = some res → W p l e rm_X8_rename s m args below meth c H locs 0 0 Q (F0 m 30 ls [.int s1, .ref (ad 11)]) := by
    intro σ s1  H locs ls hP hS hl hf
    unfold f_X8_rename_30 at hf
    refine p_Model_thrown C0 hT hE hJ hP hS mf_X8_50 dX8_rename_30 (fun H locs hP hS => ?_)
    refine lv_aload_n hx hb dX8_rename_33 rfl (lv_at hl 0 rfl) ?_
    refine g_Model_thrown C0 hT hE hP mf_X8_50 dX8_rename_34 ?_
    refine lv_if_le (tgt := 41) hx hb dX8_rename_37 (by decide) (fun h37 => ?_) (fun h37 => ?_)
    · rw [if_pos h37] at hf
      refine lv_aload_n hx hb dX8_rename_41 rfl (lv_at hl 0 rfl) ?_
      refine lv_iconst (v := 0) hx hb dX8_rename_42 (by decide) ?_
      refine lv_aload_n hx hb dX8_rename_43 rfl (lv_at hl 0 rfl) ?_
      refine g_Model_size C0 hT hE hP mf_X8_53 dX8_rename_44 ?_
      refine lv_aload_n hx hb dX8_rename_47 rfl (lv_at hl 0 rfl) ?_
      refine g_Model_files C0 hT hE hP mf_X8_59 dX8_rename_48 ?_
      obtain ⟨q51, hq, hf⟩ := ob_bind hf
      refine ax_callVi (C := "") (b := 0) (i := 11) (k := 3) (ci := 6) [.int 0, .int ((SMi σ 0 s1).1 1), .int ((SMi σ 0 s1).1 3)] C0 hT hJ hE (met_X8_named l dC dI cyI cyE tC ad (SMi σ 0 s1) 0 ((SMi σ 0 s1).1 1) ((SMi σ 0 s1).1 3) _ hq) hP hS mc_X8_named ml_X8_70 mi_X8_named ms_X8_named mz_X8 (by decide +kernel) ⟨rfl, rfl⟩ ⟨by decide, by decide⟩ (by decide) cM_O rfl rfl rfl hl.1 (Nat.le_of_ble_eq_true rfl) dX8_rename_51 ⟨Nat.zero_le _, Nat.zero_le _⟩ (fun H locs hP hS => ?_)
      refine lv_istore_n (lv' := [(2, .int q51.1), (0, .ref (ad 11)), (1, .int x1)]) hx hb dX8_rename_54 rfl hl (by decide) rfl (fun ls hl => ?_)
      refine lv_aload_n hx hb dX8_rename_55 rfl (lv_at hl 1 rfl) ?_
      refine lv_iload_n hx hb dX8_rename_56 rfl (lv_at hl 0 rfl) ?_
      refine lv_iconst (v := (-1)) hx hb dX8_rename_57 (by decide) ?_
      refine lv_icmp_eq (tgt := 70) hx hb dX8_rename_58 (by decide) (fun h58 => ?_) (fun h58 => ?_)
      · rw [if_pos h58] at hf
        refine lv_iconst (v := 0) hx hb dX8_rename_70 (by decide) ?_
        exact L71 _ _ _ _ _ hP hS (lv_sub hl [1, 2] rfl) hf
      · rw [if_neg h58] at hf
        refine lv_iload_n hx hb dX8_rename_61 rfl (lv_at hl 0 rfl) ?_
        refine lv_iload_n hx hb dX8_rename_62 rfl (lv_at hl 2 rfl) ?_
        refine lv_icmp_eq (tgt := 70) hx hb dX8_rename_63 (by decide) (fun h63 => ?_) (fun h63 => ?_)
        · rw [if_pos h63] at hf
          refine lv_iconst (v := 0) hx hb dX8_rename_70 (by decide) ?_
          exact L71 _ _ _ _ _ hP hS (lv_sub hl [1, 2] rfl) hf
        · rw [if_neg h63] at hf
          refine lv_iconst (v := 3) hx hb dX8_rename_66 (by decide) ?_
          refine lv_goto (tgt := 71) hx hb dX8_rename_67 (by decide) ?_
          exact L71 _ _ _ _ _ hP hS (lv_sub hl [1, 2] rfl) hf
    · rw [if_neg h37] at hf
      exact hret _ _ _ _ _ hf hP hS dX8_rename_40
  unfold f_X8_rename at hf
  refine lv_aload_n hx hb dX8_rename_0 rfl (lv_at hl 0 rfl) ?_
  refine lv_aload_n hx hb dX8_rename_1 rfl (lv_at hl 0 rfl) ?_
  refine lv_iload_n hx hb dX8_rename_2 rfl (lv_at hl 1 rfl) ?_
  obtain ⟨q3, hq, hf⟩ := ob_bind hf
  refine ax_callVi (C := "") (b := 0) (i := 11) (k := 1) (ci := 6) [.int x1] C0 hT hJ hE (met_X8_isFile l dC dI cyI cyE tC ad σ x1 _ hq) hP hS mc_X8_isFile ml_X8_85 mi_X8_isFile ms_X8_isFile mz_X8 (by decide +kernel) ⟨rfl, rfl⟩ ⟨by decide, by decide⟩ (by decide) cM_O rfl rfl rfl hl.1 (Nat.le_of_ble_eq_true rfl) dX8_rename_3 ⟨Nat.zero_le _, Nat.zero_le _⟩ (fun H locs hP hS => ?_)
  refine lv_if_ne (tgt := 13) hx hb dX8_rename_6 (by decide) (fun h6 => ?_) (fun h6 => ?_)
  · rw [if_neg h6] at hf
    refine lv_aload_n hx hb dX8_rename_13 rfl (lv_at hl 0 rfl) ?_
    refine lv_iconst (v := 0) hx hb dX8_rename_14 (by decide) ?_
    refine lv_aload_n hx hb dX8_rename_15 rfl (lv_at hl 0 rfl) ?_
    refine g_Model_size C0 hT hE hP mf_X8_53 dX8_rename_16 ?_
    obtain ⟨q19, hq, hf⟩ := ob_bind hf
    refine ax_callVi (C := "") (b := 0) (i := 11) (k := 2) (ci := 6) [.int 0, .int (q3.2.1 1)] C0 hT hJ hE (met_X8_isName l dC dI cyI cyE tC ad q3.2 0 (q3.2.1 1) _ hq) hP hS mc_X8_isName ml_X8_66 mi_X8_isName ms_X8_isName mz_X8 (by decide +kernel) ⟨rfl, rfl⟩ ⟨by decide, by decide⟩ (by decide) cM_O rfl rfl rfl hl.1 (Nat.le_of_ble_eq_true rfl) dX8_rename_19 ⟨Nat.zero_le _, Nat.zero_le _⟩ (fun H locs hP hS => ?_)
    refine lv_if_ne (tgt := 29) hx hb dX8_rename_22 (by decide) (fun h22 => ?_) (fun h22 => ?_)
    · rw [if_neg h22] at hf
      refine lv_iconst (v := 0) hx hb dX8_rename_29 (by decide) ?_
      exact L30 _ _ _ _ _ hP hS (lv_sub hl [0, 1] rfl) hf
    · rw [if_pos h22] at hf
      refine lv_iconst (v := 2) hx hb dX8_rename_25 (by decide) ?_
      refine lv_goto (tgt := 30) hx hb dX8_rename_26 (by decide) ?_
      exact L30 _ _ _ _ _ hP hS (lv_sub hl [0, 1] rfl) hf
  · rw [if_pos h6] at hf
    refine lv_iconst (v := 1) hx hb dX8_rename_9 (by decide) ?_
    refine lv_goto (tgt := 30) hx hb dX8_rename_10 (by decide) ?_
    exact L30 _ _ _ _ _ hP hS (lv_sub hl [0, 1] rfl) hf
def f_X8_remove_14 (x1 : Int32) (σ : SM) (s1 : Int32) : Option (SM) := if ((SMi σ 0 s1).1 0) = 0 then ((f_X8_goes (SMi σ 0 s1) x1).bind fun q26 => some q26) else (some (SMi σ 0 s1))
def f_X8_remove (σ : SM) (x1 : Int32) : Option (SM) := (f_X8_isFile σ x1).bind fun q3 => if q3.1 = 0 then (f_X8_remove_14 x1 q3.2 1) else (f_X8_remove_14 x1 q3.2 0)
def rm_X8_remove : Room := { frames := 2, cells := 0, slots := 0, locals := 45 }
set_option maxHeartbeats 4000000 in
set_option maxRecDepth 100000 in
theorem met_X8_remove (l : Launch) (dC : Nat → ClassId) (dI : Nat → Nat → Nat) (cyI cyE : ClassId) (tC : Nat) (ad : Nat → Nat) (σ : SM) (x1 : Int32) (res : SM) (hf : f_X8_remove σ x1 = some res) : ax_Mv l dC dI cyI cyE tC 12 (cM cyI ad) ad yX8_remove cX8_remove 2 none rm_X8_remove [.ref (ad 11), .int x1] σ res := by
  intro sz
  refine Met.ofW (cc := cX8_remove) (maxL := 2) (ret := none) (by decide) rfl ?_
  intro p e s m args below meth c s₁ B hml hv
  obtain ⟨hargs, hsz, hP, hJ, hE⟩ := hv
  subst hsz
  have hx := B.exec
  have hb := B.bytes
  have hr := B.returns
  have hlocks := B.notSynchronized
  have hts := atoms_spec (ws := wsY yX8_remove cX8_remove 2 none) B.pre
  have hown : s.vm.findClass RX8 = some m.cls := findClass_of_methodNamed B.named
  have C0 : CallFix p m c cX8_remove 2 s args (wsY yX8_remove cX8_remove 2 none) RX8 := ⟨hx, hb, hml, hown, hts⟩
  have hT : ∀ w ∈ bw, w ∈ wsY yX8_remove cX8_remove 2 none := fun w h => List.mem_cons_of_mem _ h
  have hS : va_S (ax_A 12 ad s.heap.size) s.heap s.heap [] := va_S.rf
  rw [show entryFrame m args 2 = entryFrame m ([.ref (ad 11), .int x1] : List Value).toArray 2 by rw [hargs]]
  have hl := lv_entry ([.ref (ad 11), .int x1]) (n := 2) (Nat.le_of_ble_eq_true rfl)
  rw [lg_entry_eq]
  generalize (lg_sl ([.ref (ad 11), .int x1]) ++ List.replicate (2 - (lg_sl ([.ref (ad 11), .int x1])).length) Slot.unset).toArray = ls at hl ⊢
  have hl : lv_has ls 2 [(0, .ref (ad 11)), (1, .int x1)] := hl
  obtain ⟨Q, hQ⟩ : ∃ Q : State → Prop, Q = MQ below (va_Qv (fun (u : SM) => u = res) (ax_B dC dI 12 (cM cyI ad) ad) (ax_A 12 ad s.heap.size)) args s 0 0 (ax_A 12 ad s.heap.size) := ⟨_, rfl⟩
  show W p l e rm_X8_remove s m args below meth c s.heap [] 0 0 _ _
  rw [← hQ]
  have hret : ∀ (σ : SM) (H : Heap) (locs : List Loc) (ls : Array Slot) (pc : Nat), some σ = some res → va_P (dC, dI) vwCl (ax_w 12 ad (cM cyI ad σ)) H → va_S (ax_A 12 ad s.heap.size) s.heap H locs → decode cX8_remove pc = .ok (.return_, 1) → W p l e rm_X8_remove s m args below meth c H locs 0 0 Q (F0 m pc ls []) := by
    intro σ H locs ls pc hf hP hS hd
    cases hf
    rw [hQ]
    exact ax_vret hx hb hr hlocks hP hS hd rfl
  have L14 : ∀ (σ : SM) (s1 : Int32), ∀ (H : Heap) (locs : List Loc) (ls : Array Slot), va_P (dC, dI) vwCl (ax_w 12 ad (cM cyI ad σ)) H → va_S (ax_A 12 ad s.heap.size) s.heap H locs → lv_has ls 2 [(0, .ref (ad 11)), (1, .int x1)] → f_X8_remove_14 x1 σ s1 = some res → W p l e rm_X8_remove s m args below meth c H locs 0 0 Q (F0 m 14 ls [.int s1, .ref (ad 11)]) := by
    intro σ s1  H locs ls hP hS hl hf
    unfold f_X8_remove_14 at hf
    refine p_Model_thrown C0 hT hE hJ hP hS mf_X8_50 dX8_remove_14 (fun H locs hP hS => ?_)
    refine lv_aload_n hx hb dX8_remove_17 rfl (lv_at hl 0 rfl) ?_
    refine g_Model_thrown C0 hT hE hP mf_X8_50 dX8_remove_18 ?_
    refine lv_if_ne (tgt := 29) hx hb dX8_remove_21 (by decide) (fun h21 => ?_) (fun h21 => ?_)
    · rw [if_neg h21] at hf
      exact hret _ _ _ _ _ hf hP hS dX8_remove_29
    · rw [if_pos h21] at hf
      refine lv_aload_n hx hb dX8_remove_24 rfl (lv_at hl 0 rfl) ?_
      refine lv_iload_n hx hb dX8_remove_25 rfl (lv_at hl 1 rfl) ?_
      obtain ⟨q26, hq, hf⟩ := ob_bind hf
      refine ax_callVv (b := 0) (i := 11) (k := 1) (ci := 6) [.int x1] C0 hT hJ hE (met_X8_goes l dC dI cyI cyE tC ad (SMi σ 0 s1) x1 _ hq) hP hS mc_X8_goes ml_X8_89 mi_X8_goes ms_X8_goes mz_X8 (by decide +kernel) ⟨rfl, rfl⟩ ⟨by decide, by decide⟩ (by decide) cM_O rfl rfl rfl hl.1 (Nat.le_of_ble_eq_true rfl) dX8_remove_26 ⟨Nat.zero_le _, Nat.zero_le _⟩ (fun H locs hP hS => ?_)
      exact hret _ _ _ _ _ hf hP hS dX8_remove_29
  unfold f_X8_remove at hf
  refine lv_aload_n hx hb dX8_remove_0 rfl (lv_at hl 0 rfl) ?_
  refine lv_aload_n hx hb dX8_remove_1 rfl (lv_at hl 0 rfl) ?_
  refine lv_iload_n hx hb dX8_remove_2 rfl (lv_at hl 1 rfl) ?_
  obtain ⟨q3, hq, hf⟩ := ob_bind hf
  refine ax_callVi (C := "") (b := 0) (i := 11) (k := 1) (ci := 6) [.int x1] C0 hT hJ hE (met_X8_isFile l dC dI cyI cyE tC ad σ x1 _ hq) hP hS mc_X8_isFile ml_X8_85 mi_X8_isFile ms_X8_isFile mz_X8 (by decide +kernel) ⟨rfl, rfl⟩ ⟨by decide, by decide⟩ (by decide) cM_O rfl rfl rfl hl.1 (Nat.le_of_ble_eq_true rfl) dX8_remove_3 ⟨Nat.zero_le _, Nat.zero_le _⟩ (fun H locs hP hS => ?_)
  refine lv_if_eq (tgt := 13) hx hb dX8_remove_6 (by decide) (fun h6 => ?_) (fun h6 => ?_)
  · rw [if_pos h6] at hf
    refine lv_iconst (v := 1) hx hb dX8_remove_13 (by decide) ?_
    exact L14 _ _ _ _ _ hP hS (lv_sub hl [0, 1] rfl) hf
  · rw [if_neg h6] at hf
    refine lv_iconst (v := 0) hx hb dX8_remove_9 (by decide) ?_
    refine lv_goto (tgt := 14) hx hb dX8_remove_10 (by decide) ?_
    exact L14 _ _ _ _ _ hP hS (lv_sub hl [0, 1] rfl) hf
def f_X8_isAhead_73 (x1 : Int32) (x2 : Int32) (σ : SM)  : Option (Int32 × SM) := if inb x1 (capM 4) = true then (if inb x2 (capM 4) = true then (if (σ.2 4 x2.toNatClampNeg) ≤ (σ.2 4 x1.toNatClampNeg) then (some (0, σ)) else (some (1, σ))) else none) else none
def f_X8_isAhead_53 (x1 : Int32) (x2 : Int32) (σ : SM) (x3 : Int32) : Option (Int32 × SM) := if inb x1 (capM 4) = true then (if x3 = (σ.2 4 x1.toNatClampNeg) then (f_X8_isAhead_73 x1 x2 σ ) else (if inb x2 (capM 4) = true then (if x3 = (σ.2 4 x2.toNatClampNeg) then (f_X8_isAhead_73 x1 x2 σ ) else (if inb ((30 * x1) + x3) (capM 3) = true then (if inb ((30 * x2) + x3) (capM 3) = true then (if (σ.2 3 ((30 * x2) + x3).toNatClampNeg) ≤ (σ.2 3 ((30 * x1) + x3).toNatClampNeg) then (some (0, σ)) else (some (1, σ))) else none) else none)) else none)) else none
def f_X8_isAhead_2 (x1 : Int32) (x2 : Int32) : Nat → SM → Int32 → Option (Int32 × SM)
  | 0, _, _ => none
  | n + 1, σ, x3 => if inb x1 (capM 4) = true then (if (σ.2 4 x1.toNatClampNeg) ≤ x3 then (f_X8_isAhead_53 x1 x2 σ x3) else (if inb x2 (capM 4) = true then (if (σ.2 4 x2.toNatClampNeg) ≤ x3 then (f_X8_isAhead_53 x1 x2 σ x3) else (if inb ((30 * x1) + x3) (capM 3) = true then (if inb ((30 * x2) + x3) (capM 3) = true then (if (σ.2 3 ((30 * x1) + x3).toNatClampNeg) = (σ.2 3 ((30 * x2) + x3).toNatClampNeg) then (f_X8_isAhead_2 x1 x2 n σ (x3 + 1)) else (f_X8_isAhead_53 x1 x2 σ x3)) else none) else none)) else none)) else none
def f_X8_isAhead (σ : SM) (x1 : Int32) (x2 : Int32) : Option (Int32 × SM) := f_X8_isAhead_2 x1 x2 fu σ 0
def rm_X8_isAhead : Room := { frames := 0, cells := 0, slots := 0, locals := 0 }
set_option maxHeartbeats 4000000 in
set_option maxRecDepth 100000 in
theorem met_X8_isAhead (l : Launch) (dC : Nat → ClassId) (dI : Nat → Nat → Nat) (cyI cyE : ClassId) (tC : Nat) (ad : Nat → Nat) (σ : SM) (x1 : Int32) (x2 : Int32) (res : Int32 × SM) (hf : f_X8_isAhead σ x1 x2 = some res) : ax_Mi l dC dI cyI cyE tC 12 (cM cyI ad) ad yX8_isAhead cX8_isAhead 4 (some .boolean) rm_X8_isAhead [.ref (ad 11), .int x1, .int x2] σ res.1 res.2 := by
  intro sz
  refine Met.ofW (cc := cX8_isAhead) (maxL := 4) (ret := (some .boolean)) (by decide) rfl ?_
  intro p e s m args below meth c s₁ B hml hv
  obtain ⟨hargs, hsz, hP, hJ, hE⟩ := hv
  subst hsz
  have hx := B.exec
  have hb := B.bytes
  have hr := B.returns
  have hlocks := B.notSynchronized
  have hts := atoms_spec (ws := wsY yX8_isAhead cX8_isAhead 4 (some .boolean)) B.pre
  have hown : s.vm.findClass RX8 = some m.cls := findClass_of_methodNamed B.named
  have C0 : CallFix p m c cX8_isAhead 4 s args (wsY yX8_isAhead cX8_isAhead 4 (some .boolean)) RX8 := ⟨hx, hb, hml, hown, hts⟩
  have hT : ∀ w ∈ bw, w ∈ wsY yX8_isAhead cX8_isAhead 4 (some .boolean) := fun w h => List.mem_cons_of_mem _ h
  have hS : va_S (ax_A 12 ad s.heap.size) s.heap s.heap [] := va_S.rf
  rw [show entryFrame m args 4 = entryFrame m ([.ref (ad 11), .int x1, .int x2] : List Value).toArray 4 by rw [hargs]]
  have hl := lv_entry ([.ref (ad 11), .int x1, .int x2]) (n := 4) (Nat.le_of_ble_eq_true rfl)
  rw [lg_entry_eq]
  generalize (lg_sl ([.ref (ad 11), .int x1, .int x2]) ++ List.replicate (4 - (lg_sl ([.ref (ad 11), .int x1, .int x2])).length) Slot.unset).toArray = ls at hl ⊢
  have hl : lv_has ls 4 [(0, .ref (ad 11)), (1, .int x1), (2, .int x2)] := hl
  obtain ⟨Q, hQ⟩ : ∃ Q : State → Prop, Q = MQ below (va_Qi (fun (a : Int32) (u : SM) => a = res.1 ∧ u = res.2) (ax_B dC dI 12 (cM cyI ad) ad) (ax_A 12 ad s.heap.size)) args s 0 0 (ax_A 12 ad s.heap.size) := ⟨_, rfl⟩
  show W p l e rm_X8_isAhead s m args below meth c s.heap [] 0 0 _ _
  rw [← hQ]
  have hret : ∀ (v : Int32) (σ : SM) (H : Heap) (locs : List Loc) (ls : Array Slot) (pc : Nat), narrow .boolean (.int v) = .int v → some (v, σ) = some res → va_P (dC, dI) vwCl (ax_w 12 ad (cM cyI ad σ)) H → va_S (ax_A 12 ad s.heap.size) s.heap H locs → decode cX8_isAhead pc = .ok (.ireturn, 1) → W p l e rm_X8_isAhead s m args below meth c H locs 0 0 Q (F0 m pc ls [.int v]) := by
    intro v σ H locs ls pc hn hf hP hS hd
    cases hf
    rw [hQ]
    exact ax_iret hx hb hr hlocks hn hP hS hd rfl rfl
  have L73 : ∀ (σ : SM) , ∀ (H : Heap) (locs : List Loc) (ls : Array Slot), va_P (dC, dI) vwCl (ax_w 12 ad (cM cyI ad σ)) H → va_S (ax_A 12 ad s.heap.size) s.heap H locs → lv_has ls 4 [(0, .ref (ad 11)), (1, .int x1), (2, .int x2)] → f_X8_isAhead_73 x1 x2 σ  = some res → W p l e rm_X8_isAhead s m args below meth c H locs 0 0 Q (F0 m 73 ls []) := by
    intro σ   H locs ls hP hS hl hf
    unfold f_X8_isAhead_73 at hf
    refine lv_aload_n hx hb dX8_isAhead_73 rfl (lv_at hl 0 rfl) ?_
    refine g_Model_nameSize C0 hT hE hP mf_X8_22 dX8_isAhead_74 ?_
    refine lv_iload_n hx hb dX8_isAhead_77 rfl (lv_at hl 1 rfl) ?_
    obtain ⟨hin, hf⟩ := ob_if hf
    refine aM_ld (a := 4) (by decide) C0 hT hE hP (inb_in hin) dX8_isAhead_78 ?_
    refine lv_aload_n hx hb dX8_isAhead_79 rfl (lv_at hl 0 rfl) ?_
    refine g_Model_nameSize C0 hT hE hP mf_X8_22 dX8_isAhead_80 ?_
    refine lv_iload_n hx hb dX8_isAhead_83 rfl (lv_at hl 2 rfl) ?_
    obtain ⟨hin, hf⟩ := ob_if hf
    refine aM_ld (a := 4) (by decide) C0 hT hE hP (inb_in hin) dX8_isAhead_84 ?_
    refine lv_icmp_ge (tgt := 92) hx hb dX8_isAhead_85 (by decide) (fun h85 => ?_) (fun h85 => ?_)
    · rw [if_pos h85] at hf
      refine lv_iconst (v := 0) hx hb dX8_isAhead_92 (by decide) ?_
      exact hret _ _ _ _ _ _ rfl hf hP hS dX8_isAhead_93
    · rw [if_neg h85] at hf
      refine lv_iconst (v := 1) hx hb dX8_isAhead_88 (by decide) ?_
      refine lv_goto (tgt := 93) hx hb dX8_isAhead_89 (by decide) ?_
      exact hret _ _ _ _ _ _ rfl hf hP hS dX8_isAhead_93
  have L53 : ∀ (σ : SM) (x3 : Int32), ∀ (H : Heap) (locs : List Loc) (ls : Array Slot), va_P (dC, dI) vwCl (ax_w 12 ad (cM cyI ad σ)) H → va_S (ax_A 12 ad s.heap.size) s.heap H locs → lv_has ls 4 [(0, .ref (ad 11)), (1, .int x1), (2, .int x2), (3, .int x3)] → f_X8_isAhead_53 x1 x2 σ x3 = some res → W p l e rm_X8_isAhead s m args below meth c H locs 0 0 Q (F0 m 53 ls []) := by
    intro σ x3  H locs ls hP hS hl hf
    unfold f_X8_isAhead_53 at hf
    refine lv_iload_n hx hb dX8_isAhead_53 rfl (lv_at hl 3 rfl) ?_
    refine lv_aload_n hx hb dX8_isAhead_54 rfl (lv_at hl 0 rfl) ?_
    refine g_Model_nameSize C0 hT hE hP mf_X8_22 dX8_isAhead_55 ?_
    refine lv_iload_n hx hb dX8_isAhead_58 rfl (lv_at hl 1 rfl) ?_
    obtain ⟨hin, hf⟩ := ob_if hf
    refine aM_ld (a := 4) (by decide) C0 hT hE hP (inb_in hin) dX8_isAhead_59 ?_
    refine lv_icmp_eq (tgt := 73) hx hb dX8_isAhead_60 (by decide) (fun h60 => ?_) (fun h60 => ?_)
    · rw [if_pos h60] at hf
      exact L73 _  _ _ _ hP hS (lv_sub hl [0, 1, 2] rfl) hf
    · rw [if_neg h60] at hf
      refine lv_iload_n hx hb dX8_isAhead_63 rfl (lv_at hl 3 rfl) ?_
      refine lv_aload_n hx hb dX8_isAhead_64 rfl (lv_at hl 0 rfl) ?_
      refine g_Model_nameSize C0 hT hE hP mf_X8_22 dX8_isAhead_65 ?_
      refine lv_iload_n hx hb dX8_isAhead_68 rfl (lv_at hl 2 rfl) ?_
      obtain ⟨hin, hf⟩ := ob_if hf
      refine aM_ld (a := 4) (by decide) C0 hT hE hP (inb_in hin) dX8_isAhead_69 ?_
      refine lv_icmp_ne (tgt := 94) hx hb dX8_isAhead_70 (by decide) (fun h70 => ?_) (fun h70 => ?_)
      · rw [if_neg h70] at hf
        refine lv_aload_n hx hb dX8_isAhead_94 rfl (lv_at hl 0 rfl) ?_
        refine g_Model_names C0 hT hE hP mf_X8_19 dX8_isAhead_95 ?_
        refine lv_bipush (v := 30) hx hb dX8_isAhead_98 (by decide) ?_
        refine lv_iload_n hx hb dX8_isAhead_100 rfl (lv_at hl 1 rfl) ?_
        refine lv_imul hx hb dX8_isAhead_101 ?_
        refine lv_iload_n hx hb dX8_isAhead_102 rfl (lv_at hl 3 rfl) ?_
        refine lv_iadd hx hb dX8_isAhead_103 ?_
        obtain ⟨hin, hf⟩ := ob_if hf
        refine aM_ld (a := 3) (by decide) C0 hT hE hP (inb_in hin) dX8_isAhead_104 ?_
        refine lv_aload_n hx hb dX8_isAhead_105 rfl (lv_at hl 0 rfl) ?_
        refine g_Model_names C0 hT hE hP mf_X8_19 dX8_isAhead_106 ?_
        refine lv_bipush (v := 30) hx hb dX8_isAhead_109 (by decide) ?_
        refine lv_iload_n hx hb dX8_isAhead_111 rfl (lv_at hl 2 rfl) ?_
        refine lv_imul hx hb dX8_isAhead_112 ?_
        refine lv_iload_n hx hb dX8_isAhead_113 rfl (lv_at hl 3 rfl) ?_
        refine lv_iadd hx hb dX8_isAhead_114 ?_
        obtain ⟨hin, hf⟩ := ob_if hf
        refine aM_ld (a := 3) (by decide) C0 hT hE hP (inb_in hin) dX8_isAhead_115 ?_
        refine lv_icmp_ge (tgt := 123) hx hb dX8_isAhead_116 (by decide) (fun h116 => ?_) (fun h116 => ?_)
        · rw [if_pos h116] at hf
          refine lv_iconst (v := 0) hx hb dX8_isAhead_123 (by decide) ?_
          exact hret _ _ _ _ _ _ rfl hf hP hS dX8_isAhead_124
        · rw [if_neg h116] at hf
          refine lv_iconst (v := 1) hx hb dX8_isAhead_119 (by decide) ?_
          refine lv_goto (tgt := 124) hx hb dX8_isAhead_120 (by decide) ?_
          exact hret _ _ _ _ _ _ rfl hf hP hS dX8_isAhead_124
      · rw [if_pos h70] at hf
        exact L73 _  _ _ _ hP hS (lv_sub hl [0, 1, 2] rfl) hf
  have L2 : ∀ (n : Nat), ∀ (σ : SM) (x3 : Int32), ∀ (H : Heap) (locs : List Loc) (ls : Array Slot), va_P (dC, dI) vwCl (ax_w 12 ad (cM cyI ad σ)) H → va_S (ax_A 12 ad s.heap.size) s.heap H locs → lv_has ls 4 [(0, .ref (ad 11)), (1, .int x1), (2, .int x2), (3, .int x3)] → f_X8_isAhead_2 x1 x2 n σ x3 = some res → W p l e rm_X8_isAhead s m args below meth c H locs 0 0 Q (F0 m 2 ls []) := by
    intro n
    induction n with
    | zero =>
      intro σ x3  H locs ls hP hS hl hf
      cases hf
    | succ n ih =>
      intro σ x3  H locs ls hP hS hl hf
      rw [f_X8_isAhead_2] at hf
      refine lv_iload_n hx hb dX8_isAhead_2 rfl (lv_at hl 3 rfl) ?_
      refine lv_aload_n hx hb dX8_isAhead_3 rfl (lv_at hl 0 rfl) ?_
      refine g_Model_nameSize C0 hT hE hP mf_X8_22 dX8_isAhead_4 ?_
      refine lv_iload_n hx hb dX8_isAhead_7 rfl (lv_at hl 1 rfl) ?_
      obtain ⟨hin, hf⟩ := ob_if hf
      refine aM_ld (a := 4) (by decide) C0 hT hE hP (inb_in hin) dX8_isAhead_8 ?_
      refine lv_icmp_ge (tgt := 53) hx hb dX8_isAhead_9 (by decide) (fun h9 => ?_) (fun h9 => ?_)
      · rw [if_pos h9] at hf
        exact L53 _ _ _ _ _ hP hS (lv_sub hl [0, 1, 2, 3] rfl) hf
      · rw [if_neg h9] at hf
        refine lv_iload_n hx hb dX8_isAhead_12 rfl (lv_at hl 3 rfl) ?_
        refine lv_aload_n hx hb dX8_isAhead_13 rfl (lv_at hl 0 rfl) ?_
        refine g_Model_nameSize C0 hT hE hP mf_X8_22 dX8_isAhead_14 ?_
        refine lv_iload_n hx hb dX8_isAhead_17 rfl (lv_at hl 2 rfl) ?_
        obtain ⟨hin, hf⟩ := ob_if hf
        refine aM_ld (a := 4) (by decide) C0 hT hE hP (inb_in hin) dX8_isAhead_18 ?_
        refine lv_icmp_ge (tgt := 53) hx hb dX8_isAhead_19 (by decide) (fun h19 => ?_) (fun h19 => ?_)
        · rw [if_pos h19] at hf
          exact L53 _ _ _ _ _ hP hS (lv_sub hl [0, 1, 2, 3] rfl) hf
        · rw [if_neg h19] at hf
          refine lv_aload_n hx hb dX8_isAhead_22 rfl (lv_at hl 0 rfl) ?_
          refine g_Model_names C0 hT hE hP mf_X8_19 dX8_isAhead_23 ?_
          refine lv_bipush (v := 30) hx hb dX8_isAhead_26 (by decide) ?_
          refine lv_iload_n hx hb dX8_isAhead_28 rfl (lv_at hl 1 rfl) ?_
          refine lv_imul hx hb dX8_isAhead_29 ?_
          refine lv_iload_n hx hb dX8_isAhead_30 rfl (lv_at hl 3 rfl) ?_
          refine lv_iadd hx hb dX8_isAhead_31 ?_
          obtain ⟨hin, hf⟩ := ob_if hf
          refine aM_ld (a := 3) (by decide) C0 hT hE hP (inb_in hin) dX8_isAhead_32 ?_
          refine lv_aload_n hx hb dX8_isAhead_33 rfl (lv_at hl 0 rfl) ?_
          refine g_Model_names C0 hT hE hP mf_X8_19 dX8_isAhead_34 ?_
          refine lv_bipush (v := 30) hx hb dX8_isAhead_37 (by decide) ?_
          refine lv_iload_n hx hb dX8_isAhead_39 rfl (lv_at hl 2 rfl) ?_
          refine lv_imul hx hb dX8_isAhead_40 ?_
          refine lv_iload_n hx hb dX8_isAhead_41 rfl (lv_at hl 3 rfl) ?_
          refine lv_iadd hx hb dX8_isAhead_42 ?_
          obtain ⟨hin, hf⟩ := ob_if hf
          refine aM_ld (a := 3) (by decide) C0 hT hE hP (inb_in hin) dX8_isAhead_43 ?_
          refine lv_icmp_ne (tgt := 53) hx hb dX8_isAhead_44 (by decide) (fun h44 => ?_) (fun h44 => ?_)
          · rw [if_neg h44] at hf
            exact L53 _ _ _ _ _ hP hS (lv_sub hl [0, 1, 2, 3] rfl) hf
          · rw [if_pos h44] at hf
            refine lv_iinc (v := x3 + 1) (lv' := [(3, .int (x3 + 1)), (0, .ref (ad 11)), (1, .int x1), (2, .int x2)]) hx hb dX8_isAhead_47 hl (k := 3) rfl rfl (by decide) rfl (fun ls hl => ?_)
            refine lv_goto (tgt := 2) hx hb dX8_isAhead_50 (by decide) ?_
            exact ih _ _ _ _ _ hP hS (lv_sub hl [1, 2, 3, 0] rfl) hf
  unfold f_X8_isAhead at hf
  refine lv_iconst (v := 0) hx hb dX8_isAhead_0 (by decide) ?_
  refine lv_istore_n (lv' := [(3, .int 0), (0, .ref (ad 11)), (1, .int x1), (2, .int x2)]) hx hb dX8_isAhead_1 rfl hl (by decide) rfl (fun ls hl => ?_)
  exact L2 fu _ _ _ _ _ hP hS (lv_sub hl [1, 2, 3, 0] rfl) hf
