def f_X5_putInOrder_78 (k2 : SD → Int32 → Option (SD)) (σ : SD) (x1 : Int32) : Option (SD) := k2 σ (x1 + 1)
def f_X5_putInOrder_12 (k2 : SD → Int32 → Option (SD)) : Nat → SD → Int32 → Int32 → Option (SD)
  | 0, _, _, _ => none
  | n + 1, σ, x1, x2 => if x2 ≤ 0 then (f_X5_putInOrder_78 k2 σ x1) else (if inb x2 20 = true then (if σ.2.2.2 x2.toNatClampNeg < 20 then (if inb (x2 - 1) 20 = true then (if σ.2.2.2 (x2 - 1).toNatClampNeg < 20 then ((f_X4_isNameAhead σ (5 + (σ.2.2.2 x2.toNatClampNeg)) (5 + (σ.2.2.2 (x2 - 1).toNatClampNeg))).bind fun q36 => if q36.1 = 0 then (f_X5_putInOrder_78 k2 q36.2 x1) else (if inb (x2 - 1) 20 = true then (if q36.2.2.2.2 (x2 - 1).toNatClampNeg < 20 then (if inb x2 20 = true then (if q36.2.2.2.2 x2.toNatClampNeg < 20 then (if inb (x2 - 1) 20 = true then (if inb x2 20 = true then (f_X5_putInOrder_12 k2 n (SDe (SDe q36.2 (x2 - 1).toNatClampNeg (q36.2.2.2.2 x2.toNatClampNeg)) x2.toNatClampNeg (q36.2.2.2.2 (x2 - 1).toNatClampNeg)) x1 (x2 + (-1))) else none) else none) else none) else none) else none) else none)) else none) else none) else none) else none)
def f_X5_putInOrder_2 : Nat → SD → Int32 → Option (SD)
  | 0, _, _ => none
  | n + 1, σ, x1 => if (σ.1 5 0) ≤ x1 then (some σ) else (f_X5_putInOrder_12 (f_X5_putInOrder_2 n) fu σ x1 x1)
def f_X5_putInOrder (σ : SD) : Option (SD) := f_X5_putInOrder_2 fu σ 1
def rm_X5_putInOrder : Room := { frames := 2, cells := 0, slots := 0, locals := 43 }
set_option maxHeartbeats 4000000 in
set_option maxRecDepth 100000 in
theorem met_X5_putInOrder (l : Launch) (dC : Nat → ClassId) (dI : Nat → Nat → Nat) (cyI cyE : ClassId) (tC : Nat) (ad : Nat → Nat) (σ : SD) (res : SD) (hf : f_X5_putInOrder σ = some res) : ax_Mv l dC dI cyI cyE tC 77 (cD cyI cyE ad) ad yX5_putInOrder cX5_putInOrder 4 none rm_X5_putInOrder [.ref (ad 75)] σ res := by
  intro sz
  refine Met.ofW (cc := cX5_putInOrder) (maxL := 4) (ret := none) (by decide) rfl ?_
  intro p e s m args below meth c s₁ B hml hv
  obtain ⟨hargs, hsz, hP, hJ, hE⟩ := hv
  subst hsz
  have hx := B.exec
  have hb := B.bytes
  have hr := B.returns
  have hlocks := B.notSynchronized
  have hts := atoms_spec (ws := wsY yX5_putInOrder cX5_putInOrder 4 none) B.pre
  have hown : s.vm.findClass RX5 = some m.cls := findClass_of_methodNamed B.named
  have C0 : CallFix p m c cX5_putInOrder 4 s args (wsY yX5_putInOrder cX5_putInOrder 4 none) RX5 := ⟨hx, hb, hml, hown, hts⟩
  have hT : ∀ w ∈ bw, w ∈ wsY yX5_putInOrder cX5_putInOrder 4 none := fun w h => List.mem_cons_of_mem _ h
  have hS : va_S (ax_A 77 ad s.heap.size) s.heap s.heap [] := va_S.rf
  rw [show entryFrame m args 4 = entryFrame m ([.ref (ad 75)] : List Value).toArray 4 by rw [hargs]]
  have hl := lv_entry ([.ref (ad 75)]) (n := 4) (Nat.le_of_ble_eq_true rfl)
  rw [lg_entry_eq]
  generalize (lg_sl ([.ref (ad 75)]) ++ List.replicate (4 - (lg_sl ([.ref (ad 75)])).length) Slot.unset).toArray = ls at hl ⊢
  have hl : lv_has ls 4 [(0, .ref (ad 75))] := hl
  obtain ⟨Q, hQ⟩ : ∃ Q : State → Prop, Q = MQ below (va_Qv (fun (u : SD) => u = res) (ax_B dC dI 77 (cD cyI cyE ad) ad) (ax_A 77 ad s.heap.size)) args s 0 0 (ax_A 77 ad s.heap.size) := ⟨_, rfl⟩
  show W p l e rm_X5_putInOrder s m args below meth c s.heap [] 0 0 _ _
  rw [← hQ]
  have hret : ∀ (σ : SD) (H : Heap) (locs : List Loc) (ls : Array Slot) (pc : Nat), some σ = some res → va_P (dC, dI) vwCl (ax_w 77 ad (cD cyI cyE ad σ)) H → va_S (ax_A 77 ad s.heap.size) s.heap H locs → decode cX5_putInOrder pc = .ok (.return_, 1) → W p l e rm_X5_putInOrder s m args below meth c H locs 0 0 Q (F0 m pc ls []) := by
    intro σ H locs ls pc hf hP hS hd
    cases hf
    rw [hQ]
    exact ax_vret hx hb hr hlocks hP hS hd rfl
  have L78 : ∀ (k2 : SD → Int32 → Option (SD)), (∀ (σ : SD) (x1 : Int32), ∀ (H : Heap) (locs : List Loc) (ls : Array Slot), va_P (dC, dI) vwCl (ax_w 77 ad (cD cyI cyE ad σ)) H → va_S (ax_A 77 ad s.heap.size) s.heap H locs → lv_has ls 4 [(0, .ref (ad 75)), (1, .int x1)] → k2 σ x1 = some res → W p l e rm_X5_putInOrder s m args below meth c H locs 0 0 Q (F0 m 2 ls [])) → ∀ (σ : SD) (x1 : Int32), ∀ (H : Heap) (locs : List Loc) (ls : Array Slot), va_P (dC, dI) vwCl (ax_w 77 ad (cD cyI cyE ad σ)) H → va_S (ax_A 77 ad s.heap.size) s.heap H locs → lv_has ls 4 [(0, .ref (ad 75)), (1, .int x1)] → f_X5_putInOrder_78 k2 σ x1 = some res → W p l e rm_X5_putInOrder s m args below meth c H locs 0 0 Q (F0 m 78 ls []) := by
    intro k2 hk2
    intro σ x1  H locs ls hP hS hl hf
    unfold f_X5_putInOrder_78 at hf
    refine lv_iinc (v := x1 + 1) (lv' := [(1, .int (x1 + 1)), (0, .ref (ad 75))]) hx hb dX5_putInOrder_78 hl (k := 1) rfl rfl (by decide) rfl (fun ls hl => ?_)
    refine lv_goto (tgt := 2) hx hb dX5_putInOrder_81 (by decide) ?_
    exact hk2 _ _ _ _ _ hP hS (lv_sub hl [1, 0] rfl) hf
  have L12 : ∀ (k2 : SD → Int32 → Option (SD)), (∀ (σ : SD) (x1 : Int32), ∀ (H : Heap) (locs : List Loc) (ls : Array Slot), va_P (dC, dI) vwCl (ax_w 77 ad (cD cyI cyE ad σ)) H → va_S (ax_A 77 ad s.heap.size) s.heap H locs → lv_has ls 4 [(0, .ref (ad 75)), (1, .int x1)] → k2 σ x1 = some res → W p l e rm_X5_putInOrder s m args below meth c H locs 0 0 Q (F0 m 2 ls [])) → ∀ (n : Nat), ∀ (σ : SD) (x1 : Int32) (x2 : Int32), ∀ (H : Heap) (locs : List Loc) (ls : Array Slot), va_P (dC, dI) vwCl (ax_w 77 ad (cD cyI cyE ad σ)) H → va_S (ax_A 77 ad s.heap.size) s.heap H locs → lv_has ls 4 [(0, .ref (ad 75)), (1, .int x1), (2, .int x2)] → f_X5_putInOrder_12 k2 n σ x1 x2 = some res → W p l e rm_X5_putInOrder s m args below meth c H locs 0 0 Q (F0 m 12 ls []) := by
    intro k2 hk2
    intro n
    induction n with
    | zero =>
      intro σ x1 x2  H locs ls hP hS hl hf
      cases hf
    | succ n ih =>
      intro σ x1 x2  H locs ls hP hS hl hf
      rw [f_X5_putInOrder_12] at hf
      refine lv_iload_n hx hb dX5_putInOrder_12 rfl (lv_at hl 2 rfl) ?_
      refine lv_if_le (tgt := 78) hx hb dX5_putInOrder_13 (by decide) (fun h13 => ?_) (fun h13 => ?_)
      · rw [if_pos h13] at hf
        exact L78 _ hk2 _ _ _ _ _ hP hS (lv_sub hl [0, 1] rfl) hf
      · rw [if_neg h13] at hf
        refine lv_aload_n hx hb dX5_putInOrder_16 rfl (lv_at hl 0 rfl) ?_
        refine g_Shelf_entries C0 hT hE hP mf_X5_11 dX5_putInOrder_17 ?_
        refine lv_iload_n hx hb dX5_putInOrder_20 rfl (lv_at hl 2 rfl) ?_
        obtain ⟨hin, hf⟩ := ob_if hf
        obtain ⟨hen21, hf⟩ := ob_if hf
        refine aD_lde C0 hT hE hP (inb_in hin) dX5_putInOrder_21 ?_
        refine gN_Entry_name (k := (σ.2.2.2 x2.toNatClampNeg)) (by omega) C0 hT hE hP (by decide) dX5_putInOrder_22 ?_
        refine lv_aload_n hx hb dX5_putInOrder_25 rfl (lv_at hl 0 rfl) ?_
        refine g_Shelf_entries C0 hT hE hP mf_X5_11 dX5_putInOrder_26 ?_
        refine lv_iload_n hx hb dX5_putInOrder_29 rfl (lv_at hl 2 rfl) ?_
        refine lv_iconst (v := 1) hx hb dX5_putInOrder_30 (by decide) ?_
        refine lv_isub hx hb dX5_putInOrder_31 ?_
        obtain ⟨hin, hf⟩ := ob_if hf
        obtain ⟨hen32, hf⟩ := ob_if hf
        refine aD_lde C0 hT hE hP (inb_in hin) dX5_putInOrder_32 ?_
        refine gN_Entry_name (k := (σ.2.2.2 (x2 - 1).toNatClampNeg)) (by omega) C0 hT hE hP (by decide) dX5_putInOrder_33 ?_
        obtain ⟨q36, hq, hf⟩ := ob_bind hf
        refine ax_callVi (C := "") (b := 0) (i := (5 + (σ.2.2.2 x2.toNatClampNeg))) (k := 1) (ci := 3) [.ref (ad (5 + (σ.2.2.2 (x2 - 1).toNatClampNeg)))] C0 hT hJ hE (met_X4_isNameAhead l dC dI cyI cyE tC ad σ (5 + (σ.2.2.2 x2.toNatClampNeg)) (5 + (σ.2.2.2 (x2 - 1).toNatClampNeg)) (by omega) (by omega) _ hq) hP hS mc_X4_isNameAhead ml_X5_101 mi_X4_isNameAhead ms_X4_isNameAhead mz_X4 (by decide +kernel) ⟨rfl, rfl⟩ ⟨by decide, by decide⟩ (by omega) (cD_Row (by omega)) rfl rfl rfl hl.1 (Nat.le_of_ble_eq_true rfl) dX5_putInOrder_36 ⟨Nat.zero_le _, Nat.zero_le _⟩ (fun H locs hP hS => ?_)
        refine lv_if_eq (tgt := 78) hx hb dX5_putInOrder_39 (by decide) (fun h39 => ?_) (fun h39 => ?_)
        · rw [if_pos h39] at hf
          exact L78 _ hk2 _ _ _ _ _ hP hS (lv_sub hl [0, 1] rfl) hf
        · rw [if_neg h39] at hf
          refine lv_aload_n hx hb dX5_putInOrder_42 rfl (lv_at hl 0 rfl) ?_
          refine g_Shelf_entries C0 hT hE hP mf_X5_11 dX5_putInOrder_43 ?_
          refine lv_iload_n hx hb dX5_putInOrder_46 rfl (lv_at hl 2 rfl) ?_
          refine lv_iconst (v := 1) hx hb dX5_putInOrder_47 (by decide) ?_
          refine lv_isub hx hb dX5_putInOrder_48 ?_
          obtain ⟨hin, hf⟩ := ob_if hf
          obtain ⟨hen49, hf⟩ := ob_if hf
          refine aD_lde C0 hT hE hP (inb_in hin) dX5_putInOrder_49 ?_
          refine lv_astore_n (lv' := [(3, .ref (ad (52 + (q36.2.2.2.2 (x2 - 1).toNatClampNeg)))), (0, .ref (ad 75)), (1, .int x1), (2, .int x2)]) hx hb dX5_putInOrder_50 rfl hl (by decide) rfl (fun ls hl => ?_)
          refine lv_aload_n hx hb dX5_putInOrder_51 rfl (lv_at hl 1 rfl) ?_
          refine g_Shelf_entries C0 hT hE hP mf_X5_11 dX5_putInOrder_52 ?_
          refine lv_iload_n hx hb dX5_putInOrder_55 rfl (lv_at hl 3 rfl) ?_
          refine lv_iconst (v := 1) hx hb dX5_putInOrder_56 (by decide) ?_
          refine lv_isub hx hb dX5_putInOrder_57 ?_
          refine lv_aload_n hx hb dX5_putInOrder_58 rfl (lv_at hl 1 rfl) ?_
          refine g_Shelf_entries C0 hT hE hP mf_X5_11 dX5_putInOrder_59 ?_
          refine lv_iload_n hx hb dX5_putInOrder_62 rfl (lv_at hl 3 rfl) ?_
          obtain ⟨hin, hf⟩ := ob_if hf
          obtain ⟨hen63, hf⟩ := ob_if hf
          refine aD_lde C0 hT hE hP (inb_in hin) dX5_putInOrder_63 ?_
          obtain ⟨hin, hf⟩ := ob_if hf
          refine aD_ste (k := (q36.2.2.2.2 x2.toNatClampNeg)) (by omega) C0 hT hE hJ hP hS (inb_in hin) dX5_putInOrder_64 (fun H locs hP hS => ?_)
          refine lv_aload_n hx hb dX5_putInOrder_65 rfl (lv_at hl 1 rfl) ?_
          refine g_Shelf_entries C0 hT hE hP mf_X5_11 dX5_putInOrder_66 ?_
          refine lv_iload_n hx hb dX5_putInOrder_69 rfl (lv_at hl 3 rfl) ?_
          refine lv_aload_n hx hb dX5_putInOrder_70 rfl (lv_at hl 0 rfl) ?_
          obtain ⟨hin, hf⟩ := ob_if hf
          refine aD_ste (k := (q36.2.2.2.2 (x2 - 1).toNatClampNeg)) (by omega) C0 hT hE hJ hP hS (inb_in hin) dX5_putInOrder_71 (fun H locs hP hS => ?_)
          refine lv_iinc (v := x2 + (-1)) (lv' := [(2, .int (x2 + (-1))), (3, .ref (ad (52 + (q36.2.2.2.2 (x2 - 1).toNatClampNeg)))), (0, .ref (ad 75)), (1, .int x1)]) hx hb dX5_putInOrder_72 hl (k := 3) rfl rfl (by decide) rfl (fun ls hl => ?_)
          refine lv_goto (tgt := 12) hx hb dX5_putInOrder_75 (by decide) ?_
          exact ih _ _ _ _ _ _ hP hS (lv_sub hl [2, 3, 0] rfl) hf
  have L2 : ∀ (n : Nat), ∀ (σ : SD) (x1 : Int32), ∀ (H : Heap) (locs : List Loc) (ls : Array Slot), va_P (dC, dI) vwCl (ax_w 77 ad (cD cyI cyE ad σ)) H → va_S (ax_A 77 ad s.heap.size) s.heap H locs → lv_has ls 4 [(0, .ref (ad 75)), (1, .int x1)] → f_X5_putInOrder_2 n σ x1 = some res → W p l e rm_X5_putInOrder s m args below meth c H locs 0 0 Q (F0 m 2 ls []) := by
    intro n
    induction n with
    | zero =>
      intro σ x1  H locs ls hP hS hl hf
      cases hf
    | succ n ih =>
      intro σ x1  H locs ls hP hS hl hf
      rw [f_X5_putInOrder_2] at hf
      refine lv_iload_n hx hb dX5_putInOrder_2 rfl (lv_at hl 1 rfl) ?_
      refine lv_aload_n hx hb dX5_putInOrder_3 rfl (lv_at hl 0 rfl) ?_
      refine g_Shelf_count C0 hT hE hP mf_X5_27 dX5_putInOrder_4 ?_
      refine lv_icmp_ge (tgt := 84) hx hb dX5_putInOrder_7 (by decide) (fun h7 => ?_) (fun h7 => ?_)
      · rw [if_pos h7] at hf
        exact hret _ _ _ _ _ hf hP hS dX5_putInOrder_84
      · rw [if_neg h7] at hf
        refine lv_iload_n hx hb dX5_putInOrder_10 rfl (lv_at hl 1 rfl) ?_
        refine lv_istore_n (lv' := [(2, .int x1), (0, .ref (ad 75)), (1, .int x1)]) hx hb dX5_putInOrder_11 rfl hl (by decide) rfl (fun ls hl => ?_)
        exact L12 _ ih fu _ _ _ _ _ _ hP hS (lv_sub hl [1, 2, 0] rfl) hf
  unfold f_X5_putInOrder at hf
  refine lv_iconst (v := 1) hx hb dX5_putInOrder_0 (by decide) ?_
  refine lv_istore_n (lv' := [(1, .int 1), (0, .ref (ad 75))]) hx hb dX5_putInOrder_1 rfl hl (by decide) rfl (fun ls hl => ?_)
  exact L2 fu _ _ _ _ _ hP hS (lv_sub hl [1, 0] rfl) hf
def f_X6_writeShared (σ : SD) (r0 : Nat) (k1 : Nat) : Option (SD) := (f_X4_pushTwo σ r0 20).bind fun q3 => (f_X4_pushTwo q3 r0 0).bind fun q8 => (f_X1_method q8 k1).bind fun q13 => (f_X4_pushTwo q13.2 r0 q13.1).bind fun q16 => (f_X4_pushTwo q16 r0 0).bind fun q21 => (f_X4_pushTwo q21 r0 33).bind fun q27 => (f_X4_pushFour q27 r0 (q27.1 4 k1)).bind fun q35 => (f_X4_pushFour q35 r0 (q35.1 3 k1)).bind fun q43 => (f_X4_pushFour q43 r0 (q43.1 2 k1)).bind fun q51 => (f_X4_size q51 (5 + k1)).bind fun q59 => (f_X4_pushTwo q59.2 r0 q59.1).bind fun q62 => (f_X4_pushTwo q62 r0 0).bind fun q67 => some q67
def rm_X6_writeShared : Room := { frames := 3, cells := 0, slots := 0, locals := 63 }
set_option maxHeartbeats 4000000 in
set_option maxRecDepth 100000 in
theorem met_X6_writeShared (l : Launch) (dC : Nat → ClassId) (dI : Nat → Nat → Nat) (cyI cyE : ClassId) (tC : Nat) (ad : Nat → Nat) (σ : SD) (r0 : Nat) (k1 : Nat) (hb_r0 : r0 < 25) (hb_k1 : k1 < 20) (res : SD) (hf : f_X6_writeShared σ r0 k1 = some res) : ax_Mv l dC dI cyI cyE tC 77 (cD cyI cyE ad) ad yX6_writeShared cX6_writeShared 2 none rm_X6_writeShared [.ref (ad r0), .ref (ad (52 + k1))] σ res := by
  intro sz
  refine Met.ofW (cc := cX6_writeShared) (maxL := 2) (ret := none) (by decide) rfl ?_
  intro p e s m args below meth c s₁ B hml hv
  obtain ⟨hargs, hsz, hP, hJ, hE⟩ := hv
  subst hsz
  have hx := B.exec
  have hb := B.bytes
  have hr := B.returns
  have hlocks := B.notSynchronized
  have hts := atoms_spec (ws := wsY yX6_writeShared cX6_writeShared 2 none) B.pre
  have hown : s.vm.findClass RX6 = some m.cls := findClass_of_methodNamed B.named
  have C0 : CallFix p m c cX6_writeShared 2 s args (wsY yX6_writeShared cX6_writeShared 2 none) RX6 := ⟨hx, hb, hml, hown, hts⟩
  have hT : ∀ w ∈ bw, w ∈ wsY yX6_writeShared cX6_writeShared 2 none := fun w h => List.mem_cons_of_mem _ h
  have hS : va_S (ax_A 77 ad s.heap.size) s.heap s.heap [] := va_S.rf
  rw [show entryFrame m args 2 = entryFrame m ([.ref (ad r0), .ref (ad (52 + k1))] : List Value).toArray 2 by rw [hargs]]
  have hl := lv_entry ([.ref (ad r0), .ref (ad (52 + k1))]) (n := 2) (Nat.le_of_ble_eq_true rfl)
  rw [lg_entry_eq]
  generalize (lg_sl ([.ref (ad r0), .ref (ad (52 + k1))]) ++ List.replicate (2 - (lg_sl ([.ref (ad r0), .ref (ad (52 + k1))])).length) Slot.unset).toArray = ls at hl ⊢
  have hl : lv_has ls 2 [(0, .ref (ad r0)), (1, .ref (ad (52 + k1)))] := hl
  obtain ⟨Q, hQ⟩ : ∃ Q : State → Prop, Q = MQ below (va_Qv (fun (u : SD) => u = res) (ax_B dC dI 77 (cD cyI cyE ad) ad) (ax_A 77 ad s.heap.size)) args s 0 0 (ax_A 77 ad s.heap.size) := ⟨_, rfl⟩
  show W p l e rm_X6_writeShared s m args below meth c s.heap [] 0 0 _ _
  rw [← hQ]
  have hret : ∀ (σ : SD) (H : Heap) (locs : List Loc) (ls : Array Slot) (pc : Nat), some σ = some res → va_P (dC, dI) vwCl (ax_w 77 ad (cD cyI cyE ad σ)) H → va_S (ax_A 77 ad s.heap.size) s.heap H locs → decode cX6_writeShared pc = .ok (.return_, 1) → W p l e rm_X6_writeShared s m args below meth c H locs 0 0 Q (F0 m pc ls []) := by
    intro σ H locs ls pc hf hP hS hd
    cases hf
    rw [hQ]
    exact ax_vret hx hb hr hlocks hP hS hd rfl
  unfold f_X6_writeShared at hf
  refine lv_aload_n hx hb dX6_writeShared_0 rfl (lv_at hl 0 rfl) ?_
  refine lv_bipush (v := 20) hx hb dX6_writeShared_1 (by decide) ?_
  obtain ⟨q3, hq, hf⟩ := ob_bind hf
  refine ax_callVv (b := 0) (i := r0) (k := 1) (ci := 3) [.int 20] C0 hT hJ hE (met_X4_pushTwo l dC dI cyI cyE tC ad σ r0 20 (by omega) _ hq) hP hS mc_X4_pushTwo ml_X6_35 mi_X4_pushTwo ms_X4_pushTwo mz_X4 (by decide +kernel) ⟨rfl, rfl⟩ ⟨by decide, by decide⟩ (by omega) (cD_Row (by omega)) rfl rfl rfl hl.1 (Nat.le_of_ble_eq_true rfl) dX6_writeShared_3 ⟨Nat.zero_le _, Nat.zero_le _⟩ (fun H locs hP hS => ?_)
  refine lv_aload_n hx hb dX6_writeShared_6 rfl (lv_at hl 0 rfl) ?_
  refine lv_iconst (v := 0) hx hb dX6_writeShared_7 (by decide) ?_
  obtain ⟨q8, hq, hf⟩ := ob_bind hf
  refine ax_callVv (b := 0) (i := r0) (k := 1) (ci := 3) [.int 0] C0 hT hJ hE (met_X4_pushTwo l dC dI cyI cyE tC ad q3 r0 0 (by omega) _ hq) hP hS mc_X4_pushTwo ml_X6_35 mi_X4_pushTwo ms_X4_pushTwo mz_X4 (by decide +kernel) ⟨rfl, rfl⟩ ⟨by decide, by decide⟩ (by omega) (cD_Row (by omega)) rfl rfl rfl hl.1 (Nat.le_of_ble_eq_true rfl) dX6_writeShared_8 ⟨Nat.zero_le _, Nat.zero_le _⟩ (fun H locs hP hS => ?_)
  refine lv_aload_n hx hb dX6_writeShared_11 rfl (lv_at hl 0 rfl) ?_
  refine lv_aload_n hx hb dX6_writeShared_12 rfl (lv_at hl 1 rfl) ?_
  obtain ⟨q13, hq, hf⟩ := ob_bind hf
  refine ax_callVi (C := "") (b := 0) (i := (52 + k1)) (k := 0) (ci := 0) [] C0 hT hJ hE (met_X1_method l dC dI cyI cyE tC ad q8 k1 (by omega) _ hq) hP hS mc_X1_method ml_X6_42 mi_X1_method ms_X1_method mz_X1 (by decide +kernel) ⟨rfl, rfl⟩ ⟨by decide, by decide⟩ (by omega) (cD_Entry (by omega)) rfl rfl rfl hl.1 (Nat.le_of_ble_eq_true rfl) dX6_writeShared_13 ⟨Nat.zero_le _, Nat.zero_le _⟩ (fun H locs hP hS => ?_)
  obtain ⟨q16, hq, hf⟩ := ob_bind hf
  refine ax_callVv (b := 0) (i := r0) (k := 1) (ci := 3) [.int q13.1] C0 hT hJ hE (met_X4_pushTwo l dC dI cyI cyE tC ad q13.2 r0 q13.1 (by omega) _ hq) hP hS mc_X4_pushTwo ml_X6_35 mi_X4_pushTwo ms_X4_pushTwo mz_X4 (by decide +kernel) ⟨rfl, rfl⟩ ⟨by decide, by decide⟩ (by omega) (cD_Row (by omega)) rfl rfl rfl hl.1 (Nat.le_of_ble_eq_true rfl) dX6_writeShared_16 ⟨Nat.zero_le _, Nat.zero_le _⟩ (fun H locs hP hS => ?_)
  refine lv_aload_n hx hb dX6_writeShared_19 rfl (lv_at hl 0 rfl) ?_
  refine lv_iconst (v := 0) hx hb dX6_writeShared_20 (by decide) ?_
  obtain ⟨q21, hq, hf⟩ := ob_bind hf
  refine ax_callVv (b := 0) (i := r0) (k := 1) (ci := 3) [.int 0] C0 hT hJ hE (met_X4_pushTwo l dC dI cyI cyE tC ad q16 r0 0 (by omega) _ hq) hP hS mc_X4_pushTwo ml_X6_35 mi_X4_pushTwo ms_X4_pushTwo mz_X4 (by decide +kernel) ⟨rfl, rfl⟩ ⟨by decide, by decide⟩ (by omega) (cD_Row (by omega)) rfl rfl rfl hl.1 (Nat.le_of_ble_eq_true rfl) dX6_writeShared_21 ⟨Nat.zero_le _, Nat.zero_le _⟩ (fun H locs hP hS => ?_)
  refine lv_aload_n hx hb dX6_writeShared_24 rfl (lv_at hl 0 rfl) ?_
  refine lv_bipush (v := 33) hx hb dX6_writeShared_25 (by decide) ?_
  obtain ⟨q27, hq, hf⟩ := ob_bind hf
  refine ax_callVv (b := 0) (i := r0) (k := 1) (ci := 3) [.int 33] C0 hT hJ hE (met_X4_pushTwo l dC dI cyI cyE tC ad q21 r0 33 (by omega) _ hq) hP hS mc_X4_pushTwo ml_X6_35 mi_X4_pushTwo ms_X4_pushTwo mz_X4 (by decide +kernel) ⟨rfl, rfl⟩ ⟨by decide, by decide⟩ (by omega) (cD_Row (by omega)) rfl rfl rfl hl.1 (Nat.le_of_ble_eq_true rfl) dX6_writeShared_27 ⟨Nat.zero_le _, Nat.zero_le _⟩ (fun H locs hP hS => ?_)
  refine lv_aload_n hx hb dX6_writeShared_30 rfl (lv_at hl 0 rfl) ?_
  refine lv_aload_n hx hb dX6_writeShared_31 rfl (lv_at hl 1 rfl) ?_
  refine gN_Entry_crc (k := k1) (by omega) C0 hT hE hP (by decide) dX6_writeShared_32 ?_
  obtain ⟨q35, hq, hf⟩ := ob_bind hf
  refine ax_callVv (b := 0) (i := r0) (k := 1) (ci := 3) [.int (q27.1 4 k1)] C0 hT hJ hE (met_X4_pushFour l dC dI cyI cyE tC ad q27 r0 (q27.1 4 k1) (by omega) _ hq) hP hS mc_X4_pushFour ml_X6_39 mi_X4_pushFour ms_X4_pushFour mz_X4 (by decide +kernel) ⟨rfl, rfl⟩ ⟨by decide, by decide⟩ (by omega) (cD_Row (by omega)) rfl rfl rfl hl.1 (Nat.le_of_ble_eq_true rfl) dX6_writeShared_35 ⟨Nat.zero_le _, Nat.zero_le _⟩ (fun H locs hP hS => ?_)
  refine lv_aload_n hx hb dX6_writeShared_38 rfl (lv_at hl 0 rfl) ?_
  refine lv_aload_n hx hb dX6_writeShared_39 rfl (lv_at hl 1 rfl) ?_
  refine gN_Entry_packed (k := k1) (by omega) C0 hT hE hP (by decide) dX6_writeShared_40 ?_
  obtain ⟨q43, hq, hf⟩ := ob_bind hf
  refine ax_callVv (b := 0) (i := r0) (k := 1) (ci := 3) [.int (q35.1 3 k1)] C0 hT hJ hE (met_X4_pushFour l dC dI cyI cyE tC ad q35 r0 (q35.1 3 k1) (by omega) _ hq) hP hS mc_X4_pushFour ml_X6_39 mi_X4_pushFour ms_X4_pushFour mz_X4 (by decide +kernel) ⟨rfl, rfl⟩ ⟨by decide, by decide⟩ (by omega) (cD_Row (by omega)) rfl rfl rfl hl.1 (Nat.le_of_ble_eq_true rfl) dX6_writeShared_43 ⟨Nat.zero_le _, Nat.zero_le _⟩ (fun H locs hP hS => ?_)
  refine lv_aload_n hx hb dX6_writeShared_46 rfl (lv_at hl 0 rfl) ?_
  refine lv_aload_n hx hb dX6_writeShared_47 rfl (lv_at hl 1 rfl) ?_
  refine gN_Entry_size (k := k1) (by omega) C0 hT hE hP (by decide) dX6_writeShared_48 ?_
  obtain ⟨q51, hq, hf⟩ := ob_bind hf
  refine ax_callVv (b := 0) (i := r0) (k := 1) (ci := 3) [.int (q43.1 2 k1)] C0 hT hJ hE (met_X4_pushFour l dC dI cyI cyE tC ad q43 r0 (q43.1 2 k1) (by omega) _ hq) hP hS mc_X4_pushFour ml_X6_39 mi_X4_pushFour ms_X4_pushFour mz_X4 (by decide +kernel) ⟨rfl, rfl⟩ ⟨by decide, by decide⟩ (by omega) (cD_Row (by omega)) rfl rfl rfl hl.1 (Nat.le_of_ble_eq_true rfl) dX6_writeShared_51 ⟨Nat.zero_le _, Nat.zero_le _⟩ (fun H locs hP hS => ?_)
  refine lv_aload_n hx hb dX6_writeShared_54 rfl (lv_at hl 0 rfl) ?_
  refine lv_aload_n hx hb dX6_writeShared_55 rfl (lv_at hl 1 rfl) ?_
  refine gN_Entry_name (k := k1) (by omega) C0 hT hE hP (by decide) dX6_writeShared_56 ?_
  obtain ⟨q59, hq, hf⟩ := ob_bind hf
  refine ax_callVi (C := "") (b := 0) (i := (5 + k1)) (k := 0) (ci := 3) [] C0 hT hJ hE (met_X4_size l dC dI cyI cyE tC ad q51 (5 + k1) (by omega) _ hq) hP hS mc_X4_size ml_X6_27 mi_X4_size ms_X4_size mz_X4 (by decide +kernel) ⟨rfl, rfl⟩ ⟨by decide, by decide⟩ (by omega) (cD_Row (by omega)) rfl rfl rfl hl.1 (Nat.le_of_ble_eq_true rfl) dX6_writeShared_59 ⟨Nat.zero_le _, Nat.zero_le _⟩ (fun H locs hP hS => ?_)
  obtain ⟨q62, hq, hf⟩ := ob_bind hf
  refine ax_callVv (b := 0) (i := r0) (k := 1) (ci := 3) [.int q59.1] C0 hT hJ hE (met_X4_pushTwo l dC dI cyI cyE tC ad q59.2 r0 q59.1 (by omega) _ hq) hP hS mc_X4_pushTwo ml_X6_35 mi_X4_pushTwo ms_X4_pushTwo mz_X4 (by decide +kernel) ⟨rfl, rfl⟩ ⟨by decide, by decide⟩ (by omega) (cD_Row (by omega)) rfl rfl rfl hl.1 (Nat.le_of_ble_eq_true rfl) dX6_writeShared_62 ⟨Nat.zero_le _, Nat.zero_le _⟩ (fun H locs hP hS => ?_)
  refine lv_aload_n hx hb dX6_writeShared_65 rfl (lv_at hl 0 rfl) ?_
  refine lv_iconst (v := 0) hx hb dX6_writeShared_66 (by decide) ?_
  obtain ⟨q67, hq, hf⟩ := ob_bind hf
  refine ax_callVv (b := 0) (i := r0) (k := 1) (ci := 3) [.int 0] C0 hT hJ hE (met_X4_pushTwo l dC dI cyI cyE tC ad q62 r0 0 (by omega) _ hq) hP hS mc_X4_pushTwo ml_X6_35 mi_X4_pushTwo ms_X4_pushTwo mz_X4 (by decide +kernel) ⟨rfl, rfl⟩ ⟨by decide, by decide⟩ (by omega) (cD_Row (by omega)) rfl rfl rfl hl.1 (Nat.le_of_ble_eq_true rfl) dX6_writeShared_67 ⟨Nat.zero_le _, Nat.zero_le _⟩ (fun H locs hP hS => ?_)
  exact hret _ _ _ _ _ hf hP hS dX6_writeShared_70
def f_X6_writeLocal (σ : SD) (r0 : Nat) (k1 : Nat) : Option (SD) := (f_X4_pushSignature σ r0 3 4).bind fun q3 => (f_X6_writeShared q3 r0 k1).bind fun q8 => (f_X4_size q8 (5 + k1)).bind fun q21 => (f_X4_append q21.2 r0 (5 + k1) 0 q21.1).bind fun q24 => some q24
def rm_X6_writeLocal : Room := { frames := 4, cells := 0, slots := 0, locals := 84 }
set_option maxHeartbeats 4000000 in
set_option maxRecDepth 100000 in
theorem met_X6_writeLocal (l : Launch) (dC : Nat → ClassId) (dI : Nat → Nat → Nat) (cyI cyE : ClassId) (tC : Nat) (ad : Nat → Nat) (σ : SD) (r0 : Nat) (k1 : Nat) (hb_r0 : r0 < 25) (hb_k1 : k1 < 20) (res : SD) (hf : f_X6_writeLocal σ r0 k1 = some res) : ax_Mv l dC dI cyI cyE tC 77 (cD cyI cyE ad) ad yX6_writeLocal cX6_writeLocal 2 none rm_X6_writeLocal [.ref (ad r0), .ref (ad (52 + k1))] σ res := by
  intro sz
  refine Met.ofW (cc := cX6_writeLocal) (maxL := 2) (ret := none) (by decide) rfl ?_
  intro p e s m args below meth c s₁ B hml hv
  obtain ⟨hargs, hsz, hP, hJ, hE⟩ := hv
  subst hsz
  have hx := B.exec
  have hb := B.bytes
  have hr := B.returns
  have hlocks := B.notSynchronized
  have hts := atoms_spec (ws := wsY yX6_writeLocal cX6_writeLocal 2 none) B.pre
  have hown : s.vm.findClass RX6 = some m.cls := findClass_of_methodNamed B.named
  have C0 : CallFix p m c cX6_writeLocal 2 s args (wsY yX6_writeLocal cX6_writeLocal 2 none) RX6 := ⟨hx, hb, hml, hown, hts⟩
  have hT : ∀ w ∈ bw, w ∈ wsY yX6_writeLocal cX6_writeLocal 2 none := fun w h => List.mem_cons_of_mem _ h
  have hS : va_S (ax_A 77 ad s.heap.size) s.heap s.heap [] := va_S.rf
  rw [show entryFrame m args 2 = entryFrame m ([.ref (ad r0), .ref (ad (52 + k1))] : List Value).toArray 2 by rw [hargs]]
  have hl := lv_entry ([.ref (ad r0), .ref (ad (52 + k1))]) (n := 2) (Nat.le_of_ble_eq_true rfl)
  rw [lg_entry_eq]
  generalize (lg_sl ([.ref (ad r0), .ref (ad (52 + k1))]) ++ List.replicate (2 - (lg_sl ([.ref (ad r0), .ref (ad (52 + k1))])).length) Slot.unset).toArray = ls at hl ⊢
  have hl : lv_has ls 2 [(0, .ref (ad r0)), (1, .ref (ad (52 + k1)))] := hl
  obtain ⟨Q, hQ⟩ : ∃ Q : State → Prop, Q = MQ below (va_Qv (fun (u : SD) => u = res) (ax_B dC dI 77 (cD cyI cyE ad) ad) (ax_A 77 ad s.heap.size)) args s 0 0 (ax_A 77 ad s.heap.size) := ⟨_, rfl⟩
  show W p l e rm_X6_writeLocal s m args below meth c s.heap [] 0 0 _ _
  rw [← hQ]
  have hret : ∀ (σ : SD) (H : Heap) (locs : List Loc) (ls : Array Slot) (pc : Nat), some σ = some res → va_P (dC, dI) vwCl (ax_w 77 ad (cD cyI cyE ad σ)) H → va_S (ax_A 77 ad s.heap.size) s.heap H locs → decode cX6_writeLocal pc = .ok (.return_, 1) → W p l e rm_X6_writeLocal s m args below meth c H locs 0 0 Q (F0 m pc ls []) := by
    intro σ H locs ls pc hf hP hS hd
    cases hf
    rw [hQ]
    exact ax_vret hx hb hr hlocks hP hS hd rfl
  unfold f_X6_writeLocal at hf
  refine lv_aload_n hx hb dX6_writeLocal_0 rfl (lv_at hl 0 rfl) ?_
  refine lv_iconst (v := 3) hx hb dX6_writeLocal_1 (by decide) ?_
  refine lv_iconst (v := 4) hx hb dX6_writeLocal_2 (by decide) ?_
  obtain ⟨q3, hq, hf⟩ := ob_bind hf
  refine ax_callVv (b := 0) (i := r0) (k := 2) (ci := 3) [.int 3, .int 4] C0 hT hJ hE (met_X4_pushSignature l dC dI cyI cyE tC ad σ r0 3 4 (by omega) _ hq) hP hS mc_X4_pushSignature ml_X6_9 mi_X4_pushSignature ms_X4_pushSignature mz_X4 (by decide +kernel) ⟨rfl, rfl⟩ ⟨by decide, by decide⟩ (by omega) (cD_Row (by omega)) rfl rfl rfl hl.1 (Nat.le_of_ble_eq_true rfl) dX6_writeLocal_3 ⟨Nat.zero_le _, Nat.zero_le _⟩ (fun H locs hP hS => ?_)
  refine lv_aload_n hx hb dX6_writeLocal_6 rfl (lv_at hl 0 rfl) ?_
  refine lv_aload_n hx hb dX6_writeLocal_7 rfl (lv_at hl 1 rfl) ?_
  obtain ⟨q8, hq, hf⟩ := ob_bind hf
  refine ax_callSv (k := 2) [.ref (ad r0), .ref (ad (52 + k1))] C0 hT hJ hE (met_X6_writeShared l dC dI cyI cyE tC ad q3 r0 k1 (by omega) (by omega) _ hq) hP hS mc_X6_writeShared ml_X6_15 mt_X6_writeShared mz_X6 (by decide +kernel) ⟨rfl, rfl⟩ ⟨by decide, by decide⟩ rfl rfl hl.1 (Nat.le_of_ble_eq_true rfl) dX6_writeLocal_8 ⟨Nat.zero_le _, Nat.zero_le _⟩ (fun H locs hP hS => ?_)
  refine lv_aload_n hx hb dX6_writeLocal_11 rfl (lv_at hl 0 rfl) ?_
  refine lv_aload_n hx hb dX6_writeLocal_12 rfl (lv_at hl 1 rfl) ?_
  refine gN_Entry_name (k := k1) (by omega) C0 hT hE hP (by decide) dX6_writeLocal_13 ?_
  refine lv_iconst (v := 0) hx hb dX6_writeLocal_16 (by decide) ?_
  refine lv_aload_n hx hb dX6_writeLocal_17 rfl (lv_at hl 1 rfl) ?_
  refine gN_Entry_name (k := k1) (by omega) C0 hT hE hP (by decide) dX6_writeLocal_18 ?_
  obtain ⟨q21, hq, hf⟩ := ob_bind hf
  refine ax_callVi (C := "") (b := 0) (i := (5 + k1)) (k := 0) (ci := 3) [] C0 hT hJ hE (met_X4_size l dC dI cyI cyE tC ad q8 (5 + k1) (by omega) _ hq) hP hS mc_X4_size ml_X6_27 mi_X4_size ms_X4_size mz_X4 (by decide +kernel) ⟨rfl, rfl⟩ ⟨by decide, by decide⟩ (by omega) (cD_Row (by omega)) rfl rfl rfl hl.1 (Nat.le_of_ble_eq_true rfl) dX6_writeLocal_21 ⟨Nat.zero_le _, Nat.zero_le _⟩ (fun H locs hP hS => ?_)
  obtain ⟨q24, hq, hf⟩ := ob_bind hf
  refine ax_callVv (b := 0) (i := r0) (k := 3) (ci := 3) [.ref (ad (5 + k1)), .int 0, .int q21.1] C0 hT hJ hE (met_X4_append l dC dI cyI cyE tC ad q21.2 r0 (5 + k1) 0 q21.1 (by omega) (by omega) _ hq) hP hS mc_X4_append ml_X6_31 mi_X4_append ms_X4_append mz_X4 (by decide +kernel) ⟨rfl, rfl⟩ ⟨by decide, by decide⟩ (by omega) (cD_Row (by omega)) rfl rfl rfl hl.1 (Nat.le_of_ble_eq_true rfl) dX6_writeLocal_24 ⟨Nat.zero_le _, Nat.zero_le _⟩ (fun H locs hP hS => ?_)
  exact hret _ _ _ _ _ hf hP hS dX6_writeLocal_27
def f_X5_writeLocals_66 (r1 : Nat) (k2 : SD → Int32 → Option (SD)) (σ : SD) (x2 : Int32) : Option (SD) := k2 σ (x2 + 1)
def f_X5_writeLocals_2 (r1 : Nat) : Nat → SD → Int32 → Option (SD)
  | 0, _, _ => none
  | n + 1, σ, x2 => if (σ.1 5 0) ≤ x2 then (some σ) else (if inb x2 20 = true then (if σ.2.2.2 x2.toNatClampNeg < 20 then ((f_X6_writeLocal σ r1 (σ.2.2.2 x2.toNatClampNeg)).bind fun q19 => (f_X1_method q19 (σ.2.2.2 x2.toNatClampNeg)).bind fun q23 => if q23.1 = 99 then ((f_X0_fold q23.2 3 (q23.2.1 1 (σ.2.2.2 x2.toNatClampNeg)) (q23.2.1 2 (σ.2.2.2 x2.toNatClampNeg)) r1).bind fun q44 => f_X5_writeLocals_66 r1 (f_X5_writeLocals_2 r1 n) q44 x2) else ((f_X4_append q23.2 r1 3 (q23.2.1 1 (σ.2.2.2 x2.toNatClampNeg)) (q23.2.1 2 (σ.2.2.2 x2.toNatClampNeg))).bind fun q63 => f_X5_writeLocals_66 r1 (f_X5_writeLocals_2 r1 n) q63 x2)) else none) else none)
def f_X5_writeLocals (σ : SD) (r1 : Nat) : Option (SD) := f_X5_writeLocals_2 r1 fu σ 0
def rm_X5_writeLocals : Room := { frames := 5, cells := 0, slots := 0, locals := 105 }
set_option maxHeartbeats 4000000 in
set_option maxRecDepth 100000 in
theorem met_X5_writeLocals (l : Launch) (dC : Nat → ClassId) (dI : Nat → Nat → Nat) (cyI cyE : ClassId) (tC : Nat) (ad : Nat → Nat) (σ : SD) (r1 : Nat) (hb_r1 : r1 < 25) (res : SD) (hf : f_X5_writeLocals σ r1 = some res) : ax_Mv l dC dI cyI cyE tC 77 (cD cyI cyE ad) ad yX5_writeLocals cX5_writeLocals 4 none rm_X5_writeLocals [.ref (ad 75), .ref (ad r1)] σ res := by
  intro sz
  refine Met.ofW (cc := cX5_writeLocals) (maxL := 4) (ret := none) (by decide) rfl ?_
  intro p e s m args below meth c s₁ B hml hv
  obtain ⟨hargs, hsz, hP, hJ, hE⟩ := hv
  subst hsz
  have hx := B.exec
  have hb := B.bytes
  have hr := B.returns
  have hlocks := B.notSynchronized
  have hts := atoms_spec (ws := wsY yX5_writeLocals cX5_writeLocals 4 none) B.pre
  have hown : s.vm.findClass RX5 = some m.cls := findClass_of_methodNamed B.named
  have C0 : CallFix p m c cX5_writeLocals 4 s args (wsY yX5_writeLocals cX5_writeLocals 4 none) RX5 := ⟨hx, hb, hml, hown, hts⟩
  have hT : ∀ w ∈ bw, w ∈ wsY yX5_writeLocals cX5_writeLocals 4 none := fun w h => List.mem_cons_of_mem _ h
  have hS : va_S (ax_A 77 ad s.heap.size) s.heap s.heap [] := va_S.rf
  rw [show entryFrame m args 4 = entryFrame m ([.ref (ad 75), .ref (ad r1)] : List Value).toArray 4 by rw [hargs]]
  have hl := lv_entry ([.ref (ad 75), .ref (ad r1)]) (n := 4) (Nat.le_of_ble_eq_true rfl)
  rw [lg_entry_eq]
  generalize (lg_sl ([.ref (ad 75), .ref (ad r1)]) ++ List.replicate (4 - (lg_sl ([.ref (ad 75), .ref (ad r1)])).length) Slot.unset).toArray = ls at hl ⊢
  have hl : lv_has ls 4 [(0, .ref (ad 75)), (1, .ref (ad r1))] := hl
  obtain ⟨Q, hQ⟩ : ∃ Q : State → Prop, Q = MQ below (va_Qv (fun (u : SD) => u = res) (ax_B dC dI 77 (cD cyI cyE ad) ad) (ax_A 77 ad s.heap.size)) args s 0 0 (ax_A 77 ad s.heap.size) := ⟨_, rfl⟩
  show W p l e rm_X5_writeLocals s m args below meth c s.heap [] 0 0 _ _
  rw [← hQ]
  have hret : ∀ (σ : SD) (H : Heap) (locs : List Loc) (ls : Array Slot) (pc : Nat), some σ = some res → va_P (dC, dI) vwCl (ax_w 77 ad (cD cyI cyE ad σ)) H → va_S (ax_A 77 ad s.heap.size) s.heap H locs → decode cX5_writeLocals pc = .ok (.return_, 1) → W p l e rm_X5_writeLocals s m args below meth c H locs 0 0 Q (F0 m pc ls []) := by
    intro σ H locs ls pc hf hP hS hd
    cases hf
    rw [hQ]
    exact ax_vret hx hb hr hlocks hP hS hd rfl
  have L66 : ∀ (k2 : SD → Int32 → Option (SD)), (∀ (σ : SD) (x2 : Int32), ∀ (H : Heap) (locs : List Loc) (ls : Array Slot), va_P (dC, dI) vwCl (ax_w 77 ad (cD cyI cyE ad σ)) H → va_S (ax_A 77 ad s.heap.size) s.heap H locs → lv_has ls 4 [(0, .ref (ad 75)), (1, .ref (ad r1)), (2, .int x2)] → k2 σ x2 = some res → W p l e rm_X5_writeLocals s m args below meth c H locs 0 0 Q (F0 m 2 ls [])) → ∀ (σ : SD) (x2 : Int32), ∀ (H : Heap) (locs : List Loc) (ls : Array Slot), va_P (dC, dI) vwCl (ax_w 77 ad (cD cyI cyE ad σ)) H → va_S (ax_A 77 ad s.heap.size) s.heap H locs → lv_has ls 4 [(0, .ref (ad 75)), (1, .ref (ad r1)), (2, .int x2)] → f_X5_writeLocals_66 r1 k2 σ x2 = some res → W p l e rm_X5_writeLocals s m args below meth c H locs 0 0 Q (F0 m 66 ls []) := by
    intro k2 hk2
    intro σ x2  H locs ls hP hS hl hf
    unfold f_X5_writeLocals_66 at hf
    refine lv_iinc (v := x2 + 1) (lv' := [(2, .int (x2 + 1)), (0, .ref (ad 75)), (1, .ref (ad r1))]) hx hb dX5_writeLocals_66 hl (k := 2) rfl rfl (by decide) rfl (fun ls hl => ?_)
    refine lv_goto (tgt := 2) hx hb dX5_writeLocals_69 (by decide) ?_
    exact hk2 _ _ _ _ _ hP hS (lv_sub hl [1, 2, 0] rfl) hf
  have L2 : ∀ (n : Nat), ∀ (σ : SD) (x2 : Int32), ∀ (H : Heap) (locs : List Loc) (ls : Array Slot), va_P (dC, dI) vwCl (ax_w 77 ad (cD cyI cyE ad σ)) H → va_S (ax_A 77 ad s.heap.size) s.heap H locs → lv_has ls 4 [(0, .ref (ad 75)), (1, .ref (ad r1)), (2, .int x2)] → f_X5_writeLocals_2 r1 n σ x2 = some res → W p l e rm_X5_writeLocals s m args below meth c H locs 0 0 Q (F0 m 2 ls []) := by
    intro n
    induction n with
    | zero =>
      intro σ x2  H locs ls hP hS hl hf
      cases hf
    | succ n ih =>
      intro σ x2  H locs ls hP hS hl hf
      rw [f_X5_writeLocals_2] at hf
      refine lv_iload_n hx hb dX5_writeLocals_2 rfl (lv_at hl 2 rfl) ?_
      refine lv_aload_n hx hb dX5_writeLocals_3 rfl (lv_at hl 0 rfl) ?_
      refine g_Shelf_count C0 hT hE hP mf_X5_27 dX5_writeLocals_4 ?_
      refine lv_icmp_ge (tgt := 72) hx hb dX5_writeLocals_7 (by decide) (fun h7 => ?_) (fun h7 => ?_)
      · rw [if_pos h7] at hf
        exact hret _ _ _ _ _ hf hP hS dX5_writeLocals_72
      · rw [if_neg h7] at hf
        refine lv_aload_n hx hb dX5_writeLocals_10 rfl (lv_at hl 0 rfl) ?_
        refine g_Shelf_entries C0 hT hE hP mf_X5_11 dX5_writeLocals_11 ?_
        refine lv_iload_n hx hb dX5_writeLocals_14 rfl (lv_at hl 2 rfl) ?_
        obtain ⟨hin, hf⟩ := ob_if hf
        obtain ⟨hen15, hf⟩ := ob_if hf
        refine aD_lde C0 hT hE hP (inb_in hin) dX5_writeLocals_15 ?_
        refine lv_astore_n (lv' := [(3, .ref (ad (52 + (σ.2.2.2 x2.toNatClampNeg)))), (0, .ref (ad 75)), (1, .ref (ad r1)), (2, .int x2)]) hx hb dX5_writeLocals_16 rfl hl (by decide) rfl (fun ls hl => ?_)
        refine lv_aload_n hx hb dX5_writeLocals_17 rfl (lv_at hl 2 rfl) ?_
        refine lv_aload_n hx hb dX5_writeLocals_18 rfl (lv_at hl 0 rfl) ?_
        obtain ⟨q19, hq, hf⟩ := ob_bind hf
        refine ax_callSv (k := 2) [.ref (ad r1), .ref (ad (52 + (σ.2.2.2 x2.toNatClampNeg)))] C0 hT hJ hE (met_X6_writeLocal l dC dI cyI cyE tC ad σ r1 (σ.2.2.2 x2.toNatClampNeg) (by omega) (by omega) _ hq) hP hS mc_X6_writeLocal ml_X5_105 mt_X6_writeLocal mz_X6 (by decide +kernel) ⟨rfl, rfl⟩ ⟨by decide, by decide⟩ rfl rfl hl.1 (Nat.le_of_ble_eq_true rfl) dX5_writeLocals_19 ⟨Nat.zero_le _, Nat.zero_le _⟩ (fun H locs hP hS => ?_)
        refine lv_aload_n hx hb dX5_writeLocals_22 rfl (lv_at hl 0 rfl) ?_
        obtain ⟨q23, hq, hf⟩ := ob_bind hf
        refine ax_callVi (C := "") (b := 0) (i := (52 + (σ.2.2.2 x2.toNatClampNeg))) (k := 0) (ci := 0) [] C0 hT hJ hE (met_X1_method l dC dI cyI cyE tC ad q19 (σ.2.2.2 x2.toNatClampNeg) (by omega) _ hq) hP hS mc_X1_method ml_X5_111 mi_X1_method ms_X1_method mz_X1 (by decide +kernel) ⟨rfl, rfl⟩ ⟨by decide, by decide⟩ (by omega) (cD_Entry (by omega)) rfl rfl rfl hl.1 (Nat.le_of_ble_eq_true rfl) dX5_writeLocals_23 ⟨Nat.zero_le _, Nat.zero_le _⟩ (fun H locs hP hS => ?_)
        refine lv_bipush (v := 99) hx hb dX5_writeLocals_26 (by decide) ?_
        refine lv_icmp_ne (tgt := 50) hx hb dX5_writeLocals_28 (by decide) (fun h28 => ?_) (fun h28 => ?_)
        · rw [if_neg h28] at hf
          refine lv_aload_n hx hb dX5_writeLocals_50 rfl (lv_at hl 2 rfl) ?_
          refine lv_aload_n hx hb dX5_writeLocals_51 rfl (lv_at hl 1 rfl) ?_
          refine g_Shelf_bytes C0 hT hE hP mf_X5_22 dX5_writeLocals_52 ?_
          refine lv_aload_n hx hb dX5_writeLocals_55 rfl (lv_at hl 0 rfl) ?_
          refine gN_Entry_start (k := (σ.2.2.2 x2.toNatClampNeg)) (by omega) C0 hT hE hP (by decide) dX5_writeLocals_56 ?_
          refine lv_aload_n hx hb dX5_writeLocals_59 rfl (lv_at hl 0 rfl) ?_
          refine gN_Entry_size (k := (σ.2.2.2 x2.toNatClampNeg)) (by omega) C0 hT hE hP (by decide) dX5_writeLocals_60 ?_
          obtain ⟨q63, hq, hf⟩ := ob_bind hf
          refine ax_callVv (b := 0) (i := r1) (k := 3) (ci := 3) [.ref (ad 3), .int (q23.2.1 1 (σ.2.2.2 x2.toNatClampNeg)), .int (q23.2.1 2 (σ.2.2.2 x2.toNatClampNeg))] C0 hT hJ hE (met_X4_append l dC dI cyI cyE tC ad q23.2 r1 3 (q23.2.1 1 (σ.2.2.2 x2.toNatClampNeg)) (q23.2.1 2 (σ.2.2.2 x2.toNatClampNeg)) (by omega) (by decide) _ hq) hP hS mc_X4_append ml_X5_66 mi_X4_append ms_X4_append mz_X4 (by decide +kernel) ⟨rfl, rfl⟩ ⟨by decide, by decide⟩ (by omega) (cD_Row (by omega)) rfl rfl rfl hl.1 (Nat.le_of_ble_eq_true rfl) dX5_writeLocals_63 ⟨Nat.zero_le _, Nat.zero_le _⟩ (fun H locs hP hS => ?_)
          exact L66 _ ih _ _ _ _ _ hP hS (lv_sub hl [1, 2, 3] rfl) hf
        · rw [if_pos h28] at hf
          refine lv_aload_n hx hb dX5_writeLocals_31 rfl (lv_at hl 1 rfl) ?_
          refine g_Shelf_bytes C0 hT hE hP mf_X5_22 dX5_writeLocals_32 ?_
          refine lv_aload_n hx hb dX5_writeLocals_35 rfl (lv_at hl 0 rfl) ?_
          refine gN_Entry_start (k := (σ.2.2.2 x2.toNatClampNeg)) (by omega) C0 hT hE hP (by decide) dX5_writeLocals_36 ?_
          refine lv_aload_n hx hb dX5_writeLocals_39 rfl (lv_at hl 0 rfl) ?_
          refine gN_Entry_size (k := (σ.2.2.2 x2.toNatClampNeg)) (by omega) C0 hT hE hP (by decide) dX5_writeLocals_40 ?_
          refine lv_aload_n hx hb dX5_writeLocals_43 rfl (lv_at hl 2 rfl) ?_
          obtain ⟨q44, hq, hf⟩ := ob_bind hf
          refine ax_callSv (k := 4) [.ref (ad 3), .int (q23.2.1 1 (σ.2.2.2 x2.toNatClampNeg)), .int (q23.2.1 2 (σ.2.2.2 x2.toNatClampNeg)), .ref (ad r1)] C0 hT hJ hE (met_X0_fold l dC dI cyI cyE tC ad q23.2 3 (q23.2.1 1 (σ.2.2.2 x2.toNatClampNeg)) (q23.2.1 2 (σ.2.2.2 x2.toNatClampNeg)) r1 (by decide) (by omega) _ hq) hP hS mc_X0_fold ml_X5_114 mt_X0_fold mz_X0 (by decide +kernel) ⟨rfl, rfl⟩ ⟨by decide, by decide⟩ rfl rfl hl.1 (Nat.le_of_ble_eq_true rfl) dX5_writeLocals_44 ⟨Nat.zero_le _, Nat.zero_le _⟩ (fun H locs hP hS => ?_)
          refine lv_goto (tgt := 66) hx hb dX5_writeLocals_47 (by decide) ?_
          exact L66 _ ih _ _ _ _ _ hP hS (lv_sub hl [1, 2, 3] rfl) hf
  unfold f_X5_writeLocals at hf
  refine lv_iconst (v := 0) hx hb dX5_writeLocals_0 (by decide) ?_
  refine lv_istore_n (lv' := [(2, .int 0), (0, .ref (ad 75)), (1, .ref (ad r1))]) hx hb dX5_writeLocals_1 rfl hl (by decide) rfl (fun ls hl => ?_)
  exact L2 fu _ _ _ _ _ hP hS (lv_sub hl [1, 2, 0] rfl) hf
def f_X6_writeCentral (σ : SD) (r0 : Nat) (k1 : Nat) (x2 : Int32) : Option (SD) := (f_X4_pushSignature σ r0 1 2).bind fun q3 => (f_X4_pushTwo q3 r0 20).bind fun q9 => (f_X6_writeShared q9 r0 k1).bind fun q14 => (f_X4_pushTwo q14 r0 0).bind fun q19 => (f_X4_pushTwo q19 r0 0).bind fun q24 => (f_X4_pushTwo q24 r0 0).bind fun q29 => (f_X4_pushFour q29 r0 0).bind fun q34 => (f_X4_pushFour q34 r0 x2).bind fun q39 => (f_X4_size q39 (5 + k1)).bind fun q52 => (f_X4_append q52.2 r0 (5 + k1) 0 q52.1).bind fun q55 => some q55
def rm_X6_writeCentral : Room := { frames := 4, cells := 0, slots := 0, locals := 84 }
set_option maxHeartbeats 4000000 in
set_option maxRecDepth 100000 in
theorem met_X6_writeCentral (l : Launch) (dC : Nat → ClassId) (dI : Nat → Nat → Nat) (cyI cyE : ClassId) (tC : Nat) (ad : Nat → Nat) (σ : SD) (r0 : Nat) (k1 : Nat) (x2 : Int32) (hb_r0 : r0 < 25) (hb_k1 : k1 < 20) (res : SD) (hf : f_X6_writeCentral σ r0 k1 x2 = some res) : ax_Mv l dC dI cyI cyE tC 77 (cD cyI cyE ad) ad yX6_writeCentral cX6_writeCentral 3 none rm_X6_writeCentral [.ref (ad r0), .ref (ad (52 + k1)), .int x2] σ res := by
  intro sz
  refine Met.ofW (cc := cX6_writeCentral) (maxL := 3) (ret := none) (by decide) rfl ?_
  intro p e s m args below meth c s₁ B hml hv
  obtain ⟨hargs, hsz, hP, hJ, hE⟩ := hv
  subst hsz
  have hx := B.exec
  have hb := B.bytes
  have hr := B.returns
  have hlocks := B.notSynchronized
  have hts := atoms_spec (ws := wsY yX6_writeCentral cX6_writeCentral 3 none) B.pre
  have hown : s.vm.findClass RX6 = some m.cls := findClass_of_methodNamed B.named
  have C0 : CallFix p m c cX6_writeCentral 3 s args (wsY yX6_writeCentral cX6_writeCentral 3 none) RX6 := ⟨hx, hb, hml, hown, hts⟩
  have hT : ∀ w ∈ bw, w ∈ wsY yX6_writeCentral cX6_writeCentral 3 none := fun w h => List.mem_cons_of_mem _ h
  have hS : va_S (ax_A 77 ad s.heap.size) s.heap s.heap [] := va_S.rf
  rw [show entryFrame m args 3 = entryFrame m ([.ref (ad r0), .ref (ad (52 + k1)), .int x2] : List Value).toArray 3 by rw [hargs]]
  have hl := lv_entry ([.ref (ad r0), .ref (ad (52 + k1)), .int x2]) (n := 3) (Nat.le_of_ble_eq_true rfl)
  rw [lg_entry_eq]
  generalize (lg_sl ([.ref (ad r0), .ref (ad (52 + k1)), .int x2]) ++ List.replicate (3 - (lg_sl ([.ref (ad r0), .ref (ad (52 + k1)), .int x2])).length) Slot.unset).toArray = ls at hl ⊢
  have hl : lv_has ls 3 [(0, .ref (ad r0)), (1, .ref (ad (52 + k1))), (2, .int x2)] := hl
  obtain ⟨Q, hQ⟩ : ∃ Q : State → Prop, Q = MQ below (va_Qv (fun (u : SD) => u = res) (ax_B dC dI 77 (cD cyI cyE ad) ad) (ax_A 77 ad s.heap.size)) args s 0 0 (ax_A 77 ad s.heap.size) := ⟨_, rfl⟩
  show W p l e rm_X6_writeCentral s m args below meth c s.heap [] 0 0 _ _
  rw [← hQ]
  have hret : ∀ (σ : SD) (H : Heap) (locs : List Loc) (ls : Array Slot) (pc : Nat), some σ = some res → va_P (dC, dI) vwCl (ax_w 77 ad (cD cyI cyE ad σ)) H → va_S (ax_A 77 ad s.heap.size) s.heap H locs → decode cX6_writeCentral pc = .ok (.return_, 1) → W p l e rm_X6_writeCentral s m args below meth c H locs 0 0 Q (F0 m pc ls []) := by
    intro σ H locs ls pc hf hP hS hd
    cases hf
    rw [hQ]
    exact ax_vret hx hb hr hlocks hP hS hd rfl
  unfold f_X6_writeCentral at hf
  refine lv_aload_n hx hb dX6_writeCentral_0 rfl (lv_at hl 0 rfl) ?_
  refine lv_iconst (v := 1) hx hb dX6_writeCentral_1 (by decide) ?_
  refine lv_iconst (v := 2) hx hb dX6_writeCentral_2 (by decide) ?_
  obtain ⟨q3, hq, hf⟩ := ob_bind hf
  refine ax_callVv (b := 0) (i := r0) (k := 2) (ci := 3) [.int 1, .int 2] C0 hT hJ hE (met_X4_pushSignature l dC dI cyI cyE tC ad σ r0 1 2 (by omega) _ hq) hP hS mc_X4_pushSignature ml_X6_9 mi_X4_pushSignature ms_X4_pushSignature mz_X4 (by decide +kernel) ⟨rfl, rfl⟩ ⟨by decide, by decide⟩ (by omega) (cD_Row (by omega)) rfl rfl rfl hl.1 (Nat.le_of_ble_eq_true rfl) dX6_writeCentral_3 ⟨Nat.zero_le _, Nat.zero_le _⟩ (fun H locs hP hS => ?_)
  refine lv_aload_n hx hb dX6_writeCentral_6 rfl (lv_at hl 0 rfl) ?_
  refine lv_bipush (v := 20) hx hb dX6_writeCentral_7 (by decide) ?_
  obtain ⟨q9, hq, hf⟩ := ob_bind hf
  refine ax_callVv (b := 0) (i := r0) (k := 1) (ci := 3) [.int 20] C0 hT hJ hE (met_X4_pushTwo l dC dI cyI cyE tC ad q3 r0 20 (by omega) _ hq) hP hS mc_X4_pushTwo ml_X6_35 mi_X4_pushTwo ms_X4_pushTwo mz_X4 (by decide +kernel) ⟨rfl, rfl⟩ ⟨by decide, by decide⟩ (by omega) (cD_Row (by omega)) rfl rfl rfl hl.1 (Nat.le_of_ble_eq_true rfl) dX6_writeCentral_9 ⟨Nat.zero_le _, Nat.zero_le _⟩ (fun H locs hP hS => ?_)
  refine lv_aload_n hx hb dX6_writeCentral_12 rfl (lv_at hl 0 rfl) ?_
  refine lv_aload_n hx hb dX6_writeCentral_13 rfl (lv_at hl 1 rfl) ?_
  obtain ⟨q14, hq, hf⟩ := ob_bind hf
  refine ax_callSv (k := 2) [.ref (ad r0), .ref (ad (52 + k1))] C0 hT hJ hE (met_X6_writeShared l dC dI cyI cyE tC ad q9 r0 k1 (by omega) (by omega) _ hq) hP hS mc_X6_writeShared ml_X6_15 mt_X6_writeShared mz_X6 (by decide +kernel) ⟨rfl, rfl⟩ ⟨by decide, by decide⟩ rfl rfl hl.1 (Nat.le_of_ble_eq_true rfl) dX6_writeCentral_14 ⟨Nat.zero_le _, Nat.zero_le _⟩ (fun H locs hP hS => ?_)
  refine lv_aload_n hx hb dX6_writeCentral_17 rfl (lv_at hl 0 rfl) ?_
  refine lv_iconst (v := 0) hx hb dX6_writeCentral_18 (by decide) ?_
  obtain ⟨q19, hq, hf⟩ := ob_bind hf
  refine ax_callVv (b := 0) (i := r0) (k := 1) (ci := 3) [.int 0] C0 hT hJ hE (met_X4_pushTwo l dC dI cyI cyE tC ad q14 r0 0 (by omega) _ hq) hP hS mc_X4_pushTwo ml_X6_35 mi_X4_pushTwo ms_X4_pushTwo mz_X4 (by decide +kernel) ⟨rfl, rfl⟩ ⟨by decide, by decide⟩ (by omega) (cD_Row (by omega)) rfl rfl rfl hl.1 (Nat.le_of_ble_eq_true rfl) dX6_writeCentral_19 ⟨Nat.zero_le _, Nat.zero_le _⟩ (fun H locs hP hS => ?_)
  refine lv_aload_n hx hb dX6_writeCentral_22 rfl (lv_at hl 0 rfl) ?_
  refine lv_iconst (v := 0) hx hb dX6_writeCentral_23 (by decide) ?_
  obtain ⟨q24, hq, hf⟩ := ob_bind hf
  refine ax_callVv (b := 0) (i := r0) (k := 1) (ci := 3) [.int 0] C0 hT hJ hE (met_X4_pushTwo l dC dI cyI cyE tC ad q19 r0 0 (by omega) _ hq) hP hS mc_X4_pushTwo ml_X6_35 mi_X4_pushTwo ms_X4_pushTwo mz_X4 (by decide +kernel) ⟨rfl, rfl⟩ ⟨by decide, by decide⟩ (by omega) (cD_Row (by omega)) rfl rfl rfl hl.1 (Nat.le_of_ble_eq_true rfl) dX6_writeCentral_24 ⟨Nat.zero_le _, Nat.zero_le _⟩ (fun H locs hP hS => ?_)
  refine lv_aload_n hx hb dX6_writeCentral_27 rfl (lv_at hl 0 rfl) ?_
  refine lv_iconst (v := 0) hx hb dX6_writeCentral_28 (by decide) ?_
  obtain ⟨q29, hq, hf⟩ := ob_bind hf
  refine ax_callVv (b := 0) (i := r0) (k := 1) (ci := 3) [.int 0] C0 hT hJ hE (met_X4_pushTwo l dC dI cyI cyE tC ad q24 r0 0 (by omega) _ hq) hP hS mc_X4_pushTwo ml_X6_35 mi_X4_pushTwo ms_X4_pushTwo mz_X4 (by decide +kernel) ⟨rfl, rfl⟩ ⟨by decide, by decide⟩ (by omega) (cD_Row (by omega)) rfl rfl rfl hl.1 (Nat.le_of_ble_eq_true rfl) dX6_writeCentral_29 ⟨Nat.zero_le _, Nat.zero_le _⟩ (fun H locs hP hS => ?_)
  refine lv_aload_n hx hb dX6_writeCentral_32 rfl (lv_at hl 0 rfl) ?_
  refine lv_iconst (v := 0) hx hb dX6_writeCentral_33 (by decide) ?_
  obtain ⟨q34, hq, hf⟩ := ob_bind hf
  refine ax_callVv (b := 0) (i := r0) (k := 1) (ci := 3) [.int 0] C0 hT hJ hE (met_X4_pushFour l dC dI cyI cyE tC ad q29 r0 0 (by omega) _ hq) hP hS mc_X4_pushFour ml_X6_39 mi_X4_pushFour ms_X4_pushFour mz_X4 (by decide +kernel) ⟨rfl, rfl⟩ ⟨by decide, by decide⟩ (by omega) (cD_Row (by omega)) rfl rfl rfl hl.1 (Nat.le_of_ble_eq_true rfl) dX6_writeCentral_34 ⟨Nat.zero_le _, Nat.zero_le _⟩ (fun H locs hP hS => ?_)
  refine lv_aload_n hx hb dX6_writeCentral_37 rfl (lv_at hl 0 rfl) ?_
  refine lv_iload_n hx hb dX6_writeCentral_38 rfl (lv_at hl 2 rfl) ?_
  obtain ⟨q39, hq, hf⟩ := ob_bind hf
  refine ax_callVv (b := 0) (i := r0) (k := 1) (ci := 3) [.int x2] C0 hT hJ hE (met_X4_pushFour l dC dI cyI cyE tC ad q34 r0 x2 (by omega) _ hq) hP hS mc_X4_pushFour ml_X6_39 mi_X4_pushFour ms_X4_pushFour mz_X4 (by decide +kernel) ⟨rfl, rfl⟩ ⟨by decide, by decide⟩ (by omega) (cD_Row (by omega)) rfl rfl rfl hl.1 (Nat.le_of_ble_eq_true rfl) dX6_writeCentral_39 ⟨Nat.zero_le _, Nat.zero_le _⟩ (fun H locs hP hS => ?_)
  refine lv_aload_n hx hb dX6_writeCentral_42 rfl (lv_at hl 0 rfl) ?_
  refine lv_aload_n hx hb dX6_writeCentral_43 rfl (lv_at hl 1 rfl) ?_
  refine gN_Entry_name (k := k1) (by omega) C0 hT hE hP (by decide) dX6_writeCentral_44 ?_
  refine lv_iconst (v := 0) hx hb dX6_writeCentral_47 (by decide) ?_
  refine lv_aload_n hx hb dX6_writeCentral_48 rfl (lv_at hl 1 rfl) ?_
  refine gN_Entry_name (k := k1) (by omega) C0 hT hE hP (by decide) dX6_writeCentral_49 ?_
  obtain ⟨q52, hq, hf⟩ := ob_bind hf
  refine ax_callVi (C := "") (b := 0) (i := (5 + k1)) (k := 0) (ci := 3) [] C0 hT hJ hE (met_X4_size l dC dI cyI cyE tC ad q39 (5 + k1) (by omega) _ hq) hP hS mc_X4_size ml_X6_27 mi_X4_size ms_X4_size mz_X4 (by decide +kernel) ⟨rfl, rfl⟩ ⟨by decide, by decide⟩ (by omega) (cD_Row (by omega)) rfl rfl rfl hl.1 (Nat.le_of_ble_eq_true rfl) dX6_writeCentral_52 ⟨Nat.zero_le _, Nat.zero_le _⟩ (fun H locs hP hS => ?_)
  obtain ⟨q55, hq, hf⟩ := ob_bind hf
  refine ax_callVv (b := 0) (i := r0) (k := 3) (ci := 3) [.ref (ad (5 + k1)), .int 0, .int q52.1] C0 hT hJ hE (met_X4_append l dC dI cyI cyE tC ad q52.2 r0 (5 + k1) 0 q52.1 (by omega) (by omega) _ hq) hP hS mc_X4_append ml_X6_31 mi_X4_append ms_X4_append mz_X4 (by decide +kernel) ⟨rfl, rfl⟩ ⟨by decide, by decide⟩ (by omega) (cD_Row (by omega)) rfl rfl rfl hl.1 (Nat.le_of_ble_eq_true rfl) dX6_writeCentral_55 ⟨Nat.zero_le _, Nat.zero_le _⟩ (fun H locs hP hS => ?_)
  exact hret _ _ _ _ _ hf hP hS dX6_writeCentral_58
def f_X5_writeCentrals_4 (r1 : Nat) : Nat → SD → Int32 → Int32 → Option (SD)
  | 0, _, _, _ => none
  | n + 1, σ, x2, x3 => if (σ.1 5 0) ≤ x3 then (some σ) else (if inb x3 20 = true then (if σ.2.2.2 x3.toNatClampNeg < 20 then ((f_X6_writeCentral σ r1 (σ.2.2.2 x3.toNatClampNeg) x2).bind fun q20 => if inb x3 20 = true then (if q20.2.2.2 x3.toNatClampNeg < 20 then ((f_X1_localSize q20 (q20.2.2.2 x3.toNatClampNeg)).bind fun q30 => f_X5_writeCentrals_4 r1 n q30.2 (x2 + q30.1) (x3 + 1)) else none) else none) else none) else none)
def f_X5_writeCentrals (σ : SD) (r1 : Nat) : Option (SD) := f_X5_writeCentrals_4 r1 fu σ 0 0
def rm_X5_writeCentrals : Room := { frames := 5, cells := 0, slots := 0, locals := 106 }
set_option maxHeartbeats 4000000 in
set_option maxRecDepth 100000 in
theorem met_X5_writeCentrals (l : Launch) (dC : Nat → ClassId) (dI : Nat → Nat → Nat) (cyI cyE : ClassId) (tC : Nat) (ad : Nat → Nat) (σ : SD) (r1 : Nat) (hb_r1 : r1 < 25) (res : SD) (hf : f_X5_writeCentrals σ r1 = some res) : ax_Mv l dC dI cyI cyE tC 77 (cD cyI cyE ad) ad yX5_writeCentrals cX5_writeCentrals 4 none rm_X5_writeCentrals [.ref (ad 75), .ref (ad r1)] σ res := by
  intro sz
  refine Met.ofW (cc := cX5_writeCentrals) (maxL := 4) (ret := none) (by decide) rfl ?_
  intro p e s m args below meth c s₁ B hml hv
  obtain ⟨hargs, hsz, hP, hJ, hE⟩ := hv
  subst hsz
  have hx := B.exec
  have hb := B.bytes
  have hr := B.returns
  have hlocks := B.notSynchronized
  have hts := atoms_spec (ws := wsY yX5_writeCentrals cX5_writeCentrals 4 none) B.pre
  have hown : s.vm.findClass RX5 = some m.cls := findClass_of_methodNamed B.named
  have C0 : CallFix p m c cX5_writeCentrals 4 s args (wsY yX5_writeCentrals cX5_writeCentrals 4 none) RX5 := ⟨hx, hb, hml, hown, hts⟩
  have hT : ∀ w ∈ bw, w ∈ wsY yX5_writeCentrals cX5_writeCentrals 4 none := fun w h => List.mem_cons_of_mem _ h
  have hS : va_S (ax_A 77 ad s.heap.size) s.heap s.heap [] := va_S.rf
  rw [show entryFrame m args 4 = entryFrame m ([.ref (ad 75), .ref (ad r1)] : List Value).toArray 4 by rw [hargs]]
  have hl := lv_entry ([.ref (ad 75), .ref (ad r1)]) (n := 4) (Nat.le_of_ble_eq_true rfl)
  rw [lg_entry_eq]
  generalize (lg_sl ([.ref (ad 75), .ref (ad r1)]) ++ List.replicate (4 - (lg_sl ([.ref (ad 75), .ref (ad r1)])).length) Slot.unset).toArray = ls at hl ⊢
  have hl : lv_has ls 4 [(0, .ref (ad 75)), (1, .ref (ad r1))] := hl
  obtain ⟨Q, hQ⟩ : ∃ Q : State → Prop, Q = MQ below (va_Qv (fun (u : SD) => u = res) (ax_B dC dI 77 (cD cyI cyE ad) ad) (ax_A 77 ad s.heap.size)) args s 0 0 (ax_A 77 ad s.heap.size) := ⟨_, rfl⟩
  show W p l e rm_X5_writeCentrals s m args below meth c s.heap [] 0 0 _ _
  rw [← hQ]
  have hret : ∀ (σ : SD) (H : Heap) (locs : List Loc) (ls : Array Slot) (pc : Nat), some σ = some res → va_P (dC, dI) vwCl (ax_w 77 ad (cD cyI cyE ad σ)) H → va_S (ax_A 77 ad s.heap.size) s.heap H locs → decode cX5_writeCentrals pc = .ok (.return_, 1) → W p l e rm_X5_writeCentrals s m args below meth c H locs 0 0 Q (F0 m pc ls []) := by
    intro σ H locs ls pc hf hP hS hd
    cases hf
    rw [hQ]
    exact ax_vret hx hb hr hlocks hP hS hd rfl
  have L4 : ∀ (n : Nat), ∀ (σ : SD) (x2 : Int32) (x3 : Int32), ∀ (H : Heap) (locs : List Loc) (ls : Array Slot), va_P (dC, dI) vwCl (ax_w 77 ad (cD cyI cyE ad σ)) H → va_S (ax_A 77 ad s.heap.size) s.heap H locs → lv_has ls 4 [(0, .ref (ad 75)), (1, .ref (ad r1)), (2, .int x2), (3, .int x3)] → f_X5_writeCentrals_4 r1 n σ x2 x3 = some res → W p l e rm_X5_writeCentrals s m args below meth c H locs 0 0 Q (F0 m 4 ls []) := by
    intro n
    induction n with
    | zero =>
      intro σ x2 x3  H locs ls hP hS hl hf
      cases hf
    | succ n ih =>
      intro σ x2 x3  H locs ls hP hS hl hf
      rw [f_X5_writeCentrals_4] at hf
      refine lv_iload_n hx hb dX5_writeCentrals_4 rfl (lv_at hl 3 rfl) ?_
      refine lv_aload_n hx hb dX5_writeCentrals_5 rfl (lv_at hl 0 rfl) ?_
      refine g_Shelf_count C0 hT hE hP mf_X5_27 dX5_writeCentrals_6 ?_
      refine lv_icmp_ge (tgt := 41) hx hb dX5_writeCentrals_9 (by decide) (fun h9 => ?_) (fun h9 => ?_)
      · rw [if_pos h9] at hf
        exact hret _ _ _ _ _ hf hP hS dX5_writeCentrals_41
      · rw [if_neg h9] at hf
        refine lv_aload_n hx hb dX5_writeCentrals_12 rfl (lv_at hl 1 rfl) ?_
        refine lv_aload_n hx hb dX5_writeCentrals_13 rfl (lv_at hl 0 rfl) ?_
        refine g_Shelf_entries C0 hT hE hP mf_X5_11 dX5_writeCentrals_14 ?_
        refine lv_iload_n hx hb dX5_writeCentrals_17 rfl (lv_at hl 3 rfl) ?_
        obtain ⟨hin, hf⟩ := ob_if hf
        obtain ⟨hen18, hf⟩ := ob_if hf
        refine aD_lde C0 hT hE hP (inb_in hin) dX5_writeCentrals_18 ?_
        refine lv_iload_n hx hb dX5_writeCentrals_19 rfl (lv_at hl 2 rfl) ?_
        obtain ⟨q20, hq, hf⟩ := ob_bind hf
        refine ax_callSv (k := 3) [.ref (ad r1), .ref (ad (52 + (σ.2.2.2 x3.toNatClampNeg))), .int x2] C0 hT hJ hE (met_X6_writeCentral l dC dI cyI cyE tC ad σ r1 (σ.2.2.2 x3.toNatClampNeg) x2 (by omega) (by omega) _ hq) hP hS mc_X6_writeCentral ml_X5_118 mt_X6_writeCentral mz_X6 (by decide +kernel) ⟨rfl, rfl⟩ ⟨by decide, by decide⟩ rfl rfl hl.1 (Nat.le_of_ble_eq_true rfl) dX5_writeCentrals_20 ⟨Nat.zero_le _, Nat.zero_le _⟩ (fun H locs hP hS => ?_)
        refine lv_iload_n hx hb dX5_writeCentrals_23 rfl (lv_at hl 2 rfl) ?_
        refine lv_aload_n hx hb dX5_writeCentrals_24 rfl (lv_at hl 0 rfl) ?_
        refine g_Shelf_entries C0 hT hE hP mf_X5_11 dX5_writeCentrals_25 ?_
        refine lv_iload_n hx hb dX5_writeCentrals_28 rfl (lv_at hl 3 rfl) ?_
        obtain ⟨hin, hf⟩ := ob_if hf
        obtain ⟨hen29, hf⟩ := ob_if hf
        refine aD_lde C0 hT hE hP (inb_in hin) dX5_writeCentrals_29 ?_
        obtain ⟨q30, hq, hf⟩ := ob_bind hf
        refine ax_callVi (C := "") (b := 0) (i := (52 + (q20.2.2.2 x3.toNatClampNeg))) (k := 0) (ci := 0) [] C0 hT hJ hE (met_X1_localSize l dC dI cyI cyE tC ad q20 (q20.2.2.2 x3.toNatClampNeg) (by omega) _ hq) hP hS mc_X1_localSize ml_X5_122 mi_X1_localSize ms_X1_localSize mz_X1 (by decide +kernel) ⟨rfl, rfl⟩ ⟨by decide, by decide⟩ (by omega) (cD_Entry (by omega)) rfl rfl rfl hl.1 (Nat.le_of_ble_eq_true rfl) dX5_writeCentrals_30 ⟨Nat.zero_le _, Nat.zero_le _⟩ (fun H locs hP hS => ?_)
        refine lv_iadd hx hb dX5_writeCentrals_33 ?_
        refine lv_istore_n (lv' := [(2, .int (x2 + q30.1)), (0, .ref (ad 75)), (1, .ref (ad r1)), (3, .int x3)]) hx hb dX5_writeCentrals_34 rfl hl (by decide) rfl (fun ls hl => ?_)
        refine lv_iinc (v := x3 + 1) (lv' := [(3, .int (x3 + 1)), (2, .int (x2 + q30.1)), (0, .ref (ad 75)), (1, .ref (ad r1))]) hx hb dX5_writeCentrals_35 hl (k := 3) rfl rfl (by decide) rfl (fun ls hl => ?_)
        refine lv_goto (tgt := 4) hx hb dX5_writeCentrals_38 (by decide) ?_
        exact ih _ _ _ _ _ _ hP hS (lv_sub hl [2, 3, 1, 0] rfl) hf
  unfold f_X5_writeCentrals at hf
  refine lv_iconst (v := 0) hx hb dX5_writeCentrals_0 (by decide) ?_
  refine lv_istore_n (lv' := [(2, .int 0), (0, .ref (ad 75)), (1, .ref (ad r1))]) hx hb dX5_writeCentrals_1 rfl hl (by decide) rfl (fun ls hl => ?_)
  refine lv_iconst (v := 0) hx hb dX5_writeCentrals_2 (by decide) ?_
  refine lv_istore_n (lv' := [(3, .int 0), (2, .int 0), (0, .ref (ad 75)), (1, .ref (ad r1))]) hx hb dX5_writeCentrals_3 rfl hl (by decide) rfl (fun ls hl => ?_)
  exact L4 fu _ _ _ _ _ _ hP hS (lv_sub hl [2, 3, 1, 0] rfl) hf
def f_X6_writeEnd (σ : SD) (r0 : Nat) (x1 : Int32) (x2 : Int32) (x3 : Int32) : Option (SD) := (f_X4_pushSignature σ r0 5 6).bind fun q4 => (f_X4_pushTwo q4 r0 0).bind fun q9 => (f_X4_pushTwo q9 r0 0).bind fun q14 => (f_X4_pushTwo q14 r0 x1).bind fun q19 => (f_X4_pushTwo q19 r0 x1).bind fun q24 => (f_X4_pushFour q24 r0 x2).bind fun q29 => (f_X4_pushFour q29 r0 x3).bind fun q34 => (f_X4_pushTwo q34 r0 0).bind fun q39 => some q39
def rm_X6_writeEnd : Room := { frames := 3, cells := 0, slots := 0, locals := 63 }
set_option maxHeartbeats 4000000 in
set_option maxRecDepth 100000 in
theorem met_X6_writeEnd (l : Launch) (dC : Nat → ClassId) (dI : Nat → Nat → Nat) (cyI cyE : ClassId) (tC : Nat) (ad : Nat → Nat) (σ : SD) (r0 : Nat) (x1 : Int32) (x2 : Int32) (x3 : Int32) (hb_r0 : r0 < 25) (res : SD) (hf : f_X6_writeEnd σ r0 x1 x2 x3 = some res) : ax_Mv l dC dI cyI cyE tC 77 (cD cyI cyE ad) ad yX6_writeEnd cX6_writeEnd 4 none rm_X6_writeEnd [.ref (ad r0), .int x1, .int x2, .int x3] σ res := by
  intro sz
  refine Met.ofW (cc := cX6_writeEnd) (maxL := 4) (ret := none) (by decide) rfl ?_
  intro p e s m args below meth c s₁ B hml hv
  obtain ⟨hargs, hsz, hP, hJ, hE⟩ := hv
  subst hsz
  have hx := B.exec
  have hb := B.bytes
  have hr := B.returns
  have hlocks := B.notSynchronized
  have hts := atoms_spec (ws := wsY yX6_writeEnd cX6_writeEnd 4 none) B.pre
  have hown : s.vm.findClass RX6 = some m.cls := findClass_of_methodNamed B.named
  have C0 : CallFix p m c cX6_writeEnd 4 s args (wsY yX6_writeEnd cX6_writeEnd 4 none) RX6 := ⟨hx, hb, hml, hown, hts⟩
  have hT : ∀ w ∈ bw, w ∈ wsY yX6_writeEnd cX6_writeEnd 4 none := fun w h => List.mem_cons_of_mem _ h
  have hS : va_S (ax_A 77 ad s.heap.size) s.heap s.heap [] := va_S.rf
  rw [show entryFrame m args 4 = entryFrame m ([.ref (ad r0), .int x1, .int x2, .int x3] : List Value).toArray 4 by rw [hargs]]
  have hl := lv_entry ([.ref (ad r0), .int x1, .int x2, .int x3]) (n := 4) (Nat.le_of_ble_eq_true rfl)
  rw [lg_entry_eq]
  generalize (lg_sl ([.ref (ad r0), .int x1, .int x2, .int x3]) ++ List.replicate (4 - (lg_sl ([.ref (ad r0), .int x1, .int x2, .int x3])).length) Slot.unset).toArray = ls at hl ⊢
  have hl : lv_has ls 4 [(0, .ref (ad r0)), (1, .int x1), (2, .int x2), (3, .int x3)] := hl
  obtain ⟨Q, hQ⟩ : ∃ Q : State → Prop, Q = MQ below (va_Qv (fun (u : SD) => u = res) (ax_B dC dI 77 (cD cyI cyE ad) ad) (ax_A 77 ad s.heap.size)) args s 0 0 (ax_A 77 ad s.heap.size) := ⟨_, rfl⟩
  show W p l e rm_X6_writeEnd s m args below meth c s.heap [] 0 0 _ _
  rw [← hQ]
  have hret : ∀ (σ : SD) (H : Heap) (locs : List Loc) (ls : Array Slot) (pc : Nat), some σ = some res → va_P (dC, dI) vwCl (ax_w 77 ad (cD cyI cyE ad σ)) H → va_S (ax_A 77 ad s.heap.size) s.heap H locs → decode cX6_writeEnd pc = .ok (.return_, 1) → W p l e rm_X6_writeEnd s m args below meth c H locs 0 0 Q (F0 m pc ls []) := by
    intro σ H locs ls pc hf hP hS hd
    cases hf
    rw [hQ]
    exact ax_vret hx hb hr hlocks hP hS hd rfl
  unfold f_X6_writeEnd at hf
  refine lv_aload_n hx hb dX6_writeEnd_0 rfl (lv_at hl 0 rfl) ?_
  refine lv_iconst (v := 5) hx hb dX6_writeEnd_1 (by decide) ?_
  refine lv_bipush (v := 6) hx hb dX6_writeEnd_2 (by decide) ?_
  obtain ⟨q4, hq, hf⟩ := ob_bind hf
  refine ax_callVv (b := 0) (i := r0) (k := 2) (ci := 3) [.int 5, .int 6] C0 hT hJ hE (met_X4_pushSignature l dC dI cyI cyE tC ad σ r0 5 6 (by omega) _ hq) hP hS mc_X4_pushSignature ml_X6_9 mi_X4_pushSignature ms_X4_pushSignature mz_X4 (by decide +kernel) ⟨rfl, rfl⟩ ⟨by decide, by decide⟩ (by omega) (cD_Row (by omega)) rfl rfl rfl hl.1 (Nat.le_of_ble_eq_true rfl) dX6_writeEnd_4 ⟨Nat.zero_le _, Nat.zero_le _⟩ (fun H locs hP hS => ?_)
  refine lv_aload_n hx hb dX6_writeEnd_7 rfl (lv_at hl 0 rfl) ?_
  refine lv_iconst (v := 0) hx hb dX6_writeEnd_8 (by decide) ?_
  obtain ⟨q9, hq, hf⟩ := ob_bind hf
  refine ax_callVv (b := 0) (i := r0) (k := 1) (ci := 3) [.int 0] C0 hT hJ hE (met_X4_pushTwo l dC dI cyI cyE tC ad q4 r0 0 (by omega) _ hq) hP hS mc_X4_pushTwo ml_X6_35 mi_X4_pushTwo ms_X4_pushTwo mz_X4 (by decide +kernel) ⟨rfl, rfl⟩ ⟨by decide, by decide⟩ (by omega) (cD_Row (by omega)) rfl rfl rfl hl.1 (Nat.le_of_ble_eq_true rfl) dX6_writeEnd_9 ⟨Nat.zero_le _, Nat.zero_le _⟩ (fun H locs hP hS => ?_)
  refine lv_aload_n hx hb dX6_writeEnd_12 rfl (lv_at hl 0 rfl) ?_
  refine lv_iconst (v := 0) hx hb dX6_writeEnd_13 (by decide) ?_
  obtain ⟨q14, hq, hf⟩ := ob_bind hf
  refine ax_callVv (b := 0) (i := r0) (k := 1) (ci := 3) [.int 0] C0 hT hJ hE (met_X4_pushTwo l dC dI cyI cyE tC ad q9 r0 0 (by omega) _ hq) hP hS mc_X4_pushTwo ml_X6_35 mi_X4_pushTwo ms_X4_pushTwo mz_X4 (by decide +kernel) ⟨rfl, rfl⟩ ⟨by decide, by decide⟩ (by omega) (cD_Row (by omega)) rfl rfl rfl hl.1 (Nat.le_of_ble_eq_true rfl) dX6_writeEnd_14 ⟨Nat.zero_le _, Nat.zero_le _⟩ (fun H locs hP hS => ?_)
  refine lv_aload_n hx hb dX6_writeEnd_17 rfl (lv_at hl 0 rfl) ?_
  refine lv_iload_n hx hb dX6_writeEnd_18 rfl (lv_at hl 1 rfl) ?_
  obtain ⟨q19, hq, hf⟩ := ob_bind hf
  refine ax_callVv (b := 0) (i := r0) (k := 1) (ci := 3) [.int x1] C0 hT hJ hE (met_X4_pushTwo l dC dI cyI cyE tC ad q14 r0 x1 (by omega) _ hq) hP hS mc_X4_pushTwo ml_X6_35 mi_X4_pushTwo ms_X4_pushTwo mz_X4 (by decide +kernel) ⟨rfl, rfl⟩ ⟨by decide, by decide⟩ (by omega) (cD_Row (by omega)) rfl rfl rfl hl.1 (Nat.le_of_ble_eq_true rfl) dX6_writeEnd_19 ⟨Nat.zero_le _, Nat.zero_le _⟩ (fun H locs hP hS => ?_)
  refine lv_aload_n hx hb dX6_writeEnd_22 rfl (lv_at hl 0 rfl) ?_
  refine lv_iload_n hx hb dX6_writeEnd_23 rfl (lv_at hl 1 rfl) ?_
  obtain ⟨q24, hq, hf⟩ := ob_bind hf
  refine ax_callVv (b := 0) (i := r0) (k := 1) (ci := 3) [.int x1] C0 hT hJ hE (met_X4_pushTwo l dC dI cyI cyE tC ad q19 r0 x1 (by omega) _ hq) hP hS mc_X4_pushTwo ml_X6_35 mi_X4_pushTwo ms_X4_pushTwo mz_X4 (by decide +kernel) ⟨rfl, rfl⟩ ⟨by decide, by decide⟩ (by omega) (cD_Row (by omega)) rfl rfl rfl hl.1 (Nat.le_of_ble_eq_true rfl) dX6_writeEnd_24 ⟨Nat.zero_le _, Nat.zero_le _⟩ (fun H locs hP hS => ?_)
  refine lv_aload_n hx hb dX6_writeEnd_27 rfl (lv_at hl 0 rfl) ?_
  refine lv_iload_n hx hb dX6_writeEnd_28 rfl (lv_at hl 2 rfl) ?_
  obtain ⟨q29, hq, hf⟩ := ob_bind hf
  refine ax_callVv (b := 0) (i := r0) (k := 1) (ci := 3) [.int x2] C0 hT hJ hE (met_X4_pushFour l dC dI cyI cyE tC ad q24 r0 x2 (by omega) _ hq) hP hS mc_X4_pushFour ml_X6_39 mi_X4_pushFour ms_X4_pushFour mz_X4 (by decide +kernel) ⟨rfl, rfl⟩ ⟨by decide, by decide⟩ (by omega) (cD_Row (by omega)) rfl rfl rfl hl.1 (Nat.le_of_ble_eq_true rfl) dX6_writeEnd_29 ⟨Nat.zero_le _, Nat.zero_le _⟩ (fun H locs hP hS => ?_)
  refine lv_aload_n hx hb dX6_writeEnd_32 rfl (lv_at hl 0 rfl) ?_
  refine lv_iload_n hx hb dX6_writeEnd_33 rfl (lv_at hl 3 rfl) ?_
  obtain ⟨q34, hq, hf⟩ := ob_bind hf
  refine ax_callVv (b := 0) (i := r0) (k := 1) (ci := 3) [.int x3] C0 hT hJ hE (met_X4_pushFour l dC dI cyI cyE tC ad q29 r0 x3 (by omega) _ hq) hP hS mc_X4_pushFour ml_X6_39 mi_X4_pushFour ms_X4_pushFour mz_X4 (by decide +kernel) ⟨rfl, rfl⟩ ⟨by decide, by decide⟩ (by omega) (cD_Row (by omega)) rfl rfl rfl hl.1 (Nat.le_of_ble_eq_true rfl) dX6_writeEnd_34 ⟨Nat.zero_le _, Nat.zero_le _⟩ (fun H locs hP hS => ?_)
  refine lv_aload_n hx hb dX6_writeEnd_37 rfl (lv_at hl 0 rfl) ?_
  refine lv_iconst (v := 0) hx hb dX6_writeEnd_38 (by decide) ?_
  obtain ⟨q39, hq, hf⟩ := ob_bind hf
  refine ax_callVv (b := 0) (i := r0) (k := 1) (ci := 3) [.int 0] C0 hT hJ hE (met_X4_pushTwo l dC dI cyI cyE tC ad q34 r0 0 (by omega) _ hq) hP hS mc_X4_pushTwo ml_X6_35 mi_X4_pushTwo ms_X4_pushTwo mz_X4 (by decide +kernel) ⟨rfl, rfl⟩ ⟨by decide, by decide⟩ (by omega) (cD_Row (by omega)) rfl rfl rfl hl.1 (Nat.le_of_ble_eq_true rfl) dX6_writeEnd_39 ⟨Nat.zero_le _, Nat.zero_le _⟩ (fun H locs hP hS => ?_)
  exact hret _ _ _ _ _ hf hP hS dX6_writeEnd_42
def f_X7_feed (σ : SD) (x1 : Int32) (x2 : Int32) (x3 : Int32) (x4 : Int32) (x5 : Int32) : Option (SD) := (f_X4_shorten σ 0 0).bind fun q5 => (f_X4_pushHighFirst q5.2 0 x1).bind fun q14 => (f_X4_pushHighFirst q14 0 x2).bind fun q22 => (f_X4_pushHighFirst q22 0 x3).bind fun q30 => (f_X4_pushHighFirst q30 0 x4).bind fun q39 => (f_X4_pushHighFirst q39 0 x5).bind fun q48 => some q48
def rm_X7_feed : Room := { frames := 2, cells := 0, slots := 0, locals := 42 }
set_option maxHeartbeats 4000000 in
set_option maxRecDepth 100000 in
theorem met_X7_feed (l : Launch) (dC : Nat → ClassId) (dI : Nat → Nat → Nat) (cyI cyE : ClassId) (tC : Nat) (ad : Nat → Nat) (σ : SD) (x1 : Int32) (x2 : Int32) (x3 : Int32) (x4 : Int32) (x5 : Int32) (res : SD) (hf : f_X7_feed σ x1 x2 x3 x4 x5 = some res) : ax_Mv l dC dI cyI cyE tC 77 (cD cyI cyE ad) ad yX7_feed cX7_feed 6 none rm_X7_feed [.ref (ad 76), .int x1, .int x2, .int x3, .int x4, .int x5] σ res := by
  intro sz
  refine Met.ofW (cc := cX7_feed) (maxL := 6) (ret := none) (by decide) rfl ?_
  intro p e s m args below meth c s₁ B hml hv
  obtain ⟨hargs, hsz, hP, hJ, hE⟩ := hv
  subst hsz
  have hx := B.exec
  have hb := B.bytes
  have hr := B.returns
  have hlocks := B.notSynchronized
  have hts := atoms_spec (ws := wsY yX7_feed cX7_feed 6 none) B.pre
  have hown : s.vm.findClass RX7 = some m.cls := findClass_of_methodNamed B.named
  have C0 : CallFix p m c cX7_feed 6 s args (wsY yX7_feed cX7_feed 6 none) RX7 := ⟨hx, hb, hml, hown, hts⟩
  have hT : ∀ w ∈ bw, w ∈ wsY yX7_feed cX7_feed 6 none := fun w h => List.mem_cons_of_mem _ h
  have hS : va_S (ax_A 77 ad s.heap.size) s.heap s.heap [] := va_S.rf
  rw [show entryFrame m args 6 = entryFrame m ([.ref (ad 76), .int x1, .int x2, .int x3, .int x4, .int x5] : List Value).toArray 6 by rw [hargs]]
  have hl := lv_entry ([.ref (ad 76), .int x1, .int x2, .int x3, .int x4, .int x5]) (n := 6) (Nat.le_of_ble_eq_true rfl)
  rw [lg_entry_eq]
  generalize (lg_sl ([.ref (ad 76), .int x1, .int x2, .int x3, .int x4, .int x5]) ++ List.replicate (6 - (lg_sl ([.ref (ad 76), .int x1, .int x2, .int x3, .int x4, .int x5])).length) Slot.unset).toArray = ls at hl ⊢
  have hl : lv_has ls 6 [(0, .ref (ad 76)), (1, .int x1), (2, .int x2), (3, .int x3), (4, .int x4), (5, .int x5)] := hl
  obtain ⟨Q, hQ⟩ : ∃ Q : State → Prop, Q = MQ below (va_Qv (fun (u : SD) => u = res) (ax_B dC dI 77 (cD cyI cyE ad) ad) (ax_A 77 ad s.heap.size)) args s 0 0 (ax_A 77 ad s.heap.size) := ⟨_, rfl⟩
  show W p l e rm_X7_feed s m args below meth c s.heap [] 0 0 _ _
  rw [← hQ]
  have hret : ∀ (σ : SD) (H : Heap) (locs : List Loc) (ls : Array Slot) (pc : Nat), some σ = some res → va_P (dC, dI) vwCl (ax_w 77 ad (cD cyI cyE ad σ)) H → va_S (ax_A 77 ad s.heap.size) s.heap H locs → decode cX7_feed pc = .ok (.return_, 1) → W p l e rm_X7_feed s m args below meth c H locs 0 0 Q (F0 m pc ls []) := by
    intro σ H locs ls pc hf hP hS hd
    cases hf
    rw [hQ]
    exact ax_vret hx hb hr hlocks hP hS hd rfl
  unfold f_X7_feed at hf
  refine lv_aload_n hx hb dX7_feed_0 rfl (lv_at hl 0 rfl) ?_
  refine g_Desk_ready C0 hT hE hP mf_X7_14 dX7_feed_1 ?_
  refine lv_iconst (v := 0) hx hb dX7_feed_4 (by decide) ?_
  obtain ⟨q5, hq, hf⟩ := ob_bind hf
  refine ax_callVi (C := "") (b := 0) (i := 0) (k := 1) (ci := 3) [.int 0] C0 hT hJ hE (met_X4_shorten l dC dI cyI cyE tC ad σ 0 0 (by decide) _ hq) hP hS mc_X4_shorten ml_X7_41 mi_X4_shorten ms_X4_shorten mz_X4 (by decide +kernel) ⟨rfl, rfl⟩ ⟨by decide, by decide⟩ (by decide) (cD_Row (by decide)) rfl rfl rfl hl.1 (Nat.le_of_ble_eq_true rfl) dX7_feed_5 ⟨Nat.zero_le _, Nat.zero_le _⟩ (fun H locs hP hS => ?_)
  refine lv_pop hx hb dX7_feed_8 rfl ?_
  refine lv_aload_n hx hb dX7_feed_9 rfl (lv_at hl 0 rfl) ?_
  refine g_Desk_ready C0 hT hE hP mf_X7_14 dX7_feed_10 ?_
  refine lv_iload_n hx hb dX7_feed_13 rfl (lv_at hl 1 rfl) ?_
  obtain ⟨q14, hq, hf⟩ := ob_bind hf
  refine ax_callVv (b := 0) (i := 0) (k := 1) (ci := 3) [.int x1] C0 hT hJ hE (met_X4_pushHighFirst l dC dI cyI cyE tC ad q5.2 0 x1 (by decide) _ hq) hP hS mc_X4_pushHighFirst ml_X7_45 mi_X4_pushHighFirst ms_X4_pushHighFirst mz_X4 (by decide +kernel) ⟨rfl, rfl⟩ ⟨by decide, by decide⟩ (by decide) (cD_Row (by decide)) rfl rfl rfl hl.1 (Nat.le_of_ble_eq_true rfl) dX7_feed_14 ⟨Nat.zero_le _, Nat.zero_le _⟩ (fun H locs hP hS => ?_)
  refine lv_aload_n hx hb dX7_feed_17 rfl (lv_at hl 0 rfl) ?_
  refine g_Desk_ready C0 hT hE hP mf_X7_14 dX7_feed_18 ?_
  refine lv_iload_n hx hb dX7_feed_21 rfl (lv_at hl 2 rfl) ?_
  obtain ⟨q22, hq, hf⟩ := ob_bind hf
  refine ax_callVv (b := 0) (i := 0) (k := 1) (ci := 3) [.int x2] C0 hT hJ hE (met_X4_pushHighFirst l dC dI cyI cyE tC ad q14 0 x2 (by decide) _ hq) hP hS mc_X4_pushHighFirst ml_X7_45 mi_X4_pushHighFirst ms_X4_pushHighFirst mz_X4 (by decide +kernel) ⟨rfl, rfl⟩ ⟨by decide, by decide⟩ (by decide) (cD_Row (by decide)) rfl rfl rfl hl.1 (Nat.le_of_ble_eq_true rfl) dX7_feed_22 ⟨Nat.zero_le _, Nat.zero_le _⟩ (fun H locs hP hS => ?_)
  refine lv_aload_n hx hb dX7_feed_25 rfl (lv_at hl 0 rfl) ?_
  refine g_Desk_ready C0 hT hE hP mf_X7_14 dX7_feed_26 ?_
  refine lv_iload_n hx hb dX7_feed_29 rfl (lv_at hl 3 rfl) ?_
  obtain ⟨q30, hq, hf⟩ := ob_bind hf
  refine ax_callVv (b := 0) (i := 0) (k := 1) (ci := 3) [.int x3] C0 hT hJ hE (met_X4_pushHighFirst l dC dI cyI cyE tC ad q22 0 x3 (by decide) _ hq) hP hS mc_X4_pushHighFirst ml_X7_45 mi_X4_pushHighFirst ms_X4_pushHighFirst mz_X4 (by decide +kernel) ⟨rfl, rfl⟩ ⟨by decide, by decide⟩ (by decide) (cD_Row (by decide)) rfl rfl rfl hl.1 (Nat.le_of_ble_eq_true rfl) dX7_feed_30 ⟨Nat.zero_le _, Nat.zero_le _⟩ (fun H locs hP hS => ?_)
  refine lv_aload_n hx hb dX7_feed_33 rfl (lv_at hl 0 rfl) ?_
  refine g_Desk_ready C0 hT hE hP mf_X7_14 dX7_feed_34 ?_
  refine lv_iload hx hb dX7_feed_37 (lv_at hl 4 rfl) ?_
  obtain ⟨q39, hq, hf⟩ := ob_bind hf
  refine ax_callVv (b := 0) (i := 0) (k := 1) (ci := 3) [.int x4] C0 hT hJ hE (met_X4_pushHighFirst l dC dI cyI cyE tC ad q30 0 x4 (by decide) _ hq) hP hS mc_X4_pushHighFirst ml_X7_45 mi_X4_pushHighFirst ms_X4_pushHighFirst mz_X4 (by decide +kernel) ⟨rfl, rfl⟩ ⟨by decide, by decide⟩ (by decide) (cD_Row (by decide)) rfl rfl rfl hl.1 (Nat.le_of_ble_eq_true rfl) dX7_feed_39 ⟨Nat.zero_le _, Nat.zero_le _⟩ (fun H locs hP hS => ?_)
  refine lv_aload_n hx hb dX7_feed_42 rfl (lv_at hl 0 rfl) ?_
  refine g_Desk_ready C0 hT hE hP mf_X7_14 dX7_feed_43 ?_
  refine lv_iload hx hb dX7_feed_46 (lv_at hl 5 rfl) ?_
  obtain ⟨q48, hq, hf⟩ := ob_bind hf
  refine ax_callVv (b := 0) (i := 0) (k := 1) (ci := 3) [.int x5] C0 hT hJ hE (met_X4_pushHighFirst l dC dI cyI cyE tC ad q39 0 x5 (by decide) _ hq) hP hS mc_X4_pushHighFirst ml_X7_45 mi_X4_pushHighFirst ms_X4_pushHighFirst mz_X4 (by decide +kernel) ⟨rfl, rfl⟩ ⟨by decide, by decide⟩ (by decide) (cD_Row (by decide)) rfl rfl rfl hl.1 (Nat.le_of_ble_eq_true rfl) dX7_feed_48 ⟨Nat.zero_le _, Nat.zero_le _⟩ (fun H locs hP hS => ?_)
  exact hret _ _ _ _ _ hf hP hS dX7_feed_51
