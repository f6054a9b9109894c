def f_X7_take (σ : SD) : Option ((Int32 ⊕ Nat) × SD) := (f_X4_size σ 2).bind fun q4 => (f_X4_room q4.2 1).bind fun q11 => if q4.1 ≤ q11.1 then ((f_X4_size q11.2 2).bind fun q40 => (f_X4_append q40.2 1 2 0 q40.1).bind fun q43 => (f_X4_size q43 1).bind fun q50 => some (Sum.inl q50.1, q50.2)) else (some (Sum.inr 0, q11.2))
def rm_X7_take : Room := { frames := 6, cells := 1, slots := 6, locals := 90 }
set_option maxHeartbeats 4000000 in
set_option maxRecDepth 100000 in
theorem met_X7_take (l : Launch) (dC : Nat → ClassId) (dI : Nat → Nat → Nat) (cyI cyE : ClassId) (tC : Nat) (ad : Nat → Nat) (σ : SD) (res : (Int32 ⊕ Nat) × SD) (hf : f_X7_take σ = some res) : ax_Xi l dC dI cyI cyE tC ad yX7_take cX7_take 1 (some .int) rm_X7_take [.ref (ad 76)] σ res := by
  intro sz
  refine vx_ofW (cc := cX7_take) (maxL := 1) (ret := (some .int)) (by decide) rfl ?_
  intro p e s m args below meth c s₁ B hml htab hv
  obtain ⟨hargs, ⟨hsz, hP, hJ, hE⟩, hX⟩ := hv
  subst hsz
  have hx := B.exec
  have hb := B.bytes
  have hr := B.returns
  have hlocks := B.notSynchronized
  have hts := atoms_spec (ws := wsY yX7_take cX7_take 1 (some .int)) B.pre
  have hown : s.vm.findClass RX7 = some m.cls := findClass_of_methodNamed B.named
  have C0 : CallFix p m c cX7_take 1 s args (wsY yX7_take cX7_take 1 (some .int)) RX7 := ⟨hx, hb, hml, hown, hts⟩
  have hT : ∀ w ∈ bw, w ∈ wsY yX7_take cX7_take 1 (some .int) := fun w h => List.mem_cons_of_mem _ h
  have hS : va_S (ax_A 77 ad s.heap.size) s.heap s.heap [] := va_S.rf
  rw [show entryFrame m args 1 = entryFrame m ([.ref (ad 76)] : List Value).toArray 1 by rw [hargs]]
  have hl := lv_entry ([.ref (ad 76)]) (n := 1) (Nat.le_of_ble_eq_true rfl)
  rw [lg_entry_eq]
  generalize (lg_sl ([.ref (ad 76)]) ++ List.replicate (1 - (lg_sl ([.ref (ad 76)])).length) Slot.unset).toArray = ls at hl ⊢
  have hl : lv_has ls 1 [(0, .ref (ad 76))] := hl
  obtain ⟨Q, hQ⟩ : ∃ Q : State → Prop, Q = vx_MQ below (va_Qi (fun (a : Int32) (u : SD) => res = (.inl a, u)) (ax_B dC dI 77 (cD cyI cyE ad) ad) (ax_A 77 ad s.heap.size)) (vx_X (fun u : Nat × SD => res = (.inr u.1, u.2)) (fun E u t => E = exN u.1 ∧ ax_B dC dI 77 (cD cyI cyE ad) ad u.2 t) (ax_A 77 ad s.heap.size)) args s 1 6 (ax_A 77 ad s.heap.size) := ⟨_, rfl⟩
  show W p l e rm_X7_take s m args below meth c s.heap [] 0 0 _ _
  rw [← hQ]
  have hret : ∀ (v : Int32) (σ : SD) (H : Heap) (locs : List Loc) (ls : Array Slot) (pc : Nat), narrow .int (.int v) = .int v → some (Sum.inl v, σ) = some res → va_P (dC, dI) vwCl (ax_w 77 ad (cD cyI cyE ad σ)) H → va_S (ax_A 77 ad s.heap.size) s.heap H locs → decode cX7_take pc = .ok (.ireturn, 1) → W p l e rm_X7_take s m args below meth c H locs 0 0 Q (F0 m pc ls [.int v]) := by
    intro v σ H locs ls pc hn hf hP hS hd
    cases hf
    rw [hQ]
    exact ax_iretX hx hb hr hlocks hn hP hS hd rfl
  unfold f_X7_take at hf
  refine lv_aload_n hx hb dX7_take_0 rfl (lv_at hl 0 rfl) ?_
  refine g_Desk_output C0 hT hE hP mf_X7_21 dX7_take_1 ?_
  obtain ⟨q4, hq, hf⟩ := ob_bind hf
  refine ax_callVi (C := "") (b := 0) (i := 2) (k := 0) (ci := 3) [] C0 hT hJ hE (met_X4_size l dC dI cyI cyE tC ad σ 2 (by decide) _ hq) hP hS mc_X4_size ml_X7_56 mi_X4_size ms_X4_size mz_X4 (by decide +kernel) ⟨rfl, rfl⟩ ⟨by decide, by decide⟩ (by decide) (cD_Row (by decide)) rfl rfl rfl hl.1 (Nat.le_of_ble_eq_true rfl) dX7_take_4 ⟨Nat.zero_le _, Nat.zero_le _⟩ (fun H locs hP hS => ?_)
  refine lv_aload_n hx hb dX7_take_7 rfl (lv_at hl 0 rfl) ?_
  refine g_Desk_tape C0 hT hE hP mf_X7_18 dX7_take_8 ?_
  obtain ⟨q11, hq, hf⟩ := ob_bind hf
  refine ax_callVi (C := "") (b := 0) (i := 1) (k := 0) (ci := 3) [] C0 hT hJ hE (met_X4_room l dC dI cyI cyE tC ad q4.2 1 (by decide) _ hq) hP hS mc_X4_room ml_X7_48 mi_X4_room ms_X4_room mz_X4 (by decide +kernel) ⟨rfl, rfl⟩ ⟨by decide, by decide⟩ (by decide) (cD_Row (by decide)) rfl rfl rfl hl.1 (Nat.le_of_ble_eq_true rfl) dX7_take_11 ⟨Nat.zero_le _, Nat.zero_le _⟩ (fun H locs hP hS => ?_)
  refine lv_icmp_le (tgt := 27) hx hb dX7_take_14 (by decide) (fun h14 => ?_) (fun h14 => ?_)
  · rw [if_pos h14] at hf
    refine lv_aload_n hx hb dX7_take_27 rfl (lv_at hl 0 rfl) ?_
    refine g_Desk_tape C0 hT hE hP mf_X7_18 dX7_take_28 ?_
    refine lv_aload_n hx hb dX7_take_31 rfl (lv_at hl 0 rfl) ?_
    refine g_Desk_output C0 hT hE hP mf_X7_21 dX7_take_32 ?_
    refine lv_iconst (v := 0) hx hb dX7_take_35 (by decide) ?_
    refine lv_aload_n hx hb dX7_take_36 rfl (lv_at hl 0 rfl) ?_
    refine g_Desk_output C0 hT hE hP mf_X7_21 dX7_take_37 ?_
    obtain ⟨q40, hq, hf⟩ := ob_bind hf
    refine ax_callVi (C := "") (b := 0) (i := 2) (k := 0) (ci := 3) [] C0 hT hJ hE (met_X4_size l dC dI cyI cyE tC ad q11.2 2 (by decide) _ hq) hP hS mc_X4_size ml_X7_56 mi_X4_size ms_X4_size mz_X4 (by decide +kernel) ⟨rfl, rfl⟩ ⟨by decide, by decide⟩ (by decide) (cD_Row (by decide)) rfl rfl rfl hl.1 (Nat.le_of_ble_eq_true rfl) dX7_take_40 ⟨Nat.zero_le _, Nat.zero_le _⟩ (fun H locs hP hS => ?_)
    obtain ⟨q43, hq, hf⟩ := ob_bind hf
    refine ax_callVv (b := 0) (i := 1) (k := 3) (ci := 3) [.ref (ad 2), .int 0, .int q40.1] C0 hT hJ hE (met_X4_append l dC dI cyI cyE tC ad q40.2 1 2 0 q40.1 (by decide) (by decide) _ hq) hP hS mc_X4_append ml_X7_52 mi_X4_append ms_X4_append mz_X4 (by decide +kernel) ⟨rfl, rfl⟩ ⟨by decide, by decide⟩ (by decide) (cD_Row (by decide)) rfl rfl rfl hl.1 (Nat.le_of_ble_eq_true rfl) dX7_take_43 ⟨Nat.zero_le _, Nat.zero_le _⟩ (fun H locs hP hS => ?_)
    refine lv_aload_n hx hb dX7_take_46 rfl (lv_at hl 0 rfl) ?_
    refine g_Desk_tape C0 hT hE hP mf_X7_18 dX7_take_47 ?_
    obtain ⟨q50, hq, hf⟩ := ob_bind hf
    refine ax_callVi (C := "") (b := 0) (i := 1) (k := 0) (ci := 3) [] C0 hT hJ hE (met_X4_size l dC dI cyI cyE tC ad q43 1 (by decide) _ hq) hP hS mc_X4_size ml_X7_56 mi_X4_size ms_X4_size mz_X4 (by decide +kernel) ⟨rfl, rfl⟩ ⟨by decide, by decide⟩ (by decide) (cD_Row (by decide)) rfl rfl rfl hl.1 (Nat.le_of_ble_eq_true rfl) dX7_take_50 ⟨Nat.zero_le _, Nat.zero_le _⟩ (fun H locs hP hS => ?_)
    exact hret _ _ _ _ _ _ rfl hf hP hS dX7_take_53
  · rw [if_neg h14] at hf
    cases hf
    rw [hQ]
    exact tx_throw (text := "the tape would be too long") C0 hT hX hS hl.1 hlocks htab (by decide +kernel) mq_0 mx_0 (by decide) (by decide) xg_0 xb_0 xo_0 dX7_take_17 dX7_take_20 dX7_take_21 dX7_take_23 dX7_take_26 (Nat.le_of_ble_eq_true rfl) (Nat.le_of_ble_eq_true rfl) (Nat.le_of_ble_eq_true rfl) (Nat.le_of_ble_eq_true rfl) (fun t hvm hz hk => ⟨(0, _), rfl, ⟨rfl, hP.kept (fun k q hk2 => hk _ (hP k q hk2).lt)⟩, ⟨Nat.le_trans hS.1 hz, fun q h1 h2 => (hk q (Nat.lt_of_lt_of_le h1 hS.1)).trans (hS.2.1 q h1 h2)⟩⟩)
def f_X7_add (σ : SD) (x1 : Int32) : Option ((Int32 ⊕ Nat) × SD) := (f_X4_isName σ 1 0 x1).bind fun q6 => if q6.1 = 0 then (some (Sum.inr 1, q6.2)) else ((f_X4_size q6.2 1).bind fun q26 => if (q26.1 - x1) ≤ 1500 then ((f_X5_lookUp q26.2 1 0 x1).bind fun q59 => if q59.1 = (-1) then ((f_X5_hasRoom q59.2 (-1) (q26.1 - x1)).bind fun q82 => if q82.1 = 0 then (some (Sum.inr 0, q82.2)) else ((f_X5_put q82.2 1 0 x1 1 x1 (q26.1 - x1)).bind fun q114 => (f_X4_shorten q114 1 0).bind fun q122 => (f_X5_count q122.2 ).bind fun q130 => some (Sum.inl (q130.1 - 1), q130.2))) else (some (Sum.inr 0, q59.2))) else (some (Sum.inr 1, q26.2)))
def rm_X7_add : Room := { frames := 6, cells := 1, slots := 6, locals := 132 }
set_option maxHeartbeats 4000000 in
set_option maxRecDepth 100000 in
theorem met_X7_add (l : Launch) (dC : Nat → ClassId) (dI : Nat → Nat → Nat) (cyI cyE : ClassId) (tC : Nat) (ad : Nat → Nat) (σ : SD) (x1 : Int32) (res : (Int32 ⊕ Nat) × SD) (hf : f_X7_add σ x1 = some res) : ax_Xi l dC dI cyI cyE tC ad yX7_add cX7_add 3 (some .int) rm_X7_add [.ref (ad 76), .int x1] σ res := by
  intro sz
  refine vx_ofW (cc := cX7_add) (maxL := 3) (ret := (some .int)) (by decide) rfl ?_
  intro p e s m args below meth c s₁ B hml htab hv
  obtain ⟨hargs, ⟨hsz, hP, hJ, hE⟩, hX⟩ := hv
  subst hsz
  have hx := B.exec
  have hb := B.bytes
  have hr := B.returns
  have hlocks := B.notSynchronized
  have hts := atoms_spec (ws := wsY yX7_add cX7_add 3 (some .int)) B.pre
  have hown : s.vm.findClass RX7 = some m.cls := findClass_of_methodNamed B.named
  have C0 : CallFix p m c cX7_add 3 s args (wsY yX7_add cX7_add 3 (some .int)) RX7 := ⟨hx, hb, hml, hown, hts⟩
  have hT : ∀ w ∈ bw, w ∈ wsY yX7_add cX7_add 3 (some .int) := fun w h => List.mem_cons_of_mem _ h
  have hS : va_S (ax_A 77 ad s.heap.size) s.heap s.heap [] := va_S.rf
  rw [show entryFrame m args 3 = entryFrame m ([.ref (ad 76), .int x1] : List Value).toArray 3 by rw [hargs]]
  have hl := lv_entry ([.ref (ad 76), .int x1]) (n := 3) (Nat.le_of_ble_eq_true rfl)
  rw [lg_entry_eq]
  generalize (lg_sl ([.ref (ad 76), .int x1]) ++ List.replicate (3 - (lg_sl ([.ref (ad 76), .int x1])).length) Slot.unset).toArray = ls at hl ⊢
  have hl : lv_has ls 3 [(0, .ref (ad 76)), (1, .int x1)] := hl
  obtain ⟨Q, hQ⟩ : ∃ Q : State → Prop, Q = vx_MQ below (va_Qi (fun (a : Int32) (u : SD) => res = (.inl a, u)) (ax_B dC dI 77 (cD cyI cyE ad) ad) (ax_A 77 ad s.heap.size)) (vx_X (fun u : Nat × SD => res = (.inr u.1, u.2)) (fun E u t => E = exN u.1 ∧ ax_B dC dI 77 (cD cyI cyE ad) ad u.2 t) (ax_A 77 ad s.heap.size)) args s 1 6 (ax_A 77 ad s.heap.size) := ⟨_, rfl⟩
  show W p l e rm_X7_add s m args below meth c s.heap [] 0 0 _ _
  rw [← hQ]
  have hret : ∀ (v : Int32) (σ : SD) (H : Heap) (locs : List Loc) (ls : Array Slot) (pc : Nat), narrow .int (.int v) = .int v → some (Sum.inl v, σ) = some res → va_P (dC, dI) vwCl (ax_w 77 ad (cD cyI cyE ad σ)) H → va_S (ax_A 77 ad s.heap.size) s.heap H locs → decode cX7_add pc = .ok (.ireturn, 1) → W p l e rm_X7_add s m args below meth c H locs 0 0 Q (F0 m pc ls [.int v]) := by
    intro v σ H locs ls pc hn hf hP hS hd
    cases hf
    rw [hQ]
    exact ax_iretX hx hb hr hlocks hn hP hS hd rfl
  unfold f_X7_add at hf
  refine lv_aload_n hx hb dX7_add_0 rfl (lv_at hl 0 rfl) ?_
  refine g_Desk_tape C0 hT hE hP mf_X7_18 dX7_add_1 ?_
  refine lv_iconst (v := 0) hx hb dX7_add_4 (by decide) ?_
  refine lv_iload_n hx hb dX7_add_5 rfl (lv_at hl 1 rfl) ?_
  obtain ⟨q6, hq, hf⟩ := ob_bind hf
  refine ax_callVi (C := "") (b := 0) (i := 1) (k := 2) (ci := 3) [.int 0, .int x1] C0 hT hJ hE (met_X4_isName l dC dI cyI cyE tC ad σ 1 0 x1 (by decide) _ hq) hP hS mc_X4_isName ml_X7_73 mi_X4_isName ms_X4_isName mz_X4 (by decide +kernel) ⟨rfl, rfl⟩ ⟨by decide, by decide⟩ (by decide) (cD_Row (by decide)) rfl rfl rfl hl.1 (Nat.le_of_ble_eq_true rfl) dX7_add_6 ⟨Nat.zero_le _, Nat.zero_le _⟩ (fun H locs hP hS => ?_)
  refine lv_if_ne (tgt := 22) hx hb dX7_add_9 (by decide) (fun h9 => ?_) (fun h9 => ?_)
  · rw [if_neg h9] at hf
    refine lv_aload_n hx hb dX7_add_22 rfl (lv_at hl 0 rfl) ?_
    refine g_Desk_tape C0 hT hE hP mf_X7_18 dX7_add_23 ?_
    obtain ⟨q26, hq, hf⟩ := ob_bind hf
    refine ax_callVi (C := "") (b := 0) (i := 1) (k := 0) (ci := 3) [] C0 hT hJ hE (met_X4_size l dC dI cyI cyE tC ad q6.2 1 (by decide) _ hq) hP hS mc_X4_size ml_X7_56 mi_X4_size ms_X4_size mz_X4 (by decide +kernel) ⟨rfl, rfl⟩ ⟨by decide, by decide⟩ (by decide) (cD_Row (by decide)) rfl rfl rfl hl.1 (Nat.le_of_ble_eq_true rfl) dX7_add_26 ⟨Nat.zero_le _, Nat.zero_le _⟩ (fun H locs hP hS => ?_)
    refine lv_iload_n hx hb dX7_add_29 rfl (lv_at hl 1 rfl) ?_
    refine lv_isub hx hb dX7_add_30 ?_
    refine lv_istore_n (lv' := [(2, .int (q26.1 - x1)), (0, .ref (ad 76)), (1, .int x1)]) hx hb dX7_add_31 rfl hl (by decide) rfl (fun ls hl => ?_)
    refine lv_iload_n hx hb dX7_add_32 rfl (lv_at hl 0 rfl) ?_
    refine lv_sipush (v := 1500) hx hb dX7_add_33 (by decide) ?_
    refine lv_icmp_le (tgt := 49) hx hb dX7_add_36 (by decide) (fun h36 => ?_) (fun h36 => ?_)
    · rw [if_pos h36] at hf
      refine lv_aload_n hx hb dX7_add_49 rfl (lv_at hl 1 rfl) ?_
      refine g_Desk_shelf C0 hT hE hP mf_X7_27 dX7_add_50 ?_
      refine lv_aload_n hx hb dX7_add_53 rfl (lv_at hl 1 rfl) ?_
      refine g_Desk_tape C0 hT hE hP mf_X7_18 dX7_add_54 ?_
      refine lv_iconst (v := 0) hx hb dX7_add_57 (by decide) ?_
      refine lv_iload_n hx hb dX7_add_58 rfl (lv_at hl 2 rfl) ?_
      obtain ⟨q59, hq, hf⟩ := ob_bind hf
      refine ax_callVi (C := "") (b := 0) (i := 75) (k := 3) (ci := 4) [.ref (ad 1), .int 0, .int x1] C0 hT hJ hE (met_X5_lookUp l dC dI cyI cyE tC ad q26.2 1 0 x1 (by decide) _ hq) hP hS mc_X5_lookUp ml_X7_83 mi_X5_lookUp ms_X5_lookUp mz_X5 (by decide +kernel) ⟨rfl, rfl⟩ ⟨by decide, by decide⟩ (by decide) cD_Shelf rfl rfl rfl hl.1 (Nat.le_of_ble_eq_true rfl) dX7_add_59 ⟨Nat.zero_le _, Nat.zero_le _⟩ (fun H locs hP hS => ?_)
      refine lv_iconst (v := (-1)) hx hb dX7_add_62 (by decide) ?_
      refine lv_icmp_eq (tgt := 76) hx hb dX7_add_63 (by decide) (fun h63 => ?_) (fun h63 => ?_)
      · rw [if_pos h63] at hf
        refine lv_aload_n hx hb dX7_add_76 rfl (lv_at hl 1 rfl) ?_
        refine g_Desk_shelf C0 hT hE hP mf_X7_27 dX7_add_77 ?_
        refine lv_iconst (v := (-1)) hx hb dX7_add_80 (by decide) ?_
        refine lv_iload_n hx hb dX7_add_81 rfl (lv_at hl 0 rfl) ?_
        obtain ⟨q82, hq, hf⟩ := ob_bind hf
        refine ax_callVi (C := "") (b := 0) (i := 75) (k := 2) (ci := 4) [.int (-1), .int (q26.1 - x1)] C0 hT hJ hE (met_X5_hasRoom l dC dI cyI cyE tC ad q59.2 (-1) (q26.1 - x1) _ hq) hP hS mc_X5_hasRoom ml_X7_89 mi_X5_hasRoom ms_X5_hasRoom mz_X5 (by decide +kernel) ⟨rfl, rfl⟩ ⟨by decide, by decide⟩ (by decide) cD_Shelf rfl rfl rfl hl.1 (Nat.le_of_ble_eq_true rfl) dX7_add_82 ⟨Nat.zero_le _, Nat.zero_le _⟩ (fun H locs hP hS => ?_)
        refine lv_if_ne (tgt := 98) hx hb dX7_add_85 (by decide) (fun h85 => ?_) (fun h85 => ?_)
        · rw [if_neg h85] at hf
          refine lv_aload_n hx hb dX7_add_98 rfl (lv_at hl 1 rfl) ?_
          refine g_Desk_shelf C0 hT hE hP mf_X7_27 dX7_add_99 ?_
          refine lv_aload_n hx hb dX7_add_102 rfl (lv_at hl 1 rfl) ?_
          refine g_Desk_tape C0 hT hE hP mf_X7_18 dX7_add_103 ?_
          refine lv_iconst (v := 0) hx hb dX7_add_106 (by decide) ?_
          refine lv_iload_n hx hb dX7_add_107 rfl (lv_at hl 2 rfl) ?_
          refine lv_aload_n hx hb dX7_add_108 rfl (lv_at hl 1 rfl) ?_
          refine g_Desk_tape C0 hT hE hP mf_X7_18 dX7_add_109 ?_
          refine lv_iload_n hx hb dX7_add_112 rfl (lv_at hl 2 rfl) ?_
          refine lv_iload_n hx hb dX7_add_113 rfl (lv_at hl 0 rfl) ?_
          obtain ⟨q114, hq, hf⟩ := ob_bind hf
          refine ax_callVv (b := 0) (i := 75) (k := 6) (ci := 4) [.ref (ad 1), .int 0, .int x1, .ref (ad 1), .int x1, .int (q26.1 - x1)] C0 hT hJ hE (met_X5_put l dC dI cyI cyE tC ad q82.2 1 0 x1 1 x1 (q26.1 - x1) (by decide) (by decide) _ hq) hP hS mc_X5_put ml_X7_94 mi_X5_put ms_X5_put mz_X5 (by decide +kernel) ⟨rfl, rfl⟩ ⟨by decide, by decide⟩ (by decide) cD_Shelf rfl rfl rfl hl.1 (Nat.le_of_ble_eq_true rfl) dX7_add_114 ⟨Nat.zero_le _, Nat.zero_le _⟩ (fun H locs hP hS => ?_)
          refine lv_aload_n hx hb dX7_add_117 rfl (lv_at hl 1 rfl) ?_
          refine g_Desk_tape C0 hT hE hP mf_X7_18 dX7_add_118 ?_
          refine lv_iconst (v := 0) hx hb dX7_add_121 (by decide) ?_
          obtain ⟨q122, hq, hf⟩ := ob_bind hf
          refine ax_callVi (C := "") (b := 0) (i := 1) (k := 1) (ci := 3) [.int 0] C0 hT hJ hE (met_X4_shorten l dC dI cyI cyE tC ad q114 1 0 (by decide) _ hq) hP hS mc_X4_shorten ml_X7_41 mi_X4_shorten ms_X4_shorten mz_X4 (by decide +kernel) ⟨rfl, rfl⟩ ⟨by decide, by decide⟩ (by decide) (cD_Row (by decide)) rfl rfl rfl hl.1 (Nat.le_of_ble_eq_true rfl) dX7_add_122 ⟨Nat.zero_le _, Nat.zero_le _⟩ (fun H locs hP hS => ?_)
          refine lv_pop hx hb dX7_add_125 rfl ?_
          refine lv_aload_n hx hb dX7_add_126 rfl (lv_at hl 1 rfl) ?_
          refine g_Desk_shelf C0 hT hE hP mf_X7_27 dX7_add_127 ?_
          obtain ⟨q130, hq, hf⟩ := ob_bind hf
          refine ax_callVi (C := "") (b := 0) (i := 75) (k := 0) (ci := 4) [] C0 hT hJ hE (met_X5_count l dC dI cyI cyE tC ad q122.2 _ hq) hP hS mc_X5_count ml_X7_98 mi_X5_count ms_X5_count mz_X5 (by decide +kernel) ⟨rfl, rfl⟩ ⟨by decide, by decide⟩ (by decide) cD_Shelf rfl rfl rfl hl.1 (Nat.le_of_ble_eq_true rfl) dX7_add_130 ⟨Nat.zero_le _, Nat.zero_le _⟩ (fun H locs hP hS => ?_)
          refine lv_iconst (v := 1) hx hb dX7_add_133 (by decide) ?_
          refine lv_isub hx hb dX7_add_134 ?_
          exact hret _ _ _ _ _ _ rfl hf hP hS dX7_add_135
        · rw [if_pos h85] at hf
          cases hf
          rw [hQ]
          exact tx_throw (text := "no room for the file") C0 hT hX hS hl.1 hlocks htab (by decide +kernel) mq_0 mx_0 (by decide) (by decide) xg_0 xb_0 xo_0 dX7_add_88 dX7_add_91 dX7_add_92 dX7_add_94 dX7_add_97 (Nat.le_of_ble_eq_true rfl) (Nat.le_of_ble_eq_true rfl) (Nat.le_of_ble_eq_true rfl) (Nat.le_of_ble_eq_true rfl) (fun t hvm hz hk => ⟨(0, _), rfl, ⟨rfl, hP.kept (fun k q hk2 => hk _ (hP k q hk2).lt)⟩, ⟨Nat.le_trans hS.1 hz, fun q h1 h2 => (hk q (Nat.lt_of_lt_of_le h1 hS.1)).trans (hS.2.1 q h1 h2)⟩⟩)
      · rw [if_neg h63] at hf
        cases hf
        rw [hQ]
        exact tx_throw (text := "another file has that name") C0 hT hX hS hl.1 hlocks htab (by decide +kernel) mq_0 mx_0 (by decide) (by decide) xg_0 xb_0 xo_0 dX7_add_66 dX7_add_69 dX7_add_70 dX7_add_72 dX7_add_75 (Nat.le_of_ble_eq_true rfl) (Nat.le_of_ble_eq_true rfl) (Nat.le_of_ble_eq_true rfl) (Nat.le_of_ble_eq_true rfl) (fun t hvm hz hk => ⟨(0, _), rfl, ⟨rfl, hP.kept (fun k q hk2 => hk _ (hP k q hk2).lt)⟩, ⟨Nat.le_trans hS.1 hz, fun q h1 h2 => (hk q (Nat.lt_of_lt_of_le h1 hS.1)).trans (hS.2.1 q h1 h2)⟩⟩)
    · rw [if_neg h36] at hf
      cases hf
      rw [hQ]
      exact tx_throw (text := "too many bytes for a file") C0 hT hX hS hl.1 hlocks htab (by decide +kernel) mq_1 mx_1 (by decide) (by decide) xg_1 xb_1 xo_1 dX7_add_39 dX7_add_42 dX7_add_43 dX7_add_45 dX7_add_48 (Nat.le_of_ble_eq_true rfl) (Nat.le_of_ble_eq_true rfl) (Nat.le_of_ble_eq_true rfl) (Nat.le_of_ble_eq_true rfl) (fun t hvm hz hk => ⟨(1, _), rfl, ⟨rfl, hP.kept (fun k q hk2 => hk _ (hP k q hk2).lt)⟩, ⟨Nat.le_trans hS.1 hz, fun q h1 h2 => (hk q (Nat.lt_of_lt_of_le h1 hS.1)).trans (hS.2.1 q h1 h2)⟩⟩)
  · rw [if_pos h9] at hf
    cases hf
    rw [hQ]
    exact tx_throw (text := "no name") C0 hT hX hS hl.1 hlocks htab (by decide +kernel) mq_1 mx_1 (by decide) (by decide) xg_1 xb_1 xo_1 dX7_add_12 dX7_add_15 dX7_add_16 dX7_add_18 dX7_add_21 (Nat.le_of_ble_eq_true rfl) (Nat.le_of_ble_eq_true rfl) (Nat.le_of_ble_eq_true rfl) (Nat.le_of_ble_eq_true rfl) (fun t hvm hz hk => ⟨(1, _), rfl, ⟨rfl, hP.kept (fun k q hk2 => hk _ (hP k q hk2).lt)⟩, ⟨Nat.le_trans hS.1 hz, fun q h1 h2 => (hk q (Nat.lt_of_lt_of_le h1 hS.1)).trans (hS.2.1 q h1 h2)⟩⟩)
def f_X7_replace (σ : SD) (x1 : Int32) : Option ((Unit ⊕ Nat) × SD) := (f_X5_entry σ x1).bind fun q5 => match q5 with | (none, σ5) => (some (Sum.inr 2, σ5)) | (some e5, σ5) => (if e5 < 20 then ((f_X4_size σ5 1).bind fun q25 => if q25.1 ≤ 1500 then ((f_X4_size q25.2 1).bind fun q53 => (f_X5_hasRoom q53.2 x1 q53.1).bind fun q56 => if q56.1 = 0 then (some (Sum.inr 0, q56.2)) else ((f_X5_changeBytes q56.2 x1 1).bind fun q81 => (f_X4_shorten q81 1 0).bind fun q89 => some (Sum.inl (), q89.2))) else (some (Sum.inr 1, q25.2))) else none)
def rm_X7_replace : Room := { frames := 6, cells := 1, slots := 6, locals := 128 }
set_option maxHeartbeats 4000000 in
set_option maxRecDepth 100000 in
theorem met_X7_replace (l : Launch) (dC : Nat → ClassId) (dI : Nat → Nat → Nat) (cyI cyE : ClassId) (tC : Nat) (ad : Nat → Nat) (σ : SD) (x1 : Int32) (res : (Unit ⊕ Nat) × SD) (hf : f_X7_replace σ x1 = some res) : ax_Xv l dC dI cyI cyE tC ad yX7_replace cX7_replace 2 none rm_X7_replace [.ref (ad 76), .int x1] σ res := by
  intro sz
  refine vx_ofW (cc := cX7_replace) (maxL := 2) (ret := none) (by decide) rfl ?_
  intro p e s m args below meth c s₁ B hml htab hv
  obtain ⟨hargs, ⟨hsz, hP, hJ, hE⟩, hX⟩ := hv
  subst hsz
  have hx := B.exec
  have hb := B.bytes
  have hr := B.returns
  have hlocks := B.notSynchronized
  have hts := atoms_spec (ws := wsY yX7_replace cX7_replace 2 none) B.pre
  have hown : s.vm.findClass RX7 = some m.cls := findClass_of_methodNamed B.named
  have C0 : CallFix p m c cX7_replace 2 s args (wsY yX7_replace cX7_replace 2 none) RX7 := ⟨hx, hb, hml, hown, hts⟩
  have hT : ∀ w ∈ bw, w ∈ wsY yX7_replace cX7_replace 2 none := fun w h => List.mem_cons_of_mem _ h
  have hS : va_S (ax_A 77 ad s.heap.size) s.heap s.heap [] := va_S.rf
  rw [show entryFrame m args 2 = entryFrame m ([.ref (ad 76), .int x1] : List Value).toArray 2 by rw [hargs]]
  have hl := lv_entry ([.ref (ad 76), .int x1]) (n := 2) (Nat.le_of_ble_eq_true rfl)
  rw [lg_entry_eq]
  generalize (lg_sl ([.ref (ad 76), .int x1]) ++ List.replicate (2 - (lg_sl ([.ref (ad 76), .int x1])).length) Slot.unset).toArray = ls at hl ⊢
  have hl : lv_has ls 2 [(0, .ref (ad 76)), (1, .int x1)] := hl
  obtain ⟨Q, hQ⟩ : ∃ Q : State → Prop, Q = vx_MQ below (va_Qv (fun (u : SD) => res = (.inl (), u)) (ax_B dC dI 77 (cD cyI cyE ad) ad) (ax_A 77 ad s.heap.size)) (vx_X (fun u : Nat × SD => res = (.inr u.1, u.2)) (fun E u t => E = exN u.1 ∧ ax_B dC dI 77 (cD cyI cyE ad) ad u.2 t) (ax_A 77 ad s.heap.size)) args s 1 6 (ax_A 77 ad s.heap.size) := ⟨_, rfl⟩
  show W p l e rm_X7_replace s m args below meth c s.heap [] 0 0 _ _
  rw [← hQ]
  have hret : ∀ (σ : SD) (H : Heap) (locs : List Loc) (ls : Array Slot) (pc : Nat), some (Sum.inl (), σ) = some res → va_P (dC, dI) vwCl (ax_w 77 ad (cD cyI cyE ad σ)) H → va_S (ax_A 77 ad s.heap.size) s.heap H locs → decode cX7_replace pc = .ok (.return_, 1) → W p l e rm_X7_replace s m args below meth c H locs 0 0 Q (F0 m pc ls []) := by
    intro σ H locs ls pc hf hP hS hd
    cases hf
    rw [hQ]
    exact ax_vretX hx hb hr hlocks hP hS hd rfl
  unfold f_X7_replace at hf
  refine lv_aload_n hx hb dX7_replace_0 rfl (lv_at hl 0 rfl) ?_
  refine g_Desk_shelf C0 hT hE hP mf_X7_27 dX7_replace_1 ?_
  refine lv_iload_n hx hb dX7_replace_4 rfl (lv_at hl 1 rfl) ?_
  obtain ⟨⟨o5, σ5⟩, hq, hf⟩ := ob_bind hf
  refine ax_callVq (i := 75) (k := 1) (ci := 4) [.int x1] C0 hT hJ hE (met_X5_entry l dC dI cyI cyE tC ad σ x1 _ hq) hP hS mc_X5_entry ml_X7_101 mi_X5_entry ms_X5_entry mz_X5 (by decide +kernel) ⟨rfl, rfl⟩ ⟨by decide, by decide⟩ (by decide) cD_Shelf rfl rfl rfl hl.1 (Nat.le_of_ble_eq_true rfl) dX7_replace_5 ⟨Nat.zero_le _, Nat.zero_le _⟩ (fun H locs hP hS => ?_)
  cases o5 with
  | none =>
    dsimp only at hf
    refine W.eq (g2 := F0 m 8 ls [.null]) rfl ?_
    refine lv_ifnonnullN hx hb dX7_replace_8 ?_
    cases hf
    rw [hQ]
    exact tx_throw (text := "no such file") C0 hT hX hS hl.1 hlocks htab (by decide +kernel) mq_2 mx_2 (by decide) (by decide) xg_2 xb_2 xo_2 dX7_replace_11 dX7_replace_14 dX7_replace_15 dX7_replace_17 dX7_replace_20 (Nat.le_of_ble_eq_true rfl) (Nat.le_of_ble_eq_true rfl) (Nat.le_of_ble_eq_true rfl) (Nat.le_of_ble_eq_true rfl) (fun t hvm hz hk => ⟨(2, _), rfl, ⟨rfl, hP.kept (fun k q hk2 => hk _ (hP k q hk2).lt)⟩, ⟨Nat.le_trans hS.1 hz, fun q h1 h2 => (hk q (Nat.lt_of_lt_of_le h1 hS.1)).trans (hS.2.1 q h1 h2)⟩⟩)
  | some e5 =>
    dsimp only at hf
    obtain ⟨hb_e5, hf⟩ := ob_if hf
    refine W.eq (g2 := F0 m 8 ls [.ref (ad (52 + e5))]) rfl ?_
    refine lv_ifnonnull (tgt := 21) hx hb dX7_replace_8 (by decide) ?_
    refine lv_aload_n hx hb dX7_replace_21 rfl (lv_at hl 0 rfl) ?_
    refine g_Desk_tape C0 hT hE hP mf_X7_18 dX7_replace_22 ?_
    obtain ⟨q25, hq, hf⟩ := ob_bind hf
    refine ax_callVi (C := "") (b := 0) (i := 1) (k := 0) (ci := 3) [] C0 hT hJ hE (met_X4_size l dC dI cyI cyE tC ad σ5 1 (by decide) _ hq) hP hS mc_X4_size ml_X7_56 mi_X4_size ms_X4_size mz_X4 (by decide +kernel) ⟨rfl, rfl⟩ ⟨by decide, by decide⟩ (by decide) (cD_Row (by decide)) rfl rfl rfl hl.1 (Nat.le_of_ble_eq_true rfl) dX7_replace_25 ⟨Nat.zero_le _, Nat.zero_le _⟩ (fun H locs hP hS => ?_)
    refine lv_sipush (v := 1500) hx hb dX7_replace_28 (by decide) ?_
    refine lv_icmp_le (tgt := 44) hx hb dX7_replace_31 (by decide) (fun h31 => ?_) (fun h31 => ?_)
    · rw [if_pos h31] at hf
      refine lv_aload_n hx hb dX7_replace_44 rfl (lv_at hl 0 rfl) ?_
      refine g_Desk_shelf C0 hT hE hP mf_X7_27 dX7_replace_45 ?_
      refine lv_iload_n hx hb dX7_replace_48 rfl (lv_at hl 1 rfl) ?_
      refine lv_aload_n hx hb dX7_replace_49 rfl (lv_at hl 0 rfl) ?_
      refine g_Desk_tape C0 hT hE hP mf_X7_18 dX7_replace_50 ?_
      obtain ⟨q53, hq, hf⟩ := ob_bind hf
      refine ax_callVi (C := "") (b := 0) (i := 1) (k := 0) (ci := 3) [] C0 hT hJ hE (met_X4_size l dC dI cyI cyE tC ad q25.2 1 (by decide) _ hq) hP hS mc_X4_size ml_X7_56 mi_X4_size ms_X4_size mz_X4 (by decide +kernel) ⟨rfl, rfl⟩ ⟨by decide, by decide⟩ (by decide) (cD_Row (by decide)) rfl rfl rfl hl.1 (Nat.le_of_ble_eq_true rfl) dX7_replace_53 ⟨Nat.zero_le _, Nat.zero_le _⟩ (fun H locs hP hS => ?_)
      obtain ⟨q56, hq, hf⟩ := ob_bind hf
      refine ax_callVi (C := "") (b := 0) (i := 75) (k := 2) (ci := 4) [.int x1, .int q53.1] C0 hT hJ hE (met_X5_hasRoom l dC dI cyI cyE tC ad q53.2 x1 q53.1 _ hq) hP hS mc_X5_hasRoom ml_X7_89 mi_X5_hasRoom ms_X5_hasRoom mz_X5 (by decide +kernel) ⟨rfl, rfl⟩ ⟨by decide, by decide⟩ (by decide) cD_Shelf rfl rfl rfl hl.1 (Nat.le_of_ble_eq_true rfl) dX7_replace_56 ⟨Nat.zero_le _, Nat.zero_le _⟩ (fun H locs hP hS => ?_)
      refine lv_if_ne (tgt := 72) hx hb dX7_replace_59 (by decide) (fun h59 => ?_) (fun h59 => ?_)
      · rw [if_neg h59] at hf
        refine lv_aload_n hx hb dX7_replace_72 rfl (lv_at hl 0 rfl) ?_
        refine g_Desk_shelf C0 hT hE hP mf_X7_27 dX7_replace_73 ?_
        refine lv_iload_n hx hb dX7_replace_76 rfl (lv_at hl 1 rfl) ?_
        refine lv_aload_n hx hb dX7_replace_77 rfl (lv_at hl 0 rfl) ?_
        refine g_Desk_tape C0 hT hE hP mf_X7_18 dX7_replace_78 ?_
        obtain ⟨q81, hq, hf⟩ := ob_bind hf
        refine ax_callVv (b := 0) (i := 75) (k := 2) (ci := 4) [.int x1, .ref (ad 1)] C0 hT hJ hE (met_X5_changeBytes l dC dI cyI cyE tC ad q56.2 x1 1 (by decide) _ hq) hP hS mc_X5_changeBytes ml_X7_112 mi_X5_changeBytes ms_X5_changeBytes mz_X5 (by decide +kernel) ⟨rfl, rfl⟩ ⟨by decide, by decide⟩ (by decide) cD_Shelf rfl rfl rfl hl.1 (Nat.le_of_ble_eq_true rfl) dX7_replace_81 ⟨Nat.zero_le _, Nat.zero_le _⟩ (fun H locs hP hS => ?_)
        refine lv_aload_n hx hb dX7_replace_84 rfl (lv_at hl 0 rfl) ?_
        refine g_Desk_tape C0 hT hE hP mf_X7_18 dX7_replace_85 ?_
        refine lv_iconst (v := 0) hx hb dX7_replace_88 (by decide) ?_
        obtain ⟨q89, hq, hf⟩ := ob_bind hf
        refine ax_callVi (C := "") (b := 0) (i := 1) (k := 1) (ci := 3) [.int 0] C0 hT hJ hE (met_X4_shorten l dC dI cyI cyE tC ad q81 1 0 (by decide) _ hq) hP hS mc_X4_shorten ml_X7_41 mi_X4_shorten ms_X4_shorten mz_X4 (by decide +kernel) ⟨rfl, rfl⟩ ⟨by decide, by decide⟩ (by decide) (cD_Row (by decide)) rfl rfl rfl hl.1 (Nat.le_of_ble_eq_true rfl) dX7_replace_89 ⟨Nat.zero_le _, Nat.zero_le _⟩ (fun H locs hP hS => ?_)
        refine lv_pop hx hb dX7_replace_92 rfl ?_
        exact hret _ _ _ _ _ hf hP hS dX7_replace_93
      · rw [if_pos h59] at hf
        cases hf
        rw [hQ]
        exact tx_throw (text := "no room for the bytes") C0 hT hX hS hl.1 hlocks htab (by decide +kernel) mq_0 mx_0 (by decide) (by decide) xg_0 xb_0 xo_0 dX7_replace_62 dX7_replace_65 dX7_replace_66 dX7_replace_68 dX7_replace_71 (Nat.le_of_ble_eq_true rfl) (Nat.le_of_ble_eq_true rfl) (Nat.le_of_ble_eq_true rfl) (Nat.le_of_ble_eq_true rfl) (fun t hvm hz hk => ⟨(0, _), rfl, ⟨rfl, hP.kept (fun k q hk2 => hk _ (hP k q hk2).lt)⟩, ⟨Nat.le_trans hS.1 hz, fun q h1 h2 => (hk q (Nat.lt_of_lt_of_le h1 hS.1)).trans (hS.2.1 q h1 h2)⟩⟩)
    · rw [if_neg h31] at hf
      cases hf
      rw [hQ]
      exact tx_throw (text := "too many bytes for a file") C0 hT hX hS hl.1 hlocks htab (by decide +kernel) mq_1 mx_1 (by decide) (by decide) xg_1 xb_1 xo_1 dX7_replace_34 dX7_replace_37 dX7_replace_38 dX7_replace_40 dX7_replace_43 (Nat.le_of_ble_eq_true rfl) (Nat.le_of_ble_eq_true rfl) (Nat.le_of_ble_eq_true rfl) (Nat.le_of_ble_eq_true rfl) (fun t hvm hz hk => ⟨(1, _), rfl, ⟨rfl, hP.kept (fun k q hk2 => hk _ (hP k q hk2).lt)⟩, ⟨Nat.le_trans hS.1 hz, fun q h1 h2 => (hk q (Nat.lt_of_lt_of_le h1 hS.1)).trans (hS.2.1 q h1 h2)⟩⟩)
def f_X7_rename_89 (x1 : Int32) (σ : SD)  : Option ((Unit ⊕ Nat) × SD) := (f_X5_changeName σ x1 1).bind fun q98 => (f_X4_shorten q98 1 0).bind fun q106 => some (Sum.inl (), q106.2)
def f_X7_rename (σ : SD) (x1 : Int32) : Option ((Unit ⊕ Nat) × SD) := (f_X5_entry σ x1).bind fun q5 => match q5 with | (none, σ5) => (some (Sum.inr 2, σ5)) | (some e5, σ5) => (if e5 < 20 then ((f_X4_size σ5 1).bind fun q30 => (f_X4_isName q30.2 1 0 q30.1).bind fun q33 => if q33.1 = 0 then (some (Sum.inr 1, q33.2)) else ((f_X4_size q33.2 1).bind fun q62 => (f_X5_lookUp q62.2 1 0 q62.1).bind fun q65 => if q65.1 = (-1) then (f_X7_rename_89 x1 q65.2 ) else (if q65.1 = x1 then (f_X7_rename_89 x1 q65.2 ) else (some (Sum.inr 0, q65.2))))) else none)
def rm_X7_rename : Room := { frames := 6, cells := 1, slots := 6, locals := 99 }
set_option maxHeartbeats 4000000 in
set_option maxRecDepth 100000 in
theorem met_X7_rename (l : Launch) (dC : Nat → ClassId) (dI : Nat → Nat → Nat) (cyI cyE : ClassId) (tC : Nat) (ad : Nat → Nat) (σ : SD) (x1 : Int32) (res : (Unit ⊕ Nat) × SD) (hf : f_X7_rename σ x1 = some res) : ax_Xv l dC dI cyI cyE tC ad yX7_rename cX7_rename 3 none rm_X7_rename [.ref (ad 76), .int x1] σ res := by
  intro sz
  refine vx_ofW (cc := cX7_rename) (maxL := 3) (ret := none) (by decide) rfl ?_
  intro p e s m args below meth c s₁ B hml htab hv
  obtain ⟨hargs, ⟨hsz, hP, hJ, hE⟩, hX⟩ := hv
  subst hsz
  have hx := B.exec
  have hb := B.bytes
  have hr := B.returns
  have hlocks := B.notSynchronized
  have hts := atoms_spec (ws := wsY yX7_rename cX7_rename 3 none) B.pre
  have hown : s.vm.findClass RX7 = some m.cls := findClass_of_methodNamed B.named
  have C0 : CallFix p m c cX7_rename 3 s args (wsY yX7_rename cX7_rename 3 none) RX7 := ⟨hx, hb, hml, hown, hts⟩
  have hT : ∀ w ∈ bw, w ∈ wsY yX7_rename cX7_rename 3 none := fun w h => List.mem_cons_of_mem _ h
  have hS : va_S (ax_A 77 ad s.heap.size) s.heap s.heap [] := va_S.rf
  rw [show entryFrame m args 3 = entryFrame m ([.ref (ad 76), .int x1] : List Value).toArray 3 by rw [hargs]]
  have hl := lv_entry ([.ref (ad 76), .int x1]) (n := 3) (Nat.le_of_ble_eq_true rfl)
  rw [lg_entry_eq]
  generalize (lg_sl ([.ref (ad 76), .int x1]) ++ List.replicate (3 - (lg_sl ([.ref (ad 76), .int x1])).length) Slot.unset).toArray = ls at hl ⊢
  have hl : lv_has ls 3 [(0, .ref (ad 76)), (1, .int x1)] := hl
  obtain ⟨Q, hQ⟩ : ∃ Q : State → Prop, Q = vx_MQ below (va_Qv (fun (u : SD) => res = (.inl (), u)) (ax_B dC dI 77 (cD cyI cyE ad) ad) (ax_A 77 ad s.heap.size)) (vx_X (fun u : Nat × SD => res = (.inr u.1, u.2)) (fun E u t => E = exN u.1 ∧ ax_B dC dI 77 (cD cyI cyE ad) ad u.2 t) (ax_A 77 ad s.heap.size)) args s 1 6 (ax_A 77 ad s.heap.size) := ⟨_, rfl⟩
  show W p l e rm_X7_rename s m args below meth c s.heap [] 0 0 _ _
  rw [← hQ]
  have hret : ∀ (σ : SD) (H : Heap) (locs : List Loc) (ls : Array Slot) (pc : Nat), some (Sum.inl (), σ) = some res → va_P (dC, dI) vwCl (ax_w 77 ad (cD cyI cyE ad σ)) H → va_S (ax_A 77 ad s.heap.size) s.heap H locs → decode cX7_rename pc = .ok (.return_, 1) → W p l e rm_X7_rename s m args below meth c H locs 0 0 Q (F0 m pc ls []) := by
    intro σ H locs ls pc hf hP hS hd
    cases hf
    rw [hQ]
    exact ax_vretX hx hb hr hlocks hP hS hd rfl
  have L89 : ∀ (σ : SD) , ∀ (H : Heap) (locs : List Loc) (ls : Array Slot), va_P (dC, dI) vwCl (ax_w 77 ad (cD cyI cyE ad σ)) H → va_S (ax_A 77 ad s.heap.size) s.heap H locs → lv_has ls 3 [(0, .ref (ad 76)), (1, .int x1)] → f_X7_rename_89 x1 σ  = some res → W p l e rm_X7_rename s m args below meth c H locs 0 0 Q (F0 m 89 ls []) := by
    intro σ   H locs ls hP hS hl hf
    unfold f_X7_rename_89 at hf
    refine lv_aload_n hx hb dX7_rename_89 rfl (lv_at hl 0 rfl) ?_
    refine g_Desk_shelf C0 hT hE hP mf_X7_27 dX7_rename_90 ?_
    refine lv_iload_n hx hb dX7_rename_93 rfl (lv_at hl 1 rfl) ?_
    refine lv_aload_n hx hb dX7_rename_94 rfl (lv_at hl 0 rfl) ?_
    refine g_Desk_tape C0 hT hE hP mf_X7_18 dX7_rename_95 ?_
    obtain ⟨q98, hq, hf⟩ := ob_bind hf
    refine ax_callVv (b := 0) (i := 75) (k := 2) (ci := 4) [.int x1, .ref (ad 1)] C0 hT hJ hE (met_X5_changeName l dC dI cyI cyE tC ad σ x1 1 (by decide) _ hq) hP hS mc_X5_changeName ml_X7_116 mi_X5_changeName ms_X5_changeName mz_X5 (by decide +kernel) ⟨rfl, rfl⟩ ⟨by decide, by decide⟩ (by decide) cD_Shelf rfl rfl rfl hl.1 (Nat.le_of_ble_eq_true rfl) dX7_rename_98 ⟨Nat.zero_le _, Nat.zero_le _⟩ (fun H locs hP hS => ?_)
    refine lv_aload_n hx hb dX7_rename_101 rfl (lv_at hl 0 rfl) ?_
    refine g_Desk_tape C0 hT hE hP mf_X7_18 dX7_rename_102 ?_
    refine lv_iconst (v := 0) hx hb dX7_rename_105 (by decide) ?_
    obtain ⟨q106, hq, hf⟩ := ob_bind hf
    refine ax_callVi (C := "") (b := 0) (i := 1) (k := 1) (ci := 3) [.int 0] C0 hT hJ hE (met_X4_shorten l dC dI cyI cyE tC ad q98 1 0 (by decide) _ hq) hP hS mc_X4_shorten ml_X7_41 mi_X4_shorten ms_X4_shorten mz_X4 (by decide +kernel) ⟨rfl, rfl⟩ ⟨by decide, by decide⟩ (by decide) (cD_Row (by decide)) rfl rfl rfl hl.1 (Nat.le_of_ble_eq_true rfl) dX7_rename_106 ⟨Nat.zero_le _, Nat.zero_le _⟩ (fun H locs hP hS => ?_)
    refine lv_pop hx hb dX7_rename_109 rfl ?_
    exact hret _ _ _ _ _ hf hP hS dX7_rename_110
  unfold f_X7_rename at hf
  refine lv_aload_n hx hb dX7_rename_0 rfl (lv_at hl 0 rfl) ?_
  refine g_Desk_shelf C0 hT hE hP mf_X7_27 dX7_rename_1 ?_
  refine lv_iload_n hx hb dX7_rename_4 rfl (lv_at hl 1 rfl) ?_
  obtain ⟨⟨o5, σ5⟩, hq, hf⟩ := ob_bind hf
  refine ax_callVq (i := 75) (k := 1) (ci := 4) [.int x1] C0 hT hJ hE (met_X5_entry l dC dI cyI cyE tC ad σ x1 _ hq) hP hS mc_X5_entry ml_X7_101 mi_X5_entry ms_X5_entry mz_X5 (by decide +kernel) ⟨rfl, rfl⟩ ⟨by decide, by decide⟩ (by decide) cD_Shelf rfl rfl rfl hl.1 (Nat.le_of_ble_eq_true rfl) dX7_rename_5 ⟨Nat.zero_le _, Nat.zero_le _⟩ (fun H locs hP hS => ?_)
  cases o5 with
  | none =>
    dsimp only at hf
    refine W.eq (g2 := F0 m 8 ls [.null]) rfl ?_
    refine lv_ifnonnullN hx hb dX7_rename_8 ?_
    cases hf
    rw [hQ]
    exact tx_throw (text := "no such file") C0 hT hX hS hl.1 hlocks htab (by decide +kernel) mq_2 mx_2 (by decide) (by decide) xg_2 xb_2 xo_2 dX7_rename_11 dX7_rename_14 dX7_rename_15 dX7_rename_17 dX7_rename_20 (Nat.le_of_ble_eq_true rfl) (Nat.le_of_ble_eq_true rfl) (Nat.le_of_ble_eq_true rfl) (Nat.le_of_ble_eq_true rfl) (fun t hvm hz hk => ⟨(2, _), rfl, ⟨rfl, hP.kept (fun k q hk2 => hk _ (hP k q hk2).lt)⟩, ⟨Nat.le_trans hS.1 hz, fun q h1 h2 => (hk q (Nat.lt_of_lt_of_le h1 hS.1)).trans (hS.2.1 q h1 h2)⟩⟩)
  | some e5 =>
    dsimp only at hf
    obtain ⟨hb_e5, hf⟩ := ob_if hf
    refine W.eq (g2 := F0 m 8 ls [.ref (ad (52 + e5))]) rfl ?_
    refine lv_ifnonnull (tgt := 21) hx hb dX7_rename_8 (by decide) ?_
    refine lv_aload_n hx hb dX7_rename_21 rfl (lv_at hl 0 rfl) ?_
    refine g_Desk_tape C0 hT hE hP mf_X7_18 dX7_rename_22 ?_
    refine lv_iconst (v := 0) hx hb dX7_rename_25 (by decide) ?_
    refine lv_aload_n hx hb dX7_rename_26 rfl (lv_at hl 0 rfl) ?_
    refine g_Desk_tape C0 hT hE hP mf_X7_18 dX7_rename_27 ?_
    obtain ⟨q30, hq, hf⟩ := ob_bind hf
    refine ax_callVi (C := "") (b := 0) (i := 1) (k := 0) (ci := 3) [] C0 hT hJ hE (met_X4_size l dC dI cyI cyE tC ad σ5 1 (by decide) _ hq) hP hS mc_X4_size ml_X7_56 mi_X4_size ms_X4_size mz_X4 (by decide +kernel) ⟨rfl, rfl⟩ ⟨by decide, by decide⟩ (by decide) (cD_Row (by decide)) rfl rfl rfl hl.1 (Nat.le_of_ble_eq_true rfl) dX7_rename_30 ⟨Nat.zero_le _, Nat.zero_le _⟩ (fun H locs hP hS => ?_)
    obtain ⟨q33, hq, hf⟩ := ob_bind hf
    refine ax_callVi (C := "") (b := 0) (i := 1) (k := 2) (ci := 3) [.int 0, .int q30.1] C0 hT hJ hE (met_X4_isName l dC dI cyI cyE tC ad q30.2 1 0 q30.1 (by decide) _ hq) hP hS mc_X4_isName ml_X7_73 mi_X4_isName ms_X4_isName mz_X4 (by decide +kernel) ⟨rfl, rfl⟩ ⟨by decide, by decide⟩ (by decide) (cD_Row (by decide)) rfl rfl rfl hl.1 (Nat.le_of_ble_eq_true rfl) dX7_rename_33 ⟨Nat.zero_le _, Nat.zero_le _⟩ (fun H locs hP hS => ?_)
    refine lv_if_ne (tgt := 49) hx hb dX7_rename_36 (by decide) (fun h36 => ?_) (fun h36 => ?_)
    · rw [if_neg h36] at hf
      refine lv_aload_n hx hb dX7_rename_49 rfl (lv_at hl 0 rfl) ?_
      refine g_Desk_shelf C0 hT hE hP mf_X7_27 dX7_rename_50 ?_
      refine lv_aload_n hx hb dX7_rename_53 rfl (lv_at hl 0 rfl) ?_
      refine g_Desk_tape C0 hT hE hP mf_X7_18 dX7_rename_54 ?_
      refine lv_iconst (v := 0) hx hb dX7_rename_57 (by decide) ?_
      refine lv_aload_n hx hb dX7_rename_58 rfl (lv_at hl 0 rfl) ?_
      refine g_Desk_tape C0 hT hE hP mf_X7_18 dX7_rename_59 ?_
      obtain ⟨q62, hq, hf⟩ := ob_bind hf
      refine ax_callVi (C := "") (b := 0) (i := 1) (k := 0) (ci := 3) [] C0 hT hJ hE (met_X4_size l dC dI cyI cyE tC ad q33.2 1 (by decide) _ hq) hP hS mc_X4_size ml_X7_56 mi_X4_size ms_X4_size mz_X4 (by decide +kernel) ⟨rfl, rfl⟩ ⟨by decide, by decide⟩ (by decide) (cD_Row (by decide)) rfl rfl rfl hl.1 (Nat.le_of_ble_eq_true rfl) dX7_rename_62 ⟨Nat.zero_le _, Nat.zero_le _⟩ (fun H locs hP hS => ?_)
      obtain ⟨q65, hq, hf⟩ := ob_bind hf
      refine ax_callVi (C := "") (b := 0) (i := 75) (k := 3) (ci := 4) [.ref (ad 1), .int 0, .int q62.1] C0 hT hJ hE (met_X5_lookUp l dC dI cyI cyE tC ad q62.2 1 0 q62.1 (by decide) _ hq) hP hS mc_X5_lookUp ml_X7_83 mi_X5_lookUp ms_X5_lookUp mz_X5 (by decide +kernel) ⟨rfl, rfl⟩ ⟨by decide, by decide⟩ (by decide) cD_Shelf rfl rfl rfl hl.1 (Nat.le_of_ble_eq_true rfl) dX7_rename_65 ⟨Nat.zero_le _, Nat.zero_le _⟩ (fun H locs hP hS => ?_)
      refine lv_istore_n (lv' := [(2, .int q65.1), (0, .ref (ad 76)), (1, .int x1)]) hx hb dX7_rename_68 rfl hl (by decide) rfl (fun ls hl => ?_)
      refine lv_iload_n hx hb dX7_rename_69 rfl (lv_at hl 0 rfl) ?_
      refine lv_iconst (v := (-1)) hx hb dX7_rename_70 (by decide) ?_
      refine lv_icmp_eq (tgt := 89) hx hb dX7_rename_71 (by decide) (fun h71 => ?_) (fun h71 => ?_)
      · rw [if_pos h71] at hf
        exact L89 _  _ _ _ hP hS (lv_sub hl [1, 2] rfl) hf
      · rw [if_neg h71] at hf
        refine lv_iload_n hx hb dX7_rename_74 rfl (lv_at hl 0 rfl) ?_
        refine lv_iload_n hx hb dX7_rename_75 rfl (lv_at hl 2 rfl) ?_
        refine lv_icmp_eq (tgt := 89) hx hb dX7_rename_76 (by decide) (fun h76 => ?_) (fun h76 => ?_)
        · rw [if_pos h76] at hf
          exact L89 _  _ _ _ hP hS (lv_sub hl [1, 2] rfl) hf
        · rw [if_neg h76] at hf
          cases hf
          rw [hQ]
          exact tx_throw (text := "another file has that name") C0 hT hX hS hl.1 hlocks htab (by decide +kernel) mq_0 mx_0 (by decide) (by decide) xg_0 xb_0 xo_0 dX7_rename_79 dX7_rename_82 dX7_rename_83 dX7_rename_85 dX7_rename_88 (Nat.le_of_ble_eq_true rfl) (Nat.le_of_ble_eq_true rfl) (Nat.le_of_ble_eq_true rfl) (Nat.le_of_ble_eq_true rfl) (fun t hvm hz hk => ⟨(0, _), rfl, ⟨rfl, hP.kept (fun k q hk2 => hk _ (hP k q hk2).lt)⟩, ⟨Nat.le_trans hS.1 hz, fun q h1 h2 => (hk q (Nat.lt_of_lt_of_le h1 hS.1)).trans (hS.2.1 q h1 h2)⟩⟩)
    · rw [if_pos h36] at hf
      cases hf
      rw [hQ]
      exact tx_throw (text := "no name") C0 hT hX hS hl.1 hlocks htab (by decide +kernel) mq_1 mx_1 (by decide) (by decide) xg_1 xb_1 xo_1 dX7_rename_39 dX7_rename_42 dX7_rename_43 dX7_rename_45 dX7_rename_48 (Nat.le_of_ble_eq_true rfl) (Nat.le_of_ble_eq_true rfl) (Nat.le_of_ble_eq_true rfl) (Nat.le_of_ble_eq_true rfl) (fun t hvm hz hk => ⟨(1, _), rfl, ⟨rfl, hP.kept (fun k q hk2 => hk _ (hP k q hk2).lt)⟩, ⟨Nat.le_trans hS.1 hz, fun q h1 h2 => (hk q (Nat.lt_of_lt_of_le h1 hS.1)).trans (hS.2.1 q h1 h2)⟩⟩)
def f_X7_remove (σ : SD) (x1 : Int32) : Option ((Unit ⊕ Nat) × SD) := (f_X5_entry σ x1).bind fun q5 => match q5 with | (none, σ5) => (some (Sum.inr 2, σ5)) | (some e5, σ5) => (if e5 < 20 then ((f_X5_takeOut σ5 x1).bind fun q26 => some (Sum.inl (), q26)) else none)
def rm_X7_remove : Room := { frames := 6, cells := 1, slots := 6, locals := 97 }
set_option maxHeartbeats 4000000 in
set_option maxRecDepth 100000 in
theorem met_X7_remove (l : Launch) (dC : Nat → ClassId) (dI : Nat → Nat → Nat) (cyI cyE : ClassId) (tC : Nat) (ad : Nat → Nat) (σ : SD) (x1 : Int32) (res : (Unit ⊕ Nat) × SD) (hf : f_X7_remove σ x1 = some res) : ax_Xv l dC dI cyI cyE tC ad yX7_remove cX7_remove 2 none rm_X7_remove [.ref (ad 76), .int x1] σ res := by
  intro sz
  refine vx_ofW (cc := cX7_remove) (maxL := 2) (ret := none) (by decide) rfl ?_
  intro p e s m args below meth c s₁ B hml htab hv
  obtain ⟨hargs, ⟨hsz, hP, hJ, hE⟩, hX⟩ := hv
  subst hsz
  have hx := B.exec
  have hb := B.bytes
  have hr := B.returns
  have hlocks := B.notSynchronized
  have hts := atoms_spec (ws := wsY yX7_remove cX7_remove 2 none) B.pre
  have hown : s.vm.findClass RX7 = some m.cls := findClass_of_methodNamed B.named
  have C0 : CallFix p m c cX7_remove 2 s args (wsY yX7_remove cX7_remove 2 none) RX7 := ⟨hx, hb, hml, hown, hts⟩
  have hT : ∀ w ∈ bw, w ∈ wsY yX7_remove cX7_remove 2 none := fun w h => List.mem_cons_of_mem _ h
  have hS : va_S (ax_A 77 ad s.heap.size) s.heap s.heap [] := va_S.rf
  rw [show entryFrame m args 2 = entryFrame m ([.ref (ad 76), .int x1] : List Value).toArray 2 by rw [hargs]]
  have hl := lv_entry ([.ref (ad 76), .int x1]) (n := 2) (Nat.le_of_ble_eq_true rfl)
  rw [lg_entry_eq]
  generalize (lg_sl ([.ref (ad 76), .int x1]) ++ List.replicate (2 - (lg_sl ([.ref (ad 76), .int x1])).length) Slot.unset).toArray = ls at hl ⊢
  have hl : lv_has ls 2 [(0, .ref (ad 76)), (1, .int x1)] := hl
  obtain ⟨Q, hQ⟩ : ∃ Q : State → Prop, Q = vx_MQ below (va_Qv (fun (u : SD) => res = (.inl (), u)) (ax_B dC dI 77 (cD cyI cyE ad) ad) (ax_A 77 ad s.heap.size)) (vx_X (fun u : Nat × SD => res = (.inr u.1, u.2)) (fun E u t => E = exN u.1 ∧ ax_B dC dI 77 (cD cyI cyE ad) ad u.2 t) (ax_A 77 ad s.heap.size)) args s 1 6 (ax_A 77 ad s.heap.size) := ⟨_, rfl⟩
  show W p l e rm_X7_remove s m args below meth c s.heap [] 0 0 _ _
  rw [← hQ]
  have hret : ∀ (σ : SD) (H : Heap) (locs : List Loc) (ls : Array Slot) (pc : Nat), some (Sum.inl (), σ) = some res → va_P (dC, dI) vwCl (ax_w 77 ad (cD cyI cyE ad σ)) H → va_S (ax_A 77 ad s.heap.size) s.heap H locs → decode cX7_remove pc = .ok (.return_, 1) → W p l e rm_X7_remove s m args below meth c H locs 0 0 Q (F0 m pc ls []) := by
    intro σ H locs ls pc hf hP hS hd
    cases hf
    rw [hQ]
    exact ax_vretX hx hb hr hlocks hP hS hd rfl
  unfold f_X7_remove at hf
  refine lv_aload_n hx hb dX7_remove_0 rfl (lv_at hl 0 rfl) ?_
  refine g_Desk_shelf C0 hT hE hP mf_X7_27 dX7_remove_1 ?_
  refine lv_iload_n hx hb dX7_remove_4 rfl (lv_at hl 1 rfl) ?_
  obtain ⟨⟨o5, σ5⟩, hq, hf⟩ := ob_bind hf
  refine ax_callVq (i := 75) (k := 1) (ci := 4) [.int x1] C0 hT hJ hE (met_X5_entry l dC dI cyI cyE tC ad σ x1 _ hq) hP hS mc_X5_entry ml_X7_101 mi_X5_entry ms_X5_entry mz_X5 (by decide +kernel) ⟨rfl, rfl⟩ ⟨by decide, by decide⟩ (by decide) cD_Shelf rfl rfl rfl hl.1 (Nat.le_of_ble_eq_true rfl) dX7_remove_5 ⟨Nat.zero_le _, Nat.zero_le _⟩ (fun H locs hP hS => ?_)
  cases o5 with
  | none =>
    dsimp only at hf
    refine W.eq (g2 := F0 m 8 ls [.null]) rfl ?_
    refine lv_ifnonnullN hx hb dX7_remove_8 ?_
    cases hf
    rw [hQ]
    exact tx_throw (text := "no such file") C0 hT hX hS hl.1 hlocks htab (by decide +kernel) mq_2 mx_2 (by decide) (by decide) xg_2 xb_2 xo_2 dX7_remove_11 dX7_remove_14 dX7_remove_15 dX7_remove_17 dX7_remove_20 (Nat.le_of_ble_eq_true rfl) (Nat.le_of_ble_eq_true rfl) (Nat.le_of_ble_eq_true rfl) (Nat.le_of_ble_eq_true rfl) (fun t hvm hz hk => ⟨(2, _), rfl, ⟨rfl, hP.kept (fun k q hk2 => hk _ (hP k q hk2).lt)⟩, ⟨Nat.le_trans hS.1 hz, fun q h1 h2 => (hk q (Nat.lt_of_lt_of_le h1 hS.1)).trans (hS.2.1 q h1 h2)⟩⟩)
  | some e5 =>
    dsimp only at hf
    obtain ⟨hb_e5, hf⟩ := ob_if hf
    refine W.eq (g2 := F0 m 8 ls [.ref (ad (52 + e5))]) rfl ?_
    refine lv_ifnonnull (tgt := 21) hx hb dX7_remove_8 (by decide) ?_
    refine lv_aload_n hx hb dX7_remove_21 rfl (lv_at hl 0 rfl) ?_
    refine g_Desk_shelf C0 hT hE hP mf_X7_27 dX7_remove_22 ?_
    refine lv_iload_n hx hb dX7_remove_25 rfl (lv_at hl 1 rfl) ?_
    obtain ⟨q26, hq, hf⟩ := ob_bind hf
    refine ax_callVv (b := 0) (i := 75) (k := 1) (ci := 4) [.int x1] C0 hT hJ hE (met_X5_takeOut l dC dI cyI cyE tC ad σ5 x1 _ hq) hP hS mc_X5_takeOut ml_X7_119 mi_X5_takeOut ms_X5_takeOut mz_X5 (by decide +kernel) ⟨rfl, rfl⟩ ⟨by decide, by decide⟩ (by decide) cD_Shelf rfl rfl rfl hl.1 (Nat.le_of_ble_eq_true rfl) dX7_remove_26 ⟨Nat.zero_le _, Nat.zero_le _⟩ (fun H locs hP hS => ?_)
    exact hret _ _ _ _ _ hf hP hS dX7_remove_29
def f_X7_read (σ : SD) : Option ((Int32 ⊕ Nat) × SD) := (f_X3_passes σ 1).bind fun q8 => if q8.1 = 0 then (some (Sum.inr 1, q8.2)) else ((f_X5_takeOutAll q8.2 ).bind fun q28 => (f_X3_load q28 1).bind fun q43 => (f_X5_count q43 ).bind fun q50 => some (Sum.inl q50.1, q50.2))
def rm_X7_read : Room := { frames := 6, cells := 1, slots := 6, locals := 157 }
set_option maxHeartbeats 4000000 in
set_option maxRecDepth 100000 in
theorem met_X7_read (l : Launch) (dC : Nat → ClassId) (dI : Nat → Nat → Nat) (cyI cyE : ClassId) (tC : Nat) (ad : Nat → Nat) (σ : SD) (res : (Int32 ⊕ Nat) × SD) (hf : f_X7_read σ = some res) : ax_Xi l dC dI cyI cyE tC ad yX7_read cX7_read 1 (some .int) rm_X7_read [.ref (ad 76)] σ res := by
  intro sz
  refine vx_ofW (cc := cX7_read) (maxL := 1) (ret := (some .int)) (by decide) rfl ?_
  intro p e s m args below meth c s₁ B hml htab hv
  obtain ⟨hargs, ⟨hsz, hP, hJ, hE⟩, hX⟩ := hv
  subst hsz
  have hx := B.exec
  have hb := B.bytes
  have hr := B.returns
  have hlocks := B.notSynchronized
  have hts := atoms_spec (ws := wsY yX7_read cX7_read 1 (some .int)) B.pre
  have hown : s.vm.findClass RX7 = some m.cls := findClass_of_methodNamed B.named
  have C0 : CallFix p m c cX7_read 1 s args (wsY yX7_read cX7_read 1 (some .int)) RX7 := ⟨hx, hb, hml, hown, hts⟩
  have hT : ∀ w ∈ bw, w ∈ wsY yX7_read cX7_read 1 (some .int) := fun w h => List.mem_cons_of_mem _ h
  have hS : va_S (ax_A 77 ad s.heap.size) s.heap s.heap [] := va_S.rf
  rw [show entryFrame m args 1 = entryFrame m ([.ref (ad 76)] : List Value).toArray 1 by rw [hargs]]
  have hl := lv_entry ([.ref (ad 76)]) (n := 1) (Nat.le_of_ble_eq_true rfl)
  rw [lg_entry_eq]
  generalize (lg_sl ([.ref (ad 76)]) ++ List.replicate (1 - (lg_sl ([.ref (ad 76)])).length) Slot.unset).toArray = ls at hl ⊢
  have hl : lv_has ls 1 [(0, .ref (ad 76))] := hl
  obtain ⟨Q, hQ⟩ : ∃ Q : State → Prop, Q = vx_MQ below (va_Qi (fun (a : Int32) (u : SD) => res = (.inl a, u)) (ax_B dC dI 77 (cD cyI cyE ad) ad) (ax_A 77 ad s.heap.size)) (vx_X (fun u : Nat × SD => res = (.inr u.1, u.2)) (fun E u t => E = exN u.1 ∧ ax_B dC dI 77 (cD cyI cyE ad) ad u.2 t) (ax_A 77 ad s.heap.size)) args s 1 6 (ax_A 77 ad s.heap.size) := ⟨_, rfl⟩
  show W p l e rm_X7_read s m args below meth c s.heap [] 0 0 _ _
  rw [← hQ]
  have hret : ∀ (v : Int32) (σ : SD) (H : Heap) (locs : List Loc) (ls : Array Slot) (pc : Nat), narrow .int (.int v) = .int v → some (Sum.inl v, σ) = some res → va_P (dC, dI) vwCl (ax_w 77 ad (cD cyI cyE ad σ)) H → va_S (ax_A 77 ad s.heap.size) s.heap H locs → decode cX7_read pc = .ok (.ireturn, 1) → W p l e rm_X7_read s m args below meth c H locs 0 0 Q (F0 m pc ls [.int v]) := by
    intro v σ H locs ls pc hn hf hP hS hd
    cases hf
    rw [hQ]
    exact ax_iretX hx hb hr hlocks hn hP hS hd rfl
  unfold f_X7_read at hf
  refine lv_aload_n hx hb dX7_read_0 rfl (lv_at hl 0 rfl) ?_
  refine g_Desk_reader C0 hT hE hP mf_X7_34 dX7_read_1 ?_
  refine lv_aload_n hx hb dX7_read_4 rfl (lv_at hl 0 rfl) ?_
  refine g_Desk_tape C0 hT hE hP mf_X7_18 dX7_read_5 ?_
  obtain ⟨q8, hq, hf⟩ := ob_bind hf
  refine ax_callVi (C := "") (b := 0) (i := 74) (k := 1) (ci := 2) [.ref (ad 1)] C0 hT hJ hE (met_X3_passes l dC dI cyI cyE tC ad σ 1 (by decide) _ hq) hP hS mc_X3_passes ml_X7_141 mi_X3_passes ms_X3_passes mz_X3 (by decide +kernel) ⟨rfl, rfl⟩ ⟨by decide, by decide⟩ (by decide) cD_Reader rfl rfl rfl hl.1 (Nat.le_of_ble_eq_true rfl) dX7_read_8 ⟨Nat.zero_le _, Nat.zero_le _⟩ (fun H locs hP hS => ?_)
  refine lv_if_ne (tgt := 24) hx hb dX7_read_11 (by decide) (fun h11 => ?_) (fun h11 => ?_)
  · rw [if_neg h11] at hf
    refine lv_aload_n hx hb dX7_read_24 rfl (lv_at hl 0 rfl) ?_
    refine g_Desk_shelf C0 hT hE hP mf_X7_27 dX7_read_25 ?_
    obtain ⟨q28, hq, hf⟩ := ob_bind hf
    refine ax_callVv (b := 0) (i := 75) (k := 0) (ci := 4) [] C0 hT hJ hE (met_X5_takeOutAll l dC dI cyI cyE tC ad q8.2 _ hq) hP hS mc_X5_takeOutAll ml_X7_125 mi_X5_takeOutAll ms_X5_takeOutAll mz_X5 (by decide +kernel) ⟨rfl, rfl⟩ ⟨by decide, by decide⟩ (by decide) cD_Shelf rfl rfl rfl hl.1 (Nat.le_of_ble_eq_true rfl) dX7_read_28 ⟨Nat.zero_le _, Nat.zero_le _⟩ (fun H locs hP hS => ?_)
    refine lv_aload_n hx hb dX7_read_31 rfl (lv_at hl 0 rfl) ?_
    refine g_Desk_reader C0 hT hE hP mf_X7_34 dX7_read_32 ?_
    refine lv_aload_n hx hb dX7_read_35 rfl (lv_at hl 0 rfl) ?_
    refine g_Desk_tape C0 hT hE hP mf_X7_18 dX7_read_36 ?_
    refine lv_aload_n hx hb dX7_read_39 rfl (lv_at hl 0 rfl) ?_
    refine g_Desk_shelf C0 hT hE hP mf_X7_27 dX7_read_40 ?_
    obtain ⟨q43, hq, hf⟩ := ob_bind hf
    refine ax_callVv (b := 0) (i := 74) (k := 2) (ci := 2) [.ref (ad 1), .ref (ad 75)] C0 hT hJ hE (met_X3_load l dC dI cyI cyE tC ad q28 1 (by decide) _ hq) hP hS mc_X3_load ml_X7_147 mi_X3_load ms_X3_load mz_X3 (by decide +kernel) ⟨rfl, rfl⟩ ⟨by decide, by decide⟩ (by decide) cD_Reader rfl rfl rfl hl.1 (Nat.le_of_ble_eq_true rfl) dX7_read_43 ⟨Nat.zero_le _, Nat.zero_le _⟩ (fun H locs hP hS => ?_)
    refine lv_aload_n hx hb dX7_read_46 rfl (lv_at hl 0 rfl) ?_
    refine g_Desk_shelf C0 hT hE hP mf_X7_27 dX7_read_47 ?_
    obtain ⟨q50, hq, hf⟩ := ob_bind hf
    refine ax_callVi (C := "") (b := 0) (i := 75) (k := 0) (ci := 4) [] C0 hT hJ hE (met_X5_count l dC dI cyI cyE tC ad q43 _ hq) hP hS mc_X5_count ml_X7_98 mi_X5_count ms_X5_count mz_X5 (by decide +kernel) ⟨rfl, rfl⟩ ⟨by decide, by decide⟩ (by decide) cD_Shelf rfl rfl rfl hl.1 (Nat.le_of_ble_eq_true rfl) dX7_read_50 ⟨Nat.zero_le _, Nat.zero_le _⟩ (fun H locs hP hS => ?_)
    exact hret _ _ _ _ _ _ rfl hf hP hS dX7_read_53
  · rw [if_pos h11] at hf
    cases hf
    rw [hQ]
    exact tx_throw (text := "the tape is no whole archive") C0 hT hX hS hl.1 hlocks htab (by decide +kernel) mq_1 mx_1 (by decide) (by decide) xg_1 xb_1 xo_1 dX7_read_14 dX7_read_17 dX7_read_18 dX7_read_20 dX7_read_23 (Nat.le_of_ble_eq_true rfl) (Nat.le_of_ble_eq_true rfl) (Nat.le_of_ble_eq_true rfl) (Nat.le_of_ble_eq_true rfl) (fun t hvm hz hk => ⟨(1, _), rfl, ⟨rfl, hP.kept (fun k q hk2 => hk _ (hP k q hk2).lt)⟩, ⟨Nat.le_trans hS.1 hz, fun q h1 h2 => (hk q (Nat.lt_of_lt_of_le h1 hS.1)).trans (hS.2.1 q h1 h2)⟩⟩)
