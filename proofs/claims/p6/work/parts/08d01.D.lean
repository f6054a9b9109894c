def f_X0_fold_72 (r0 : Nat) (x1 : Int32) (x2 : Int32) (r3 : Nat) (k8 : SD → Int32 → Int32 → Option (SD)) (σ : SD) (x4 : Int32) (x5 : Int32) (x6 : Int32) : Option (SD) := k8 σ x4 (x5 + (if (1 : Int32) < (if (0 : Int32) ≤ x6 then x6 else 0 - x6) then (if (0 : Int32) ≤ x6 then x6 else 0 - x6) else 1))
def f_X0_fold_8 (r0 : Nat) (x1 : Int32) (x2 : Int32) (r3 : Nat) : Nat → SD → Int32 → Int32 → Option (SD)
  | 0, _, _, _ => none
  | n + 1, σ, x4, x5 => if x4 ≤ x5 then (some σ) else ((f_X0_nextGroup σ r0 x5 x4).bind fun q20 => if q20.1 ≤ 0 then ((f_X4_push q20.2 r3 ((-q20.1) - 1)).bind fun q59 => (f_X4_append q59 r3 r0 x5 (-q20.1)).bind fun q69 => f_X0_fold_72 r0 x1 x2 r3 (f_X0_fold_8 r0 x1 x2 r3 n) q69 x4 x5 q20.1) else ((f_X4_push q20.2 r3 (257 - q20.1)).bind fun q37 => (f_X4_at q37 r0 x5).bind fun q44 => (f_X4_push q44.2 r3 q44.1).bind fun q47 => f_X0_fold_72 r0 x1 x2 r3 (f_X0_fold_8 r0 x1 x2 r3 n) q47 x4 x5 q20.1))
def f_X0_fold (σ : SD) (r0 : Nat) (x1 : Int32) (x2 : Int32) (r3 : Nat) : Option (SD) := f_X0_fold_8 r0 x1 x2 r3 fu σ (x1 + x2) x1
def rm_X0_fold : Room := { frames := 2, cells := 0, slots := 0, locals := 55 }
set_option maxHeartbeats 4000000 in
set_option maxRecDepth 100000 in
theorem met_X0_fold (l : Launch) (dC : Nat → ClassId) (dI : Nat → Nat → Nat) (cyI cyE : ClassId) (tC : Nat) (ad : Nat → Nat) (σ : SD) (r0 : Nat) (x1 : Int32) (x2 : Int32) (r3 : Nat) (hb_r0 : r0 < 25) (hb_r3 : r3 < 25) (res : SD) (hf : f_X0_fold σ r0 x1 x2 r3 = some res) : ax_Mv l dC dI cyI cyE tC 77 (cD cyI cyE ad) ad yX0_fold cX0_fold 7 none rm_X0_fold [.ref (ad r0), .int x1, .int x2, .ref (ad r3)] σ res := by
  intro sz
  refine Met.ofW (cc := cX0_fold) (maxL := 7) (ret := none) (by decide) rfl ?_
  intro p e s m args below meth c s₁ B hml hv
  obtain ⟨hargs, hsz, hP, hJ, hE⟩ := hv
  subst hsz
  have hx := B.exec
  have hb := B.bytes
  have hr := B.returns
  have hlocks := B.notSynchronized
  have hts := atoms_spec (ws := wsY yX0_fold cX0_fold 7 none) B.pre
  have hown : s.vm.findClass RX0 = some m.cls := findClass_of_methodNamed B.named
  have C0 : CallFix p m c cX0_fold 7 s args (wsY yX0_fold cX0_fold 7 none) RX0 := ⟨hx, hb, hml, hown, hts⟩
  have hT : ∀ w ∈ bw, w ∈ wsY yX0_fold cX0_fold 7 none := fun w h => List.mem_cons_of_mem _ h
  have hS : va_S (ax_A 77 ad s.heap.size) s.heap s.heap [] := va_S.rf
  rw [show entryFrame m args 7 = entryFrame m ([.ref (ad r0), .int x1, .int x2, .ref (ad r3)] : List Value).toArray 7 by rw [hargs]]
  have hl := lv_entry ([.ref (ad r0), .int x1, .int x2, .ref (ad r3)]) (n := 7) (Nat.le_of_ble_eq_true rfl)
  rw [lg_entry_eq]
  generalize (lg_sl ([.ref (ad r0), .int x1, .int x2, .ref (ad r3)]) ++ List.replicate (7 - (lg_sl ([.ref (ad r0), .int x1, .int x2, .ref (ad r3)])).length) Slot.unset).toArray = ls at hl ⊢
  have hl : lv_has ls 7 [(0, .ref (ad r0)), (1, .int x1), (2, .int x2), (3, .ref (ad r3))] := hl
  obtain ⟨Q, hQ⟩ : ∃ Q : State → Prop, Q = MQ below (va_Qv (fun (u : SD) => u = res) (ax_B dC dI 77 (cD cyI cyE ad) ad) (ax_A 77 ad s.heap.size)) args s 0 0 (ax_A 77 ad s.heap.size) := ⟨_, rfl⟩
  show W p l e rm_X0_fold s m args below meth c s.heap [] 0 0 _ _
  rw [← hQ]
  have hret : ∀ (σ : SD) (H : Heap) (locs : List Loc) (ls : Array Slot) (pc : Nat), some σ = some res → va_P (dC, dI) vwCl (ax_w 77 ad (cD cyI cyE ad σ)) H → va_S (ax_A 77 ad s.heap.size) s.heap H locs → decode cX0_fold pc = .ok (.return_, 1) → W p l e rm_X0_fold s m args below meth c H locs 0 0 Q (F0 m pc ls []) := by
    intro σ H locs ls pc hf hP hS hd
    cases hf
    rw [hQ]
    exact ax_vret hx hb hr hlocks hP hS hd rfl
  have L72 : ∀ (k8 : SD → Int32 → Int32 → Option (SD)), (∀ (σ : SD) (x4 : Int32) (x5 : Int32), ∀ (H : Heap) (locs : List Loc) (ls : Array Slot), va_P (dC, dI) vwCl (ax_w 77 ad (cD cyI cyE ad σ)) H → va_S (ax_A 77 ad s.heap.size) s.heap H locs → lv_has ls 7 [(0, .ref (ad r0)), (3, .ref (ad r3)), (4, .int x4), (5, .int x5)] → k8 σ x4 x5 = some res → W p l e rm_X0_fold s m args below meth c H locs 0 0 Q (F0 m 8 ls [])) → ∀ (σ : SD) (x4 : Int32) (x5 : Int32) (x6 : Int32), ∀ (H : Heap) (locs : List Loc) (ls : Array Slot), va_P (dC, dI) vwCl (ax_w 77 ad (cD cyI cyE ad σ)) H → va_S (ax_A 77 ad s.heap.size) s.heap H locs → lv_has ls 7 [(0, .ref (ad r0)), (3, .ref (ad r3)), (4, .int x4), (5, .int x5), (6, .int x6)] → f_X0_fold_72 r0 x1 x2 r3 k8 σ x4 x5 x6 = some res → W p l e rm_X0_fold s m args below meth c H locs 0 0 Q (F0 m 72 ls []) := by
    intro k8 hk8
    intro σ x4 x5 x6  H locs ls hP hS hl hf
    unfold f_X0_fold_72 at hf
    refine lv_iload hx hb dX0_fold_72 (lv_at hl 3 rfl) ?_
    refine lv_iconst (v := 1) hx hb dX0_fold_74 (by decide) ?_
    refine lv_iload hx hb dX0_fold_75 (lv_at hl 4 rfl) ?_
    refine va_mabs hx hb (C0.2.2.1.trans hl.1.symm) hown (C0.2.2.2.2 _ (hT _ ml_X0_23)) (C0.2.2.2.2 _ (hT _ mt_J9_abs_0f7a4)) (C0.2.2.2.2 _ (hT _ mz_J9)) (C0.2.2.2.2 _ (hT _ mc_J9_abs_0f7a4)) (Nat.le_of_ble_eq_true rfl) (Nat.le_of_ble_eq_true rfl) (Nat.zero_le _) (Nat.zero_le _) dX0_fold_77 ?_
    refine va_mmax hx hb (C0.2.2.1.trans hl.1.symm) hown (C0.2.2.2.2 _ (hT _ ml_X0_28)) (C0.2.2.2.2 _ (hT _ mt_J9_max_7cf53)) (C0.2.2.2.2 _ (hT _ mz_J9)) (C0.2.2.2.2 _ (hT _ mc_J9_max_7cf53)) (Nat.le_of_ble_eq_true rfl) (Nat.le_of_ble_eq_true rfl) (Nat.zero_le _) (Nat.zero_le _) dX0_fold_80 ?_
    refine lv_iadd hx hb dX0_fold_83 ?_
    refine lv_istore (lv' := [(5, .int (x5 + (if (1 : Int32) < (if (0 : Int32) ≤ x6 then x6 else 0 - x6) then (if (0 : Int32) ≤ x6 then x6 else 0 - x6) else 1))), (0, .ref (ad r0)), (3, .ref (ad r3)), (4, .int x4), (6, .int x6)]) hx hb dX0_fold_84 hl (by decide) rfl (fun ls hl => ?_)
    refine lv_goto (tgt := 8) hx hb dX0_fold_86 (by decide) ?_
    exact hk8 _ _ _ _ _ _ hP hS (lv_sub hl [1, 2, 3, 0] rfl) hf
  have L8 : ∀ (n : Nat), ∀ (σ : SD) (x4 : Int32) (x5 : Int32), ∀ (H : Heap) (locs : List Loc) (ls : Array Slot), va_P (dC, dI) vwCl (ax_w 77 ad (cD cyI cyE ad σ)) H → va_S (ax_A 77 ad s.heap.size) s.heap H locs → lv_has ls 7 [(0, .ref (ad r0)), (3, .ref (ad r3)), (4, .int x4), (5, .int x5)] → f_X0_fold_8 r0 x1 x2 r3 n σ x4 x5 = some res → W p l e rm_X0_fold s m args below meth c H locs 0 0 Q (F0 m 8 ls []) := by
    intro n
    induction n with
    | zero =>
      intro σ x4 x5  H locs ls hP hS hl hf
      cases hf
    | succ n ih =>
      intro σ x4 x5  H locs ls hP hS hl hf
      rw [f_X0_fold_8] at hf
      refine lv_iload hx hb dX0_fold_8 (lv_at hl 3 rfl) ?_
      refine lv_iload hx hb dX0_fold_10 (lv_at hl 2 rfl) ?_
      refine lv_icmp_ge (tgt := 89) hx hb dX0_fold_12 (by decide) (fun h12 => ?_) (fun h12 => ?_)
      · rw [if_pos h12] at hf
        exact hret _ _ _ _ _ hf hP hS dX0_fold_89
      · rw [if_neg h12] at hf
        refine lv_aload_n hx hb dX0_fold_15 rfl (lv_at hl 0 rfl) ?_
        refine lv_iload hx hb dX0_fold_16 (lv_at hl 3 rfl) ?_
        refine lv_iload hx hb dX0_fold_18 (lv_at hl 2 rfl) ?_
        obtain ⟨q20, hq, hf⟩ := ob_bind hf
        refine ax_callSi (k := 3) [.ref (ad r0), .int x5, .int x4] C0 hT hJ hE (met_X0_nextGroup l dC dI cyI cyE tC ad σ r0 x5 x4 (by omega) _ hq) hP hS mc_X0_nextGroup ml_X0_19 mt_X0_nextGroup mz_X0 (by decide +kernel) ⟨rfl, rfl⟩ ⟨by decide, by decide⟩ rfl rfl hl.1 (Nat.le_of_ble_eq_true rfl) dX0_fold_20 ⟨Nat.zero_le _, Nat.zero_le _⟩ (fun H locs hP hS => ?_)
        refine lv_istore (lv' := [(6, .int q20.1), (0, .ref (ad r0)), (3, .ref (ad r3)), (4, .int x4), (5, .int x5)]) hx hb dX0_fold_23 hl (by decide) rfl (fun ls hl => ?_)
        refine lv_iload hx hb dX0_fold_25 (lv_at hl 0 rfl) ?_
        refine lv_if_le (tgt := 53) hx hb dX0_fold_27 (by decide) (fun h27 => ?_) (fun h27 => ?_)
        · rw [if_pos h27] at hf
          refine lv_aload_n hx hb dX0_fold_53 rfl (lv_at hl 2 rfl) ?_
          refine lv_iload hx hb dX0_fold_54 (lv_at hl 0 rfl) ?_
          refine lv_ineg hx hb dX0_fold_56 ?_
          refine lv_iconst (v := 1) hx hb dX0_fold_57 (by decide) ?_
          refine lv_isub hx hb dX0_fold_58 ?_
          obtain ⟨q59, hq, hf⟩ := ob_bind hf
          refine ax_callVv (b := 0) (i := r3) (k := 1) (ci := 3) [.int ((-q20.1) - 1)] C0 hT hJ hE (met_X4_push l dC dI cyI cyE tC ad q20.2 r3 ((-q20.1) - 1) (by omega) _ hq) hP hS mc_X4_push ml_X0_32 mi_X4_push ms_X4_push mz_X4 (by decide +kernel) ⟨rfl, rfl⟩ ⟨by decide, by decide⟩ (by omega) (cD_Row (by omega)) rfl rfl rfl hl.1 (Nat.le_of_ble_eq_true rfl) dX0_fold_59 ⟨Nat.zero_le _, Nat.zero_le _⟩ (fun H locs hP hS => ?_)
          refine lv_aload_n hx hb dX0_fold_62 rfl (lv_at hl 2 rfl) ?_
          refine lv_aload_n hx hb dX0_fold_63 rfl (lv_at hl 1 rfl) ?_
          refine lv_iload hx hb dX0_fold_64 (lv_at hl 4 rfl) ?_
          refine lv_iload hx hb dX0_fold_66 (lv_at hl 0 rfl) ?_
          refine lv_ineg hx hb dX0_fold_68 ?_
          obtain ⟨q69, hq, hf⟩ := ob_bind hf
          refine ax_callVv (b := 0) (i := r3) (k := 3) (ci := 3) [.ref (ad r0), .int x5, .int (-q20.1)] C0 hT hJ hE (met_X4_append l dC dI cyI cyE tC ad q59 r3 r0 x5 (-q20.1) (by omega) (by omega) _ hq) hP hS mc_X4_append ml_X0_36 mi_X4_append ms_X4_append mz_X4 (by decide +kernel) ⟨rfl, rfl⟩ ⟨by decide, by decide⟩ (by omega) (cD_Row (by omega)) rfl rfl rfl hl.1 (Nat.le_of_ble_eq_true rfl) dX0_fold_69 ⟨Nat.zero_le _, Nat.zero_le _⟩ (fun H locs hP hS => ?_)
          exact L72 _ ih _ _ _ _ _ _ _ hP hS (lv_sub hl [1, 2, 3, 4, 0] rfl) hf
        · rw [if_neg h27] at hf
          refine lv_aload_n hx hb dX0_fold_30 rfl (lv_at hl 2 rfl) ?_
          refine lv_sipush (v := 257) hx hb dX0_fold_31 (by decide) ?_
          refine lv_iload hx hb dX0_fold_34 (lv_at hl 0 rfl) ?_
          refine lv_isub hx hb dX0_fold_36 ?_
          obtain ⟨q37, hq, hf⟩ := ob_bind hf
          refine ax_callVv (b := 0) (i := r3) (k := 1) (ci := 3) [.int (257 - q20.1)] C0 hT hJ hE (met_X4_push l dC dI cyI cyE tC ad q20.2 r3 (257 - q20.1) (by omega) _ hq) hP hS mc_X4_push ml_X0_32 mi_X4_push ms_X4_push mz_X4 (by decide +kernel) ⟨rfl, rfl⟩ ⟨by decide, by decide⟩ (by omega) (cD_Row (by omega)) rfl rfl rfl hl.1 (Nat.le_of_ble_eq_true rfl) dX0_fold_37 ⟨Nat.zero_le _, Nat.zero_le _⟩ (fun H locs hP hS => ?_)
          refine lv_aload_n hx hb dX0_fold_40 rfl (lv_at hl 2 rfl) ?_
          refine lv_aload_n hx hb dX0_fold_41 rfl (lv_at hl 1 rfl) ?_
          refine lv_iload hx hb dX0_fold_42 (lv_at hl 4 rfl) ?_
          obtain ⟨q44, hq, hf⟩ := ob_bind hf
          refine ax_callVi (C := "") (b := 0) (i := r0) (k := 1) (ci := 3) [.int x5] C0 hT hJ hE (met_X4_at l dC dI cyI cyE tC ad q37 r0 x5 (by omega) _ hq) hP hS mc_X4_at ml_X0_7 mi_X4_at ms_X4_at mz_X4 (by decide +kernel) ⟨rfl, rfl⟩ ⟨by decide, by decide⟩ (by omega) (cD_Row (by omega)) rfl rfl rfl hl.1 (Nat.le_of_ble_eq_true rfl) dX0_fold_44 ⟨Nat.zero_le _, Nat.zero_le _⟩ (fun H locs hP hS => ?_)
          obtain ⟨q47, hq, hf⟩ := ob_bind hf
          refine ax_callVv (b := 0) (i := r3) (k := 1) (ci := 3) [.int q44.1] C0 hT hJ hE (met_X4_push l dC dI cyI cyE tC ad q44.2 r3 q44.1 (by omega) _ hq) hP hS mc_X4_push ml_X0_32 mi_X4_push ms_X4_push mz_X4 (by decide +kernel) ⟨rfl, rfl⟩ ⟨by decide, by decide⟩ (by omega) (cD_Row (by omega)) rfl rfl rfl hl.1 (Nat.le_of_ble_eq_true rfl) dX0_fold_47 ⟨Nat.zero_le _, Nat.zero_le _⟩ (fun H locs hP hS => ?_)
          refine lv_goto (tgt := 72) hx hb dX0_fold_50 (by decide) ?_
          exact L72 _ ih _ _ _ _ _ _ _ hP hS (lv_sub hl [1, 2, 3, 4, 0] rfl) hf
  unfold f_X0_fold at hf
  refine lv_iload_n hx hb dX0_fold_0 rfl (lv_at hl 1 rfl) ?_
  refine lv_iload_n hx hb dX0_fold_1 rfl (lv_at hl 2 rfl) ?_
  refine lv_iadd hx hb dX0_fold_2 ?_
  refine lv_istore (lv' := [(4, .int (x1 + x2)), (0, .ref (ad r0)), (1, .int x1), (2, .int x2), (3, .ref (ad r3))]) hx hb dX0_fold_3 hl (by decide) rfl (fun ls hl => ?_)
  refine lv_iload_n hx hb dX0_fold_5 rfl (lv_at hl 2 rfl) ?_
  refine lv_istore (lv' := [(5, .int x1), (4, .int (x1 + x2)), (0, .ref (ad r0)), (1, .int x1), (2, .int x2), (3, .ref (ad r3))]) hx hb dX0_fold_6 hl (by decide) rfl (fun ls hl => ?_)
  exact L8 fu _ _ _ _ _ _ hP hS (lv_sub hl [2, 5, 1, 0] rfl) hf
def f_X0_repeat_2 (x0 : Int32) (x1 : Int32) (r2 : Nat) : Nat → SD → Int32 → Option (SD)
  | 0, _, _ => none
  | n + 1, σ, x3 => if x1 ≤ x3 then (some σ) else ((f_X4_push σ r2 x0).bind fun q9 => f_X0_repeat_2 x0 x1 r2 n q9 (x3 + 1))
def f_X0_repeat (σ : SD) (x0 : Int32) (x1 : Int32) (r2 : Nat) : Option (SD) := f_X0_repeat_2 x0 x1 r2 fu σ 0
def rm_X0_repeat : Room := { frames := 1, cells := 0, slots := 0, locals := 21 }
set_option maxHeartbeats 4000000 in
set_option maxRecDepth 100000 in
theorem met_X0_repeat (l : Launch) (dC : Nat → ClassId) (dI : Nat → Nat → Nat) (cyI cyE : ClassId) (tC : Nat) (ad : Nat → Nat) (σ : SD) (x0 : Int32) (x1 : Int32) (r2 : Nat) (hb_r2 : r2 < 25) (res : SD) (hf : f_X0_repeat σ x0 x1 r2 = some res) : ax_Mv l dC dI cyI cyE tC 77 (cD cyI cyE ad) ad yX0_repeat cX0_repeat 4 none rm_X0_repeat [.int x0, .int x1, .ref (ad r2)] σ res := by
  intro sz
  refine Met.ofW (cc := cX0_repeat) (maxL := 4) (ret := none) (by decide) rfl ?_
  intro p e s m args below meth c s₁ B hml hv
  obtain ⟨hargs, hsz, hP, hJ, hE⟩ := hv
  subst hsz
  have hx := B.exec
  have hb := B.bytes
  have hr := B.returns
  have hlocks := B.notSynchronized
  have hts := atoms_spec (ws := wsY yX0_repeat cX0_repeat 4 none) B.pre
  have hown : s.vm.findClass RX0 = some m.cls := findClass_of_methodNamed B.named
  have C0 : CallFix p m c cX0_repeat 4 s args (wsY yX0_repeat cX0_repeat 4 none) RX0 := ⟨hx, hb, hml, hown, hts⟩
  have hT : ∀ w ∈ bw, w ∈ wsY yX0_repeat cX0_repeat 4 none := fun w h => List.mem_cons_of_mem _ h
  have hS : va_S (ax_A 77 ad s.heap.size) s.heap s.heap [] := va_S.rf
  rw [show entryFrame m args 4 = entryFrame m ([.int x0, .int x1, .ref (ad r2)] : List Value).toArray 4 by rw [hargs]]
  have hl := lv_entry ([.int x0, .int x1, .ref (ad r2)]) (n := 4) (Nat.le_of_ble_eq_true rfl)
  rw [lg_entry_eq]
  generalize (lg_sl ([.int x0, .int x1, .ref (ad r2)]) ++ List.replicate (4 - (lg_sl ([.int x0, .int x1, .ref (ad r2)])).length) Slot.unset).toArray = ls at hl ⊢
  have hl : lv_has ls 4 [(0, .int x0), (1, .int x1), (2, .ref (ad r2))] := hl
  obtain ⟨Q, hQ⟩ : ∃ Q : State → Prop, Q = MQ below (va_Qv (fun (u : SD) => u = res) (ax_B dC dI 77 (cD cyI cyE ad) ad) (ax_A 77 ad s.heap.size)) args s 0 0 (ax_A 77 ad s.heap.size) := ⟨_, rfl⟩
  show W p l e rm_X0_repeat s m args below meth c s.heap [] 0 0 _ _
  rw [← hQ]
  have hret : ∀ (σ : SD) (H : Heap) (locs : List Loc) (ls : Array Slot) (pc : Nat), some σ = some res → va_P (dC, dI) vwCl (ax_w 77 ad (cD cyI cyE ad σ)) H → va_S (ax_A 77 ad s.heap.size) s.heap H locs → decode cX0_repeat pc = .ok (.return_, 1) → W p l e rm_X0_repeat s m args below meth c H locs 0 0 Q (F0 m pc ls []) := by
    intro σ H locs ls pc hf hP hS hd
    cases hf
    rw [hQ]
    exact ax_vret hx hb hr hlocks hP hS hd rfl
  have L2 : ∀ (n : Nat), ∀ (σ : SD) (x3 : Int32), ∀ (H : Heap) (locs : List Loc) (ls : Array Slot), va_P (dC, dI) vwCl (ax_w 77 ad (cD cyI cyE ad σ)) H → va_S (ax_A 77 ad s.heap.size) s.heap H locs → lv_has ls 4 [(0, .int x0), (1, .int x1), (2, .ref (ad r2)), (3, .int x3)] → f_X0_repeat_2 x0 x1 r2 n σ x3 = some res → W p l e rm_X0_repeat s m args below meth c H locs 0 0 Q (F0 m 2 ls []) := by
    intro n
    induction n with
    | zero =>
      intro σ x3  H locs ls hP hS hl hf
      cases hf
    | succ n ih =>
      intro σ x3  H locs ls hP hS hl hf
      rw [f_X0_repeat_2] at hf
      refine lv_iload_n hx hb dX0_repeat_2 rfl (lv_at hl 3 rfl) ?_
      refine lv_iload_n hx hb dX0_repeat_3 rfl (lv_at hl 1 rfl) ?_
      refine lv_icmp_ge (tgt := 18) hx hb dX0_repeat_4 (by decide) (fun h4 => ?_) (fun h4 => ?_)
      · rw [if_pos h4] at hf
        exact hret _ _ _ _ _ hf hP hS dX0_repeat_18
      · rw [if_neg h4] at hf
        refine lv_aload_n hx hb dX0_repeat_7 rfl (lv_at hl 2 rfl) ?_
        refine lv_iload_n hx hb dX0_repeat_8 rfl (lv_at hl 0 rfl) ?_
        obtain ⟨q9, hq, hf⟩ := ob_bind hf
        refine ax_callVv (b := 0) (i := r2) (k := 1) (ci := 3) [.int x0] C0 hT hJ hE (met_X4_push l dC dI cyI cyE tC ad σ r2 x0 (by omega) _ hq) hP hS mc_X4_push ml_X0_32 mi_X4_push ms_X4_push mz_X4 (by decide +kernel) ⟨rfl, rfl⟩ ⟨by decide, by decide⟩ (by omega) (cD_Row (by omega)) rfl rfl rfl hl.1 (Nat.le_of_ble_eq_true rfl) dX0_repeat_9 ⟨Nat.zero_le _, Nat.zero_le _⟩ (fun H locs hP hS => ?_)
        refine lv_iinc (v := x3 + 1) (lv' := [(3, .int (x3 + 1)), (0, .int x0), (1, .int x1), (2, .ref (ad r2))]) hx hb dX0_repeat_12 hl (k := 3) rfl rfl (by decide) rfl (fun ls hl => ?_)
        refine lv_goto (tgt := 2) hx hb dX0_repeat_15 (by decide) ?_
        exact ih _ _ _ _ _ hP hS (lv_sub hl [1, 2, 3, 0] rfl) hf
  unfold f_X0_repeat at hf
  refine lv_iconst (v := 0) hx hb dX0_repeat_0 (by decide) ?_
  refine lv_istore_n (lv' := [(3, .int 0), (0, .int x0), (1, .int x1), (2, .ref (ad r2))]) hx hb dX0_repeat_1 rfl hl (by decide) rfl (fun ls hl => ?_)
  exact L2 fu _ _ _ _ _ hP hS (lv_sub hl [1, 2, 3, 0] rfl) hf
def f_X0_unfold_158 (r0 : Nat) (x1 : Int32) (x2 : Int32) (r3 : Nat) (k19 : SD → Int32 → Int32 → Option (Int32 × SD)) (σ : SD) (x4 : Int32) (x5 : Int32) (x7 : Int32) : Option (Int32 × SD) := k19 σ x4 ((x5 + x7) + 1)
def f_X0_unfold_97 (r0 : Nat) (x1 : Int32) (x2 : Int32) (r3 : Nat) (k19 : SD → Int32 → Int32 → Option (Int32 × SD)) (σ : SD) (x4 : Int32) (x5 : Int32) (x6 : Int32) (x7 : Int32) (s0 : Int32) : Option (Int32 × SD) := if ((x4 - x5) - 1) < x7 then (some (0, σ)) else ((f_X4_room σ r3).bind fun q114 => if s0 ≤ q114.1 then (if (128 : Int32) ≤ x6 then ((f_X4_at q114.2 r0 (x5 + 1)).bind fun q149 => (f_X0_repeat q149.2 q149.1 s0 r3).bind fun q155 => f_X0_unfold_158 r0 x1 x2 r3 k19 q155 x4 x5 x7) else ((f_X4_append q114.2 r3 r0 (x5 + 1) x7).bind fun q138 => f_X0_unfold_158 r0 x1 x2 r3 k19 q138 x4 x5 x7)) else (some (0, q114.2)))
def f_X0_unfold_62 (r0 : Nat) (x1 : Int32) (x2 : Int32) (r3 : Nat) (k19 : SD → Int32 → Int32 → Option (Int32 × SD)) (σ : SD) (x4 : Int32) (x5 : Int32) (x6 : Int32) (s0 : Int32) : Option (Int32 × SD) := if (128 : Int32) ≤ x6 then (if x6 = 128 then (f_X0_unfold_97 r0 x1 x2 r3 k19 σ x4 x5 x6 s0 0) else (f_X0_unfold_97 r0 x1 x2 r3 k19 σ x4 x5 x6 s0 (257 - x6))) else (f_X0_unfold_97 r0 x1 x2 r3 k19 σ x4 x5 x6 s0 (x6 + 1))
def f_X0_unfold_19 (r0 : Nat) (x1 : Int32) (x2 : Int32) (r3 : Nat) : Nat → SD → Int32 → Int32 → Option (Int32 × SD)
  | 0, _, _, _ => none
  | n + 1, σ, x4, x5 => if x4 ≤ x5 then (some (1, σ)) else ((f_X4_at σ r0 x5).bind fun q29 => if (128 : Int32) ≤ q29.1 then (if q29.1 = 128 then (f_X0_unfold_62 r0 x1 x2 r3 (f_X0_unfold_19 r0 x1 x2 r3 n) q29.2 x4 x5 q29.1 0) else (f_X0_unfold_62 r0 x1 x2 r3 (f_X0_unfold_19 r0 x1 x2 r3 n) q29.2 x4 x5 q29.1 1)) else (f_X0_unfold_62 r0 x1 x2 r3 (f_X0_unfold_19 r0 x1 x2 r3 n) q29.2 x4 x5 q29.1 (q29.1 + 1)))
def f_X0_unfold (σ : SD) (r0 : Nat) (x1 : Int32) (x2 : Int32) (r3 : Nat) : Option (Int32 × SD) := (f_X4_holds σ r0 x1 x2).bind fun q3 => if q3.1 = 0 then (some (0, q3.2)) else (f_X0_unfold_19 r0 x1 x2 r3 fu q3.2 (x1 + x2) x1)
def rm_X0_unfold : Room := { frames := 2, cells := 0, slots := 0, locals := 53 }
set_option maxHeartbeats 4000000 in
set_option maxRecDepth 100000 in
theorem met_X0_unfold (l : Launch) (dC : Nat → ClassId) (dI : Nat → Nat → Nat) (cyI cyE : ClassId) (tC : Nat) (ad : Nat → Nat) (σ : SD) (r0 : Nat) (x1 : Int32) (x2 : Int32) (r3 : Nat) (hb_r0 : r0 < 25) (hb_r3 : r3 < 25) (res : Int32 × SD) (hf : f_X0_unfold σ r0 x1 x2 r3 = some res) : ax_Mi l dC dI cyI cyE tC 77 (cD cyI cyE ad) ad yX0_unfold cX0_unfold 9 (some .boolean) rm_X0_unfold [.ref (ad r0), .int x1, .int x2, .ref (ad r3)] σ res.1 res.2 := by
  intro sz
  refine Met.ofW (cc := cX0_unfold) (maxL := 9) (ret := (some .boolean)) (by decide) rfl ?_
  intro p e s m args below meth c s₁ B hml hv
  obtain ⟨hargs, hsz, hP, hJ, hE⟩ := hv
  subst hsz
  have hx := B.exec
  have hb := B.bytes
  have hr := B.returns
  have hlocks := B.notSynchronized
  have hts := atoms_spec (ws := wsY yX0_unfold cX0_unfold 9 (some .boolean)) B.pre
  have hown : s.vm.findClass RX0 = some m.cls := findClass_of_methodNamed B.named
  have C0 : CallFix p m c cX0_unfold 9 s args (wsY yX0_unfold cX0_unfold 9 (some .boolean)) RX0 := ⟨hx, hb, hml, hown, hts⟩
  have hT : ∀ w ∈ bw, w ∈ wsY yX0_unfold cX0_unfold 9 (some .boolean) := fun w h => List.mem_cons_of_mem _ h
  have hS : va_S (ax_A 77 ad s.heap.size) s.heap s.heap [] := va_S.rf
  rw [show entryFrame m args 9 = entryFrame m ([.ref (ad r0), .int x1, .int x2, .ref (ad r3)] : List Value).toArray 9 by rw [hargs]]
  have hl := lv_entry ([.ref (ad r0), .int x1, .int x2, .ref (ad r3)]) (n := 9) (Nat.le_of_ble_eq_true rfl)
  rw [lg_entry_eq]
  generalize (lg_sl ([.ref (ad r0), .int x1, .int x2, .ref (ad r3)]) ++ List.replicate (9 - (lg_sl ([.ref (ad r0), .int x1, .int x2, .ref (ad r3)])).length) Slot.unset).toArray = ls at hl ⊢
  have hl : lv_has ls 9 [(0, .ref (ad r0)), (1, .int x1), (2, .int x2), (3, .ref (ad r3))] := hl
  obtain ⟨Q, hQ⟩ : ∃ Q : State → Prop, Q = MQ below (va_Qi (fun (a : Int32) (u : SD) => a = res.1 ∧ u = res.2) (ax_B dC dI 77 (cD cyI cyE ad) ad) (ax_A 77 ad s.heap.size)) args s 0 0 (ax_A 77 ad s.heap.size) := ⟨_, rfl⟩
  show W p l e rm_X0_unfold s m args below meth c s.heap [] 0 0 _ _
  rw [← hQ]
  have hret : ∀ (v : Int32) (σ : SD) (H : Heap) (locs : List Loc) (ls : Array Slot) (pc : Nat), narrow .boolean (.int v) = .int v → some (v, σ) = some res → va_P (dC, dI) vwCl (ax_w 77 ad (cD cyI cyE ad σ)) H → va_S (ax_A 77 ad s.heap.size) s.heap H locs → decode cX0_unfold pc = .ok (.ireturn, 1) → W p l e rm_X0_unfold s m args below meth c H locs 0 0 Q (F0 m pc ls [.int v]) := by
    intro v σ H locs ls pc hn hf hP hS hd
    cases hf
    rw [hQ]
    exact ax_iret hx hb hr hlocks hn hP hS hd rfl rfl
  have L158 : ∀ (k19 : SD → Int32 → Int32 → Option (Int32 × SD)), (∀ (σ : SD) (x4 : Int32) (x5 : Int32), ∀ (H : Heap) (locs : List Loc) (ls : Array Slot), va_P (dC, dI) vwCl (ax_w 77 ad (cD cyI cyE ad σ)) H → va_S (ax_A 77 ad s.heap.size) s.heap H locs → lv_has ls 9 [(0, .ref (ad r0)), (3, .ref (ad r3)), (4, .int x4), (5, .int x5)] → k19 σ x4 x5 = some res → W p l e rm_X0_unfold s m args below meth c H locs 0 0 Q (F0 m 19 ls [])) → ∀ (σ : SD) (x4 : Int32) (x5 : Int32) (x7 : Int32), ∀ (H : Heap) (locs : List Loc) (ls : Array Slot), va_P (dC, dI) vwCl (ax_w 77 ad (cD cyI cyE ad σ)) H → va_S (ax_A 77 ad s.heap.size) s.heap H locs → lv_has ls 9 [(0, .ref (ad r0)), (3, .ref (ad r3)), (4, .int x4), (5, .int x5), (7, .int x7)] → f_X0_unfold_158 r0 x1 x2 r3 k19 σ x4 x5 x7 = some res → W p l e rm_X0_unfold s m args below meth c H locs 0 0 Q (F0 m 158 ls []) := by
    intro k19 hk19
    intro σ x4 x5 x7  H locs ls hP hS hl hf
    unfold f_X0_unfold_158 at hf
    refine lv_iload hx hb dX0_unfold_158 (lv_at hl 3 rfl) ?_
    refine lv_iload hx hb dX0_unfold_160 (lv_at hl 4 rfl) ?_
    refine lv_iadd hx hb dX0_unfold_162 ?_
    refine lv_istore (lv' := [(5, .int (x5 + x7)), (0, .ref (ad r0)), (3, .ref (ad r3)), (4, .int x4), (7, .int x7)]) hx hb dX0_unfold_163 hl (by decide) rfl (fun ls hl => ?_)
    refine lv_iinc (v := (x5 + x7) + 1) (lv' := [(5, .int ((x5 + x7) + 1)), (0, .ref (ad r0)), (3, .ref (ad r3)), (4, .int x4), (7, .int x7)]) hx hb dX0_unfold_165 hl (k := 0) rfl rfl (by decide) rfl (fun ls hl => ?_)
    refine lv_goto (tgt := 19) hx hb dX0_unfold_168 (by decide) ?_
    exact hk19 _ _ _ _ _ _ hP hS (lv_sub hl [1, 2, 3, 0] rfl) hf
  have L97 : ∀ (k19 : SD → Int32 → Int32 → Option (Int32 × SD)), (∀ (σ : SD) (x4 : Int32) (x5 : Int32), ∀ (H : Heap) (locs : List Loc) (ls : Array Slot), va_P (dC, dI) vwCl (ax_w 77 ad (cD cyI cyE ad σ)) H → va_S (ax_A 77 ad s.heap.size) s.heap H locs → lv_has ls 9 [(0, .ref (ad r0)), (3, .ref (ad r3)), (4, .int x4), (5, .int x5)] → k19 σ x4 x5 = some res → W p l e rm_X0_unfold s m args below meth c H locs 0 0 Q (F0 m 19 ls [])) → ∀ (σ : SD) (x4 : Int32) (x5 : Int32) (x6 : Int32) (x7 : Int32) (s0 : Int32), ∀ (H : Heap) (locs : List Loc) (ls : Array Slot), va_P (dC, dI) vwCl (ax_w 77 ad (cD cyI cyE ad σ)) H → va_S (ax_A 77 ad s.heap.size) s.heap H locs → lv_has ls 9 [(0, .ref (ad r0)), (3, .ref (ad r3)), (4, .int x4), (5, .int x5), (6, .int x6), (7, .int x7)] → f_X0_unfold_97 r0 x1 x2 r3 k19 σ x4 x5 x6 x7 s0 = some res → W p l e rm_X0_unfold s m args below meth c H locs 0 0 Q (F0 m 97 ls [.int s0]) := by
    intro k19 hk19
    intro σ x4 x5 x6 x7 s0  H locs ls hP hS hl hf
    unfold f_X0_unfold_97 at hf
    refine lv_istore (lv' := [(8, .int s0), (0, .ref (ad r0)), (3, .ref (ad r3)), (4, .int x4), (5, .int x5), (6, .int x6), (7, .int x7)]) hx hb dX0_unfold_97 hl (by decide) rfl (fun ls hl => ?_)
    refine lv_iload hx hb dX0_unfold_99 (lv_at hl 6 rfl) ?_
    refine lv_iload hx hb dX0_unfold_101 (lv_at hl 3 rfl) ?_
    refine lv_iload hx hb dX0_unfold_103 (lv_at hl 4 rfl) ?_
    refine lv_isub hx hb dX0_unfold_105 ?_
    refine lv_iconst (v := 1) hx hb dX0_unfold_106 (by decide) ?_
    refine lv_isub hx hb dX0_unfold_107 ?_
    refine lv_icmp_gt (tgt := 120) hx hb dX0_unfold_108 (by decide) (fun h108 => ?_) (fun h108 => ?_)
    · rw [if_pos h108] at hf
      refine lv_iconst (v := 0) hx hb dX0_unfold_120 (by decide) ?_
      exact hret _ _ _ _ _ _ rfl hf hP hS dX0_unfold_121
    · rw [if_neg h108] at hf
      refine lv_iload hx hb dX0_unfold_111 (lv_at hl 0 rfl) ?_
      refine lv_aload_n hx hb dX0_unfold_113 rfl (lv_at hl 2 rfl) ?_
      obtain ⟨q114, hq, hf⟩ := ob_bind hf
      refine ax_callVi (C := "") (b := 0) (i := r3) (k := 0) (ci := 3) [] C0 hT hJ hE (met_X4_room l dC dI cyI cyE tC ad σ r3 (by omega) _ hq) hP hS mc_X4_room ml_X0_47 mi_X4_room ms_X4_room mz_X4 (by decide +kernel) ⟨rfl, rfl⟩ ⟨by decide, by decide⟩ (by omega) (cD_Row (by omega)) rfl rfl rfl hl.1 (Nat.le_of_ble_eq_true rfl) dX0_unfold_114 ⟨Nat.zero_le _, Nat.zero_le _⟩ (fun H locs hP hS => ?_)
      refine lv_icmp_le (tgt := 122) hx hb dX0_unfold_117 (by decide) (fun h117 => ?_) (fun h117 => ?_)
      · rw [if_pos h117] at hf
        refine lv_iload hx hb dX0_unfold_122 (lv_at hl 5 rfl) ?_
        refine lv_sipush (v := 128) hx hb dX0_unfold_124 (by decide) ?_
        refine lv_icmp_ge (tgt := 144) hx hb dX0_unfold_127 (by decide) (fun h127 => ?_) (fun h127 => ?_)
        · rw [if_pos h127] at hf
          refine lv_aload_n hx hb dX0_unfold_144 rfl (lv_at hl 1 rfl) ?_
          refine lv_iload hx hb dX0_unfold_145 (lv_at hl 4 rfl) ?_
          refine lv_iconst (v := 1) hx hb dX0_unfold_147 (by decide) ?_
          refine lv_iadd hx hb dX0_unfold_148 ?_
          obtain ⟨q149, hq, hf⟩ := ob_bind hf
          refine ax_callVi (C := "") (b := 0) (i := r0) (k := 1) (ci := 3) [.int (x5 + 1)] C0 hT hJ hE (met_X4_at l dC dI cyI cyE tC ad q114.2 r0 (x5 + 1) (by omega) _ hq) hP hS mc_X4_at ml_X0_7 mi_X4_at ms_X4_at mz_X4 (by decide +kernel) ⟨rfl, rfl⟩ ⟨by decide, by decide⟩ (by omega) (cD_Row (by omega)) rfl rfl rfl hl.1 (Nat.le_of_ble_eq_true rfl) dX0_unfold_149 ⟨Nat.zero_le _, Nat.zero_le _⟩ (fun H locs hP hS => ?_)
          refine lv_iload hx hb dX0_unfold_152 (lv_at hl 0 rfl) ?_
          refine lv_aload_n hx hb dX0_unfold_154 rfl (lv_at hl 2 rfl) ?_
          obtain ⟨q155, hq, hf⟩ := ob_bind hf
          refine ax_callSv (k := 3) [.int q149.1, .int s0, .ref (ad r3)] C0 hT hJ hE (met_X0_repeat l dC dI cyI cyE tC ad q149.2 q149.1 s0 r3 (by omega) _ hq) hP hS mc_X0_repeat ml_X0_51 mt_X0_repeat mz_X0 (by decide +kernel) ⟨rfl, rfl⟩ ⟨by decide, by decide⟩ rfl rfl hl.1 (Nat.le_of_ble_eq_true rfl) dX0_unfold_155 ⟨Nat.zero_le _, Nat.zero_le _⟩ (fun H locs hP hS => ?_)
          exact L158 _ hk19 _ _ _ _ _ _ _ hP hS (lv_sub hl [1, 2, 3, 4, 6] rfl) hf
        · rw [if_neg h127] at hf
          refine lv_aload_n hx hb dX0_unfold_130 rfl (lv_at hl 2 rfl) ?_
          refine lv_aload_n hx hb dX0_unfold_131 rfl (lv_at hl 1 rfl) ?_
          refine lv_iload hx hb dX0_unfold_132 (lv_at hl 4 rfl) ?_
          refine lv_iconst (v := 1) hx hb dX0_unfold_134 (by decide) ?_
          refine lv_iadd hx hb dX0_unfold_135 ?_
          refine lv_iload hx hb dX0_unfold_136 (lv_at hl 6 rfl) ?_
          obtain ⟨q138, hq, hf⟩ := ob_bind hf
          refine ax_callVv (b := 0) (i := r3) (k := 3) (ci := 3) [.ref (ad r0), .int (x5 + 1), .int x7] C0 hT hJ hE (met_X4_append l dC dI cyI cyE tC ad q114.2 r3 r0 (x5 + 1) x7 (by omega) (by omega) _ hq) hP hS mc_X4_append ml_X0_36 mi_X4_append ms_X4_append mz_X4 (by decide +kernel) ⟨rfl, rfl⟩ ⟨by decide, by decide⟩ (by omega) (cD_Row (by omega)) rfl rfl rfl hl.1 (Nat.le_of_ble_eq_true rfl) dX0_unfold_138 ⟨Nat.zero_le _, Nat.zero_le _⟩ (fun H locs hP hS => ?_)
          refine lv_goto (tgt := 158) hx hb dX0_unfold_141 (by decide) ?_
          exact L158 _ hk19 _ _ _ _ _ _ _ hP hS (lv_sub hl [1, 2, 3, 4, 6] rfl) hf
      · rw [if_neg h117] at hf
        refine lv_iconst (v := 0) hx hb dX0_unfold_120 (by decide) ?_
        exact hret _ _ _ _ _ _ rfl hf hP hS dX0_unfold_121
  have L62 : ∀ (k19 : SD → Int32 → Int32 → Option (Int32 × SD)), (∀ (σ : SD) (x4 : Int32) (x5 : Int32), ∀ (H : Heap) (locs : List Loc) (ls : Array Slot), va_P (dC, dI) vwCl (ax_w 77 ad (cD cyI cyE ad σ)) H → va_S (ax_A 77 ad s.heap.size) s.heap H locs → lv_has ls 9 [(0, .ref (ad r0)), (3, .ref (ad r3)), (4, .int x4), (5, .int x5)] → k19 σ x4 x5 = some res → W p l e rm_X0_unfold s m args below meth c H locs 0 0 Q (F0 m 19 ls [])) → ∀ (σ : SD) (x4 : Int32) (x5 : Int32) (x6 : Int32) (s0 : Int32), ∀ (H : Heap) (locs : List Loc) (ls : Array Slot), va_P (dC, dI) vwCl (ax_w 77 ad (cD cyI cyE ad σ)) H → va_S (ax_A 77 ad s.heap.size) s.heap H locs → lv_has ls 9 [(0, .ref (ad r0)), (3, .ref (ad r3)), (4, .int x4), (5, .int x5), (6, .int x6)] → f_X0_unfold_62 r0 x1 x2 r3 k19 σ x4 x5 x6 s0 = some res → W p l e rm_X0_unfold s m args below meth c H locs 0 0 Q (F0 m 62 ls [.int s0]) := by
    intro k19 hk19
    intro σ x4 x5 x6 s0  H locs ls hP hS hl hf
    unfold f_X0_unfold_62 at hf
    refine lv_istore (lv' := [(7, .int s0), (0, .ref (ad r0)), (3, .ref (ad r3)), (4, .int x4), (5, .int x5), (6, .int x6)]) hx hb dX0_unfold_62 hl (by decide) rfl (fun ls hl => ?_)
    refine lv_iload hx hb dX0_unfold_64 (lv_at hl 5 rfl) ?_
    refine lv_sipush (v := 128) hx hb dX0_unfold_66 (by decide) ?_
    refine lv_icmp_ge (tgt := 79) hx hb dX0_unfold_69 (by decide) (fun h69 => ?_) (fun h69 => ?_)
    · rw [if_pos h69] at hf
      refine lv_iload hx hb dX0_unfold_79 (lv_at hl 5 rfl) ?_
      refine lv_sipush (v := 128) hx hb dX0_unfold_81 (by decide) ?_
      refine lv_icmp_ne (tgt := 91) hx hb dX0_unfold_84 (by decide) (fun h84 => ?_) (fun h84 => ?_)
      · rw [if_neg h84] at hf
        refine lv_sipush (v := 257) hx hb dX0_unfold_91 (by decide) ?_
        refine lv_iload hx hb dX0_unfold_94 (lv_at hl 5 rfl) ?_
        refine lv_isub hx hb dX0_unfold_96 ?_
        exact L97 _ hk19 _ _ _ _ _ _ _ _ _ hP hS (lv_sub hl [1, 2, 3, 4, 5, 0] rfl) hf
      · rw [if_pos h84] at hf
        refine lv_iconst (v := 0) hx hb dX0_unfold_87 (by decide) ?_
        refine lv_goto (tgt := 97) hx hb dX0_unfold_88 (by decide) ?_
        exact L97 _ hk19 _ _ _ _ _ _ _ _ _ hP hS (lv_sub hl [1, 2, 3, 4, 5, 0] rfl) hf
    · rw [if_neg h69] at hf
      refine lv_iload hx hb dX0_unfold_72 (lv_at hl 5 rfl) ?_
      refine lv_iconst (v := 1) hx hb dX0_unfold_74 (by decide) ?_
      refine lv_iadd hx hb dX0_unfold_75 ?_
      refine lv_goto (tgt := 97) hx hb dX0_unfold_76 (by decide) ?_
      exact L97 _ hk19 _ _ _ _ _ _ _ _ _ hP hS (lv_sub hl [1, 2, 3, 4, 5, 0] rfl) hf
  have L19 : ∀ (n : Nat), ∀ (σ : SD) (x4 : Int32) (x5 : Int32), ∀ (H : Heap) (locs : List Loc) (ls : Array Slot), va_P (dC, dI) vwCl (ax_w 77 ad (cD cyI cyE ad σ)) H → va_S (ax_A 77 ad s.heap.size) s.heap H locs → lv_has ls 9 [(0, .ref (ad r0)), (3, .ref (ad r3)), (4, .int x4), (5, .int x5)] → f_X0_unfold_19 r0 x1 x2 r3 n σ x4 x5 = some res → W p l e rm_X0_unfold s m args below meth c H locs 0 0 Q (F0 m 19 ls []) := by
    intro n
    induction n with
    | zero =>
      intro σ x4 x5  H locs ls hP hS hl hf
      cases hf
    | succ n ih =>
      intro σ x4 x5  H locs ls hP hS hl hf
      rw [f_X0_unfold_19] at hf
      refine lv_iload hx hb dX0_unfold_19 (lv_at hl 3 rfl) ?_
      refine lv_iload hx hb dX0_unfold_21 (lv_at hl 2 rfl) ?_
      refine lv_icmp_ge (tgt := 171) hx hb dX0_unfold_23 (by decide) (fun h23 => ?_) (fun h23 => ?_)
      · rw [if_pos h23] at hf
        refine lv_iconst (v := 1) hx hb dX0_unfold_171 (by decide) ?_
        exact hret _ _ _ _ _ _ rfl hf hP hS dX0_unfold_172
      · rw [if_neg h23] at hf
        refine lv_aload_n hx hb dX0_unfold_26 rfl (lv_at hl 0 rfl) ?_
        refine lv_iload hx hb dX0_unfold_27 (lv_at hl 3 rfl) ?_
        obtain ⟨q29, hq, hf⟩ := ob_bind hf
        refine ax_callVi (C := "") (b := 0) (i := r0) (k := 1) (ci := 3) [.int x5] C0 hT hJ hE (met_X4_at l dC dI cyI cyE tC ad σ r0 x5 (by omega) _ hq) hP hS mc_X4_at ml_X0_7 mi_X4_at ms_X4_at mz_X4 (by decide +kernel) ⟨rfl, rfl⟩ ⟨by decide, by decide⟩ (by omega) (cD_Row (by omega)) rfl rfl rfl hl.1 (Nat.le_of_ble_eq_true rfl) dX0_unfold_29 ⟨Nat.zero_le _, Nat.zero_le _⟩ (fun H locs hP hS => ?_)
        refine lv_istore (lv' := [(6, .int q29.1), (0, .ref (ad r0)), (3, .ref (ad r3)), (4, .int x4), (5, .int x5)]) hx hb dX0_unfold_32 hl (by decide) rfl (fun ls hl => ?_)
        refine lv_iload hx hb dX0_unfold_34 (lv_at hl 0 rfl) ?_
        refine lv_sipush (v := 128) hx hb dX0_unfold_36 (by decide) ?_
        refine lv_icmp_ge (tgt := 49) hx hb dX0_unfold_39 (by decide) (fun h39 => ?_) (fun h39 => ?_)
        · rw [if_pos h39] at hf
          refine lv_iload hx hb dX0_unfold_49 (lv_at hl 0 rfl) ?_
          refine lv_sipush (v := 128) hx hb dX0_unfold_51 (by decide) ?_
          refine lv_icmp_ne (tgt := 61) hx hb dX0_unfold_54 (by decide) (fun h54 => ?_) (fun h54 => ?_)
          · rw [if_neg h54] at hf
            refine lv_iconst (v := 1) hx hb dX0_unfold_61 (by decide) ?_
            exact L62 _ ih _ _ _ _ _ _ _ _ hP hS (lv_sub hl [1, 2, 3, 4, 0] rfl) hf
          · rw [if_pos h54] at hf
            refine lv_iconst (v := 0) hx hb dX0_unfold_57 (by decide) ?_
            refine lv_goto (tgt := 62) hx hb dX0_unfold_58 (by decide) ?_
            exact L62 _ ih _ _ _ _ _ _ _ _ hP hS (lv_sub hl [1, 2, 3, 4, 0] rfl) hf
        · rw [if_neg h39] at hf
          refine lv_iload hx hb dX0_unfold_42 (lv_at hl 0 rfl) ?_
          refine lv_iconst (v := 1) hx hb dX0_unfold_44 (by decide) ?_
          refine lv_iadd hx hb dX0_unfold_45 ?_
          refine lv_goto (tgt := 62) hx hb dX0_unfold_46 (by decide) ?_
          exact L62 _ ih _ _ _ _ _ _ _ _ hP hS (lv_sub hl [1, 2, 3, 4, 0] rfl) hf
  unfold f_X0_unfold at hf
  refine lv_aload_n hx hb dX0_unfold_0 rfl (lv_at hl 0 rfl) ?_
  refine lv_iload_n hx hb dX0_unfold_1 rfl (lv_at hl 1 rfl) ?_
  refine lv_iload_n hx hb dX0_unfold_2 rfl (lv_at hl 2 rfl) ?_
  obtain ⟨q3, hq, hf⟩ := ob_bind hf
  refine ax_callVi (C := "") (b := 0) (i := r0) (k := 2) (ci := 3) [.int x1, .int x2] C0 hT hJ hE (met_X4_holds l dC dI cyI cyE tC ad σ r0 x1 x2 (by omega) _ hq) hP hS mc_X4_holds ml_X0_43 mi_X4_holds ms_X4_holds mz_X4 (by decide +kernel) ⟨rfl, rfl⟩ ⟨by decide, by decide⟩ (by omega) (cD_Row (by omega)) rfl rfl rfl hl.1 (Nat.le_of_ble_eq_true rfl) dX0_unfold_3 ⟨Nat.zero_le _, Nat.zero_le _⟩ (fun H locs hP hS => ?_)
  refine lv_if_ne (tgt := 11) hx hb dX0_unfold_6 (by decide) (fun h6 => ?_) (fun h6 => ?_)
  · rw [if_neg h6] at hf
    refine lv_iload_n hx hb dX0_unfold_11 rfl (lv_at hl 1 rfl) ?_
    refine lv_iload_n hx hb dX0_unfold_12 rfl (lv_at hl 2 rfl) ?_
    refine lv_iadd hx hb dX0_unfold_13 ?_
    refine lv_istore (lv' := [(4, .int (x1 + x2)), (0, .ref (ad r0)), (1, .int x1), (2, .int x2), (3, .ref (ad r3))]) hx hb dX0_unfold_14 hl (by decide) rfl (fun ls hl => ?_)
    refine lv_iload_n hx hb dX0_unfold_16 rfl (lv_at hl 2 rfl) ?_
    refine lv_istore (lv' := [(5, .int x1), (4, .int (x1 + x2)), (0, .ref (ad r0)), (1, .int x1), (2, .int x2), (3, .ref (ad r3))]) hx hb dX0_unfold_17 hl (by decide) rfl (fun ls hl => ?_)
    exact L19 fu _ _ _ _ _ _ hP hS (lv_sub hl [2, 5, 1, 0] rfl) hf
  · rw [if_pos h6] at hf
    refine lv_iconst (v := 0) hx hb dX0_unfold_9 (by decide) ?_
    exact hret _ _ _ _ _ _ rfl hf hP hS dX0_unfold_10
def f_X1_method (σ : SD) (k0 : Nat) : Option (Int32 × SD) := if (σ.1 2 k0) ≤ (σ.1 3 k0) then (some (0, σ)) else (some (99, σ))
def rm_X1_method : Room := { frames := 0, cells := 0, slots := 0, locals := 0 }
set_option maxHeartbeats 4000000 in
set_option maxRecDepth 100000 in
theorem met_X1_method (l : Launch) (dC : Nat → ClassId) (dI : Nat → Nat → Nat) (cyI cyE : ClassId) (tC : Nat) (ad : Nat → Nat) (σ : SD) (k0 : Nat) (hb_k0 : k0 < 20) (res : Int32 × SD) (hf : f_X1_method σ k0 = some res) : ax_Mi l dC dI cyI cyE tC 77 (cD cyI cyE ad) ad yX1_method cX1_method 1 (some .int) rm_X1_method [.ref (ad (52 + k0))] σ res.1 res.2 := by
  intro sz
  refine Met.ofW (cc := cX1_method) (maxL := 1) (ret := (some .int)) (by decide) rfl ?_
  intro p e s m args below meth c s₁ B hml hv
  obtain ⟨hargs, hsz, hP, hJ, hE⟩ := hv
  subst hsz
  have hx := B.exec
  have hb := B.bytes
  have hr := B.returns
  have hlocks := B.notSynchronized
  have hts := atoms_spec (ws := wsY yX1_method cX1_method 1 (some .int)) B.pre
  have hown : s.vm.findClass RX1 = some m.cls := findClass_of_methodNamed B.named
  have C0 : CallFix p m c cX1_method 1 s args (wsY yX1_method cX1_method 1 (some .int)) RX1 := ⟨hx, hb, hml, hown, hts⟩
  have hT : ∀ w ∈ bw, w ∈ wsY yX1_method cX1_method 1 (some .int) := fun w h => List.mem_cons_of_mem _ h
  have hS : va_S (ax_A 77 ad s.heap.size) s.heap s.heap [] := va_S.rf
  rw [show entryFrame m args 1 = entryFrame m ([.ref (ad (52 + k0))] : List Value).toArray 1 by rw [hargs]]
  have hl := lv_entry ([.ref (ad (52 + k0))]) (n := 1) (Nat.le_of_ble_eq_true rfl)
  rw [lg_entry_eq]
  generalize (lg_sl ([.ref (ad (52 + k0))]) ++ List.replicate (1 - (lg_sl ([.ref (ad (52 + k0))])).length) Slot.unset).toArray = ls at hl ⊢
  have hl : lv_has ls 1 [(0, .ref (ad (52 + k0)))] := hl
  obtain ⟨Q, hQ⟩ : ∃ Q : State → Prop, Q = MQ below (va_Qi (fun (a : Int32) (u : SD) => a = res.1 ∧ u = res.2) (ax_B dC dI 77 (cD cyI cyE ad) ad) (ax_A 77 ad s.heap.size)) args s 0 0 (ax_A 77 ad s.heap.size) := ⟨_, rfl⟩
  show W p l e rm_X1_method s m args below meth c s.heap [] 0 0 _ _
  rw [← hQ]
  have hret : ∀ (v : Int32) (σ : SD) (H : Heap) (locs : List Loc) (ls : Array Slot) (pc : Nat), narrow .int (.int v) = .int v → some (v, σ) = some res → va_P (dC, dI) vwCl (ax_w 77 ad (cD cyI cyE ad σ)) H → va_S (ax_A 77 ad s.heap.size) s.heap H locs → decode cX1_method pc = .ok (.ireturn, 1) → W p l e rm_X1_method s m args below meth c H locs 0 0 Q (F0 m pc ls [.int v]) := by
    intro v σ H locs ls pc hn hf hP hS hd
    cases hf
    rw [hQ]
    exact ax_iret hx hb hr hlocks hn hP hS hd rfl rfl
  unfold f_X1_method at hf
  refine lv_aload_n hx hb dX1_method_0 rfl (lv_at hl 0 rfl) ?_
  refine g_Entry_packed (k := k0) (by omega) C0 hT hE hP mf_X1_20 dX1_method_1 ?_
  refine lv_aload_n hx hb dX1_method_4 rfl (lv_at hl 0 rfl) ?_
  refine g_Entry_size (k := k0) (by omega) C0 hT hE hP mf_X1_24 dX1_method_5 ?_
  refine lv_icmp_ge (tgt := 16) hx hb dX1_method_8 (by decide) (fun h8 => ?_) (fun h8 => ?_)
  · rw [if_pos h8] at hf
    refine lv_iconst (v := 0) hx hb dX1_method_16 (by decide) ?_
    exact hret _ _ _ _ _ _ rfl hf hP hS dX1_method_17
  · rw [if_neg h8] at hf
    refine lv_bipush (v := 99) hx hb dX1_method_11 (by decide) ?_
    refine lv_goto (tgt := 17) hx hb dX1_method_13 (by decide) ?_
    exact hret _ _ _ _ _ _ rfl hf hP hS dX1_method_17
def f_X4_size (σ : SD) (r0 : Nat) : Option (Int32 × SD) := some (σ.1 0 r0, σ)
def rm_X4_size : Room := { frames := 0, cells := 0, slots := 0, locals := 0 }
set_option maxHeartbeats 4000000 in
set_option maxRecDepth 100000 in
theorem met_X4_size (l : Launch) (dC : Nat → ClassId) (dI : Nat → Nat → Nat) (cyI cyE : ClassId) (tC : Nat) (ad : Nat → Nat) (σ : SD) (r0 : Nat) (hb_r0 : r0 < 25) (res : Int32 × SD) (hf : f_X4_size σ r0 = some res) : ax_Mi l dC dI cyI cyE tC 77 (cD cyI cyE ad) ad yX4_size cX4_size 1 (some .int) rm_X4_size [.ref (ad r0)] σ res.1 res.2 := by
  intro sz
  refine Met.ofW (cc := cX4_size) (maxL := 1) (ret := (some .int)) (by decide) rfl ?_
  intro p e s m args below meth c s₁ B hml hv
  obtain ⟨hargs, hsz, hP, hJ, hE⟩ := hv
  subst hsz
  have hx := B.exec
  have hb := B.bytes
  have hr := B.returns
  have hlocks := B.notSynchronized
  have hts := atoms_spec (ws := wsY yX4_size cX4_size 1 (some .int)) B.pre
  have hown : s.vm.findClass RX4 = some m.cls := findClass_of_methodNamed B.named
  have C0 : CallFix p m c cX4_size 1 s args (wsY yX4_size cX4_size 1 (some .int)) RX4 := ⟨hx, hb, hml, hown, hts⟩
  have hT : ∀ w ∈ bw, w ∈ wsY yX4_size cX4_size 1 (some .int) := fun w h => List.mem_cons_of_mem _ h
  have hS : va_S (ax_A 77 ad s.heap.size) s.heap s.heap [] := va_S.rf
  rw [show entryFrame m args 1 = entryFrame m ([.ref (ad r0)] : List Value).toArray 1 by rw [hargs]]
  have hl := lv_entry ([.ref (ad r0)]) (n := 1) (Nat.le_of_ble_eq_true rfl)
  rw [lg_entry_eq]
  generalize (lg_sl ([.ref (ad r0)]) ++ List.replicate (1 - (lg_sl ([.ref (ad r0)])).length) Slot.unset).toArray = ls at hl ⊢
  have hl : lv_has ls 1 [(0, .ref (ad r0))] := hl
  obtain ⟨Q, hQ⟩ : ∃ Q : State → Prop, Q = MQ below (va_Qi (fun (a : Int32) (u : SD) => a = res.1 ∧ u = res.2) (ax_B dC dI 77 (cD cyI cyE ad) ad) (ax_A 77 ad s.heap.size)) args s 0 0 (ax_A 77 ad s.heap.size) := ⟨_, rfl⟩
  show W p l e rm_X4_size s m args below meth c s.heap [] 0 0 _ _
  rw [← hQ]
  have hret : ∀ (v : Int32) (σ : SD) (H : Heap) (locs : List Loc) (ls : Array Slot) (pc : Nat), narrow .int (.int v) = .int v → some (v, σ) = some res → va_P (dC, dI) vwCl (ax_w 77 ad (cD cyI cyE ad σ)) H → va_S (ax_A 77 ad s.heap.size) s.heap H locs → decode cX4_size pc = .ok (.ireturn, 1) → W p l e rm_X4_size s m args below meth c H locs 0 0 Q (F0 m pc ls [.int v]) := by
    intro v σ H locs ls pc hn hf hP hS hd
    cases hf
    rw [hQ]
    exact ax_iret hx hb hr hlocks hn hP hS hd rfl rfl
  unfold f_X4_size at hf
  refine lv_aload_n hx hb dX4_size_0 rfl (lv_at hl 0 rfl) ?_
  refine g_Row_size (r := r0) (by omega) C0 hT hE hP mf_X4_21 dX4_size_1 ?_
  exact hret _ _ _ _ _ _ rfl hf hP hS dX4_size_4
def f_X1_localSize (σ : SD) (k0 : Nat) : Option (Int32 × SD) := (f_X4_size σ (5 + k0)).bind fun q6 => some ((30 + q6.1) + (q6.2.1 3 k0), q6.2)
def rm_X1_localSize : Room := { frames := 1, cells := 0, slots := 0, locals := 20 }
set_option maxHeartbeats 4000000 in
set_option maxRecDepth 100000 in
theorem met_X1_localSize (l : Launch) (dC : Nat → ClassId) (dI : Nat → Nat → Nat) (cyI cyE : ClassId) (tC : Nat) (ad : Nat → Nat) (σ : SD) (k0 : Nat) (hb_k0 : k0 < 20) (res : Int32 × SD) (hf : f_X1_localSize σ k0 = some res) : ax_Mi l dC dI cyI cyE tC 77 (cD cyI cyE ad) ad yX1_localSize cX1_localSize 1 (some .int) rm_X1_localSize [.ref (ad (52 + k0))] σ res.1 res.2 := by
  intro sz
  refine Met.ofW (cc := cX1_localSize) (maxL := 1) (ret := (some .int)) (by decide) rfl ?_
  intro p e s m args below meth c s₁ B hml hv
  obtain ⟨hargs, hsz, hP, hJ, hE⟩ := hv
  subst hsz
  have hx := B.exec
  have hb := B.bytes
  have hr := B.returns
  have hlocks := B.notSynchronized
  have hts := atoms_spec (ws := wsY yX1_localSize cX1_localSize 1 (some .int)) B.pre
  have hown : s.vm.findClass RX1 = some m.cls := findClass_of_methodNamed B.named
  have C0 : CallFix p m c cX1_localSize 1 s args (wsY yX1_localSize cX1_localSize 1 (some .int)) RX1 := ⟨hx, hb, hml, hown, hts⟩
  have hT : ∀ w ∈ bw, w ∈ wsY yX1_localSize cX1_localSize 1 (some .int) := fun w h => List.mem_cons_of_mem _ h
  have hS : va_S (ax_A 77 ad s.heap.size) s.heap s.heap [] := va_S.rf
  rw [show entryFrame m args 1 = entryFrame m ([.ref (ad (52 + k0))] : List Value).toArray 1 by rw [hargs]]
  have hl := lv_entry ([.ref (ad (52 + k0))]) (n := 1) (Nat.le_of_ble_eq_true rfl)
  rw [lg_entry_eq]
  generalize (lg_sl ([.ref (ad (52 + k0))]) ++ List.replicate (1 - (lg_sl ([.ref (ad (52 + k0))])).length) Slot.unset).toArray = ls at hl ⊢
  have hl : lv_has ls 1 [(0, .ref (ad (52 + k0)))] := hl
  obtain ⟨Q, hQ⟩ : ∃ Q : State → Prop, Q = MQ below (va_Qi (fun (a : Int32) (u : SD) => a = res.1 ∧ u = res.2) (ax_B dC dI 77 (cD cyI cyE ad) ad) (ax_A 77 ad s.heap.size)) args s 0 0 (ax_A 77 ad s.heap.size) := ⟨_, rfl⟩
  show W p l e rm_X1_localSize s m args below meth c s.heap [] 0 0 _ _
  rw [← hQ]
  have hret : ∀ (v : Int32) (σ : SD) (H : Heap) (locs : List Loc) (ls : Array Slot) (pc : Nat), narrow .int (.int v) = .int v → some (v, σ) = some res → va_P (dC, dI) vwCl (ax_w 77 ad (cD cyI cyE ad σ)) H → va_S (ax_A 77 ad s.heap.size) s.heap H locs → decode cX1_localSize pc = .ok (.ireturn, 1) → W p l e rm_X1_localSize s m args below meth c H locs 0 0 Q (F0 m pc ls [.int v]) := by
    intro v σ H locs ls pc hn hf hP hS hd
    cases hf
    rw [hQ]
    exact ax_iret hx hb hr hlocks hn hP hS hd rfl rfl
  unfold f_X1_localSize at hf
  refine lv_bipush (v := 30) hx hb dX1_localSize_0 (by decide) ?_
  refine lv_aload_n hx hb dX1_localSize_2 rfl (lv_at hl 0 rfl) ?_
  refine g_Entry_name (k := k0) (by omega) C0 hT hE hP mf_X1_14 dX1_localSize_3 ?_
  obtain ⟨q6, hq, hf⟩ := ob_bind hf
  refine ax_callVi (C := "") (b := 0) (i := (5 + k0)) (k := 0) (ci := 3) [] C0 hT hJ hE (met_X4_size l dC dI cyI cyE tC ad σ (5 + k0) (by omega) _ hq) hP hS mc_X4_size ml_X1_27 mi_X4_size ms_X4_size mz_X4 (by decide +kernel) ⟨rfl, rfl⟩ ⟨by decide, by decide⟩ (by omega) (cD_Row (by omega)) rfl rfl rfl hl.1 (Nat.le_of_ble_eq_true rfl) dX1_localSize_6 ⟨Nat.zero_le _, Nat.zero_le _⟩ (fun H locs hP hS => ?_)
  refine lv_iadd hx hb dX1_localSize_9 ?_
  refine lv_aload_n hx hb dX1_localSize_10 rfl (lv_at hl 0 rfl) ?_
  refine g_Entry_packed (k := k0) (by omega) C0 hT hE hP mf_X1_20 dX1_localSize_11 ?_
  refine lv_iadd hx hb dX1_localSize_14 ?_
  exact hret _ _ _ _ _ _ rfl hf hP hS dX1_localSize_15
def f_X4_shorten (σ : SD) (r0 : Nat) (x1 : Int32) : Option (Int32 × SD) := if x1 < 0 then (some (0, σ)) else (if x1 ≤ (σ.1 0 r0) then (some (1, (SDi σ 0 r0 x1))) else (some (0, σ)))
def rm_X4_shorten : Room := { frames := 0, cells := 0, slots := 0, locals := 0 }
set_option maxHeartbeats 4000000 in
set_option maxRecDepth 100000 in
theorem met_X4_shorten (l : Launch) (dC : Nat → ClassId) (dI : Nat → Nat → Nat) (cyI cyE : ClassId) (tC : Nat) (ad : Nat → Nat) (σ : SD) (r0 : Nat) (x1 : Int32) (hb_r0 : r0 < 25) (res : Int32 × SD) (hf : f_X4_shorten σ r0 x1 = some res) : ax_Mi l dC dI cyI cyE tC 77 (cD cyI cyE ad) ad yX4_shorten cX4_shorten 2 (some .boolean) rm_X4_shorten [.ref (ad r0), .int x1] σ res.1 res.2 := by
  intro sz
  refine Met.ofW (cc := cX4_shorten) (maxL := 2) (ret := (some .boolean)) (by decide) rfl ?_
  intro p e s m args below meth c s₁ B hml hv
  obtain ⟨hargs, hsz, hP, hJ, hE⟩ := hv
  subst hsz
  have hx := B.exec
  have hb := B.bytes
  have hr := B.returns
  have hlocks := B.notSynchronized
  have hts := atoms_spec (ws := wsY yX4_shorten cX4_shorten 2 (some .boolean)) B.pre
  have hown : s.vm.findClass RX4 = some m.cls := findClass_of_methodNamed B.named
  have C0 : CallFix p m c cX4_shorten 2 s args (wsY yX4_shorten cX4_shorten 2 (some .boolean)) RX4 := ⟨hx, hb, hml, hown, hts⟩
  have hT : ∀ w ∈ bw, w ∈ wsY yX4_shorten cX4_shorten 2 (some .boolean) := fun w h => List.mem_cons_of_mem _ h
  have hS : va_S (ax_A 77 ad s.heap.size) s.heap s.heap [] := va_S.rf
  rw [show entryFrame m args 2 = entryFrame m ([.ref (ad r0), .int x1] : List Value).toArray 2 by rw [hargs]]
  have hl := lv_entry ([.ref (ad r0), .int x1]) (n := 2) (Nat.le_of_ble_eq_true rfl)
  rw [lg_entry_eq]
  generalize (lg_sl ([.ref (ad r0), .int x1]) ++ List.replicate (2 - (lg_sl ([.ref (ad r0), .int x1])).length) Slot.unset).toArray = ls at hl ⊢
  have hl : lv_has ls 2 [(0, .ref (ad r0)), (1, .int x1)] := hl
  obtain ⟨Q, hQ⟩ : ∃ Q : State → Prop, Q = MQ below (va_Qi (fun (a : Int32) (u : SD) => a = res.1 ∧ u = res.2) (ax_B dC dI 77 (cD cyI cyE ad) ad) (ax_A 77 ad s.heap.size)) args s 0 0 (ax_A 77 ad s.heap.size) := ⟨_, rfl⟩
  show W p l e rm_X4_shorten s m args below meth c s.heap [] 0 0 _ _
  rw [← hQ]
  have hret : ∀ (v : Int32) (σ : SD) (H : Heap) (locs : List Loc) (ls : Array Slot) (pc : Nat), narrow .boolean (.int v) = .int v → some (v, σ) = some res → va_P (dC, dI) vwCl (ax_w 77 ad (cD cyI cyE ad σ)) H → va_S (ax_A 77 ad s.heap.size) s.heap H locs → decode cX4_shorten pc = .ok (.ireturn, 1) → W p l e rm_X4_shorten s m args below meth c H locs 0 0 Q (F0 m pc ls [.int v]) := by
    intro v σ H locs ls pc hn hf hP hS hd
    cases hf
    rw [hQ]
    exact ax_iret hx hb hr hlocks hn hP hS hd rfl rfl
  unfold f_X4_shorten at hf
  refine lv_iload_n hx hb dX4_shorten_0 rfl (lv_at hl 1 rfl) ?_
  refine lv_if_lt (tgt := 12) hx hb dX4_shorten_1 (by decide) (fun h1 => ?_) (fun h1 => ?_)
  · rw [if_pos h1] at hf
    refine lv_iconst (v := 0) hx hb dX4_shorten_12 (by decide) ?_
    exact hret _ _ _ _ _ _ rfl hf hP hS dX4_shorten_13
  · rw [if_neg h1] at hf
    refine lv_iload_n hx hb dX4_shorten_4 rfl (lv_at hl 1 rfl) ?_
    refine lv_aload_n hx hb dX4_shorten_5 rfl (lv_at hl 0 rfl) ?_
    refine g_Row_size (r := r0) (by omega) C0 hT hE hP mf_X4_21 dX4_shorten_6 ?_
    refine lv_icmp_le (tgt := 14) hx hb dX4_shorten_9 (by decide) (fun h9 => ?_) (fun h9 => ?_)
    · rw [if_pos h9] at hf
      refine lv_aload_n hx hb dX4_shorten_14 rfl (lv_at hl 0 rfl) ?_
      refine lv_iload_n hx hb dX4_shorten_15 rfl (lv_at hl 1 rfl) ?_
      refine p_Row_size (r := r0) (by omega) C0 hT hE hJ hP hS mf_X4_21 dX4_shorten_16 (fun H locs hP hS => ?_)
      refine lv_iconst (v := 1) hx hb dX4_shorten_19 (by decide) ?_
      exact hret _ _ _ _ _ _ rfl hf hP hS dX4_shorten_20
    · rw [if_neg h9] at hf
      refine lv_iconst (v := 0) hx hb dX4_shorten_12 (by decide) ?_
      exact hret _ _ _ _ _ _ rfl hf hP hS dX4_shorten_13
def f_X1_setName (σ : SD) (k0 : Nat) (r1 : Nat) (x2 : Int32) (x3 : Int32) : Option (SD) := (f_X4_shorten σ (5 + k0) 0).bind fun q5 => (f_X4_append q5.2 (5 + k0) r1 x2 x3).bind fun q16 => some q16
def rm_X1_setName : Room := { frames := 2, cells := 0, slots := 0, locals := 53 }
set_option maxHeartbeats 4000000 in
set_option maxRecDepth 100000 in
theorem met_X1_setName (l : Launch) (dC : Nat → ClassId) (dI : Nat → Nat → Nat) (cyI cyE : ClassId) (tC : Nat) (ad : Nat → Nat) (σ : SD) (k0 : Nat) (r1 : Nat) (x2 : Int32) (x3 : Int32) (hb_k0 : k0 < 20) (hb_r1 : r1 < 25) (res : SD) (hf : f_X1_setName σ k0 r1 x2 x3 = some res) : ax_Mv l dC dI cyI cyE tC 77 (cD cyI cyE ad) ad yX1_setName cX1_setName 4 none rm_X1_setName [.ref (ad (52 + k0)), .ref (ad r1), .int x2, .int x3] σ res := by
  intro sz
  refine Met.ofW (cc := cX1_setName) (maxL := 4) (ret := none) (by decide) rfl ?_
  intro p e s m args below meth c s₁ B hml hv
  obtain ⟨hargs, hsz, hP, hJ, hE⟩ := hv
  subst hsz
  have hx := B.exec
  have hb := B.bytes
  have hr := B.returns
  have hlocks := B.notSynchronized
  have hts := atoms_spec (ws := wsY yX1_setName cX1_setName 4 none) B.pre
  have hown : s.vm.findClass RX1 = some m.cls := findClass_of_methodNamed B.named
  have C0 : CallFix p m c cX1_setName 4 s args (wsY yX1_setName cX1_setName 4 none) RX1 := ⟨hx, hb, hml, hown, hts⟩
  have hT : ∀ w ∈ bw, w ∈ wsY yX1_setName cX1_setName 4 none := fun w h => List.mem_cons_of_mem _ h
  have hS : va_S (ax_A 77 ad s.heap.size) s.heap s.heap [] := va_S.rf
  rw [show entryFrame m args 4 = entryFrame m ([.ref (ad (52 + k0)), .ref (ad r1), .int x2, .int x3] : List Value).toArray 4 by rw [hargs]]
  have hl := lv_entry ([.ref (ad (52 + k0)), .ref (ad r1), .int x2, .int x3]) (n := 4) (Nat.le_of_ble_eq_true rfl)
  rw [lg_entry_eq]
  generalize (lg_sl ([.ref (ad (52 + k0)), .ref (ad r1), .int x2, .int x3]) ++ List.replicate (4 - (lg_sl ([.ref (ad (52 + k0)), .ref (ad r1), .int x2, .int x3])).length) Slot.unset).toArray = ls at hl ⊢
  have hl : lv_has ls 4 [(0, .ref (ad (52 + k0))), (1, .ref (ad r1)), (2, .int x2), (3, .int x3)] := hl
  obtain ⟨Q, hQ⟩ : ∃ Q : State → Prop, Q = MQ below (va_Qv (fun (u : SD) => u = res) (ax_B dC dI 77 (cD cyI cyE ad) ad) (ax_A 77 ad s.heap.size)) args s 0 0 (ax_A 77 ad s.heap.size) := ⟨_, rfl⟩
  show W p l e rm_X1_setName s m args below meth c s.heap [] 0 0 _ _
  rw [← hQ]
  have hret : ∀ (σ : SD) (H : Heap) (locs : List Loc) (ls : Array Slot) (pc : Nat), some σ = some res → va_P (dC, dI) vwCl (ax_w 77 ad (cD cyI cyE ad σ)) H → va_S (ax_A 77 ad s.heap.size) s.heap H locs → decode cX1_setName pc = .ok (.return_, 1) → W p l e rm_X1_setName s m args below meth c H locs 0 0 Q (F0 m pc ls []) := by
    intro σ H locs ls pc hf hP hS hd
    cases hf
    rw [hQ]
    exact ax_vret hx hb hr hlocks hP hS hd rfl
  unfold f_X1_setName at hf
  refine lv_aload_n hx hb dX1_setName_0 rfl (lv_at hl 0 rfl) ?_
  refine g_Entry_name (k := k0) (by omega) C0 hT hE hP mf_X1_14 dX1_setName_1 ?_
  refine lv_iconst (v := 0) hx hb dX1_setName_4 (by decide) ?_
  obtain ⟨q5, hq, hf⟩ := ob_bind hf
  refine ax_callVi (C := "") (b := 0) (i := (5 + k0)) (k := 1) (ci := 3) [.int 0] C0 hT hJ hE (met_X4_shorten l dC dI cyI cyE tC ad σ (5 + k0) 0 (by omega) _ hq) hP hS mc_X4_shorten ml_X1_30 mi_X4_shorten ms_X4_shorten mz_X4 (by decide +kernel) ⟨rfl, rfl⟩ ⟨by decide, by decide⟩ (by omega) (cD_Row (by omega)) rfl rfl rfl hl.1 (Nat.le_of_ble_eq_true rfl) dX1_setName_5 ⟨Nat.zero_le _, Nat.zero_le _⟩ (fun H locs hP hS => ?_)
  refine lv_pop hx hb dX1_setName_8 rfl ?_
  refine lv_aload_n hx hb dX1_setName_9 rfl (lv_at hl 0 rfl) ?_
  refine g_Entry_name (k := k0) (by omega) C0 hT hE hP mf_X1_14 dX1_setName_10 ?_
  refine lv_aload_n hx hb dX1_setName_13 rfl (lv_at hl 1 rfl) ?_
  refine lv_iload_n hx hb dX1_setName_14 rfl (lv_at hl 2 rfl) ?_
  refine lv_iload_n hx hb dX1_setName_15 rfl (lv_at hl 3 rfl) ?_
  obtain ⟨q16, hq, hf⟩ := ob_bind hf
  refine ax_callVv (b := 0) (i := (5 + k0)) (k := 3) (ci := 3) [.ref (ad r1), .int x2, .int x3] C0 hT hJ hE (met_X4_append l dC dI cyI cyE tC ad q5.2 (5 + k0) r1 x2 x3 (by omega) (by omega) _ hq) hP hS mc_X4_append ml_X1_34 mi_X4_append ms_X4_append mz_X4 (by decide +kernel) ⟨rfl, rfl⟩ ⟨by decide, by decide⟩ (by omega) (cD_Row (by omega)) rfl rfl rfl hl.1 (Nat.le_of_ble_eq_true rfl) dX1_setName_16 ⟨Nat.zero_le _, Nat.zero_le _⟩ (fun H locs hP hS => ?_)
  exact hret _ _ _ _ _ hf hP hS dX1_setName_19
def f_X4_two (σ : SD) (r0 : Nat) (x1 : Int32) : Option (Int32 × SD) := (f_X4_holds σ r0 x1 2).bind fun q3 => if q3.1 = 0 then (some ((-1), q3.2)) else (if inb x1 (capD r0) = true then (if inb (x1 + 1) (capD r0) = true then (some ((q3.2.2.2.1 r0 x1.toNatClampNeg) ||| ((q3.2.2.2.1 r0 (x1 + 1).toNatClampNeg) <<< (8 &&& 31)), q3.2)) else none) else none)
def rm_X4_two : Room := { frames := 1, cells := 0, slots := 0, locals := 22 }
set_option maxHeartbeats 4000000 in
set_option maxRecDepth 100000 in
theorem met_X4_two (l : Launch) (dC : Nat → ClassId) (dI : Nat → Nat → Nat) (cyI cyE : ClassId) (tC : Nat) (ad : Nat → Nat) (σ : SD) (r0 : Nat) (x1 : Int32) (hb_r0 : r0 < 25) (res : Int32 × SD) (hf : f_X4_two σ r0 x1 = some res) : ax_Mi l dC dI cyI cyE tC 77 (cD cyI cyE ad) ad yX4_two cX4_two 2 (some .int) rm_X4_two [.ref (ad r0), .int x1] σ res.1 res.2 := by
  intro sz
  refine Met.ofW (cc := cX4_two) (maxL := 2) (ret := (some .int)) (by decide) rfl ?_
  intro p e s m args below meth c s₁ B hml hv
  obtain ⟨hargs, hsz, hP, hJ, hE⟩ := hv
  subst hsz
  have hx := B.exec
  have hb := B.bytes
  have hr := B.returns
  have hlocks := B.notSynchronized
  have hts := atoms_spec (ws := wsY yX4_two cX4_two 2 (some .int)) B.pre
  have hown : s.vm.findClass RX4 = some m.cls := findClass_of_methodNamed B.named
  have C0 : CallFix p m c cX4_two 2 s args (wsY yX4_two cX4_two 2 (some .int)) RX4 := ⟨hx, hb, hml, hown, hts⟩
  have hT : ∀ w ∈ bw, w ∈ wsY yX4_two cX4_two 2 (some .int) := fun w h => List.mem_cons_of_mem _ h
  have hS : va_S (ax_A 77 ad s.heap.size) s.heap s.heap [] := va_S.rf
  rw [show entryFrame m args 2 = entryFrame m ([.ref (ad r0), .int x1] : List Value).toArray 2 by rw [hargs]]
  have hl := lv_entry ([.ref (ad r0), .int x1]) (n := 2) (Nat.le_of_ble_eq_true rfl)
  rw [lg_entry_eq]
  generalize (lg_sl ([.ref (ad r0), .int x1]) ++ List.replicate (2 - (lg_sl ([.ref (ad r0), .int x1])).length) Slot.unset).toArray = ls at hl ⊢
  have hl : lv_has ls 2 [(0, .ref (ad r0)), (1, .int x1)] := hl
  obtain ⟨Q, hQ⟩ : ∃ Q : State → Prop, Q = MQ below (va_Qi (fun (a : Int32) (u : SD) => a = res.1 ∧ u = res.2) (ax_B dC dI 77 (cD cyI cyE ad) ad) (ax_A 77 ad s.heap.size)) args s 0 0 (ax_A 77 ad s.heap.size) := ⟨_, rfl⟩
  show W p l e rm_X4_two s m args below meth c s.heap [] 0 0 _ _
  rw [← hQ]
  have hret : ∀ (v : Int32) (σ : SD) (H : Heap) (locs : List Loc) (ls : Array Slot) (pc : Nat), narrow .int (.int v) = .int v → some (v, σ) = some res → va_P (dC, dI) vwCl (ax_w 77 ad (cD cyI cyE ad σ)) H → va_S (ax_A 77 ad s.heap.size) s.heap H locs → decode cX4_two pc = .ok (.ireturn, 1) → W p l e rm_X4_two s m args below meth c H locs 0 0 Q (F0 m pc ls [.int v]) := by
    intro v σ H locs ls pc hn hf hP hS hd
    cases hf
    rw [hQ]
    exact ax_iret hx hb hr hlocks hn hP hS hd rfl rfl
  unfold f_X4_two at hf
  refine lv_aload_n hx hb dX4_two_0 rfl (lv_at hl 0 rfl) ?_
  refine lv_iload_n hx hb dX4_two_1 rfl (lv_at hl 1 rfl) ?_
  refine lv_iconst (v := 2) hx hb dX4_two_2 (by decide) ?_
  obtain ⟨q3, hq, hf⟩ := ob_bind hf
  refine ax_callVi (C := "") (b := 0) (i := r0) (k := 2) (ci := 3) [.int x1, .int 2] C0 hT hJ hE (met_X4_holds l dC dI cyI cyE tC ad σ r0 x1 2 (by omega) _ hq) hP hS mc_X4_holds ml_X4_25 mi_X4_holds ms_X4_holds mz_X4 (by decide +kernel) ⟨rfl, rfl⟩ ⟨by decide, by decide⟩ (by omega) (cD_Row (by omega)) rfl rfl rfl hl.1 (Nat.le_of_ble_eq_true rfl) dX4_two_3 ⟨Nat.zero_le _, Nat.zero_le _⟩ (fun H locs hP hS => ?_)
  refine lv_if_eq (tgt := 30) hx hb dX4_two_6 (by decide) (fun h6 => ?_) (fun h6 => ?_)
  · rw [if_pos h6] at hf
    refine lv_iconst (v := (-1)) hx hb dX4_two_30 (by decide) ?_
    exact hret _ _ _ _ _ _ rfl hf hP hS dX4_two_31
  · rw [if_neg h6] at hf
    refine lv_aload_n hx hb dX4_two_9 rfl (lv_at hl 0 rfl) ?_
    refine g_Row_cells (r := r0) (by omega) C0 hT hE hP mf_X4_15 dX4_two_10 ?_
    refine lv_iload_n hx hb dX4_two_13 rfl (lv_at hl 1 rfl) ?_
    obtain ⟨hin, hf⟩ := ob_if hf
    refine aD_ld (a := r0) (by omega) C0 hT hE hP (inb_in hin) dX4_two_14 ?_
    refine lv_aload_n hx hb dX4_two_15 rfl (lv_at hl 0 rfl) ?_
    refine g_Row_cells (r := r0) (by omega) C0 hT hE hP mf_X4_15 dX4_two_16 ?_
    refine lv_iload_n hx hb dX4_two_19 rfl (lv_at hl 1 rfl) ?_
    refine lv_iconst (v := 1) hx hb dX4_two_20 (by decide) ?_
    refine lv_iadd hx hb dX4_two_21 ?_
    obtain ⟨hin, hf⟩ := ob_if hf
    refine aD_ld (a := r0) (by omega) C0 hT hE hP (inb_in hin) dX4_two_22 ?_
    refine lv_bipush (v := 8) hx hb dX4_two_23 (by decide) ?_
    refine lv_ishl hx hb dX4_two_25 ?_
    refine lv_ior hx hb dX4_two_26 ?_
    refine lv_goto (tgt := 31) hx hb dX4_two_27 (by decide) ?_
    exact hret _ _ _ _ _ _ rfl hf hP hS dX4_two_31
