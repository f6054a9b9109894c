def f_X8_about (σ : SM) (x1 : Int32) : Option (Int32 × SM) := if x1 = 0 then (some ((SMi σ 0 0).1 1, (SMi σ 0 0))) else (if x1 = 1 then (some ((SMi σ 0 0).1 2, (SMi σ 0 0))) else (if x1 = 2 then (some ((SMi σ 0 0).1 3, (SMi σ 0 0))) else (if x1 = 3 then ((f_X8_total (SMi σ 0 0) ).bind fun q46 => some (q46.1, q46.2)) else (some ((-1), (SMi σ 0 0))))))
def rm_X8_about : Room := { frames := 1, cells := 0, slots := 0, locals := 22 }
set_option maxHeartbeats 4000000 in
set_option maxRecDepth 100000 in
theorem met_X8_about (l : Launch) (dC : Nat → ClassId) (dI : Nat → Nat → Nat) (cyI cyE : ClassId) (tC : Nat) (ad : Nat → Nat) (σ : SM) (x1 : Int32) (res : Int32 × SM) (hf : f_X8_about σ x1 = some res) : ax_Mi l dC dI cyI cyE tC 12 (cM cyI ad) ad yX8_about cX8_about 2 (some .int) rm_X8_about [.ref (ad 11), .int x1] σ res.1 res.2 := by
  intro sz
  refine Met.ofW (cc := cX8_about) (maxL := 2) (ret := (some .int)) (by decide) rfl ?_
  intro p e s m args below meth c s₁ B hml hv
  obtain ⟨hargs, hsz, hP, hJ, hE⟩ := hv
  subst hsz
  have hx := B.exec
  have hb := B.bytes
  have hr := B.returns
  have hlocks := B.notSynchronized
  have hts := atoms_spec (ws := wsY yX8_about cX8_about 2 (some .int)) B.pre
  have hown : s.vm.findClass RX8 = some m.cls := findClass_of_methodNamed B.named
  have C0 : CallFix p m c cX8_about 2 s args (wsY yX8_about cX8_about 2 (some .int)) RX8 := ⟨hx, hb, hml, hown, hts⟩
  have hT : ∀ w ∈ bw, w ∈ wsY yX8_about cX8_about 2 (some .int) := fun w h => List.mem_cons_of_mem _ h
  have hS : va_S (ax_A 12 ad s.heap.size) s.heap s.heap [] := va_S.rf
  rw [show entryFrame m args 2 = entryFrame m ([.ref (ad 11), .int x1] : List Value).toArray 2 by rw [hargs]]
  have hl := lv_entry ([.ref (ad 11), .int x1]) (n := 2) (Nat.le_of_ble_eq_true rfl)
  rw [lg_entry_eq]
  generalize (lg_sl ([.ref (ad 11), .int x1]) ++ List.replicate (2 - (lg_sl ([.ref (ad 11), .int x1])).length) Slot.unset).toArray = ls at hl ⊢
  have hl : lv_has ls 2 [(0, .ref (ad 11)), (1, .int x1)] := hl
  obtain ⟨Q, hQ⟩ : ∃ Q : State → Prop, Q = MQ below (va_Qi (fun (a : Int32) (u : SM) => a = res.1 ∧ u = res.2) (ax_B dC dI 12 (cM cyI ad) ad) (ax_A 12 ad s.heap.size)) args s 0 0 (ax_A 12 ad s.heap.size) := ⟨_, rfl⟩
  show W p l e rm_X8_about s m args below meth c s.heap [] 0 0 _ _
  rw [← hQ]
  have hret : ∀ (v : Int32) (σ : SM) (H : Heap) (locs : List Loc) (ls : Array Slot) (pc : Nat), narrow .int (.int v) = .int v → some (v, σ) = some res → va_P (dC, dI) vwCl (ax_w 12 ad (cM cyI ad σ)) H → va_S (ax_A 12 ad s.heap.size) s.heap H locs → decode cX8_about pc = .ok (.ireturn, 1) → W p l e rm_X8_about s m args below meth c H locs 0 0 Q (F0 m pc ls [.int v]) := by
    intro v σ H locs ls pc hn hf hP hS hd
    cases hf
    rw [hQ]
    exact ax_iret hx hb hr hlocks hn hP hS hd rfl rfl
  unfold f_X8_about at hf
  refine lv_aload_n hx hb dX8_about_0 rfl (lv_at hl 0 rfl) ?_
  refine lv_iconst (v := 0) hx hb dX8_about_1 (by decide) ?_
  refine p_Model_thrown C0 hT hE hJ hP hS mf_X8_50 dX8_about_2 (fun H locs hP hS => ?_)
  refine lv_iload_n hx hb dX8_about_5 rfl (lv_at hl 1 rfl) ?_
  refine lv_if_ne (tgt := 16) hx hb dX8_about_6 (by decide) (fun h6 => ?_) (fun h6 => ?_)
  · rw [if_neg h6] at hf
    refine lv_iload_n hx hb dX8_about_16 rfl (lv_at hl 1 rfl) ?_
    refine lv_iconst (v := 1) hx hb dX8_about_17 (by decide) ?_
    refine lv_icmp_ne (tgt := 28) hx hb dX8_about_18 (by decide) (fun h18 => ?_) (fun h18 => ?_)
    · rw [if_neg h18] at hf
      refine lv_iload_n hx hb dX8_about_28 rfl (lv_at hl 1 rfl) ?_
      refine lv_iconst (v := 2) hx hb dX8_about_29 (by decide) ?_
      refine lv_icmp_ne (tgt := 40) hx hb dX8_about_30 (by decide) (fun h30 => ?_) (fun h30 => ?_)
      · rw [if_neg h30] at hf
        refine lv_iload_n hx hb dX8_about_40 rfl (lv_at hl 1 rfl) ?_
        refine lv_iconst (v := 3) hx hb dX8_about_41 (by decide) ?_
        refine lv_icmp_ne (tgt := 52) hx hb dX8_about_42 (by decide) (fun h42 => ?_) (fun h42 => ?_)
        · rw [if_neg h42] at hf
          refine lv_iconst (v := (-1)) hx hb dX8_about_52 (by decide) ?_
          exact hret _ _ _ _ _ _ rfl hf hP hS dX8_about_53
        · rw [if_pos h42] at hf
          refine lv_aload_n hx hb dX8_about_45 rfl (lv_at hl 0 rfl) ?_
          obtain ⟨q46, hq, hf⟩ := ob_bind hf
          refine ax_callVi (C := "") (b := 0) (i := 11) (k := 0) (ci := 6) [] C0 hT hJ hE (met_X8_total l dC dI cyI cyE tC ad (SMi σ 0 0) _ hq) hP hS mc_X8_total ml_X8_74 mi_X8_total ms_X8_total mz_X8 (by decide +kernel) ⟨rfl, rfl⟩ ⟨by decide, by decide⟩ (by decide) cM_O rfl rfl rfl hl.1 (Nat.le_of_ble_eq_true rfl) dX8_about_46 ⟨Nat.zero_le _, Nat.zero_le _⟩ (fun H locs hP hS => ?_)
          refine lv_goto (tgt := 53) hx hb dX8_about_49 (by decide) ?_
          exact hret _ _ _ _ _ _ rfl hf hP hS dX8_about_53
      · rw [if_pos h30] at hf
        refine lv_aload_n hx hb dX8_about_33 rfl (lv_at hl 0 rfl) ?_
        refine g_Model_files C0 hT hE hP mf_X8_59 dX8_about_34 ?_
        refine lv_goto (tgt := 53) hx hb dX8_about_37 (by decide) ?_
        exact hret _ _ _ _ _ _ rfl hf hP hS dX8_about_53
    · rw [if_pos h18] at hf
      refine lv_aload_n hx hb dX8_about_21 rfl (lv_at hl 0 rfl) ?_
      refine g_Model_outputSize C0 hT hE hP mf_X8_56 dX8_about_22 ?_
      refine lv_goto (tgt := 53) hx hb dX8_about_25 (by decide) ?_
      exact hret _ _ _ _ _ _ rfl hf hP hS dX8_about_53
  · rw [if_pos h6] at hf
    refine lv_aload_n hx hb dX8_about_9 rfl (lv_at hl 0 rfl) ?_
    refine g_Model_size C0 hT hE hP mf_X8_53 dX8_about_10 ?_
    refine lv_goto (tgt := 53) hx hb dX8_about_13 (by decide) ?_
    exact hret _ _ _ _ _ _ rfl hf hP hS dX8_about_53
