def f_X8_feed_61 (x1 : Int32) (x2 : Int32) (x3 : Int32) (x4 : Int32) (x5 : Int32) (k8 : SM → Int32 → Option (SM)) (σ : SM) (x6 : Int32) (s0 : Int32) : Option (SM) := if inb x6 (capM 0) = true then (k8 (SMc σ 0 (upd (σ.2 0) x6.toNatClampNeg ((s0 >>> ((24 - (8 * (x6 - x6 / 4 * 4))) &&& 31)) &&& 255))) (x6 + 1)) else none
def f_X8_feed_8 (x1 : Int32) (x2 : Int32) (x3 : Int32) (x4 : Int32) (x5 : Int32) : Nat → SM → Int32 → Option (SM)
  | 0, _, _ => none
  | n + 1, σ, x6 => if (20 : Int32) ≤ x6 then (some σ) else (if (4 : Int32) ≤ x6 then (if (8 : Int32) ≤ x6 then (if (12 : Int32) ≤ x6 then (if (16 : Int32) ≤ x6 then (f_X8_feed_61 x1 x2 x3 x4 x5 (f_X8_feed_8 x1 x2 x3 x4 x5 n) σ x6 x5) else (f_X8_feed_61 x1 x2 x3 x4 x5 (f_X8_feed_8 x1 x2 x3 x4 x5 n) σ x6 x4)) else (f_X8_feed_61 x1 x2 x3 x4 x5 (f_X8_feed_8 x1 x2 x3 x4 x5 n) σ x6 x3)) else (f_X8_feed_61 x1 x2 x3 x4 x5 (f_X8_feed_8 x1 x2 x3 x4 x5 n) σ x6 x2)) else (f_X8_feed_61 x1 x2 x3 x4 x5 (f_X8_feed_8 x1 x2 x3 x4 x5 n) σ x6 x1))
def f_X8_feed (σ : SM) (x1 : Int32) (x2 : Int32) (x3 : Int32) (x4 : Int32) (x5 : Int32) : Option (SM) := f_X8_feed_8 x1 x2 x3 x4 x5 fu (SMi σ 0 0) 0
def rm_X8_feed : Room := { frames := 0, cells := 0, slots := 0, locals := 0 }
set_option maxHeartbeats 4000000 in
set_option maxRecDepth 100000 in
theorem met_X8_feed (l : Launch) (dC : Nat → ClassId) (dI : Nat → Nat → Nat) (cyI cyE : ClassId) (tC : Nat) (ad : Nat → Nat) (σ : SM) (x1 : Int32) (x2 : Int32) (x3 : Int32) (x4 : Int32) (x5 : Int32) (res : SM) (hf : f_X8_feed σ x1 x2 x3 x4 x5 = some res) : ax_Mv l dC dI cyI cyE tC 12 (cM cyI ad) ad yX8_feed cX8_feed 8 none rm_X8_feed [.ref (ad 11), .int x1, .int x2, .int x3, .int x4, .int x5] σ res := by
  intro sz
  refine Met.ofW (cc := cX8_feed) (maxL := 8) (ret := none) (by decide) rfl ?_
  intro p e s m args below meth c s₁ B hml hv
  obtain ⟨hargs, hsz, hP, hJ, hE⟩ := hv
  subst hsz
  have hx := B.exec
  have hb := B.bytes
  have hr := B.returns
  have hlocks := B.notSynchronized
  have hts := atoms_spec (ws := wsY yX8_feed cX8_feed 8 none) B.pre
  have hown : s.vm.findClass RX8 = some m.cls := findClass_of_methodNamed B.named
  have C0 : CallFix p m c cX8_feed 8 s args (wsY yX8_feed cX8_feed 8 none) RX8 := ⟨hx, hb, hml, hown, hts⟩
  have hT : ∀ w ∈ bw, w ∈ wsY yX8_feed cX8_feed 8 none := fun w h => List.mem_cons_of_mem _ h
  have hS : va_S (ax_A 12 ad s.heap.size) s.heap s.heap [] := va_S.rf
  rw [show entryFrame m args 8 = entryFrame m ([.ref (ad 11), .int x1, .int x2, .int x3, .int x4, .int x5] : List Value).toArray 8 by rw [hargs]]
  have hl := lv_entry ([.ref (ad 11), .int x1, .int x2, .int x3, .int x4, .int x5]) (n := 8) (Nat.le_of_ble_eq_true rfl)
  rw [lg_entry_eq]
  generalize (lg_sl ([.ref (ad 11), .int x1, .int x2, .int x3, .int x4, .int x5]) ++ List.replicate (8 - (lg_sl ([.ref (ad 11), .int x1, .int x2, .int x3, .int x4, .int x5])).length) Slot.unset).toArray = ls at hl ⊢
  have hl : lv_has ls 8 [(0, .ref (ad 11)), (1, .int x1), (2, .int x2), (3, .int x3), (4, .int x4), (5, .int x5)] := hl
  obtain ⟨Q, hQ⟩ : ∃ Q : State → Prop, Q = MQ below (va_Qv (fun (u : SM) => u = res) (ax_B dC dI 12 (cM cyI ad) ad) (ax_A 12 ad s.heap.size)) args s 0 0 (ax_A 12 ad s.heap.size) := ⟨_, rfl⟩
  show W p l e rm_X8_feed s m args below meth c s.heap [] 0 0 _ _
  rw [← hQ]
  have hret : ∀ (σ : SM) (H : Heap) (locs : List Loc) (ls : Array Slot) (pc : Nat), some σ = some res → va_P (dC, dI) vwCl (ax_w 12 ad (cM cyI ad σ)) H → va_S (ax_A 12 ad s.heap.size) s.heap H locs → decode cX8_feed pc = .ok (.return_, 1) → W p l e rm_X8_feed s m args below meth c H locs 0 0 Q (F0 m pc ls []) := by
    intro σ H locs ls pc hf hP hS hd
    cases hf
    rw [hQ]
    exact ax_vret hx hb hr hlocks hP hS hd rfl
  have L61 : ∀ (k8 : SM → Int32 → Option (SM)), (∀ (σ : SM) (x6 : Int32), ∀ (H : Heap) (locs : List Loc) (ls : Array Slot), va_P (dC, dI) vwCl (ax_w 12 ad (cM cyI ad σ)) H → va_S (ax_A 12 ad s.heap.size) s.heap H locs → lv_has ls 8 [(0, .ref (ad 11)), (1, .int x1), (2, .int x2), (3, .int x3), (4, .int x4), (5, .int x5), (6, .int x6)] → k8 σ x6 = some res → W p l e rm_X8_feed s m args below meth c H locs 0 0 Q (F0 m 8 ls [])) → ∀ (σ : SM) (x6 : Int32) (s0 : Int32), ∀ (H : Heap) (locs : List Loc) (ls : Array Slot), va_P (dC, dI) vwCl (ax_w 12 ad (cM cyI ad σ)) H → va_S (ax_A 12 ad s.heap.size) s.heap H locs → lv_has ls 8 [(0, .ref (ad 11)), (1, .int x1), (2, .int x2), (3, .int x3), (4, .int x4), (5, .int x5), (6, .int x6)] → f_X8_feed_61 x1 x2 x3 x4 x5 k8 σ x6 s0 = some res → W p l e rm_X8_feed s m args below meth c H locs 0 0 Q (F0 m 61 ls [.int s0]) := by
    intro k8 hk8
    intro σ x6 s0  H locs ls hP hS hl hf
    unfold f_X8_feed_61 at hf
    refine lv_istore (lv' := [(7, .int s0), (0, .ref (ad 11)), (1, .int x1), (2, .int x2), (3, .int x3), (4, .int x4), (5, .int x5), (6, .int x6)]) hx hb dX8_feed_61 hl (by decide) rfl (fun ls hl => ?_)
    refine lv_aload_n hx hb dX8_feed_63 rfl (lv_at hl 1 rfl) ?_
    refine g_Model_ready C0 hT hE hP mf_X8_7 dX8_feed_64 ?_
    refine lv_iload hx hb dX8_feed_67 (lv_at hl 7 rfl) ?_
    refine lv_iload hx hb dX8_feed_69 (lv_at hl 0 rfl) ?_
    refine lv_bipush (v := 24) hx hb dX8_feed_71 (by decide) ?_
    refine lv_bipush (v := 8) hx hb dX8_feed_73 (by decide) ?_
    refine lv_iload hx hb dX8_feed_75 (lv_at hl 7 rfl) ?_
    refine lv_iconst (v := 4) hx hb dX8_feed_77 (by decide) ?_
    refine lv_irem hx hb dX8_feed_78 (by decide) ?_
    refine lv_imul hx hb dX8_feed_79 ?_
    refine lv_isub hx hb dX8_feed_80 ?_
    refine lv_ishr hx hb dX8_feed_81 ?_
    refine lv_sipush (v := 255) hx hb dX8_feed_82 (by decide) ?_
    refine lv_iand hx hb dX8_feed_85 ?_
    obtain ⟨hin, hf⟩ := ob_if hf
    refine aM_st (a := 0) (by decide) C0 hT hE hJ hP hS (inb_in hin) dX8_feed_86 (fun H locs hP hS => ?_)
    refine lv_iinc (v := x6 + 1) (lv' := [(6, .int (x6 + 1)), (7, .int s0), (0, .ref (ad 11)), (1, .int x1), (2, .int x2), (3, .int x3), (4, .int x4), (5, .int x5)]) hx hb dX8_feed_87 hl (k := 7) rfl rfl (by decide) rfl (fun ls hl => ?_)
    refine lv_goto (tgt := 8) hx hb dX8_feed_90 (by decide) ?_
    exact hk8 _ _ _ _ _ hP hS (lv_sub hl [2, 3, 4, 5, 6, 7, 0] rfl) hf
  have L8 : ∀ (n : Nat), ∀ (σ : SM) (x6 : Int32), ∀ (H : Heap) (locs : List Loc) (ls : Array Slot), va_P (dC, dI) vwCl (ax_w 12 ad (cM cyI ad σ)) H → va_S (ax_A 12 ad s.heap.size) s.heap H locs → lv_has ls 8 [(0, .ref (ad 11)), (1, .int x1), (2, .int x2), (3, .int x3), (4, .int x4), (5, .int x5), (6, .int x6)] → f_X8_feed_8 x1 x2 x3 x4 x5 n σ x6 = some res → W p l e rm_X8_feed s m args below meth c H locs 0 0 Q (F0 m 8 ls []) := by
    intro n
    induction n with
    | zero =>
      intro σ x6  H locs ls hP hS hl hf
      cases hf
    | succ n ih =>
      intro σ x6  H locs ls hP hS hl hf
      rw [f_X8_feed_8] at hf
      refine lv_iload hx hb dX8_feed_8 (lv_at hl 6 rfl) ?_
      refine lv_bipush (v := 20) hx hb dX8_feed_10 (by decide) ?_
      refine lv_icmp_ge (tgt := 93) hx hb dX8_feed_12 (by decide) (fun h12 => ?_) (fun h12 => ?_)
      · rw [if_pos h12] at hf
        exact hret _ _ _ _ _ hf hP hS dX8_feed_93
      · rw [if_neg h12] at hf
        refine lv_iload hx hb dX8_feed_15 (lv_at hl 6 rfl) ?_
        refine lv_iconst (v := 4) hx hb dX8_feed_17 (by decide) ?_
        refine lv_icmp_ge (tgt := 25) hx hb dX8_feed_18 (by decide) (fun h18 => ?_) (fun h18 => ?_)
        · rw [if_pos h18] at hf
          refine lv_iload hx hb dX8_feed_25 (lv_at hl 6 rfl) ?_
          refine lv_bipush (v := 8) hx hb dX8_feed_27 (by decide) ?_
          refine lv_icmp_ge (tgt := 36) hx hb dX8_feed_29 (by decide) (fun h29 => ?_) (fun h29 => ?_)
          · rw [if_pos h29] at hf
            refine lv_iload hx hb dX8_feed_36 (lv_at hl 6 rfl) ?_
            refine lv_bipush (v := 12) hx hb dX8_feed_38 (by decide) ?_
            refine lv_icmp_ge (tgt := 47) hx hb dX8_feed_40 (by decide) (fun h40 => ?_) (fun h40 => ?_)
            · rw [if_pos h40] at hf
              refine lv_iload hx hb dX8_feed_47 (lv_at hl 6 rfl) ?_
              refine lv_bipush (v := 16) hx hb dX8_feed_49 (by decide) ?_
              refine lv_icmp_ge (tgt := 59) hx hb dX8_feed_51 (by decide) (fun h51 => ?_) (fun h51 => ?_)
              · rw [if_pos h51] at hf
                refine lv_iload hx hb dX8_feed_59 (lv_at hl 5 rfl) ?_
                exact L61 _ ih _ _ _ _ _ _ hP hS (lv_sub hl [0, 1, 2, 3, 4, 5, 6] rfl) hf
              · rw [if_neg h51] at hf
                refine lv_iload hx hb dX8_feed_54 (lv_at hl 4 rfl) ?_
                refine lv_goto (tgt := 61) hx hb dX8_feed_56 (by decide) ?_
                exact L61 _ ih _ _ _ _ _ _ hP hS (lv_sub hl [0, 1, 2, 3, 4, 5, 6] rfl) hf
            · rw [if_neg h40] at hf
              refine lv_iload_n hx hb dX8_feed_43 rfl (lv_at hl 3 rfl) ?_
              refine lv_goto (tgt := 61) hx hb dX8_feed_44 (by decide) ?_
              exact L61 _ ih _ _ _ _ _ _ hP hS (lv_sub hl [0, 1, 2, 3, 4, 5, 6] rfl) hf
          · rw [if_neg h29] at hf
            refine lv_iload_n hx hb dX8_feed_32 rfl (lv_at hl 2 rfl) ?_
            refine lv_goto (tgt := 61) hx hb dX8_feed_33 (by decide) ?_
            exact L61 _ ih _ _ _ _ _ _ hP hS (lv_sub hl [0, 1, 2, 3, 4, 5, 6] rfl) hf
        · rw [if_neg h18] at hf
          refine lv_iload_n hx hb dX8_feed_21 rfl (lv_at hl 1 rfl) ?_
          refine lv_goto (tgt := 61) hx hb dX8_feed_22 (by decide) ?_
          exact L61 _ ih _ _ _ _ _ _ hP hS (lv_sub hl [0, 1, 2, 3, 4, 5, 6] rfl) hf
  unfold f_X8_feed at hf
  refine lv_aload_n hx hb dX8_feed_0 rfl (lv_at hl 0 rfl) ?_
  refine lv_iconst (v := 0) hx hb dX8_feed_1 (by decide) ?_
  refine p_Model_thrown C0 hT hE hJ hP hS mf_X8_50 dX8_feed_2 (fun H locs hP hS => ?_)
  refine lv_iconst (v := 0) hx hb dX8_feed_5 (by decide) ?_
  refine lv_istore (lv' := [(6, .int 0), (0, .ref (ad 11)), (1, .int x1), (2, .int x2), (3, .int x3), (4, .int x4), (5, .int x5)]) hx hb dX8_feed_6 hl (by decide) rfl (fun ls hl => ?_)
  exact L8 fu _ _ _ _ _ hP hS (lv_sub hl [1, 2, 3, 4, 5, 6, 0] rfl) hf
def f_X8_end_52 (x1 : Int32) (x2 : Int32) (k44 : SM → Int32 → Option (Int32 × SM)) : Nat → SM → Int32 → Int32 → Option (Int32 × SM)
  | 0, _, _, _ => none
  | n + 1, σ, x3, x4 => if x1 ≤ x4 then (k44 (SMi σ 1 ((σ.1 1) + x1)) (x3 + 1)) else (if inb x4 (capM 0) = true then (if inb ((σ.1 1) + x4) (capM 1) = true then (f_X8_end_52 x1 x2 k44 n (SMc σ 1 (upd (σ.2 1) ((σ.1 1) + x4).toNatClampNeg (σ.2 0 x4.toNatClampNeg))) x3 (x4 + 1)) else none) else none)
def f_X8_end_101 (x1 : Int32) (x2 : Int32) : Nat → SM → Int32 → Option (Int32 × SM)
  | 0, _, _ => none
  | n + 1, σ, x3 => if (20 : Int32) ≤ x3 then (some (σ.1 1, σ)) else (if inb x3 (capM 0) = true then (f_X8_end_101 x1 x2 n (SMc σ 0 (upd (σ.2 0) x3.toNatClampNeg 0)) (x3 + 1)) else none)
def f_X8_end_44 (x1 : Int32) (x2 : Int32) : Nat → SM → Int32 → Option (Int32 × SM)
  | 0, _, _ => none
  | n + 1, σ, x3 => if x2 ≤ x3 then (f_X8_end_101 x1 x2 fu σ 0) else (f_X8_end_52 x1 x2 (f_X8_end_44 x1 x2 n) fu σ x3 0)
def f_X8_end (σ : SM) (x1 : Int32) (x2 : Int32) : Option (Int32 × SM) := if x1 < 0 then (some ((-1), (SMi σ 0 0))) else (if (20 : Int32) < x1 then (some ((-1), (SMi σ 0 0))) else (if x2 < 1 then (some ((-1), (SMi σ 0 0))) else (if (100 : Int32) < x2 then (some ((-1), (SMi σ 0 0))) else (if (((SMi σ 0 0).1 1) + (x1 * x2)) ≤ 9000 then (f_X8_end_44 x1 x2 fu (SMi σ 0 0) 0) else (some ((-1), (SMi σ 0 0)))))))
def rm_X8_end : Room := { frames := 0, cells := 0, slots := 0, locals := 0 }
set_option maxHeartbeats 4000000 in
set_option maxRecDepth 100000 in
theorem met_X8_end (l : Launch) (dC : Nat → ClassId) (dI : Nat → Nat → Nat) (cyI cyE : ClassId) (tC : Nat) (ad : Nat → Nat) (σ : SM) (x1 : Int32) (x2 : Int32) (res : Int32 × SM) (hf : f_X8_end σ x1 x2 = some res) : ax_Mi l dC dI cyI cyE tC 12 (cM cyI ad) ad yX8_end cX8_end 5 (some .int) rm_X8_end [.ref (ad 11), .int x1, .int x2] σ res.1 res.2 := by
  intro sz
  refine Met.ofW (cc := cX8_end) (maxL := 5) (ret := (some .int)) (by decide) rfl ?_
  intro p e s m args below meth c s₁ B hml hv
  obtain ⟨hargs, hsz, hP, hJ, hE⟩ := hv
  subst hsz
  have hx := B.exec
  have hb := B.bytes
  have hr := B.returns
  have hlocks := B.notSynchronized
  have hts := atoms_spec (ws := wsY yX8_end cX8_end 5 (some .int)) B.pre
  have hown : s.vm.findClass RX8 = some m.cls := findClass_of_methodNamed B.named
  have C0 : CallFix p m c cX8_end 5 s args (wsY yX8_end cX8_end 5 (some .int)) RX8 := ⟨hx, hb, hml, hown, hts⟩
  have hT : ∀ w ∈ bw, w ∈ wsY yX8_end cX8_end 5 (some .int) := fun w h => List.mem_cons_of_mem _ h
  have hS : va_S (ax_A 12 ad s.heap.size) s.heap s.heap [] := va_S.rf
  rw [show entryFrame m args 5 = entryFrame m ([.ref (ad 11), .int x1, .int x2] : List Value).toArray 5 by rw [hargs]]
  have hl := lv_entry ([.ref (ad 11), .int x1, .int x2]) (n := 5) (Nat.le_of_ble_eq_true rfl)
  rw [lg_entry_eq]
  generalize (lg_sl ([.ref (ad 11), .int x1, .int x2]) ++ List.replicate (5 - (lg_sl ([.ref (ad 11), .int x1, .int x2])).length) Slot.unset).toArray = ls at hl ⊢
  have hl : lv_has ls 5 [(0, .ref (ad 11)), (1, .int x1), (2, .int x2)] := hl
  obtain ⟨Q, hQ⟩ : ∃ Q : State → Prop, Q = MQ below (va_Qi (fun (a : Int32) (u : SM) => a = res.1 ∧ u = res.2) (ax_B dC dI 12 (cM cyI ad) ad) (ax_A 12 ad s.heap.size)) args s 0 0 (ax_A 12 ad s.heap.size) := ⟨_, rfl⟩
  show W p l e rm_X8_end s m args below meth c s.heap [] 0 0 _ _
  rw [← hQ]
  have hret : ∀ (v : Int32) (σ : SM) (H : Heap) (locs : List Loc) (ls : Array Slot) (pc : Nat), narrow .int (.int v) = .int v → some (v, σ) = some res → va_P (dC, dI) vwCl (ax_w 12 ad (cM cyI ad σ)) H → va_S (ax_A 12 ad s.heap.size) s.heap H locs → decode cX8_end pc = .ok (.ireturn, 1) → W p l e rm_X8_end s m args below meth c H locs 0 0 Q (F0 m pc ls [.int v]) := by
    intro v σ H locs ls pc hn hf hP hS hd
    cases hf
    rw [hQ]
    exact ax_iret hx hb hr hlocks hn hP hS hd rfl rfl
  have L52 : ∀ (k44 : SM → Int32 → Option (Int32 × SM)), (∀ (σ : SM) (x3 : Int32), ∀ (H : Heap) (locs : List Loc) (ls : Array Slot), va_P (dC, dI) vwCl (ax_w 12 ad (cM cyI ad σ)) H → va_S (ax_A 12 ad s.heap.size) s.heap H locs → lv_has ls 5 [(0, .ref (ad 11)), (1, .int x1), (2, .int x2), (3, .int x3)] → k44 σ x3 = some res → W p l e rm_X8_end s m args below meth c H locs 0 0 Q (F0 m 44 ls [])) → ∀ (n : Nat), ∀ (σ : SM) (x3 : Int32) (x4 : Int32), ∀ (H : Heap) (locs : List Loc) (ls : Array Slot), va_P (dC, dI) vwCl (ax_w 12 ad (cM cyI ad σ)) H → va_S (ax_A 12 ad s.heap.size) s.heap H locs → lv_has ls 5 [(0, .ref (ad 11)), (1, .int x1), (2, .int x2), (3, .int x3), (4, .int x4)] → f_X8_end_52 x1 x2 k44 n σ x3 x4 = some res → W p l e rm_X8_end s m args below meth c H locs 0 0 Q (F0 m 52 ls []) := by
    intro k44 hk44
    intro n
    induction n with
    | zero =>
      intro σ x3 x4  H locs ls hP hS hl hf
      cases hf
    | succ n ih =>
      intro σ x3 x4  H locs ls hP hS hl hf
      rw [f_X8_end_52] at hf
      refine lv_iload hx hb dX8_end_52 (lv_at hl 4 rfl) ?_
      refine lv_iload_n hx hb dX8_end_54 rfl (lv_at hl 1 rfl) ?_
      refine lv_icmp_ge (tgt := 83) hx hb dX8_end_55 (by decide) (fun h55 => ?_) (fun h55 => ?_)
      · rw [if_pos h55] at hf
        refine lv_aload_n hx hb dX8_end_83 rfl (lv_at hl 0 rfl) ?_
        refine lv_dup hx hb dX8_end_84 rfl ?_
        refine g_Model_size C0 hT hE hP mf_X8_53 dX8_end_85 ?_
        refine lv_iload_n hx hb dX8_end_88 rfl (lv_at hl 1 rfl) ?_
        refine lv_iadd hx hb dX8_end_89 ?_
        refine p_Model_size C0 hT hE hJ hP hS mf_X8_53 dX8_end_90 (fun H locs hP hS => ?_)
        refine lv_iinc (v := x3 + 1) (lv' := [(3, .int (x3 + 1)), (0, .ref (ad 11)), (1, .int x1), (2, .int x2), (4, .int x4)]) hx hb dX8_end_93 hl (k := 3) rfl rfl (by decide) rfl (fun ls hl => ?_)
        refine lv_goto (tgt := 44) hx hb dX8_end_96 (by decide) ?_
        exact hk44 _ _ _ _ _ hP hS (lv_sub hl [1, 2, 3, 0] rfl) hf
      · rw [if_neg h55] at hf
        refine lv_aload_n hx hb dX8_end_58 rfl (lv_at hl 0 rfl) ?_
        refine g_Model_tape C0 hT hE hP mf_X8_13 dX8_end_59 ?_
        refine lv_aload_n hx hb dX8_end_62 rfl (lv_at hl 0 rfl) ?_
        refine g_Model_size C0 hT hE hP mf_X8_53 dX8_end_63 ?_
        refine lv_iload hx hb dX8_end_66 (lv_at hl 4 rfl) ?_
        refine lv_iadd hx hb dX8_end_68 ?_
        refine lv_aload_n hx hb dX8_end_69 rfl (lv_at hl 0 rfl) ?_
        refine g_Model_ready C0 hT hE hP mf_X8_7 dX8_end_70 ?_
        refine lv_iload hx hb dX8_end_73 (lv_at hl 4 rfl) ?_
        obtain ⟨hin, hf⟩ := ob_if hf
        refine aM_ld (a := 0) (by decide) C0 hT hE hP (inb_in hin) dX8_end_75 ?_
        obtain ⟨hin, hf⟩ := ob_if hf
        refine aM_st (a := 1) (by decide) C0 hT hE hJ hP hS (inb_in hin) dX8_end_76 (fun H locs hP hS => ?_)
        refine lv_iinc (v := x4 + 1) (lv' := [(4, .int (x4 + 1)), (0, .ref (ad 11)), (1, .int x1), (2, .int x2), (3, .int x3)]) hx hb dX8_end_77 hl (k := 4) rfl rfl (by decide) rfl (fun ls hl => ?_)
        refine lv_goto (tgt := 52) hx hb dX8_end_80 (by decide) ?_
        exact ih _ _ _ _ _ _ hP hS (lv_sub hl [1, 2, 3, 4, 0] rfl) hf
  have L101 : ∀ (n : Nat), ∀ (σ : SM) (x3 : Int32), ∀ (H : Heap) (locs : List Loc) (ls : Array Slot), va_P (dC, dI) vwCl (ax_w 12 ad (cM cyI ad σ)) H → va_S (ax_A 12 ad s.heap.size) s.heap H locs → lv_has ls 5 [(0, .ref (ad 11)), (3, .int x3)] → f_X8_end_101 x1 x2 n σ x3 = some res → W p l e rm_X8_end s m args below meth c H locs 0 0 Q (F0 m 101 ls []) := by
    intro n
    induction n with
    | zero =>
      intro σ x3  H locs ls hP hS hl hf
      cases hf
    | succ n ih =>
      intro σ x3  H locs ls hP hS hl hf
      rw [f_X8_end_101] at hf
      refine lv_iload_n hx hb dX8_end_101 rfl (lv_at hl 1 rfl) ?_
      refine lv_bipush (v := 20) hx hb dX8_end_102 (by decide) ?_
      refine lv_icmp_ge (tgt := 120) hx hb dX8_end_104 (by decide) (fun h104 => ?_) (fun h104 => ?_)
      · rw [if_pos h104] at hf
        refine lv_aload_n hx hb dX8_end_120 rfl (lv_at hl 0 rfl) ?_
        refine g_Model_size C0 hT hE hP mf_X8_53 dX8_end_121 ?_
        exact hret _ _ _ _ _ _ rfl hf hP hS dX8_end_124
      · rw [if_neg h104] at hf
        refine lv_aload_n hx hb dX8_end_107 rfl (lv_at hl 0 rfl) ?_
        refine g_Model_ready C0 hT hE hP mf_X8_7 dX8_end_108 ?_
        refine lv_iload_n hx hb dX8_end_111 rfl (lv_at hl 1 rfl) ?_
        refine lv_iconst (v := 0) hx hb dX8_end_112 (by decide) ?_
        obtain ⟨hin, hf⟩ := ob_if hf
        refine aM_st (a := 0) (by decide) C0 hT hE hJ hP hS (inb_in hin) dX8_end_113 (fun H locs hP hS => ?_)
        refine lv_iinc (v := x3 + 1) (lv' := [(3, .int (x3 + 1)), (0, .ref (ad 11))]) hx hb dX8_end_114 hl (k := 1) rfl rfl (by decide) rfl (fun ls hl => ?_)
        refine lv_goto (tgt := 101) hx hb dX8_end_117 (by decide) ?_
        exact ih _ _ _ _ _ hP hS (lv_sub hl [1, 0] rfl) hf
  have L44 : ∀ (n : Nat), ∀ (σ : SM) (x3 : Int32), ∀ (H : Heap) (locs : List Loc) (ls : Array Slot), va_P (dC, dI) vwCl (ax_w 12 ad (cM cyI ad σ)) H → va_S (ax_A 12 ad s.heap.size) s.heap H locs → lv_has ls 5 [(0, .ref (ad 11)), (1, .int x1), (2, .int x2), (3, .int x3)] → f_X8_end_44 x1 x2 n σ x3 = some res → W p l e rm_X8_end s m args below meth c H locs 0 0 Q (F0 m 44 ls []) := by
    intro n
    induction n with
    | zero =>
      intro σ x3  H locs ls hP hS hl hf
      cases hf
    | succ n ih =>
      intro σ x3  H locs ls hP hS hl hf
      rw [f_X8_end_44] at hf
      refine lv_iload_n hx hb dX8_end_44 rfl (lv_at hl 3 rfl) ?_
      refine lv_iload_n hx hb dX8_end_45 rfl (lv_at hl 2 rfl) ?_
      refine lv_icmp_ge (tgt := 99) hx hb dX8_end_46 (by decide) (fun h46 => ?_) (fun h46 => ?_)
      · rw [if_pos h46] at hf
        refine lv_iconst (v := 0) hx hb dX8_end_99 (by decide) ?_
        refine lv_istore_n (lv' := [(3, .int 0), (0, .ref (ad 11)), (1, .int x1), (2, .int x2)]) hx hb dX8_end_100 rfl hl (by decide) rfl (fun ls hl => ?_)
        exact L101 fu _ _ _ _ _ hP hS (lv_sub hl [1, 0] rfl) hf
      · rw [if_neg h46] at hf
        refine lv_iconst (v := 0) hx hb dX8_end_49 (by decide) ?_
        refine lv_istore (lv' := [(4, .int 0), (0, .ref (ad 11)), (1, .int x1), (2, .int x2), (3, .int x3)]) hx hb dX8_end_50 hl (by decide) rfl (fun ls hl => ?_)
        exact L52 _ ih fu _ _ _ _ _ _ hP hS (lv_sub hl [1, 2, 3, 4, 0] rfl) hf
  unfold f_X8_end at hf
  refine lv_aload_n hx hb dX8_end_0 rfl (lv_at hl 0 rfl) ?_
  refine lv_iconst (v := 0) hx hb dX8_end_1 (by decide) ?_
  refine p_Model_thrown C0 hT hE hJ hP hS mf_X8_50 dX8_end_2 (fun H locs hP hS => ?_)
  refine lv_iload_n hx hb dX8_end_5 rfl (lv_at hl 1 rfl) ?_
  refine lv_if_lt (tgt := 40) hx hb dX8_end_6 (by decide) (fun h6 => ?_) (fun h6 => ?_)
  · rw [if_pos h6] at hf
    refine lv_iconst (v := (-1)) hx hb dX8_end_40 (by decide) ?_
    exact hret _ _ _ _ _ _ rfl hf hP hS dX8_end_41
  · rw [if_neg h6] at hf
    refine lv_iload_n hx hb dX8_end_9 rfl (lv_at hl 1 rfl) ?_
    refine lv_bipush (v := 20) hx hb dX8_end_10 (by decide) ?_
    refine lv_icmp_gt (tgt := 40) hx hb dX8_end_12 (by decide) (fun h12 => ?_) (fun h12 => ?_)
    · rw [if_pos h12] at hf
      refine lv_iconst (v := (-1)) hx hb dX8_end_40 (by decide) ?_
      exact hret _ _ _ _ _ _ rfl hf hP hS dX8_end_41
    · rw [if_neg h12] at hf
      refine lv_iload_n hx hb dX8_end_15 rfl (lv_at hl 2 rfl) ?_
      refine lv_iconst (v := 1) hx hb dX8_end_16 (by decide) ?_
      refine lv_icmp_lt (tgt := 40) hx hb dX8_end_17 (by decide) (fun h17 => ?_) (fun h17 => ?_)
      · rw [if_pos h17] at hf
        refine lv_iconst (v := (-1)) hx hb dX8_end_40 (by decide) ?_
        exact hret _ _ _ _ _ _ rfl hf hP hS dX8_end_41
      · rw [if_neg h17] at hf
        refine lv_iload_n hx hb dX8_end_20 rfl (lv_at hl 2 rfl) ?_
        refine lv_bipush (v := 100) hx hb dX8_end_21 (by decide) ?_
        refine lv_icmp_gt (tgt := 40) hx hb dX8_end_23 (by decide) (fun h23 => ?_) (fun h23 => ?_)
        · rw [if_pos h23] at hf
          refine lv_iconst (v := (-1)) hx hb dX8_end_40 (by decide) ?_
          exact hret _ _ _ _ _ _ rfl hf hP hS dX8_end_41
        · rw [if_neg h23] at hf
          refine lv_aload_n hx hb dX8_end_26 rfl (lv_at hl 0 rfl) ?_
          refine g_Model_size C0 hT hE hP mf_X8_53 dX8_end_27 ?_
          refine lv_iload_n hx hb dX8_end_30 rfl (lv_at hl 1 rfl) ?_
          refine lv_iload_n hx hb dX8_end_31 rfl (lv_at hl 2 rfl) ?_
          refine lv_imul hx hb dX8_end_32 ?_
          refine lv_iadd hx hb dX8_end_33 ?_
          refine lv_sipush (v := 9000) hx hb dX8_end_34 (by decide) ?_
          refine lv_icmp_le (tgt := 42) hx hb dX8_end_37 (by decide) (fun h37 => ?_) (fun h37 => ?_)
          · rw [if_pos h37] at hf
            refine lv_iconst (v := 0) hx hb dX8_end_42 (by decide) ?_
            refine lv_istore_n (lv' := [(3, .int 0), (0, .ref (ad 11)), (1, .int x1), (2, .int x2)]) hx hb dX8_end_43 rfl hl (by decide) rfl (fun ls hl => ?_)
            exact L44 fu _ _ _ _ _ hP hS (lv_sub hl [1, 2, 3, 0] rfl) hf
          · rw [if_neg h37] at hf
            refine lv_iconst (v := (-1)) hx hb dX8_end_40 (by decide) ?_
            exact hret _ _ _ _ _ _ rfl hf hP hS dX8_end_41
def f_X8_cut (σ : SM) (x1 : Int32) : Option (Int32 × SM) := if x1 < 0 then (some (0, (SMi σ 0 0))) else (if x1 ≤ ((SMi σ 0 0).1 1) then (some (1, (SMi (SMi σ 0 0) 1 x1))) else (some (0, (SMi σ 0 0))))
def rm_X8_cut : Room := { frames := 0, cells := 0, slots := 0, locals := 0 }
set_option maxHeartbeats 4000000 in
set_option maxRecDepth 100000 in
theorem met_X8_cut (l : Launch) (dC : Nat → ClassId) (dI : Nat → Nat → Nat) (cyI cyE : ClassId) (tC : Nat) (ad : Nat → Nat) (σ : SM) (x1 : Int32) (res : Int32 × SM) (hf : f_X8_cut σ x1 = some res) : ax_Mi l dC dI cyI cyE tC 12 (cM cyI ad) ad yX8_cut cX8_cut 2 (some .boolean) rm_X8_cut [.ref (ad 11), .int x1] σ res.1 res.2 := by
  intro sz
  refine Met.ofW (cc := cX8_cut) (maxL := 2) (ret := (some .boolean)) (by decide) rfl ?_
  intro p e s m args below meth c s₁ B hml hv
  obtain ⟨hargs, hsz, hP, hJ, hE⟩ := hv
  subst hsz
  have hx := B.exec
  have hb := B.bytes
  have hr := B.returns
  have hlocks := B.notSynchronized
  have hts := atoms_spec (ws := wsY yX8_cut cX8_cut 2 (some .boolean)) B.pre
  have hown : s.vm.findClass RX8 = some m.cls := findClass_of_methodNamed B.named
  have C0 : CallFix p m c cX8_cut 2 s args (wsY yX8_cut cX8_cut 2 (some .boolean)) RX8 := ⟨hx, hb, hml, hown, hts⟩
  have hT : ∀ w ∈ bw, w ∈ wsY yX8_cut cX8_cut 2 (some .boolean) := fun w h => List.mem_cons_of_mem _ h
  have hS : va_S (ax_A 12 ad s.heap.size) s.heap s.heap [] := va_S.rf
  rw [show entryFrame m args 2 = entryFrame m ([.ref (ad 11), .int x1] : List Value).toArray 2 by rw [hargs]]
  have hl := lv_entry ([.ref (ad 11), .int x1]) (n := 2) (Nat.le_of_ble_eq_true rfl)
  rw [lg_entry_eq]
  generalize (lg_sl ([.ref (ad 11), .int x1]) ++ List.replicate (2 - (lg_sl ([.ref (ad 11), .int x1])).length) Slot.unset).toArray = ls at hl ⊢
  have hl : lv_has ls 2 [(0, .ref (ad 11)), (1, .int x1)] := hl
  obtain ⟨Q, hQ⟩ : ∃ Q : State → Prop, Q = MQ below (va_Qi (fun (a : Int32) (u : SM) => a = res.1 ∧ u = res.2) (ax_B dC dI 12 (cM cyI ad) ad) (ax_A 12 ad s.heap.size)) args s 0 0 (ax_A 12 ad s.heap.size) := ⟨_, rfl⟩
  show W p l e rm_X8_cut s m args below meth c s.heap [] 0 0 _ _
  rw [← hQ]
  have hret : ∀ (v : Int32) (σ : SM) (H : Heap) (locs : List Loc) (ls : Array Slot) (pc : Nat), narrow .boolean (.int v) = .int v → some (v, σ) = some res → va_P (dC, dI) vwCl (ax_w 12 ad (cM cyI ad σ)) H → va_S (ax_A 12 ad s.heap.size) s.heap H locs → decode cX8_cut pc = .ok (.ireturn, 1) → W p l e rm_X8_cut s m args below meth c H locs 0 0 Q (F0 m pc ls [.int v]) := by
    intro v σ H locs ls pc hn hf hP hS hd
    cases hf
    rw [hQ]
    exact ax_iret hx hb hr hlocks hn hP hS hd rfl rfl
  unfold f_X8_cut at hf
  refine lv_aload_n hx hb dX8_cut_0 rfl (lv_at hl 0 rfl) ?_
  refine lv_iconst (v := 0) hx hb dX8_cut_1 (by decide) ?_
  refine p_Model_thrown C0 hT hE hJ hP hS mf_X8_50 dX8_cut_2 (fun H locs hP hS => ?_)
  refine lv_iload_n hx hb dX8_cut_5 rfl (lv_at hl 1 rfl) ?_
  refine lv_if_lt (tgt := 17) hx hb dX8_cut_6 (by decide) (fun h6 => ?_) (fun h6 => ?_)
  · rw [if_pos h6] at hf
    refine lv_iconst (v := 0) hx hb dX8_cut_17 (by decide) ?_
    exact hret _ _ _ _ _ _ rfl hf hP hS dX8_cut_18
  · rw [if_neg h6] at hf
    refine lv_iload_n hx hb dX8_cut_9 rfl (lv_at hl 1 rfl) ?_
    refine lv_aload_n hx hb dX8_cut_10 rfl (lv_at hl 0 rfl) ?_
    refine g_Model_size C0 hT hE hP mf_X8_53 dX8_cut_11 ?_
    refine lv_icmp_le (tgt := 19) hx hb dX8_cut_14 (by decide) (fun h14 => ?_) (fun h14 => ?_)
    · rw [if_pos h14] at hf
      refine lv_aload_n hx hb dX8_cut_19 rfl (lv_at hl 0 rfl) ?_
      refine lv_iload_n hx hb dX8_cut_20 rfl (lv_at hl 1 rfl) ?_
      refine p_Model_size C0 hT hE hJ hP hS mf_X8_53 dX8_cut_21 (fun H locs hP hS => ?_)
      refine lv_iconst (v := 1) hx hb dX8_cut_24 (by decide) ?_
      exact hret _ _ _ _ _ _ rfl hf hP hS dX8_cut_25
    · rw [if_neg h14] at hf
      refine lv_iconst (v := 0) hx hb dX8_cut_17 (by decide) ?_
      exact hret _ _ _ _ _ _ rfl hf hP hS dX8_cut_18
def f_X8_drop_21 (x1 : Int32) : Nat → SM → Int32 → Option (Int32 × SM)
  | 0, _, _ => none
  | n + 1, σ, x2 => if (σ.1 1) ≤ x2 then (some (1, (SMi σ 1 ((σ.1 1) - x1)))) else (if inb x2 (capM 1) = true then (if inb (x2 - x1) (capM 1) = true then (f_X8_drop_21 x1 n (SMc σ 1 (upd (σ.2 1) (x2 - x1).toNatClampNeg (σ.2 1 x2.toNatClampNeg))) (x2 + 1)) else none) else none)
def f_X8_drop (σ : SM) (x1 : Int32) : Option (Int32 × SM) := if x1 < 0 then (some (0, (SMi σ 0 0))) else (if x1 ≤ ((SMi σ 0 0).1 1) then (f_X8_drop_21 x1 fu (SMi σ 0 0) x1) else (some (0, (SMi σ 0 0))))
def rm_X8_drop : Room := { frames := 0, cells := 0, slots := 0, locals := 0 }
set_option maxHeartbeats 4000000 in
set_option maxRecDepth 100000 in
theorem met_X8_drop (l : Launch) (dC : Nat → ClassId) (dI : Nat → Nat → Nat) (cyI cyE : ClassId) (tC : Nat) (ad : Nat → Nat) (σ : SM) (x1 : Int32) (res : Int32 × SM) (hf : f_X8_drop σ x1 = some res) : ax_Mi l dC dI cyI cyE tC 12 (cM cyI ad) ad yX8_drop cX8_drop 3 (some .boolean) rm_X8_drop [.ref (ad 11), .int x1] σ res.1 res.2 := by
  intro sz
  refine Met.ofW (cc := cX8_drop) (maxL := 3) (ret := (some .boolean)) (by decide) rfl ?_
  intro p e s m args below meth c s₁ B hml hv
  obtain ⟨hargs, hsz, hP, hJ, hE⟩ := hv
  subst hsz
  have hx := B.exec
  have hb := B.bytes
  have hr := B.returns
  have hlocks := B.notSynchronized
  have hts := atoms_spec (ws := wsY yX8_drop cX8_drop 3 (some .boolean)) B.pre
  have hown : s.vm.findClass RX8 = some m.cls := findClass_of_methodNamed B.named
  have C0 : CallFix p m c cX8_drop 3 s args (wsY yX8_drop cX8_drop 3 (some .boolean)) RX8 := ⟨hx, hb, hml, hown, hts⟩
  have hT : ∀ w ∈ bw, w ∈ wsY yX8_drop cX8_drop 3 (some .boolean) := fun w h => List.mem_cons_of_mem _ h
  have hS : va_S (ax_A 12 ad s.heap.size) s.heap s.heap [] := va_S.rf
  rw [show entryFrame m args 3 = entryFrame m ([.ref (ad 11), .int x1] : List Value).toArray 3 by rw [hargs]]
  have hl := lv_entry ([.ref (ad 11), .int x1]) (n := 3) (Nat.le_of_ble_eq_true rfl)
  rw [lg_entry_eq]
  generalize (lg_sl ([.ref (ad 11), .int x1]) ++ List.replicate (3 - (lg_sl ([.ref (ad 11), .int x1])).length) Slot.unset).toArray = ls at hl ⊢
  have hl : lv_has ls 3 [(0, .ref (ad 11)), (1, .int x1)] := hl
  obtain ⟨Q, hQ⟩ : ∃ Q : State → Prop, Q = MQ below (va_Qi (fun (a : Int32) (u : SM) => a = res.1 ∧ u = res.2) (ax_B dC dI 12 (cM cyI ad) ad) (ax_A 12 ad s.heap.size)) args s 0 0 (ax_A 12 ad s.heap.size) := ⟨_, rfl⟩
  show W p l e rm_X8_drop s m args below meth c s.heap [] 0 0 _ _
  rw [← hQ]
  have hret : ∀ (v : Int32) (σ : SM) (H : Heap) (locs : List Loc) (ls : Array Slot) (pc : Nat), narrow .boolean (.int v) = .int v → some (v, σ) = some res → va_P (dC, dI) vwCl (ax_w 12 ad (cM cyI ad σ)) H → va_S (ax_A 12 ad s.heap.size) s.heap H locs → decode cX8_drop pc = .ok (.ireturn, 1) → W p l e rm_X8_drop s m args below meth c H locs 0 0 Q (F0 m pc ls [.int v]) := by
    intro v σ H locs ls pc hn hf hP hS hd
    cases hf
    rw [hQ]
    exact ax_iret hx hb hr hlocks hn hP hS hd rfl rfl
  have L21 : ∀ (n : Nat), ∀ (σ : SM) (x2 : Int32), ∀ (H : Heap) (locs : List Loc) (ls : Array Slot), va_P (dC, dI) vwCl (ax_w 12 ad (cM cyI ad σ)) H → va_S (ax_A 12 ad s.heap.size) s.heap H locs → lv_has ls 3 [(0, .ref (ad 11)), (1, .int x1), (2, .int x2)] → f_X8_drop_21 x1 n σ x2 = some res → W p l e rm_X8_drop s m args below meth c H locs 0 0 Q (F0 m 21 ls []) := by
    intro n
    induction n with
    | zero =>
      intro σ x2  H locs ls hP hS hl hf
      cases hf
    | succ n ih =>
      intro σ x2  H locs ls hP hS hl hf
      rw [f_X8_drop_21] at hf
      refine lv_iload_n hx hb dX8_drop_21 rfl (lv_at hl 2 rfl) ?_
      refine lv_aload_n hx hb dX8_drop_22 rfl (lv_at hl 0 rfl) ?_
      refine g_Model_size C0 hT hE hP mf_X8_53 dX8_drop_23 ?_
      refine lv_icmp_ge (tgt := 49) hx hb dX8_drop_26 (by decide) (fun h26 => ?_) (fun h26 => ?_)
      · rw [if_pos h26] at hf
        refine lv_aload_n hx hb dX8_drop_49 rfl (lv_at hl 0 rfl) ?_
        refine lv_dup hx hb dX8_drop_50 rfl ?_
        refine g_Model_size C0 hT hE hP mf_X8_53 dX8_drop_51 ?_
        refine lv_iload_n hx hb dX8_drop_54 rfl (lv_at hl 1 rfl) ?_
        refine lv_isub hx hb dX8_drop_55 ?_
        refine p_Model_size C0 hT hE hJ hP hS mf_X8_53 dX8_drop_56 (fun H locs hP hS => ?_)
        refine lv_iconst (v := 1) hx hb dX8_drop_59 (by decide) ?_
        exact hret _ _ _ _ _ _ rfl hf hP hS dX8_drop_60
      · rw [if_neg h26] at hf
        refine lv_aload_n hx hb dX8_drop_29 rfl (lv_at hl 0 rfl) ?_
        refine g_Model_tape C0 hT hE hP mf_X8_13 dX8_drop_30 ?_
        refine lv_iload_n hx hb dX8_drop_33 rfl (lv_at hl 2 rfl) ?_
        refine lv_iload_n hx hb dX8_drop_34 rfl (lv_at hl 1 rfl) ?_
        refine lv_isub hx hb dX8_drop_35 ?_
        refine lv_aload_n hx hb dX8_drop_36 rfl (lv_at hl 0 rfl) ?_
        refine g_Model_tape C0 hT hE hP mf_X8_13 dX8_drop_37 ?_
        refine lv_iload_n hx hb dX8_drop_40 rfl (lv_at hl 2 rfl) ?_
        obtain ⟨hin, hf⟩ := ob_if hf
        refine aM_ld (a := 1) (by decide) C0 hT hE hP (inb_in hin) dX8_drop_41 ?_
        obtain ⟨hin, hf⟩ := ob_if hf
        refine aM_st (a := 1) (by decide) C0 hT hE hJ hP hS (inb_in hin) dX8_drop_42 (fun H locs hP hS => ?_)
        refine lv_iinc (v := x2 + 1) (lv' := [(2, .int (x2 + 1)), (0, .ref (ad 11)), (1, .int x1)]) hx hb dX8_drop_43 hl (k := 2) rfl rfl (by decide) rfl (fun ls hl => ?_)
        refine lv_goto (tgt := 21) hx hb dX8_drop_46 (by decide) ?_
        exact ih _ _ _ _ _ hP hS (lv_sub hl [1, 2, 0] rfl) hf
  unfold f_X8_drop at hf
  refine lv_aload_n hx hb dX8_drop_0 rfl (lv_at hl 0 rfl) ?_
  refine lv_iconst (v := 0) hx hb dX8_drop_1 (by decide) ?_
  refine p_Model_thrown C0 hT hE hJ hP hS mf_X8_50 dX8_drop_2 (fun H locs hP hS => ?_)
  refine lv_iload_n hx hb dX8_drop_5 rfl (lv_at hl 1 rfl) ?_
  refine lv_if_lt (tgt := 17) hx hb dX8_drop_6 (by decide) (fun h6 => ?_) (fun h6 => ?_)
  · rw [if_pos h6] at hf
    refine lv_iconst (v := 0) hx hb dX8_drop_17 (by decide) ?_
    exact hret _ _ _ _ _ _ rfl hf hP hS dX8_drop_18
  · rw [if_neg h6] at hf
    refine lv_iload_n hx hb dX8_drop_9 rfl (lv_at hl 1 rfl) ?_
    refine lv_aload_n hx hb dX8_drop_10 rfl (lv_at hl 0 rfl) ?_
    refine g_Model_size C0 hT hE hP mf_X8_53 dX8_drop_11 ?_
    refine lv_icmp_le (tgt := 19) hx hb dX8_drop_14 (by decide) (fun h14 => ?_) (fun h14 => ?_)
    · rw [if_pos h14] at hf
      refine lv_iload_n hx hb dX8_drop_19 rfl (lv_at hl 1 rfl) ?_
      refine lv_istore_n (lv' := [(2, .int x1), (0, .ref (ad 11)), (1, .int x1)]) hx hb dX8_drop_20 rfl hl (by decide) rfl (fun ls hl => ?_)
      exact L21 fu _ _ _ _ _ hP hS (lv_sub hl [1, 2, 0] rfl) hf
    · rw [if_neg h14] at hf
      refine lv_iconst (v := 0) hx hb dX8_drop_17 (by decide) ?_
      exact hret _ _ _ _ _ _ rfl hf hP hS dX8_drop_18
def f_X8_flip (σ : SM) (x1 : Int32) (x2 : Int32) : Option (Int32 × SM) := if x1 < 0 then (some (0, (SMi σ 0 0))) else (if ((SMi σ 0 0).1 1) ≤ x1 then (some (0, (SMi σ 0 0))) else (if x2 < 0 then (some (0, (SMi σ 0 0))) else (if x2 ≤ 7 then (if inb x1 (capM 1) = true then (if inb x1 (capM 1) = true then (some (1, (SMc (SMi σ 0 0) 1 (upd ((SMi σ 0 0).2 1) x1.toNatClampNeg (((SMi σ 0 0).2 1 x1.toNatClampNeg) ^^^ (1 <<< (x2 &&& 31))))))) else none) else none) else (some (0, (SMi σ 0 0))))))
def rm_X8_flip : Room := { frames := 0, cells := 0, slots := 0, locals := 0 }
set_option maxHeartbeats 4000000 in
set_option maxRecDepth 100000 in
theorem met_X8_flip (l : Launch) (dC : Nat → ClassId) (dI : Nat → Nat → Nat) (cyI cyE : ClassId) (tC : Nat) (ad : Nat → Nat) (σ : SM) (x1 : Int32) (x2 : Int32) (res : Int32 × SM) (hf : f_X8_flip σ x1 x2 = some res) : ax_Mi l dC dI cyI cyE tC 12 (cM cyI ad) ad yX8_flip cX8_flip 3 (some .boolean) rm_X8_flip [.ref (ad 11), .int x1, .int x2] σ res.1 res.2 := by
  intro sz
  refine Met.ofW (cc := cX8_flip) (maxL := 3) (ret := (some .boolean)) (by decide) rfl ?_
  intro p e s m args below meth c s₁ B hml hv
  obtain ⟨hargs, hsz, hP, hJ, hE⟩ := hv
  subst hsz
  have hx := B.exec
  have hb := B.bytes
  have hr := B.returns
  have hlocks := B.notSynchronized
  have hts := atoms_spec (ws := wsY yX8_flip cX8_flip 3 (some .boolean)) B.pre
  have hown : s.vm.findClass RX8 = some m.cls := findClass_of_methodNamed B.named
  have C0 : CallFix p m c cX8_flip 3 s args (wsY yX8_flip cX8_flip 3 (some .boolean)) RX8 := ⟨hx, hb, hml, hown, hts⟩
  have hT : ∀ w ∈ bw, w ∈ wsY yX8_flip cX8_flip 3 (some .boolean) := fun w h => List.mem_cons_of_mem _ h
  have hS : va_S (ax_A 12 ad s.heap.size) s.heap s.heap [] := va_S.rf
  rw [show entryFrame m args 3 = entryFrame m ([.ref (ad 11), .int x1, .int x2] : List Value).toArray 3 by rw [hargs]]
  have hl := lv_entry ([.ref (ad 11), .int x1, .int x2]) (n := 3) (Nat.le_of_ble_eq_true rfl)
  rw [lg_entry_eq]
  generalize (lg_sl ([.ref (ad 11), .int x1, .int x2]) ++ List.replicate (3 - (lg_sl ([.ref (ad 11), .int x1, .int x2])).length) Slot.unset).toArray = ls at hl ⊢
  have hl : lv_has ls 3 [(0, .ref (ad 11)), (1, .int x1), (2, .int x2)] := hl
  obtain ⟨Q, hQ⟩ : ∃ Q : State → Prop, Q = MQ below (va_Qi (fun (a : Int32) (u : SM) => a = res.1 ∧ u = res.2) (ax_B dC dI 12 (cM cyI ad) ad) (ax_A 12 ad s.heap.size)) args s 0 0 (ax_A 12 ad s.heap.size) := ⟨_, rfl⟩
  show W p l e rm_X8_flip s m args below meth c s.heap [] 0 0 _ _
  rw [← hQ]
  have hret : ∀ (v : Int32) (σ : SM) (H : Heap) (locs : List Loc) (ls : Array Slot) (pc : Nat), narrow .boolean (.int v) = .int v → some (v, σ) = some res → va_P (dC, dI) vwCl (ax_w 12 ad (cM cyI ad σ)) H → va_S (ax_A 12 ad s.heap.size) s.heap H locs → decode cX8_flip pc = .ok (.ireturn, 1) → W p l e rm_X8_flip s m args below meth c H locs 0 0 Q (F0 m pc ls [.int v]) := by
    intro v σ H locs ls pc hn hf hP hS hd
    cases hf
    rw [hQ]
    exact ax_iret hx hb hr hlocks hn hP hS hd rfl rfl
  unfold f_X8_flip at hf
  refine lv_aload_n hx hb dX8_flip_0 rfl (lv_at hl 0 rfl) ?_
  refine lv_iconst (v := 0) hx hb dX8_flip_1 (by decide) ?_
  refine p_Model_thrown C0 hT hE hJ hP hS mf_X8_50 dX8_flip_2 (fun H locs hP hS => ?_)
  refine lv_iload_n hx hb dX8_flip_5 rfl (lv_at hl 1 rfl) ?_
  refine lv_if_lt (tgt := 27) hx hb dX8_flip_6 (by decide) (fun h6 => ?_) (fun h6 => ?_)
  · rw [if_pos h6] at hf
    refine lv_iconst (v := 0) hx hb dX8_flip_27 (by decide) ?_
    exact hret _ _ _ _ _ _ rfl hf hP hS dX8_flip_28
  · rw [if_neg h6] at hf
    refine lv_iload_n hx hb dX8_flip_9 rfl (lv_at hl 1 rfl) ?_
    refine lv_aload_n hx hb dX8_flip_10 rfl (lv_at hl 0 rfl) ?_
    refine g_Model_size C0 hT hE hP mf_X8_53 dX8_flip_11 ?_
    refine lv_icmp_ge (tgt := 27) hx hb dX8_flip_14 (by decide) (fun h14 => ?_) (fun h14 => ?_)
    · rw [if_pos h14] at hf
      refine lv_iconst (v := 0) hx hb dX8_flip_27 (by decide) ?_
      exact hret _ _ _ _ _ _ rfl hf hP hS dX8_flip_28
    · rw [if_neg h14] at hf
      refine lv_iload_n hx hb dX8_flip_17 rfl (lv_at hl 2 rfl) ?_
      refine lv_if_lt (tgt := 27) hx hb dX8_flip_18 (by decide) (fun h18 => ?_) (fun h18 => ?_)
      · rw [if_pos h18] at hf
        refine lv_iconst (v := 0) hx hb dX8_flip_27 (by decide) ?_
        exact hret _ _ _ _ _ _ rfl hf hP hS dX8_flip_28
      · rw [if_neg h18] at hf
        refine lv_iload_n hx hb dX8_flip_21 rfl (lv_at hl 2 rfl) ?_
        refine lv_bipush (v := 7) hx hb dX8_flip_22 (by decide) ?_
        refine lv_icmp_le (tgt := 29) hx hb dX8_flip_24 (by decide) (fun h24 => ?_) (fun h24 => ?_)
        · rw [if_pos h24] at hf
          refine lv_aload_n hx hb dX8_flip_29 rfl (lv_at hl 0 rfl) ?_
          refine g_Model_tape C0 hT hE hP mf_X8_13 dX8_flip_30 ?_
          refine lv_iload_n hx hb dX8_flip_33 rfl (lv_at hl 1 rfl) ?_
          refine lv_dup2_11 hx hb dX8_flip_34 rfl rfl ?_
          obtain ⟨hin, hf⟩ := ob_if hf
          refine aM_ld (a := 1) (by decide) C0 hT hE hP (inb_in hin) dX8_flip_35 ?_
          refine lv_iconst (v := 1) hx hb dX8_flip_36 (by decide) ?_
          refine lv_iload_n hx hb dX8_flip_37 rfl (lv_at hl 2 rfl) ?_
          refine lv_ishl hx hb dX8_flip_38 ?_
          refine lv_ixor hx hb dX8_flip_39 ?_
          obtain ⟨hin, hf⟩ := ob_if hf
          refine aM_st (a := 1) (by decide) C0 hT hE hJ hP hS (inb_in hin) dX8_flip_40 (fun H locs hP hS => ?_)
          refine lv_iconst (v := 1) hx hb dX8_flip_41 (by decide) ?_
          exact hret _ _ _ _ _ _ rfl hf hP hS dX8_flip_42
        · rw [if_neg h24] at hf
          refine lv_iconst (v := 0) hx hb dX8_flip_27 (by decide) ?_
          exact hret _ _ _ _ _ _ rfl hf hP hS dX8_flip_28
def f_X8_take_35 : Nat → SM → Int32 → Option (Int32 × SM)
  | 0, _, _ => none
  | n + 1, σ, x1 => if (σ.1 2) ≤ x1 then (some ((SMi σ 1 ((σ.1 1) + (σ.1 2))).1 1, (SMi σ 1 ((σ.1 1) + (σ.1 2))))) else (if inb x1 (capM 2) = true then (if inb ((σ.1 1) + x1) (capM 1) = true then (f_X8_take_35 n (SMc σ 1 (upd (σ.2 1) ((σ.1 1) + x1).toNatClampNeg (σ.2 2 x1.toNatClampNeg))) (x1 + 1)) else none) else none)
def f_X8_take_21 (σ : SM) (s1 : Int32) : Option (Int32 × SM) := if ((SMi σ 0 s1).1 0) ≤ 0 then (f_X8_take_35 fu (SMi σ 0 s1) 0) else (some (0, (SMi σ 0 s1)))
def f_X8_take (σ : SM) : Option (Int32 × SM) := if ((σ.1 1) + (σ.1 2)) ≤ 9000 then (f_X8_take_21 σ 0) else (f_X8_take_21 σ 1)
def rm_X8_take : Room := { frames := 0, cells := 0, slots := 0, locals := 0 }
set_option maxHeartbeats 4000000 in
set_option maxRecDepth 100000 in
theorem met_X8_take (l : Launch) (dC : Nat → ClassId) (dI : Nat → Nat → Nat) (cyI cyE : ClassId) (tC : Nat) (ad : Nat → Nat) (σ : SM) (res : Int32 × SM) (hf : f_X8_take σ = some res) : ax_Mi l dC dI cyI cyE tC 12 (cM cyI ad) ad yX8_take cX8_take 2 (some .int) rm_X8_take [.ref (ad 11)] σ res.1 res.2 := by
  intro sz
  refine Met.ofW (cc := cX8_take) (maxL := 2) (ret := (some .int)) (by decide) rfl ?_
  intro p e s m args below meth c s₁ B hml hv
  obtain ⟨hargs, hsz, hP, hJ, hE⟩ := hv
  subst hsz
  have hx := B.exec
  have hb := B.bytes
  have hr := B.returns
  have hlocks := B.notSynchronized
  have hts := atoms_spec (ws := wsY yX8_take cX8_take 2 (some .int)) B.pre
  have hown : s.vm.findClass RX8 = some m.cls := findClass_of_methodNamed B.named
  have C0 : CallFix p m c cX8_take 2 s args (wsY yX8_take cX8_take 2 (some .int)) RX8 := ⟨hx, hb, hml, hown, hts⟩
  have hT : ∀ w ∈ bw, w ∈ wsY yX8_take cX8_take 2 (some .int) := fun w h => List.mem_cons_of_mem _ h
  have hS : va_S (ax_A 12 ad s.heap.size) s.heap s.heap [] := va_S.rf
  rw [show entryFrame m args 2 = entryFrame m ([.ref (ad 11)] : List Value).toArray 2 by rw [hargs]]
  have hl := lv_entry ([.ref (ad 11)]) (n := 2) (Nat.le_of_ble_eq_true rfl)
  rw [lg_entry_eq]
  generalize (lg_sl ([.ref (ad 11)]) ++ List.replicate (2 - (lg_sl ([.ref (ad 11)])).length) Slot.unset).toArray = ls at hl ⊢
  have hl : lv_has ls 2 [(0, .ref (ad 11))] := hl
  obtain ⟨Q, hQ⟩ : ∃ Q : State → Prop, Q = MQ below (va_Qi (fun (a : Int32) (u : SM) => a = res.1 ∧ u = res.2) (ax_B dC dI 12 (cM cyI ad) ad) (ax_A 12 ad s.heap.size)) args s 0 0 (ax_A 12 ad s.heap.size) := ⟨_, rfl⟩
  show W p l e rm_X8_take s m args below meth c s.heap [] 0 0 _ _
  rw [← hQ]
  have hret : ∀ (v : Int32) (σ : SM) (H : Heap) (locs : List Loc) (ls : Array Slot) (pc : Nat), narrow .int (.int v) = .int v → some (v, σ) = some res → va_P (dC, dI) vwCl (ax_w 12 ad (cM cyI ad σ)) H → va_S (ax_A 12 ad s.heap.size) s.heap H locs → decode cX8_take pc = .ok (.ireturn, 1) → W p l e rm_X8_take s m args below meth c H locs 0 0 Q (F0 m pc ls [.int v]) := by
    intro v σ H locs ls pc hn hf hP hS hd
    cases hf
    rw [hQ]
    exact ax_iret hx hb hr hlocks hn hP hS hd rfl rfl
  have L35 : ∀ (n : Nat), ∀ (σ : SM) (x1 : Int32), ∀ (H : Heap) (locs : List Loc) (ls : Array Slot), va_P (dC, dI) vwCl (ax_w 12 ad (cM cyI ad σ)) H → va_S (ax_A 12 ad s.heap.size) s.heap H locs → lv_has ls 2 [(0, .ref (ad 11)), (1, .int x1)] → f_X8_take_35 n σ x1 = some res → W p l e rm_X8_take s m args below meth c H locs 0 0 Q (F0 m 35 ls []) := by
    intro n
    induction n with
    | zero =>
      intro σ x1  H locs ls hP hS hl hf
      cases hf
    | succ n ih =>
      intro σ x1  H locs ls hP hS hl hf
      rw [f_X8_take_35] at hf
      refine lv_iload_n hx hb dX8_take_35 rfl (lv_at hl 1 rfl) ?_
      refine lv_aload_n hx hb dX8_take_36 rfl (lv_at hl 0 rfl) ?_
      refine g_Model_outputSize C0 hT hE hP mf_X8_56 dX8_take_37 ?_
      refine lv_icmp_ge (tgt := 66) hx hb dX8_take_40 (by decide) (fun h40 => ?_) (fun h40 => ?_)
      · rw [if_pos h40] at hf
        refine lv_aload_n hx hb dX8_take_66 rfl (lv_at hl 0 rfl) ?_
        refine lv_dup hx hb dX8_take_67 rfl ?_
        refine g_Model_size C0 hT hE hP mf_X8_53 dX8_take_68 ?_
        refine lv_aload_n hx hb dX8_take_71 rfl (lv_at hl 0 rfl) ?_
        refine g_Model_outputSize C0 hT hE hP mf_X8_56 dX8_take_72 ?_
        refine lv_iadd hx hb dX8_take_75 ?_
        refine p_Model_size C0 hT hE hJ hP hS mf_X8_53 dX8_take_76 (fun H locs hP hS => ?_)
        refine lv_aload_n hx hb dX8_take_79 rfl (lv_at hl 0 rfl) ?_
        refine g_Model_size C0 hT hE hP mf_X8_53 dX8_take_80 ?_
        exact hret _ _ _ _ _ _ rfl hf hP hS dX8_take_83
      · rw [if_neg h40] at hf
        refine lv_aload_n hx hb dX8_take_43 rfl (lv_at hl 0 rfl) ?_
        refine g_Model_tape C0 hT hE hP mf_X8_13 dX8_take_44 ?_
        refine lv_aload_n hx hb dX8_take_47 rfl (lv_at hl 0 rfl) ?_
        refine g_Model_size C0 hT hE hP mf_X8_53 dX8_take_48 ?_
        refine lv_iload_n hx hb dX8_take_51 rfl (lv_at hl 1 rfl) ?_
        refine lv_iadd hx hb dX8_take_52 ?_
        refine lv_aload_n hx hb dX8_take_53 rfl (lv_at hl 0 rfl) ?_
        refine g_Model_output C0 hT hE hP mf_X8_16 dX8_take_54 ?_
        refine lv_iload_n hx hb dX8_take_57 rfl (lv_at hl 1 rfl) ?_
        obtain ⟨hin, hf⟩ := ob_if hf
        refine aM_ld (a := 2) (by decide) C0 hT hE hP (inb_in hin) dX8_take_58 ?_
        obtain ⟨hin, hf⟩ := ob_if hf
        refine aM_st (a := 1) (by decide) C0 hT hE hJ hP hS (inb_in hin) dX8_take_59 (fun H locs hP hS => ?_)
        refine lv_iinc (v := x1 + 1) (lv' := [(1, .int (x1 + 1)), (0, .ref (ad 11))]) hx hb dX8_take_60 hl (k := 1) rfl rfl (by decide) rfl (fun ls hl => ?_)
        refine lv_goto (tgt := 35) hx hb dX8_take_63 (by decide) ?_
        exact ih _ _ _ _ _ hP hS (lv_sub hl [1, 0] rfl) hf
  have L21 : ∀ (σ : SM) (s1 : Int32), ∀ (H : Heap) (locs : List Loc) (ls : Array Slot), va_P (dC, dI) vwCl (ax_w 12 ad (cM cyI ad σ)) H → va_S (ax_A 12 ad s.heap.size) s.heap H locs → lv_has ls 2 [(0, .ref (ad 11))] → f_X8_take_21 σ s1 = some res → W p l e rm_X8_take s m args below meth c H locs 0 0 Q (F0 m 21 ls [.int s1, .ref (ad 11)]) := by
    intro σ s1  H locs ls hP hS hl hf
    unfold f_X8_take_21 at hf
    refine p_Model_thrown C0 hT hE hJ hP hS mf_X8_50 dX8_take_21 (fun H locs hP hS => ?_)
    refine lv_aload_n hx hb dX8_take_24 rfl (lv_at hl 0 rfl) ?_
    refine g_Model_thrown C0 hT hE hP mf_X8_50 dX8_take_25 ?_
    refine lv_if_le (tgt := 33) hx hb dX8_take_28 (by decide) (fun h28 => ?_) (fun h28 => ?_)
    · rw [if_pos h28] at hf
      refine lv_iconst (v := 0) hx hb dX8_take_33 (by decide) ?_
      refine lv_istore_n (lv' := [(1, .int 0), (0, .ref (ad 11))]) hx hb dX8_take_34 rfl hl (by decide) rfl (fun ls hl => ?_)
      exact L35 fu _ _ _ _ _ hP hS (lv_sub hl [1, 0] rfl) hf
    · rw [if_neg h28] at hf
      refine lv_iconst (v := 0) hx hb dX8_take_31 (by decide) ?_
      exact hret _ _ _ _ _ _ rfl hf hP hS dX8_take_32
  unfold f_X8_take at hf
  refine lv_aload_n hx hb dX8_take_0 rfl (lv_at hl 0 rfl) ?_
  refine lv_aload_n hx hb dX8_take_1 rfl (lv_at hl 0 rfl) ?_
  refine g_Model_size C0 hT hE hP mf_X8_53 dX8_take_2 ?_
  refine lv_aload_n hx hb dX8_take_5 rfl (lv_at hl 0 rfl) ?_
  refine g_Model_outputSize C0 hT hE hP mf_X8_56 dX8_take_6 ?_
  refine lv_iadd hx hb dX8_take_9 ?_
  refine lv_sipush (v := 9000) hx hb dX8_take_10 (by decide) ?_
  refine lv_icmp_le (tgt := 20) hx hb dX8_take_13 (by decide) (fun h13 => ?_) (fun h13 => ?_)
  · rw [if_pos h13] at hf
    refine lv_iconst (v := 0) hx hb dX8_take_20 (by decide) ?_
    exact L21 _ _ _ _ _ hP hS (lv_sub hl [0] rfl) hf
  · rw [if_neg h13] at hf
    refine lv_iconst (v := 1) hx hb dX8_take_16 (by decide) ?_
    refine lv_goto (tgt := 21) hx hb dX8_take_17 (by decide) ?_
    exact L21 _ _ _ _ _ hP hS (lv_sub hl [0] rfl) hf
def f_X8_isFile (σ : SM) (x1 : Int32) : Option (Int32 × SM) := if x1 < 0 then (some (0, σ)) else (if (σ.1 3) ≤ x1 then (some (0, σ)) else (some (1, σ)))
def rm_X8_isFile : Room := { frames := 0, cells := 0, slots := 0, locals := 0 }
set_option maxHeartbeats 4000000 in
set_option maxRecDepth 100000 in
theorem met_X8_isFile (l : Launch) (dC : Nat → ClassId) (dI : Nat → Nat → Nat) (cyI cyE : ClassId) (tC : Nat) (ad : Nat → Nat) (σ : SM) (x1 : Int32) (res : Int32 × SM) (hf : f_X8_isFile σ x1 = some res) : ax_Mi l dC dI cyI cyE tC 12 (cM cyI ad) ad yX8_isFile cX8_isFile 2 (some .boolean) rm_X8_isFile [.ref (ad 11), .int x1] σ res.1 res.2 := by
  intro sz
  refine Met.ofW (cc := cX8_isFile) (maxL := 2) (ret := (some .boolean)) (by decide) rfl ?_
  intro p e s m args below meth c s₁ B hml hv
  obtain ⟨hargs, hsz, hP, hJ, hE⟩ := hv
  subst hsz
  have hx := B.exec
  have hb := B.bytes
  have hr := B.returns
  have hlocks := B.notSynchronized
  have hts := atoms_spec (ws := wsY yX8_isFile cX8_isFile 2 (some .boolean)) B.pre
  have hown : s.vm.findClass RX8 = some m.cls := findClass_of_methodNamed B.named
  have C0 : CallFix p m c cX8_isFile 2 s args (wsY yX8_isFile cX8_isFile 2 (some .boolean)) RX8 := ⟨hx, hb, hml, hown, hts⟩
  have hT : ∀ w ∈ bw, w ∈ wsY yX8_isFile cX8_isFile 2 (some .boolean) := fun w h => List.mem_cons_of_mem _ h
  have hS : va_S (ax_A 12 ad s.heap.size) s.heap s.heap [] := va_S.rf
  rw [show entryFrame m args 2 = entryFrame m ([.ref (ad 11), .int x1] : List Value).toArray 2 by rw [hargs]]
  have hl := lv_entry ([.ref (ad 11), .int x1]) (n := 2) (Nat.le_of_ble_eq_true rfl)
  rw [lg_entry_eq]
  generalize (lg_sl ([.ref (ad 11), .int x1]) ++ List.replicate (2 - (lg_sl ([.ref (ad 11), .int x1])).length) Slot.unset).toArray = ls at hl ⊢
  have hl : lv_has ls 2 [(0, .ref (ad 11)), (1, .int x1)] := hl
  obtain ⟨Q, hQ⟩ : ∃ Q : State → Prop, Q = MQ below (va_Qi (fun (a : Int32) (u : SM) => a = res.1 ∧ u = res.2) (ax_B dC dI 12 (cM cyI ad) ad) (ax_A 12 ad s.heap.size)) args s 0 0 (ax_A 12 ad s.heap.size) := ⟨_, rfl⟩
  show W p l e rm_X8_isFile s m args below meth c s.heap [] 0 0 _ _
  rw [← hQ]
  have hret : ∀ (v : Int32) (σ : SM) (H : Heap) (locs : List Loc) (ls : Array Slot) (pc : Nat), narrow .boolean (.int v) = .int v → some (v, σ) = some res → va_P (dC, dI) vwCl (ax_w 12 ad (cM cyI ad σ)) H → va_S (ax_A 12 ad s.heap.size) s.heap H locs → decode cX8_isFile pc = .ok (.ireturn, 1) → W p l e rm_X8_isFile s m args below meth c H locs 0 0 Q (F0 m pc ls [.int v]) := by
    intro v σ H locs ls pc hn hf hP hS hd
    cases hf
    rw [hQ]
    exact ax_iret hx hb hr hlocks hn hP hS hd rfl rfl
  unfold f_X8_isFile at hf
  refine lv_iload_n hx hb dX8_isFile_0 rfl (lv_at hl 1 rfl) ?_
  refine lv_if_lt (tgt := 16) hx hb dX8_isFile_1 (by decide) (fun h1 => ?_) (fun h1 => ?_)
  · rw [if_pos h1] at hf
    refine lv_iconst (v := 0) hx hb dX8_isFile_16 (by decide) ?_
    exact hret _ _ _ _ _ _ rfl hf hP hS dX8_isFile_17
  · rw [if_neg h1] at hf
    refine lv_iload_n hx hb dX8_isFile_4 rfl (lv_at hl 1 rfl) ?_
    refine lv_aload_n hx hb dX8_isFile_5 rfl (lv_at hl 0 rfl) ?_
    refine g_Model_files C0 hT hE hP mf_X8_59 dX8_isFile_6 ?_
    refine lv_icmp_ge (tgt := 16) hx hb dX8_isFile_9 (by decide) (fun h9 => ?_) (fun h9 => ?_)
    · rw [if_pos h9] at hf
      refine lv_iconst (v := 0) hx hb dX8_isFile_16 (by decide) ?_
      exact hret _ _ _ _ _ _ rfl hf hP hS dX8_isFile_17
    · rw [if_neg h9] at hf
      refine lv_iconst (v := 1) hx hb dX8_isFile_12 (by decide) ?_
      refine lv_goto (tgt := 17) hx hb dX8_isFile_13 (by decide) ?_
      exact hret _ _ _ _ _ _ rfl hf hP hS dX8_isFile_17
