def f_X5_lookUp_48 (r1 : Nat) (x2 : Int32) (x3 : Int32) (k3 : SD → Int32 → Option (Int32 × SD)) (σ : SD) (x4 : Int32) : Option (Int32 × SD) := k3 σ (x4 + 1)
def f_X5_lookUp_3 (r1 : Nat) (x2 : Int32) (x3 : Int32) : Nat → SD → Int32 → Option (Int32 × SD)
  | 0, _, _ => none
  | n + 1, σ, x4 => if (σ.1 5 0) ≤ x4 then (some ((-1), σ)) else (if inb x4 20 = true then (if σ.2.2.2 x4.toNatClampNeg < 20 then ((f_X4_size σ (5 + (σ.2.2.2 x4.toNatClampNeg))).bind fun q26 => if q26.1 = x3 then ((f_X4_agrees q26.2 (5 + (σ.2.2.2 x4.toNatClampNeg)) 0 r1 x2 x3).bind fun q39 => if q39.1 = 0 then (f_X5_lookUp_48 r1 x2 x3 (f_X5_lookUp_3 r1 x2 x3 n) q39.2 x4) else (some (x4, q39.2))) else (f_X5_lookUp_48 r1 x2 x3 (f_X5_lookUp_3 r1 x2 x3 n) q26.2 x4)) else none) else none)
def f_X5_lookUp (σ : SD) (r1 : Nat) (x2 : Int32) (x3 : Int32) : Option (Int32 × SD) := f_X5_lookUp_3 r1 x2 x3 fu σ 0
def rm_X5_lookUp : Room := { frames := 2, cells := 0, slots := 0, locals := 47 }
set_option maxHeartbeats 4000000 in
set_option maxRecDepth 100000 in
theorem met_X5_lookUp (l : Launch) (dC : Nat → ClassId) (dI : Nat → Nat → Nat) (cyI cyE : ClassId) (tC : Nat) (ad : Nat → Nat) (σ : SD) (r1 : Nat) (x2 : Int32) (x3 : Int32) (hb_r1 : r1 < 25) (res : Int32 × SD) (hf : f_X5_lookUp σ r1 x2 x3 = some res) : ax_Mi l dC dI cyI cyE tC 77 (cD cyI cyE ad) ad yX5_lookUp cX5_lookUp 6 (some .int) rm_X5_lookUp [.ref (ad 75), .ref (ad r1), .int x2, .int x3] σ res.1 res.2 := by
  intro sz
  refine Met.ofW (cc := cX5_lookUp) (maxL := 6) (ret := (some .int)) (by decide) rfl ?_
  intro p e s m args below meth c s₁ B hml hv
  obtain ⟨hargs, hsz, hP, hJ, hE⟩ := hv
  subst hsz
  have hx := B.exec
  have hb := B.bytes
  have hr := B.returns
  have hlocks := B.notSynchronized
  have hts := atoms_spec (ws := wsY yX5_lookUp cX5_lookUp 6 (some .int)) B.pre
  have hown : s.vm.findClass RX5 = some m.cls := findClass_of_methodNamed B.named
  have C0 : CallFix p m c cX5_lookUp 6 s args (wsY yX5_lookUp cX5_lookUp 6 (some .int)) RX5 := ⟨hx, hb, hml, hown, hts⟩
  have hT : ∀ w ∈ bw, w ∈ wsY yX5_lookUp cX5_lookUp 6 (some .int) := fun w h => List.mem_cons_of_mem _ h
  have hS : va_S (ax_A 77 ad s.heap.size) s.heap s.heap [] := va_S.rf
  rw [show entryFrame m args 6 = entryFrame m ([.ref (ad 75), .ref (ad r1), .int x2, .int x3] : List Value).toArray 6 by rw [hargs]]
  have hl := lv_entry ([.ref (ad 75), .ref (ad r1), .int x2, .int x3]) (n := 6) (Nat.le_of_ble_eq_true rfl)
  rw [lg_entry_eq]
  generalize (lg_sl ([.ref (ad 75), .ref (ad r1), .int x2, .int x3]) ++ List.replicate (6 - (lg_sl ([.ref (ad 75), .ref (ad r1), .int x2, .int x3])).length) Slot.unset).toArray = ls at hl ⊢
  have hl : lv_has ls 6 [(0, .ref (ad 75)), (1, .ref (ad r1)), (2, .int x2), (3, .int x3)] := hl
  obtain ⟨Q, hQ⟩ : ∃ Q : State → Prop, Q = MQ below (va_Qi (fun (a : Int32) (u : SD) => a = res.1 ∧ u = res.2) (ax_B dC dI 77 (cD cyI cyE ad) ad) (ax_A 77 ad s.heap.size)) args s 0 0 (ax_A 77 ad s.heap.size) := ⟨_, rfl⟩
  show W p l e rm_X5_lookUp s m args below meth c s.heap [] 0 0 _ _
  rw [← hQ]
  have hret : ∀ (v : Int32) (σ : SD) (H : Heap) (locs : List Loc) (ls : Array Slot) (pc : Nat), narrow .int (.int v) = .int v → some (v, σ) = some res → va_P (dC, dI) vwCl (ax_w 77 ad (cD cyI cyE ad σ)) H → va_S (ax_A 77 ad s.heap.size) s.heap H locs → decode cX5_lookUp pc = .ok (.ireturn, 1) → W p l e rm_X5_lookUp s m args below meth c H locs 0 0 Q (F0 m pc ls [.int v]) := by
    intro v σ H locs ls pc hn hf hP hS hd
    cases hf
    rw [hQ]
    exact ax_iret hx hb hr hlocks hn hP hS hd rfl rfl
  have L48 : ∀ (k3 : SD → Int32 → Option (Int32 × SD)), (∀ (σ : SD) (x4 : Int32), ∀ (H : Heap) (locs : List Loc) (ls : Array Slot), va_P (dC, dI) vwCl (ax_w 77 ad (cD cyI cyE ad σ)) H → va_S (ax_A 77 ad s.heap.size) s.heap H locs → lv_has ls 6 [(0, .ref (ad 75)), (1, .ref (ad r1)), (2, .int x2), (3, .int x3), (4, .int x4)] → k3 σ x4 = some res → W p l e rm_X5_lookUp s m args below meth c H locs 0 0 Q (F0 m 3 ls [])) → ∀ (σ : SD) (x4 : Int32), ∀ (H : Heap) (locs : List Loc) (ls : Array Slot), va_P (dC, dI) vwCl (ax_w 77 ad (cD cyI cyE ad σ)) H → va_S (ax_A 77 ad s.heap.size) s.heap H locs → lv_has ls 6 [(0, .ref (ad 75)), (1, .ref (ad r1)), (2, .int x2), (3, .int x3), (4, .int x4)] → f_X5_lookUp_48 r1 x2 x3 k3 σ x4 = some res → W p l e rm_X5_lookUp s m args below meth c H locs 0 0 Q (F0 m 48 ls []) := by
    intro k3 hk3
    intro σ x4  H locs ls hP hS hl hf
    unfold f_X5_lookUp_48 at hf
    refine lv_iinc (v := x4 + 1) (lv' := [(4, .int (x4 + 1)), (0, .ref (ad 75)), (1, .ref (ad r1)), (2, .int x2), (3, .int x3)]) hx hb dX5_lookUp_48 hl (k := 4) rfl rfl (by decide) rfl (fun ls hl => ?_)
    refine lv_goto (tgt := 3) hx hb dX5_lookUp_51 (by decide) ?_
    exact hk3 _ _ _ _ _ hP hS (lv_sub hl [1, 2, 3, 4, 0] rfl) hf
  have L3 : ∀ (n : Nat), ∀ (σ : SD) (x4 : Int32), ∀ (H : Heap) (locs : List Loc) (ls : Array Slot), va_P (dC, dI) vwCl (ax_w 77 ad (cD cyI cyE ad σ)) H → va_S (ax_A 77 ad s.heap.size) s.heap H locs → lv_has ls 6 [(0, .ref (ad 75)), (1, .ref (ad r1)), (2, .int x2), (3, .int x3), (4, .int x4)] → f_X5_lookUp_3 r1 x2 x3 n σ x4 = some res → W p l e rm_X5_lookUp s m args below meth c H locs 0 0 Q (F0 m 3 ls []) := by
    intro n
    induction n with
    | zero =>
      intro σ x4  H locs ls hP hS hl hf
      cases hf
    | succ n ih =>
      intro σ x4  H locs ls hP hS hl hf
      rw [f_X5_lookUp_3] at hf
      refine lv_iload hx hb dX5_lookUp_3 (lv_at hl 4 rfl) ?_
      refine lv_aload_n hx hb dX5_lookUp_5 rfl (lv_at hl 0 rfl) ?_
      refine g_Shelf_count C0 hT hE hP mf_X5_27 dX5_lookUp_6 ?_
      refine lv_icmp_ge (tgt := 54) hx hb dX5_lookUp_9 (by decide) (fun h9 => ?_) (fun h9 => ?_)
      · rw [if_pos h9] at hf
        refine lv_iconst (v := (-1)) hx hb dX5_lookUp_54 (by decide) ?_
        exact hret _ _ _ _ _ _ rfl hf hP hS dX5_lookUp_55
      · rw [if_neg h9] at hf
        refine lv_aload_n hx hb dX5_lookUp_12 rfl (lv_at hl 0 rfl) ?_
        refine g_Shelf_entries C0 hT hE hP mf_X5_11 dX5_lookUp_13 ?_
        refine lv_iload hx hb dX5_lookUp_16 (lv_at hl 4 rfl) ?_
        obtain ⟨hin, hf⟩ := ob_if hf
        obtain ⟨hen18, hf⟩ := ob_if hf
        refine aD_lde C0 hT hE hP (inb_in hin) dX5_lookUp_18 ?_
        refine gN_Entry_name (k := (σ.2.2.2 x4.toNatClampNeg)) (by omega) C0 hT hE hP (by decide) dX5_lookUp_19 ?_
        refine lv_astore (lv' := [(5, .ref (ad (5 + (σ.2.2.2 x4.toNatClampNeg)))), (0, .ref (ad 75)), (1, .ref (ad r1)), (2, .int x2), (3, .int x3), (4, .int x4)]) hx hb dX5_lookUp_22 hl (by decide) rfl (fun ls hl => ?_)
        refine lv_aload hx hb dX5_lookUp_24 (lv_at hl 0 rfl) ?_
        obtain ⟨q26, hq, hf⟩ := ob_bind hf
        refine ax_callVi (C := "") (b := 0) (i := (5 + (σ.2.2.2 x4.toNatClampNeg))) (k := 0) (ci := 3) [] C0 hT hJ hE (met_X4_size l dC dI cyI cyE tC ad σ (5 + (σ.2.2.2 x4.toNatClampNeg)) (by omega) _ hq) hP hS mc_X4_size ml_X5_31 mi_X4_size ms_X4_size mz_X4 (by decide +kernel) ⟨rfl, rfl⟩ ⟨by decide, by decide⟩ (by omega) (cD_Row (by omega)) rfl rfl rfl hl.1 (Nat.le_of_ble_eq_true rfl) dX5_lookUp_26 ⟨Nat.zero_le _, Nat.zero_le _⟩ (fun H locs hP hS => ?_)
        refine lv_iload_n hx hb dX5_lookUp_29 rfl (lv_at hl 4 rfl) ?_
        refine lv_icmp_ne (tgt := 48) hx hb dX5_lookUp_30 (by decide) (fun h30 => ?_) (fun h30 => ?_)
        · rw [if_neg h30] at hf
          exact L48 _ ih _ _ _ _ _ hP hS (lv_sub hl [1, 2, 3, 4, 5] rfl) hf
        · rw [if_pos h30] at hf
          refine lv_aload hx hb dX5_lookUp_33 (lv_at hl 0 rfl) ?_
          refine lv_iconst (v := 0) hx hb dX5_lookUp_35 (by decide) ?_
          refine lv_aload_n hx hb dX5_lookUp_36 rfl (lv_at hl 2 rfl) ?_
          refine lv_iload_n hx hb dX5_lookUp_37 rfl (lv_at hl 3 rfl) ?_
          refine lv_iload_n hx hb dX5_lookUp_38 rfl (lv_at hl 4 rfl) ?_
          obtain ⟨q39, hq, hf⟩ := ob_bind hf
          refine ax_callVi (C := "") (b := 0) (i := (5 + (σ.2.2.2 x4.toNatClampNeg))) (k := 4) (ci := 3) [.int 0, .ref (ad r1), .int x2, .int x3] C0 hT hJ hE (met_X4_agrees l dC dI cyI cyE tC ad q26.2 (5 + (σ.2.2.2 x4.toNatClampNeg)) 0 r1 x2 x3 (by omega) (by omega) _ hq) hP hS mc_X4_agrees ml_X5_47 mi_X4_agrees ms_X4_agrees mz_X4 (by decide +kernel) ⟨rfl, rfl⟩ ⟨by decide, by decide⟩ (by omega) (cD_Row (by omega)) rfl rfl rfl hl.1 (Nat.le_of_ble_eq_true rfl) dX5_lookUp_39 ⟨Nat.zero_le _, Nat.zero_le _⟩ (fun H locs hP hS => ?_)
          refine lv_if_eq (tgt := 48) hx hb dX5_lookUp_42 (by decide) (fun h42 => ?_) (fun h42 => ?_)
          · rw [if_pos h42] at hf
            exact L48 _ ih _ _ _ _ _ hP hS (lv_sub hl [1, 2, 3, 4, 5] rfl) hf
          · rw [if_neg h42] at hf
            refine lv_iload hx hb dX5_lookUp_45 (lv_at hl 5 rfl) ?_
            exact hret _ _ _ _ _ _ rfl hf hP hS dX5_lookUp_47
  unfold f_X5_lookUp at hf
  refine lv_iconst (v := 0) hx hb dX5_lookUp_0 (by decide) ?_
  refine lv_istore (lv' := [(4, .int 0), (0, .ref (ad 75)), (1, .ref (ad r1)), (2, .int x2), (3, .int x3)]) hx hb dX5_lookUp_1 hl (by decide) rfl (fun ls hl => ?_)
  exact L3 fu _ _ _ _ _ hP hS (lv_sub hl [1, 2, 3, 4, 0] rfl) hf
def f_X5_hasRoom_51 (x1 : Int32) (x2 : Int32) (σ : SD) (x4 : Int32) (s0 : Int32) : Option (Int32 × SD) := if (20 : Int32) ≤ x4 then (some (0, σ)) else (if s0 < x2 then (some (0, σ)) else (some (1, σ)))
def f_X5_hasRoom (σ : SD) (x1 : Int32) (x2 : Int32) : Option (Int32 × SD) := (f_X5_entry σ x1).bind fun q2 => match q2 with | (none, σ2) => ((f_X4_room σ2 3).bind fun q33 => f_X5_hasRoom_51 x1 x2 q33.2 (σ2.1 5 0) q33.1) | (some e2, σ2) => (if e2 < 20 then ((f_X4_room σ2 3).bind fun q43 => f_X5_hasRoom_51 x1 x2 q43.2 ((σ2.1 5 0) - 1) (q43.1 + (q43.2.1 2 e2))) else none)
def rm_X5_hasRoom : Room := { frames := 1, cells := 0, slots := 0, locals := 21 }
set_option maxHeartbeats 4000000 in
set_option maxRecDepth 100000 in
theorem met_X5_hasRoom (l : Launch) (dC : Nat → ClassId) (dI : Nat → Nat → Nat) (cyI cyE : ClassId) (tC : Nat) (ad : Nat → Nat) (σ : SD) (x1 : Int32) (x2 : Int32) (res : Int32 × SD) (hf : f_X5_hasRoom σ x1 x2 = some res) : ax_Mi l dC dI cyI cyE tC 77 (cD cyI cyE ad) ad yX5_hasRoom cX5_hasRoom 6 (some .boolean) rm_X5_hasRoom [.ref (ad 75), .int x1, .int x2] σ res.1 res.2 := by
  intro sz
  refine Met.ofW (cc := cX5_hasRoom) (maxL := 6) (ret := (some .boolean)) (by decide) rfl ?_
  intro p e s m args below meth c s₁ B hml hv
  obtain ⟨hargs, hsz, hP, hJ, hE⟩ := hv
  subst hsz
  have hx := B.exec
  have hb := B.bytes
  have hr := B.returns
  have hlocks := B.notSynchronized
  have hts := atoms_spec (ws := wsY yX5_hasRoom cX5_hasRoom 6 (some .boolean)) B.pre
  have hown : s.vm.findClass RX5 = some m.cls := findClass_of_methodNamed B.named
  have C0 : CallFix p m c cX5_hasRoom 6 s args (wsY yX5_hasRoom cX5_hasRoom 6 (some .boolean)) RX5 := ⟨hx, hb, hml, hown, hts⟩
  have hT : ∀ w ∈ bw, w ∈ wsY yX5_hasRoom cX5_hasRoom 6 (some .boolean) := fun w h => List.mem_cons_of_mem _ h
  have hS : va_S (ax_A 77 ad s.heap.size) s.heap s.heap [] := va_S.rf
  rw [show entryFrame m args 6 = entryFrame m ([.ref (ad 75), .int x1, .int x2] : List Value).toArray 6 by rw [hargs]]
  have hl := lv_entry ([.ref (ad 75), .int x1, .int x2]) (n := 6) (Nat.le_of_ble_eq_true rfl)
  rw [lg_entry_eq]
  generalize (lg_sl ([.ref (ad 75), .int x1, .int x2]) ++ List.replicate (6 - (lg_sl ([.ref (ad 75), .int x1, .int x2])).length) Slot.unset).toArray = ls at hl ⊢
  have hl : lv_has ls 6 [(0, .ref (ad 75)), (1, .int x1), (2, .int x2)] := hl
  obtain ⟨Q, hQ⟩ : ∃ Q : State → Prop, Q = MQ below (va_Qi (fun (a : Int32) (u : SD) => a = res.1 ∧ u = res.2) (ax_B dC dI 77 (cD cyI cyE ad) ad) (ax_A 77 ad s.heap.size)) args s 0 0 (ax_A 77 ad s.heap.size) := ⟨_, rfl⟩
  show W p l e rm_X5_hasRoom s m args below meth c s.heap [] 0 0 _ _
  rw [← hQ]
  have hret : ∀ (v : Int32) (σ : SD) (H : Heap) (locs : List Loc) (ls : Array Slot) (pc : Nat), narrow .boolean (.int v) = .int v → some (v, σ) = some res → va_P (dC, dI) vwCl (ax_w 77 ad (cD cyI cyE ad σ)) H → va_S (ax_A 77 ad s.heap.size) s.heap H locs → decode cX5_hasRoom pc = .ok (.ireturn, 1) → W p l e rm_X5_hasRoom s m args below meth c H locs 0 0 Q (F0 m pc ls [.int v]) := by
    intro v σ H locs ls pc hn hf hP hS hd
    cases hf
    rw [hQ]
    exact ax_iret hx hb hr hlocks hn hP hS hd rfl rfl
  have L51 : ∀ (σ : SD) (x4 : Int32) (s0 : Int32), ∀ (H : Heap) (locs : List Loc) (ls : Array Slot), va_P (dC, dI) vwCl (ax_w 77 ad (cD cyI cyE ad σ)) H → va_S (ax_A 77 ad s.heap.size) s.heap H locs → lv_has ls 6 [(2, .int x2), (4, .int x4)] → f_X5_hasRoom_51 x1 x2 σ x4 s0 = some res → W p l e rm_X5_hasRoom s m args below meth c H locs 0 0 Q (F0 m 51 ls [.int s0]) := by
    intro σ x4 s0  H locs ls hP hS hl hf
    unfold f_X5_hasRoom_51 at hf
    refine lv_istore (lv' := [(5, .int s0), (2, .int x2), (4, .int x4)]) hx hb dX5_hasRoom_51 hl (by decide) rfl (fun ls hl => ?_)
    refine lv_iload hx hb dX5_hasRoom_53 (lv_at hl 2 rfl) ?_
    refine lv_bipush (v := 20) hx hb dX5_hasRoom_55 (by decide) ?_
    refine lv_icmp_ge (tgt := 70) hx hb dX5_hasRoom_57 (by decide) (fun h57 => ?_) (fun h57 => ?_)
    · rw [if_pos h57] at hf
      refine lv_iconst (v := 0) hx hb dX5_hasRoom_70 (by decide) ?_
      exact hret _ _ _ _ _ _ rfl hf hP hS dX5_hasRoom_71
    · rw [if_neg h57] at hf
      refine lv_iload_n hx hb dX5_hasRoom_60 rfl (lv_at hl 1 rfl) ?_
      refine lv_iload hx hb dX5_hasRoom_61 (lv_at hl 0 rfl) ?_
      refine lv_icmp_gt (tgt := 70) hx hb dX5_hasRoom_63 (by decide) (fun h63 => ?_) (fun h63 => ?_)
      · rw [if_pos h63] at hf
        refine lv_iconst (v := 0) hx hb dX5_hasRoom_70 (by decide) ?_
        exact hret _ _ _ _ _ _ rfl hf hP hS dX5_hasRoom_71
      · rw [if_neg h63] at hf
        refine lv_iconst (v := 1) hx hb dX5_hasRoom_66 (by decide) ?_
        refine lv_goto (tgt := 71) hx hb dX5_hasRoom_67 (by decide) ?_
        exact hret _ _ _ _ _ _ rfl hf hP hS dX5_hasRoom_71
  unfold f_X5_hasRoom at hf
  refine lv_aload_n hx hb dX5_hasRoom_0 rfl (lv_at hl 0 rfl) ?_
  refine lv_iload_n hx hb dX5_hasRoom_1 rfl (lv_at hl 1 rfl) ?_
  obtain ⟨⟨o2, σ2⟩, hq, hf⟩ := ob_bind hf
  refine ax_callVq (i := 75) (k := 1) (ci := 4) [.int x1] C0 hT hJ hE (met_X5_entry l dC dI cyI cyE tC ad σ x1 _ hq) hP hS mc_X5_entry ml_X5_51 mi_X5_entry ms_X5_entry mz_X5 (by decide +kernel) ⟨rfl, rfl⟩ ⟨by decide, by decide⟩ (by decide) cD_Shelf rfl rfl rfl hl.1 (Nat.le_of_ble_eq_true rfl) dX5_hasRoom_2 ⟨Nat.zero_le _, Nat.zero_le _⟩ (fun H locs hP hS => ?_)
  cases o2 with
  | none =>
    dsimp only at hf
    refine W.eq (g2 := F0 m 5 ls [.null]) rfl ?_
    refine lv_astore_nN (lv' := [(3, .null), (0, .ref (ad 75)), (1, .int x1), (2, .int x2)]) hx hb dX5_hasRoom_5 rfl hl (by decide) rfl (fun ls hl => ?_)
    refine lv_aload_nN hx hb dX5_hasRoom_6 rfl (lv_at hl 0 rfl) ?_
    refine lv_ifnonnullN hx hb dX5_hasRoom_7 ?_
    refine lv_aload_n hx hb dX5_hasRoom_10 rfl (lv_at hl 1 rfl) ?_
    refine g_Shelf_count C0 hT hE hP mf_X5_27 dX5_hasRoom_11 ?_
    refine lv_goto (tgt := 23) hx hb dX5_hasRoom_14 (by decide) ?_
    refine lv_istore (lv' := [(4, .int (σ2.1 5 0)), (3, .null), (0, .ref (ad 75)), (1, .int x1), (2, .int x2)]) hx hb dX5_hasRoom_23 hl (by decide) rfl (fun ls hl => ?_)
    refine lv_aload_nN hx hb dX5_hasRoom_25 rfl (lv_at hl 1 rfl) ?_
    refine lv_ifnonnullN hx hb dX5_hasRoom_26 ?_
    refine lv_aload_n hx hb dX5_hasRoom_29 rfl (lv_at hl 2 rfl) ?_
    refine g_Shelf_bytes C0 hT hE hP mf_X5_22 dX5_hasRoom_30 ?_
    obtain ⟨q33, hq, hf⟩ := ob_bind hf
    refine ax_callVi (C := "") (b := 0) (i := 3) (k := 0) (ci := 3) [] C0 hT hJ hE (met_X4_room l dC dI cyI cyE tC ad σ2 3 (by decide) _ hq) hP hS mc_X4_room ml_X5_55 mi_X4_room ms_X4_room mz_X4 (by decide +kernel) ⟨rfl, rfl⟩ ⟨by decide, by decide⟩ (by decide) (cD_Row (by decide)) rfl rfl rfl hl.1 (Nat.le_of_ble_eq_true rfl) dX5_hasRoom_33 ⟨Nat.zero_le _, Nat.zero_le _⟩ (fun H locs hP hS => ?_)
    refine lv_goto (tgt := 51) hx hb dX5_hasRoom_36 (by decide) ?_
    exact L51 _ _ _ _ _ _ hP hS (lv_sub hl [4, 0] rfl) hf
  | some e2 =>
    dsimp only at hf
    obtain ⟨hb_e2, hf⟩ := ob_if hf
    refine W.eq (g2 := F0 m 5 ls [.ref (ad (52 + e2))]) rfl ?_
    refine lv_astore_n (lv' := [(3, .ref (ad (52 + e2))), (0, .ref (ad 75)), (1, .int x1), (2, .int x2)]) hx hb dX5_hasRoom_5 rfl hl (by decide) rfl (fun ls hl => ?_)
    refine lv_aload_n hx hb dX5_hasRoom_6 rfl (lv_at hl 0 rfl) ?_
    refine lv_ifnonnull (tgt := 17) hx hb dX5_hasRoom_7 (by decide) ?_
    refine lv_aload_n hx hb dX5_hasRoom_17 rfl (lv_at hl 1 rfl) ?_
    refine g_Shelf_count C0 hT hE hP mf_X5_27 dX5_hasRoom_18 ?_
    refine lv_iconst (v := 1) hx hb dX5_hasRoom_21 (by decide) ?_
    refine lv_isub hx hb dX5_hasRoom_22 ?_
    refine lv_istore (lv' := [(4, .int ((σ2.1 5 0) - 1)), (3, .ref (ad (52 + e2))), (0, .ref (ad 75)), (1, .int x1), (2, .int x2)]) hx hb dX5_hasRoom_23 hl (by decide) rfl (fun ls hl => ?_)
    refine lv_aload_n hx hb dX5_hasRoom_25 rfl (lv_at hl 1 rfl) ?_
    refine lv_ifnonnull (tgt := 39) hx hb dX5_hasRoom_26 (by decide) ?_
    refine lv_aload_n hx hb dX5_hasRoom_39 rfl (lv_at hl 2 rfl) ?_
    refine g_Shelf_bytes C0 hT hE hP mf_X5_22 dX5_hasRoom_40 ?_
    obtain ⟨q43, hq, hf⟩ := ob_bind hf
    refine ax_callVi (C := "") (b := 0) (i := 3) (k := 0) (ci := 3) [] C0 hT hJ hE (met_X4_room l dC dI cyI cyE tC ad σ2 3 (by decide) _ hq) hP hS mc_X4_room ml_X5_55 mi_X4_room ms_X4_room mz_X4 (by decide +kernel) ⟨rfl, rfl⟩ ⟨by decide, by decide⟩ (by decide) (cD_Row (by decide)) rfl rfl rfl hl.1 (Nat.le_of_ble_eq_true rfl) dX5_hasRoom_43 ⟨Nat.zero_le _, Nat.zero_le _⟩ (fun H locs hP hS => ?_)
    refine lv_aload_n hx hb dX5_hasRoom_46 rfl (lv_at hl 1 rfl) ?_
    refine gN_Entry_size (k := e2) (by omega) C0 hT hE hP (by decide) dX5_hasRoom_47 ?_
    refine lv_iadd hx hb dX5_hasRoom_50 ?_
    exact L51 _ _ _ _ _ _ hP hS (lv_sub hl [4, 0] rfl) hf
def f_X5_changeName (σ : SD) (x1 : Int32) (r2 : Nat) : Option (SD) := (f_X5_entry σ x1).bind fun q2 => match q2 with | (none, σ2) => (some σ2) | (some e2, σ2) => (if e2 < 20 then ((f_X4_size σ2 r2).bind fun q14 => (f_X1_setName q14.2 e2 r2 0 q14.1).bind fun q17 => some q17) else none)
def rm_X5_changeName : Room := { frames := 3, cells := 0, slots := 0, locals := 76 }
set_option maxHeartbeats 4000000 in
set_option maxRecDepth 100000 in
theorem met_X5_changeName (l : Launch) (dC : Nat → ClassId) (dI : Nat → Nat → Nat) (cyI cyE : ClassId) (tC : Nat) (ad : Nat → Nat) (σ : SD) (x1 : Int32) (r2 : Nat) (hb_r2 : r2 < 25) (res : SD) (hf : f_X5_changeName σ x1 r2 = some res) : ax_Mv l dC dI cyI cyE tC 77 (cD cyI cyE ad) ad yX5_changeName cX5_changeName 4 none rm_X5_changeName [.ref (ad 75), .int x1, .ref (ad r2)] σ res := by
  intro sz
  refine Met.ofW (cc := cX5_changeName) (maxL := 4) (ret := none) (by decide) rfl ?_
  intro p e s m args below meth c s₁ B hml hv
  obtain ⟨hargs, hsz, hP, hJ, hE⟩ := hv
  subst hsz
  have hx := B.exec
  have hb := B.bytes
  have hr := B.returns
  have hlocks := B.notSynchronized
  have hts := atoms_spec (ws := wsY yX5_changeName cX5_changeName 4 none) B.pre
  have hown : s.vm.findClass RX5 = some m.cls := findClass_of_methodNamed B.named
  have C0 : CallFix p m c cX5_changeName 4 s args (wsY yX5_changeName cX5_changeName 4 none) RX5 := ⟨hx, hb, hml, hown, hts⟩
  have hT : ∀ w ∈ bw, w ∈ wsY yX5_changeName cX5_changeName 4 none := fun w h => List.mem_cons_of_mem _ h
  have hS : va_S (ax_A 77 ad s.heap.size) s.heap s.heap [] := va_S.rf
  rw [show entryFrame m args 4 = entryFrame m ([.ref (ad 75), .int x1, .ref (ad r2)] : List Value).toArray 4 by rw [hargs]]
  have hl := lv_entry ([.ref (ad 75), .int x1, .ref (ad r2)]) (n := 4) (Nat.le_of_ble_eq_true rfl)
  rw [lg_entry_eq]
  generalize (lg_sl ([.ref (ad 75), .int x1, .ref (ad r2)]) ++ List.replicate (4 - (lg_sl ([.ref (ad 75), .int x1, .ref (ad r2)])).length) Slot.unset).toArray = ls at hl ⊢
  have hl : lv_has ls 4 [(0, .ref (ad 75)), (1, .int x1), (2, .ref (ad r2))] := hl
  obtain ⟨Q, hQ⟩ : ∃ Q : State → Prop, Q = MQ below (va_Qv (fun (u : SD) => u = res) (ax_B dC dI 77 (cD cyI cyE ad) ad) (ax_A 77 ad s.heap.size)) args s 0 0 (ax_A 77 ad s.heap.size) := ⟨_, rfl⟩
  show W p l e rm_X5_changeName s m args below meth c s.heap [] 0 0 _ _
  rw [← hQ]
  have hret : ∀ (σ : SD) (H : Heap) (locs : List Loc) (ls : Array Slot) (pc : Nat), some σ = some res → va_P (dC, dI) vwCl (ax_w 77 ad (cD cyI cyE ad σ)) H → va_S (ax_A 77 ad s.heap.size) s.heap H locs → decode cX5_changeName pc = .ok (.return_, 1) → W p l e rm_X5_changeName s m args below meth c H locs 0 0 Q (F0 m pc ls []) := by
    intro σ H locs ls pc hf hP hS hd
    cases hf
    rw [hQ]
    exact ax_vret hx hb hr hlocks hP hS hd rfl
  unfold f_X5_changeName at hf
  refine lv_aload_n hx hb dX5_changeName_0 rfl (lv_at hl 0 rfl) ?_
  refine lv_iload_n hx hb dX5_changeName_1 rfl (lv_at hl 1 rfl) ?_
  obtain ⟨⟨o2, σ2⟩, hq, hf⟩ := ob_bind hf
  refine ax_callVq (i := 75) (k := 1) (ci := 4) [.int x1] C0 hT hJ hE (met_X5_entry l dC dI cyI cyE tC ad σ x1 _ hq) hP hS mc_X5_entry ml_X5_51 mi_X5_entry ms_X5_entry mz_X5 (by decide +kernel) ⟨rfl, rfl⟩ ⟨by decide, by decide⟩ (by decide) cD_Shelf rfl rfl rfl hl.1 (Nat.le_of_ble_eq_true rfl) dX5_changeName_2 ⟨Nat.zero_le _, Nat.zero_le _⟩ (fun H locs hP hS => ?_)
  cases o2 with
  | none =>
    dsimp only at hf
    refine W.eq (g2 := F0 m 5 ls [.null]) rfl ?_
    refine lv_astore_nN (lv' := [(3, .null), (0, .ref (ad 75)), (1, .int x1), (2, .ref (ad r2))]) hx hb dX5_changeName_5 rfl hl (by decide) rfl (fun ls hl => ?_)
    refine lv_aload_nN hx hb dX5_changeName_6 rfl (lv_at hl 0 rfl) ?_
    refine lv_ifnullN (tgt := 20) hx hb dX5_changeName_7 (by decide) ?_
    exact hret _ _ _ _ _ hf hP hS dX5_changeName_20
  | some e2 =>
    dsimp only at hf
    obtain ⟨hb_e2, hf⟩ := ob_if hf
    refine W.eq (g2 := F0 m 5 ls [.ref (ad (52 + e2))]) rfl ?_
    refine lv_astore_n (lv' := [(3, .ref (ad (52 + e2))), (0, .ref (ad 75)), (1, .int x1), (2, .ref (ad r2))]) hx hb dX5_changeName_5 rfl hl (by decide) rfl (fun ls hl => ?_)
    refine lv_aload_n hx hb dX5_changeName_6 rfl (lv_at hl 0 rfl) ?_
    refine lv_ifnull hx hb dX5_changeName_7 ?_
    refine lv_aload_n hx hb dX5_changeName_10 rfl (lv_at hl 0 rfl) ?_
    refine lv_aload_n hx hb dX5_changeName_11 rfl (lv_at hl 3 rfl) ?_
    refine lv_iconst (v := 0) hx hb dX5_changeName_12 (by decide) ?_
    refine lv_aload_n hx hb dX5_changeName_13 rfl (lv_at hl 3 rfl) ?_
    obtain ⟨q14, hq, hf⟩ := ob_bind hf
    refine ax_callVi (C := "") (b := 0) (i := r2) (k := 0) (ci := 3) [] C0 hT hJ hE (met_X4_size l dC dI cyI cyE tC ad σ2 r2 (by omega) _ hq) hP hS mc_X4_size ml_X5_31 mi_X4_size ms_X4_size mz_X4 (by decide +kernel) ⟨rfl, rfl⟩ ⟨by decide, by decide⟩ (by omega) (cD_Row (by omega)) rfl rfl rfl hl.1 (Nat.le_of_ble_eq_true rfl) dX5_changeName_14 ⟨Nat.zero_le _, Nat.zero_le _⟩ (fun H locs hP hS => ?_)
    obtain ⟨q17, hq, hf⟩ := ob_bind hf
    refine ax_callVv (b := 0) (i := (52 + e2)) (k := 3) (ci := 0) [.ref (ad r2), .int 0, .int q14.1] C0 hT hJ hE (met_X1_setName l dC dI cyI cyE tC ad q14.2 e2 r2 0 q14.1 (by omega) (by omega) _ hq) hP hS mc_X1_setName ml_X5_58 mi_X1_setName ms_X1_setName mz_X1 (by decide +kernel) ⟨rfl, rfl⟩ ⟨by decide, by decide⟩ (by omega) (cD_Entry (by omega)) rfl rfl rfl hl.1 (Nat.le_of_ble_eq_true rfl) dX5_changeName_17 ⟨Nat.zero_le _, Nat.zero_le _⟩ (fun H locs hP hS => ?_)
    exact hret _ _ _ _ _ hf hP hS dX5_changeName_20
def f_X5_release_60 (k1 : Nat) (k18 : SD → Int32 → Option (SD)) (σ : SD) (x2 : Int32) : Option (SD) := k18 σ (x2 + 1)
def f_X5_release_18 (k1 : Nat) : Nat → SD → Int32 → Option (SD)
  | 0, _, _ => none
  | n + 1, σ, x2 => if (σ.1 5 0) ≤ x2 then (some σ) else (if inb x2 20 = true then (if σ.2.2.2 x2.toNatClampNeg < 20 then (if (σ.1 1 (σ.2.2.2 x2.toNatClampNeg)) ≤ (σ.1 1 k1) then (f_X5_release_60 k1 (f_X5_release_18 k1 n) σ x2) else (if inb x2 20 = true then (if σ.2.2.2 x2.toNatClampNeg < 20 then (f_X5_release_60 k1 (f_X5_release_18 k1 n) (SDi σ 1 (σ.2.2.2 x2.toNatClampNeg) ((σ.1 1 (σ.2.2.2 x2.toNatClampNeg)) - (σ.1 2 k1))) x2) else none) else none)) else none) else none)
def f_X5_release (σ : SD) (k1 : Nat) : Option (SD) := (f_X4_close σ 3 (σ.1 1 k1) (σ.1 2 k1)).bind fun q12 => f_X5_release_18 k1 fu q12.2 0
def rm_X5_release : Room := { frames := 2, cells := 0, slots := 0, locals := 52 }
set_option maxHeartbeats 4000000 in
set_option maxRecDepth 100000 in
theorem met_X5_release (l : Launch) (dC : Nat → ClassId) (dI : Nat → Nat → Nat) (cyI cyE : ClassId) (tC : Nat) (ad : Nat → Nat) (σ : SD) (k1 : Nat) (hb_k1 : k1 < 20) (res : SD) (hf : f_X5_release σ k1 = some res) : ax_Mv l dC dI cyI cyE tC 77 (cD cyI cyE ad) ad yX5_release cX5_release 3 none rm_X5_release [.ref (ad 75), .ref (ad (52 + k1))] σ res := by
  intro sz
  refine Met.ofW (cc := cX5_release) (maxL := 3) (ret := none) (by decide) rfl ?_
  intro p e s m args below meth c s₁ B hml hv
  obtain ⟨hargs, hsz, hP, hJ, hE⟩ := hv
  subst hsz
  have hx := B.exec
  have hb := B.bytes
  have hr := B.returns
  have hlocks := B.notSynchronized
  have hts := atoms_spec (ws := wsY yX5_release cX5_release 3 none) B.pre
  have hown : s.vm.findClass RX5 = some m.cls := findClass_of_methodNamed B.named
  have C0 : CallFix p m c cX5_release 3 s args (wsY yX5_release cX5_release 3 none) RX5 := ⟨hx, hb, hml, hown, hts⟩
  have hT : ∀ w ∈ bw, w ∈ wsY yX5_release cX5_release 3 none := fun w h => List.mem_cons_of_mem _ h
  have hS : va_S (ax_A 77 ad s.heap.size) s.heap s.heap [] := va_S.rf
  rw [show entryFrame m args 3 = entryFrame m ([.ref (ad 75), .ref (ad (52 + k1))] : List Value).toArray 3 by rw [hargs]]
  have hl := lv_entry ([.ref (ad 75), .ref (ad (52 + k1))]) (n := 3) (Nat.le_of_ble_eq_true rfl)
  rw [lg_entry_eq]
  generalize (lg_sl ([.ref (ad 75), .ref (ad (52 + k1))]) ++ List.replicate (3 - (lg_sl ([.ref (ad 75), .ref (ad (52 + k1))])).length) Slot.unset).toArray = ls at hl ⊢
  have hl : lv_has ls 3 [(0, .ref (ad 75)), (1, .ref (ad (52 + k1)))] := hl
  obtain ⟨Q, hQ⟩ : ∃ Q : State → Prop, Q = MQ below (va_Qv (fun (u : SD) => u = res) (ax_B dC dI 77 (cD cyI cyE ad) ad) (ax_A 77 ad s.heap.size)) args s 0 0 (ax_A 77 ad s.heap.size) := ⟨_, rfl⟩
  show W p l e rm_X5_release s m args below meth c s.heap [] 0 0 _ _
  rw [← hQ]
  have hret : ∀ (σ : SD) (H : Heap) (locs : List Loc) (ls : Array Slot) (pc : Nat), some σ = some res → va_P (dC, dI) vwCl (ax_w 77 ad (cD cyI cyE ad σ)) H → va_S (ax_A 77 ad s.heap.size) s.heap H locs → decode cX5_release pc = .ok (.return_, 1) → W p l e rm_X5_release s m args below meth c H locs 0 0 Q (F0 m pc ls []) := by
    intro σ H locs ls pc hf hP hS hd
    cases hf
    rw [hQ]
    exact ax_vret hx hb hr hlocks hP hS hd rfl
  have L60 : ∀ (k18 : SD → Int32 → Option (SD)), (∀ (σ : SD) (x2 : Int32), ∀ (H : Heap) (locs : List Loc) (ls : Array Slot), va_P (dC, dI) vwCl (ax_w 77 ad (cD cyI cyE ad σ)) H → va_S (ax_A 77 ad s.heap.size) s.heap H locs → lv_has ls 3 [(0, .ref (ad 75)), (1, .ref (ad (52 + k1))), (2, .int x2)] → k18 σ x2 = some res → W p l e rm_X5_release s m args below meth c H locs 0 0 Q (F0 m 18 ls [])) → ∀ (σ : SD) (x2 : Int32), ∀ (H : Heap) (locs : List Loc) (ls : Array Slot), va_P (dC, dI) vwCl (ax_w 77 ad (cD cyI cyE ad σ)) H → va_S (ax_A 77 ad s.heap.size) s.heap H locs → lv_has ls 3 [(0, .ref (ad 75)), (1, .ref (ad (52 + k1))), (2, .int x2)] → f_X5_release_60 k1 k18 σ x2 = some res → W p l e rm_X5_release s m args below meth c H locs 0 0 Q (F0 m 60 ls []) := by
    intro k18 hk18
    intro σ x2  H locs ls hP hS hl hf
    unfold f_X5_release_60 at hf
    refine lv_iinc (v := x2 + 1) (lv' := [(2, .int (x2 + 1)), (0, .ref (ad 75)), (1, .ref (ad (52 + k1)))]) hx hb dX5_release_60 hl (k := 2) rfl rfl (by decide) rfl (fun ls hl => ?_)
    refine lv_goto (tgt := 18) hx hb dX5_release_63 (by decide) ?_
    exact hk18 _ _ _ _ _ hP hS (lv_sub hl [1, 2, 0] rfl) hf
  have L18 : ∀ (n : Nat), ∀ (σ : SD) (x2 : Int32), ∀ (H : Heap) (locs : List Loc) (ls : Array Slot), va_P (dC, dI) vwCl (ax_w 77 ad (cD cyI cyE ad σ)) H → va_S (ax_A 77 ad s.heap.size) s.heap H locs → lv_has ls 3 [(0, .ref (ad 75)), (1, .ref (ad (52 + k1))), (2, .int x2)] → f_X5_release_18 k1 n σ x2 = some res → W p l e rm_X5_release s m args below meth c H locs 0 0 Q (F0 m 18 ls []) := by
    intro n
    induction n with
    | zero =>
      intro σ x2  H locs ls hP hS hl hf
      cases hf
    | succ n ih =>
      intro σ x2  H locs ls hP hS hl hf
      rw [f_X5_release_18] at hf
      refine lv_iload_n hx hb dX5_release_18 rfl (lv_at hl 2 rfl) ?_
      refine lv_aload_n hx hb dX5_release_19 rfl (lv_at hl 0 rfl) ?_
      refine g_Shelf_count C0 hT hE hP mf_X5_27 dX5_release_20 ?_
      refine lv_icmp_ge (tgt := 66) hx hb dX5_release_23 (by decide) (fun h23 => ?_) (fun h23 => ?_)
      · rw [if_pos h23] at hf
        exact hret _ _ _ _ _ hf hP hS dX5_release_66
      · rw [if_neg h23] at hf
        refine lv_aload_n hx hb dX5_release_26 rfl (lv_at hl 0 rfl) ?_
        refine g_Shelf_entries C0 hT hE hP mf_X5_11 dX5_release_27 ?_
        refine lv_iload_n hx hb dX5_release_30 rfl (lv_at hl 2 rfl) ?_
        obtain ⟨hin, hf⟩ := ob_if hf
        obtain ⟨hen31, hf⟩ := ob_if hf
        refine aD_lde C0 hT hE hP (inb_in hin) dX5_release_31 ?_
        refine gN_Entry_start (k := (σ.2.2.2 x2.toNatClampNeg)) (by omega) C0 hT hE hP (by decide) dX5_release_32 ?_
        refine lv_aload_n hx hb dX5_release_35 rfl (lv_at hl 1 rfl) ?_
        refine gN_Entry_start (k := k1) (by omega) C0 hT hE hP (by decide) dX5_release_36 ?_
        refine lv_icmp_le (tgt := 60) hx hb dX5_release_39 (by decide) (fun h39 => ?_) (fun h39 => ?_)
        · rw [if_pos h39] at hf
          exact L60 _ ih _ _ _ _ _ hP hS (lv_sub hl [0, 1, 2] rfl) hf
        · rw [if_neg h39] at hf
          refine lv_aload_n hx hb dX5_release_42 rfl (lv_at hl 0 rfl) ?_
          refine g_Shelf_entries C0 hT hE hP mf_X5_11 dX5_release_43 ?_
          refine lv_iload_n hx hb dX5_release_46 rfl (lv_at hl 2 rfl) ?_
          obtain ⟨hin, hf⟩ := ob_if hf
          obtain ⟨hen47, hf⟩ := ob_if hf
          refine aD_lde C0 hT hE hP (inb_in hin) dX5_release_47 ?_
          refine lv_dup hx hb dX5_release_48 rfl ?_
          refine gN_Entry_start (k := (σ.2.2.2 x2.toNatClampNeg)) (by omega) C0 hT hE hP (by decide) dX5_release_49 ?_
          refine lv_aload_n hx hb dX5_release_52 rfl (lv_at hl 1 rfl) ?_
          refine gN_Entry_size (k := k1) (by omega) C0 hT hE hP (by decide) dX5_release_53 ?_
          refine lv_isub hx hb dX5_release_56 ?_
          refine pN_Entry_start (k := (σ.2.2.2 x2.toNatClampNeg)) (by omega) C0 hT hE hJ hP hS (by decide) dX5_release_57 (fun H locs hP hS => ?_)
          exact L60 _ ih _ _ _ _ _ hP hS (lv_sub hl [0, 1, 2] rfl) hf
  unfold f_X5_release at hf
  refine lv_aload_n hx hb dX5_release_0 rfl (lv_at hl 0 rfl) ?_
  refine g_Shelf_bytes C0 hT hE hP mf_X5_22 dX5_release_1 ?_
  refine lv_aload_n hx hb dX5_release_4 rfl (lv_at hl 1 rfl) ?_
  refine gN_Entry_start (k := k1) (by omega) C0 hT hE hP (by decide) dX5_release_5 ?_
  refine lv_aload_n hx hb dX5_release_8 rfl (lv_at hl 1 rfl) ?_
  refine gN_Entry_size (k := k1) (by omega) C0 hT hE hP (by decide) dX5_release_9 ?_
  obtain ⟨q12, hq, hf⟩ := ob_bind hf
  refine ax_callVi (C := "") (b := 0) (i := 3) (k := 2) (ci := 3) [.int (σ.1 1 k1), .int (σ.1 2 k1)] C0 hT hJ hE (met_X4_close l dC dI cyI cyE tC ad σ 3 (σ.1 1 k1) (σ.1 2 k1) (by decide) _ hq) hP hS mc_X4_close ml_X5_93 mi_X4_close ms_X4_close mz_X4 (by decide +kernel) ⟨rfl, rfl⟩ ⟨by decide, by decide⟩ (by decide) (cD_Row (by decide)) rfl rfl rfl hl.1 (Nat.le_of_ble_eq_true rfl) dX5_release_12 ⟨Nat.zero_le _, Nat.zero_le _⟩ (fun H locs hP hS => ?_)
  refine lv_pop hx hb dX5_release_15 rfl ?_
  refine lv_iconst (v := 0) hx hb dX5_release_16 (by decide) ?_
  refine lv_istore_n (lv' := [(2, .int 0), (0, .ref (ad 75)), (1, .ref (ad (52 + k1)))]) hx hb dX5_release_17 rfl hl (by decide) rfl (fun ls hl => ?_)
  exact L18 fu _ _ _ _ _ hP hS (lv_sub hl [1, 2, 0] rfl) hf
def f_X5_changeBytes (σ : SD) (x1 : Int32) (r2 : Nat) : Option (SD) := (f_X5_entry σ x1).bind fun q2 => match q2 with | (none, σ2) => (some σ2) | (some e2, σ2) => (if e2 < 20 then ((f_X5_release σ2 e2).bind fun q12 => (f_X4_size q12 r2).bind fun q20 => (f_X5_fill q20.2 e2 r2 0 q20.1).bind fun q23 => some q23) else none)
def rm_X5_changeBytes : Room := { frames := 4, cells := 0, slots := 0, locals := 105 }
set_option maxHeartbeats 4000000 in
set_option maxRecDepth 100000 in
theorem met_X5_changeBytes (l : Launch) (dC : Nat → ClassId) (dI : Nat → Nat → Nat) (cyI cyE : ClassId) (tC : Nat) (ad : Nat → Nat) (σ : SD) (x1 : Int32) (r2 : Nat) (hb_r2 : r2 < 25) (res : SD) (hf : f_X5_changeBytes σ x1 r2 = some res) : ax_Mv l dC dI cyI cyE tC 77 (cD cyI cyE ad) ad yX5_changeBytes cX5_changeBytes 4 none rm_X5_changeBytes [.ref (ad 75), .int x1, .ref (ad r2)] σ res := by
  intro sz
  refine Met.ofW (cc := cX5_changeBytes) (maxL := 4) (ret := none) (by decide) rfl ?_
  intro p e s m args below meth c s₁ B hml hv
  obtain ⟨hargs, hsz, hP, hJ, hE⟩ := hv
  subst hsz
  have hx := B.exec
  have hb := B.bytes
  have hr := B.returns
  have hlocks := B.notSynchronized
  have hts := atoms_spec (ws := wsY yX5_changeBytes cX5_changeBytes 4 none) B.pre
  have hown : s.vm.findClass RX5 = some m.cls := findClass_of_methodNamed B.named
  have C0 : CallFix p m c cX5_changeBytes 4 s args (wsY yX5_changeBytes cX5_changeBytes 4 none) RX5 := ⟨hx, hb, hml, hown, hts⟩
  have hT : ∀ w ∈ bw, w ∈ wsY yX5_changeBytes cX5_changeBytes 4 none := fun w h => List.mem_cons_of_mem _ h
  have hS : va_S (ax_A 77 ad s.heap.size) s.heap s.heap [] := va_S.rf
  rw [show entryFrame m args 4 = entryFrame m ([.ref (ad 75), .int x1, .ref (ad r2)] : List Value).toArray 4 by rw [hargs]]
  have hl := lv_entry ([.ref (ad 75), .int x1, .ref (ad r2)]) (n := 4) (Nat.le_of_ble_eq_true rfl)
  rw [lg_entry_eq]
  generalize (lg_sl ([.ref (ad 75), .int x1, .ref (ad r2)]) ++ List.replicate (4 - (lg_sl ([.ref (ad 75), .int x1, .ref (ad r2)])).length) Slot.unset).toArray = ls at hl ⊢
  have hl : lv_has ls 4 [(0, .ref (ad 75)), (1, .int x1), (2, .ref (ad r2))] := hl
  obtain ⟨Q, hQ⟩ : ∃ Q : State → Prop, Q = MQ below (va_Qv (fun (u : SD) => u = res) (ax_B dC dI 77 (cD cyI cyE ad) ad) (ax_A 77 ad s.heap.size)) args s 0 0 (ax_A 77 ad s.heap.size) := ⟨_, rfl⟩
  show W p l e rm_X5_changeBytes s m args below meth c s.heap [] 0 0 _ _
  rw [← hQ]
  have hret : ∀ (σ : SD) (H : Heap) (locs : List Loc) (ls : Array Slot) (pc : Nat), some σ = some res → va_P (dC, dI) vwCl (ax_w 77 ad (cD cyI cyE ad σ)) H → va_S (ax_A 77 ad s.heap.size) s.heap H locs → decode cX5_changeBytes pc = .ok (.return_, 1) → W p l e rm_X5_changeBytes s m args below meth c H locs 0 0 Q (F0 m pc ls []) := by
    intro σ H locs ls pc hf hP hS hd
    cases hf
    rw [hQ]
    exact ax_vret hx hb hr hlocks hP hS hd rfl
  unfold f_X5_changeBytes at hf
  refine lv_aload_n hx hb dX5_changeBytes_0 rfl (lv_at hl 0 rfl) ?_
  refine lv_iload_n hx hb dX5_changeBytes_1 rfl (lv_at hl 1 rfl) ?_
  obtain ⟨⟨o2, σ2⟩, hq, hf⟩ := ob_bind hf
  refine ax_callVq (i := 75) (k := 1) (ci := 4) [.int x1] C0 hT hJ hE (met_X5_entry l dC dI cyI cyE tC ad σ x1 _ hq) hP hS mc_X5_entry ml_X5_51 mi_X5_entry ms_X5_entry mz_X5 (by decide +kernel) ⟨rfl, rfl⟩ ⟨by decide, by decide⟩ (by decide) cD_Shelf rfl rfl rfl hl.1 (Nat.le_of_ble_eq_true rfl) dX5_changeBytes_2 ⟨Nat.zero_le _, Nat.zero_le _⟩ (fun H locs hP hS => ?_)
  cases o2 with
  | none =>
    dsimp only at hf
    refine W.eq (g2 := F0 m 5 ls [.null]) rfl ?_
    refine lv_astore_nN (lv' := [(3, .null), (0, .ref (ad 75)), (1, .int x1), (2, .ref (ad r2))]) hx hb dX5_changeBytes_5 rfl hl (by decide) rfl (fun ls hl => ?_)
    refine lv_aload_nN hx hb dX5_changeBytes_6 rfl (lv_at hl 0 rfl) ?_
    refine lv_ifnullN (tgt := 26) hx hb dX5_changeBytes_7 (by decide) ?_
    exact hret _ _ _ _ _ hf hP hS dX5_changeBytes_26
  | some e2 =>
    dsimp only at hf
    obtain ⟨hb_e2, hf⟩ := ob_if hf
    refine W.eq (g2 := F0 m 5 ls [.ref (ad (52 + e2))]) rfl ?_
    refine lv_astore_n (lv' := [(3, .ref (ad (52 + e2))), (0, .ref (ad 75)), (1, .int x1), (2, .ref (ad r2))]) hx hb dX5_changeBytes_5 rfl hl (by decide) rfl (fun ls hl => ?_)
    refine lv_aload_n hx hb dX5_changeBytes_6 rfl (lv_at hl 0 rfl) ?_
    refine lv_ifnull hx hb dX5_changeBytes_7 ?_
    refine lv_aload_n hx hb dX5_changeBytes_10 rfl (lv_at hl 1 rfl) ?_
    refine lv_aload_n hx hb dX5_changeBytes_11 rfl (lv_at hl 0 rfl) ?_
    obtain ⟨q12, hq, hf⟩ := ob_bind hf
    refine ax_callVv (b := 0) (i := 75) (k := 1) (ci := 4) [.ref (ad (52 + e2))] C0 hT hJ hE (met_X5_release l dC dI cyI cyE tC ad σ2 e2 (by omega) _ hq) hP hS mc_X5_release ml_X5_89 mi_X5_release ms_X5_release mz_X5 (by decide +kernel) ⟨rfl, rfl⟩ ⟨by decide, by decide⟩ (by decide) cD_Shelf rfl rfl rfl hl.1 (Nat.le_of_ble_eq_true rfl) dX5_changeBytes_12 ⟨Nat.zero_le _, Nat.zero_le _⟩ (fun H locs hP hS => ?_)
    refine lv_aload_n hx hb dX5_changeBytes_15 rfl (lv_at hl 1 rfl) ?_
    refine lv_aload_n hx hb dX5_changeBytes_16 rfl (lv_at hl 0 rfl) ?_
    refine lv_aload_n hx hb dX5_changeBytes_17 rfl (lv_at hl 3 rfl) ?_
    refine lv_iconst (v := 0) hx hb dX5_changeBytes_18 (by decide) ?_
    refine lv_aload_n hx hb dX5_changeBytes_19 rfl (lv_at hl 3 rfl) ?_
    obtain ⟨q20, hq, hf⟩ := ob_bind hf
    refine ax_callVi (C := "") (b := 0) (i := r2) (k := 0) (ci := 3) [] C0 hT hJ hE (met_X4_size l dC dI cyI cyE tC ad q12 r2 (by omega) _ hq) hP hS mc_X4_size ml_X5_31 mi_X4_size ms_X4_size mz_X4 (by decide +kernel) ⟨rfl, rfl⟩ ⟨by decide, by decide⟩ (by omega) (cD_Row (by omega)) rfl rfl rfl hl.1 (Nat.le_of_ble_eq_true rfl) dX5_changeBytes_20 ⟨Nat.zero_le _, Nat.zero_le _⟩ (fun H locs hP hS => ?_)
    obtain ⟨q23, hq, hf⟩ := ob_bind hf
    refine ax_callVv (b := 0) (i := 75) (k := 4) (ci := 4) [.ref (ad (52 + e2)), .ref (ad r2), .int 0, .int q20.1] C0 hT hJ hE (met_X5_fill l dC dI cyI cyE tC ad q20.2 e2 r2 0 q20.1 (by omega) (by omega) _ hq) hP hS mc_X5_fill ml_X5_62 mi_X5_fill ms_X5_fill mz_X5 (by decide +kernel) ⟨rfl, rfl⟩ ⟨by decide, by decide⟩ (by decide) cD_Shelf rfl rfl rfl hl.1 (Nat.le_of_ble_eq_true rfl) dX5_changeBytes_23 ⟨Nat.zero_le _, Nat.zero_le _⟩ (fun H locs hP hS => ?_)
    exact hret _ _ _ _ _ hf hP hS dX5_changeBytes_26
def f_X5_takeOut_20 (x1 : Int32) : Nat → SD → Nat → Int32 → Option (SD)
  | 0, _, _, _ => none
  | n + 1, σ, x2, x3 => if (σ.1 5 0) ≤ x3 then (if inb ((σ.1 5 0) - 1) 20 = true then (some (SDi (SDe σ ((σ.1 5 0) - 1).toNatClampNeg x2) 5 0 (((SDe σ ((σ.1 5 0) - 1).toNatClampNeg x2).1 5 0) - 1))) else none) else (if inb x3 20 = true then (if σ.2.2.2 x3.toNatClampNeg < 20 then (if inb (x3 - 1) 20 = true then (f_X5_takeOut_20 x1 n (SDe σ (x3 - 1).toNatClampNeg (σ.2.2.2 x3.toNatClampNeg)) x2 (x3 + 1)) else none) else none) else none)
def f_X5_takeOut (σ : SD) (x1 : Int32) : Option (SD) := (f_X5_entry σ x1).bind fun q2 => match q2 with | (none, σ2) => (some σ2) | (some e2, σ2) => (if e2 < 20 then ((f_X5_release σ2 e2).bind fun q13 => f_X5_takeOut_20 x1 fu q13 e2 (x1 + 1)) else none)
def rm_X5_takeOut : Room := { frames := 3, cells := 0, slots := 0, locals := 74 }
set_option maxHeartbeats 4000000 in
set_option maxRecDepth 100000 in
theorem met_X5_takeOut (l : Launch) (dC : Nat → ClassId) (dI : Nat → Nat → Nat) (cyI cyE : ClassId) (tC : Nat) (ad : Nat → Nat) (σ : SD) (x1 : Int32) (res : SD) (hf : f_X5_takeOut σ x1 = some res) : ax_Mv l dC dI cyI cyE tC 77 (cD cyI cyE ad) ad yX5_takeOut cX5_takeOut 4 none rm_X5_takeOut [.ref (ad 75), .int x1] σ res := by
  intro sz
  refine Met.ofW (cc := cX5_takeOut) (maxL := 4) (ret := none) (by decide) rfl ?_
  intro p e s m args below meth c s₁ B hml hv
  obtain ⟨hargs, hsz, hP, hJ, hE⟩ := hv
  subst hsz
  have hx := B.exec
  have hb := B.bytes
  have hr := B.returns
  have hlocks := B.notSynchronized
  have hts := atoms_spec (ws := wsY yX5_takeOut cX5_takeOut 4 none) B.pre
  have hown : s.vm.findClass RX5 = some m.cls := findClass_of_methodNamed B.named
  have C0 : CallFix p m c cX5_takeOut 4 s args (wsY yX5_takeOut cX5_takeOut 4 none) RX5 := ⟨hx, hb, hml, hown, hts⟩
  have hT : ∀ w ∈ bw, w ∈ wsY yX5_takeOut cX5_takeOut 4 none := fun w h => List.mem_cons_of_mem _ h
  have hS : va_S (ax_A 77 ad s.heap.size) s.heap s.heap [] := va_S.rf
  rw [show entryFrame m args 4 = entryFrame m ([.ref (ad 75), .int x1] : List Value).toArray 4 by rw [hargs]]
  have hl := lv_entry ([.ref (ad 75), .int x1]) (n := 4) (Nat.le_of_ble_eq_true rfl)
  rw [lg_entry_eq]
  generalize (lg_sl ([.ref (ad 75), .int x1]) ++ List.replicate (4 - (lg_sl ([.ref (ad 75), .int x1])).length) Slot.unset).toArray = ls at hl ⊢
  have hl : lv_has ls 4 [(0, .ref (ad 75)), (1, .int x1)] := hl
  obtain ⟨Q, hQ⟩ : ∃ Q : State → Prop, Q = MQ below (va_Qv (fun (u : SD) => u = res) (ax_B dC dI 77 (cD cyI cyE ad) ad) (ax_A 77 ad s.heap.size)) args s 0 0 (ax_A 77 ad s.heap.size) := ⟨_, rfl⟩
  show W p l e rm_X5_takeOut s m args below meth c s.heap [] 0 0 _ _
  rw [← hQ]
  have hret : ∀ (σ : SD) (H : Heap) (locs : List Loc) (ls : Array Slot) (pc : Nat), some σ = some res → va_P (dC, dI) vwCl (ax_w 77 ad (cD cyI cyE ad σ)) H → va_S (ax_A 77 ad s.heap.size) s.heap H locs → decode cX5_takeOut pc = .ok (.return_, 1) → W p l e rm_X5_takeOut s m args below meth c H locs 0 0 Q (F0 m pc ls []) := by
    intro σ H locs ls pc hf hP hS hd
    cases hf
    rw [hQ]
    exact ax_vret hx hb hr hlocks hP hS hd rfl
  have L20 : ∀ (n : Nat), ∀ (σ : SD) (x2 : Nat) (x3 : Int32), x2 < 20 → ∀ (H : Heap) (locs : List Loc) (ls : Array Slot), va_P (dC, dI) vwCl (ax_w 77 ad (cD cyI cyE ad σ)) H → va_S (ax_A 77 ad s.heap.size) s.heap H locs → lv_has ls 4 [(0, .ref (ad 75)), (2, .ref (ad (52 + x2))), (3, .int x3)] → f_X5_takeOut_20 x1 n σ x2 x3 = some res → W p l e rm_X5_takeOut s m args below meth c H locs 0 0 Q (F0 m 20 ls []) := by
    intro n
    induction n with
    | zero =>
      intro σ x2 x3 hb_x2 H locs ls hP hS hl hf
      cases hf
    | succ n ih =>
      intro σ x2 x3 hb_x2 H locs ls hP hS hl hf
      rw [f_X5_takeOut_20] at hf
      refine lv_iload_n hx hb dX5_takeOut_20 rfl (lv_at hl 2 rfl) ?_
      refine lv_aload_n hx hb dX5_takeOut_21 rfl (lv_at hl 0 rfl) ?_
      refine g_Shelf_count C0 hT hE hP mf_X5_27 dX5_takeOut_22 ?_
      refine lv_icmp_ge (tgt := 48) hx hb dX5_takeOut_25 (by decide) (fun h25 => ?_) (fun h25 => ?_)
      · rw [if_pos h25] at hf
        refine lv_aload_n hx hb dX5_takeOut_48 rfl (lv_at hl 0 rfl) ?_
        refine g_Shelf_entries C0 hT hE hP mf_X5_11 dX5_takeOut_49 ?_
        refine lv_aload_n hx hb dX5_takeOut_52 rfl (lv_at hl 0 rfl) ?_
        refine g_Shelf_count C0 hT hE hP mf_X5_27 dX5_takeOut_53 ?_
        refine lv_iconst (v := 1) hx hb dX5_takeOut_56 (by decide) ?_
        refine lv_isub hx hb dX5_takeOut_57 ?_
        refine lv_aload_n hx hb dX5_takeOut_58 rfl (lv_at hl 1 rfl) ?_
        obtain ⟨hin, hf⟩ := ob_if hf
        refine aD_ste (k := x2) (by omega) C0 hT hE hJ hP hS (inb_in hin) dX5_takeOut_59 (fun H locs hP hS => ?_)
        refine lv_aload_n hx hb dX5_takeOut_60 rfl (lv_at hl 0 rfl) ?_
        refine lv_dup hx hb dX5_takeOut_61 rfl ?_
        refine g_Shelf_count C0 hT hE hP mf_X5_27 dX5_takeOut_62 ?_
        refine lv_iconst (v := 1) hx hb dX5_takeOut_65 (by decide) ?_
        refine lv_isub hx hb dX5_takeOut_66 ?_
        refine p_Shelf_count C0 hT hE hJ hP hS mf_X5_27 dX5_takeOut_67 (fun H locs hP hS => ?_)
        exact hret _ _ _ _ _ hf hP hS dX5_takeOut_70
      · rw [if_neg h25] at hf
        refine lv_aload_n hx hb dX5_takeOut_28 rfl (lv_at hl 0 rfl) ?_
        refine g_Shelf_entries C0 hT hE hP mf_X5_11 dX5_takeOut_29 ?_
        refine lv_iload_n hx hb dX5_takeOut_32 rfl (lv_at hl 2 rfl) ?_
        refine lv_iconst (v := 1) hx hb dX5_takeOut_33 (by decide) ?_
        refine lv_isub hx hb dX5_takeOut_34 ?_
        refine lv_aload_n hx hb dX5_takeOut_35 rfl (lv_at hl 0 rfl) ?_
        refine g_Shelf_entries C0 hT hE hP mf_X5_11 dX5_takeOut_36 ?_
        refine lv_iload_n hx hb dX5_takeOut_39 rfl (lv_at hl 2 rfl) ?_
        obtain ⟨hin, hf⟩ := ob_if hf
        obtain ⟨hen40, hf⟩ := ob_if hf
        refine aD_lde C0 hT hE hP (inb_in hin) dX5_takeOut_40 ?_
        obtain ⟨hin, hf⟩ := ob_if hf
        refine aD_ste (k := (σ.2.2.2 x3.toNatClampNeg)) (by omega) C0 hT hE hJ hP hS (inb_in hin) dX5_takeOut_41 (fun H locs hP hS => ?_)
        refine lv_iinc (v := x3 + 1) (lv' := [(3, .int (x3 + 1)), (0, .ref (ad 75)), (2, .ref (ad (52 + x2)))]) hx hb dX5_takeOut_42 hl (k := 2) rfl rfl (by decide) rfl (fun ls hl => ?_)
        refine lv_goto (tgt := 20) hx hb dX5_takeOut_45 (by decide) ?_
        exact ih _ _ _ (by omega) _ _ _ hP hS (lv_sub hl [1, 2, 0] rfl) hf
  unfold f_X5_takeOut at hf
  refine lv_aload_n hx hb dX5_takeOut_0 rfl (lv_at hl 0 rfl) ?_
  refine lv_iload_n hx hb dX5_takeOut_1 rfl (lv_at hl 1 rfl) ?_
  obtain ⟨⟨o2, σ2⟩, hq, hf⟩ := ob_bind hf
  refine ax_callVq (i := 75) (k := 1) (ci := 4) [.int x1] C0 hT hJ hE (met_X5_entry l dC dI cyI cyE tC ad σ x1 _ hq) hP hS mc_X5_entry ml_X5_51 mi_X5_entry ms_X5_entry mz_X5 (by decide +kernel) ⟨rfl, rfl⟩ ⟨by decide, by decide⟩ (by decide) cD_Shelf rfl rfl rfl hl.1 (Nat.le_of_ble_eq_true rfl) dX5_takeOut_2 ⟨Nat.zero_le _, Nat.zero_le _⟩ (fun H locs hP hS => ?_)
  cases o2 with
  | none =>
    dsimp only at hf
    refine W.eq (g2 := F0 m 5 ls [.null]) rfl ?_
    refine lv_astore_nN (lv' := [(2, .null), (0, .ref (ad 75)), (1, .int x1)]) hx hb dX5_takeOut_5 rfl hl (by decide) rfl (fun ls hl => ?_)
    refine lv_aload_nN hx hb dX5_takeOut_6 rfl (lv_at hl 0 rfl) ?_
    refine lv_ifnonnullN hx hb dX5_takeOut_7 ?_
    exact hret _ _ _ _ _ hf hP hS dX5_takeOut_10
  | some e2 =>
    dsimp only at hf
    obtain ⟨hb_e2, hf⟩ := ob_if hf
    refine W.eq (g2 := F0 m 5 ls [.ref (ad (52 + e2))]) rfl ?_
    refine lv_astore_n (lv' := [(2, .ref (ad (52 + e2))), (0, .ref (ad 75)), (1, .int x1)]) hx hb dX5_takeOut_5 rfl hl (by decide) rfl (fun ls hl => ?_)
    refine lv_aload_n hx hb dX5_takeOut_6 rfl (lv_at hl 0 rfl) ?_
    refine lv_ifnonnull (tgt := 11) hx hb dX5_takeOut_7 (by decide) ?_
    refine lv_aload_n hx hb dX5_takeOut_11 rfl (lv_at hl 1 rfl) ?_
    refine lv_aload_n hx hb dX5_takeOut_12 rfl (lv_at hl 0 rfl) ?_
    obtain ⟨q13, hq, hf⟩ := ob_bind hf
    refine ax_callVv (b := 0) (i := 75) (k := 1) (ci := 4) [.ref (ad (52 + e2))] C0 hT hJ hE (met_X5_release l dC dI cyI cyE tC ad σ2 e2 (by omega) _ hq) hP hS mc_X5_release ml_X5_89 mi_X5_release ms_X5_release mz_X5 (by decide +kernel) ⟨rfl, rfl⟩ ⟨by decide, by decide⟩ (by decide) cD_Shelf rfl rfl rfl hl.1 (Nat.le_of_ble_eq_true rfl) dX5_takeOut_13 ⟨Nat.zero_le _, Nat.zero_le _⟩ (fun H locs hP hS => ?_)
    refine lv_iload_n hx hb dX5_takeOut_16 rfl (lv_at hl 2 rfl) ?_
    refine lv_iconst (v := 1) hx hb dX5_takeOut_17 (by decide) ?_
    refine lv_iadd hx hb dX5_takeOut_18 ?_
    refine lv_istore_n (lv' := [(3, .int (x1 + 1)), (2, .ref (ad (52 + e2))), (0, .ref (ad 75)), (1, .int x1)]) hx hb dX5_takeOut_19 rfl hl (by decide) rfl (fun ls hl => ?_)
    exact L20 fu _ _ _ (by omega) _ _ _ hP hS (lv_sub hl [2, 1, 0] rfl) hf
def f_X5_takeOutAll (σ : SD) : Option (SD) := (f_X4_shorten (SDi σ 5 0 0) 3 0).bind fun q10 => some q10.2
def rm_X5_takeOutAll : Room := { frames := 1, cells := 0, slots := 0, locals := 21 }
set_option maxHeartbeats 4000000 in
set_option maxRecDepth 100000 in
theorem met_X5_takeOutAll (l : Launch) (dC : Nat → ClassId) (dI : Nat → Nat → Nat) (cyI cyE : ClassId) (tC : Nat) (ad : Nat → Nat) (σ : SD) (res : SD) (hf : f_X5_takeOutAll σ = some res) : ax_Mv l dC dI cyI cyE tC 77 (cD cyI cyE ad) ad yX5_takeOutAll cX5_takeOutAll 1 none rm_X5_takeOutAll [.ref (ad 75)] σ res := by
  intro sz
  refine Met.ofW (cc := cX5_takeOutAll) (maxL := 1) (ret := none) (by decide) rfl ?_
  intro p e s m args below meth c s₁ B hml hv
  obtain ⟨hargs, hsz, hP, hJ, hE⟩ := hv
  subst hsz
  have hx := B.exec
  have hb := B.bytes
  have hr := B.returns
  have hlocks := B.notSynchronized
  have hts := atoms_spec (ws := wsY yX5_takeOutAll cX5_takeOutAll 1 none) B.pre
  have hown : s.vm.findClass RX5 = some m.cls := findClass_of_methodNamed B.named
  have C0 : CallFix p m c cX5_takeOutAll 1 s args (wsY yX5_takeOutAll cX5_takeOutAll 1 none) RX5 := ⟨hx, hb, hml, hown, hts⟩
  have hT : ∀ w ∈ bw, w ∈ wsY yX5_takeOutAll cX5_takeOutAll 1 none := fun w h => List.mem_cons_of_mem _ h
  have hS : va_S (ax_A 77 ad s.heap.size) s.heap s.heap [] := va_S.rf
  rw [show entryFrame m args 1 = entryFrame m ([.ref (ad 75)] : List Value).toArray 1 by rw [hargs]]
  have hl := lv_entry ([.ref (ad 75)]) (n := 1) (Nat.le_of_ble_eq_true rfl)
  rw [lg_entry_eq]
  generalize (lg_sl ([.ref (ad 75)]) ++ List.replicate (1 - (lg_sl ([.ref (ad 75)])).length) Slot.unset).toArray = ls at hl ⊢
  have hl : lv_has ls 1 [(0, .ref (ad 75))] := hl
  obtain ⟨Q, hQ⟩ : ∃ Q : State → Prop, Q = MQ below (va_Qv (fun (u : SD) => u = res) (ax_B dC dI 77 (cD cyI cyE ad) ad) (ax_A 77 ad s.heap.size)) args s 0 0 (ax_A 77 ad s.heap.size) := ⟨_, rfl⟩
  show W p l e rm_X5_takeOutAll s m args below meth c s.heap [] 0 0 _ _
  rw [← hQ]
  have hret : ∀ (σ : SD) (H : Heap) (locs : List Loc) (ls : Array Slot) (pc : Nat), some σ = some res → va_P (dC, dI) vwCl (ax_w 77 ad (cD cyI cyE ad σ)) H → va_S (ax_A 77 ad s.heap.size) s.heap H locs → decode cX5_takeOutAll pc = .ok (.return_, 1) → W p l e rm_X5_takeOutAll s m args below meth c H locs 0 0 Q (F0 m pc ls []) := by
    intro σ H locs ls pc hf hP hS hd
    cases hf
    rw [hQ]
    exact ax_vret hx hb hr hlocks hP hS hd rfl
  unfold f_X5_takeOutAll at hf
  refine lv_aload_n hx hb dX5_takeOutAll_0 rfl (lv_at hl 0 rfl) ?_
  refine lv_iconst (v := 0) hx hb dX5_takeOutAll_1 (by decide) ?_
  refine p_Shelf_count C0 hT hE hJ hP hS mf_X5_27 dX5_takeOutAll_2 (fun H locs hP hS => ?_)
  refine lv_aload_n hx hb dX5_takeOutAll_5 rfl (lv_at hl 0 rfl) ?_
  refine g_Shelf_bytes C0 hT hE hP mf_X5_22 dX5_takeOutAll_6 ?_
  refine lv_iconst (v := 0) hx hb dX5_takeOutAll_9 (by decide) ?_
  obtain ⟨q10, hq, hf⟩ := ob_bind hf
  refine ax_callVi (C := "") (b := 0) (i := 3) (k := 1) (ci := 3) [.int 0] C0 hT hJ hE (met_X4_shorten l dC dI cyI cyE tC ad (SDi σ 5 0 0) 3 0 (by decide) _ hq) hP hS mc_X4_shorten ml_X5_97 mi_X4_shorten ms_X4_shorten mz_X4 (by decide +kernel) ⟨rfl, rfl⟩ ⟨by decide, by decide⟩ (by decide) (cD_Row (by decide)) rfl rfl rfl hl.1 (Nat.le_of_ble_eq_true rfl) dX5_takeOutAll_10 ⟨Nat.zero_le _, Nat.zero_le _⟩ (fun H locs hP hS => ?_)
  refine lv_pop hx hb dX5_takeOutAll_13 rfl ?_
  exact hret _ _ _ _ _ hf hP hS dX5_takeOutAll_14
