def f_X8_isName_62 (x1 : Int32) (x2 : Int32) (k19 : SM → Int32 → Int32 → Option (Int32 × SM)) (σ : SM) (x4 : Int32) (s0 : Int32) : Option (Int32 × SM) := k19 σ s0 (x4 + 1)
def f_X8_isName_19 (x1 : Int32) (x2 : Int32) : Nat → SM → Int32 → Int32 → Option (Int32 × SM)
  | 0, _, _, _ => none
  | n + 1, σ, x3, x4 => if x2 ≤ x4 then (if nzb x3 = true then some (x3, σ) else none) else (if x3 = 0 then (if nzb x3 = true then some (x3, σ) else none) else (if inb (x1 + x4) (capM 1) = true then (if (σ.2 1 (x1 + x4).toNatClampNeg) ≤ 32 then (f_X8_isName_62 x1 x2 (f_X8_isName_19 x1 x2 n) σ x4 0) else (if inb (x1 + x4) (capM 1) = true then (if (127 : Int32) ≤ (σ.2 1 (x1 + x4).toNatClampNeg) then (f_X8_isName_62 x1 x2 (f_X8_isName_19 x1 x2 n) σ x4 0) else (f_X8_isName_62 x1 x2 (f_X8_isName_19 x1 x2 n) σ x4 1)) else none)) else none))
def f_X8_isName_15 (x1 : Int32) (x2 : Int32) (σ : SM) (s0 : Int32) : Option (Int32 × SM) := f_X8_isName_19 x1 x2 fu σ s0 0
def f_X8_isName (σ : SM) (x1 : Int32) (x2 : Int32) : Option (Int32 × SM) := if x2 ≤ 0 then (f_X8_isName_15 x1 x2 σ 0) else (if (30 : Int32) < x2 then (f_X8_isName_15 x1 x2 σ 0) else (f_X8_isName_15 x1 x2 σ 1))
def rm_X8_isName : Room := { frames := 0, cells := 0, slots := 0, locals := 0 }
set_option maxHeartbeats 4000000 in
set_option maxRecDepth 100000 in
theorem met_X8_isName (l : Launch) (dC : Nat → ClassId) (dI : Nat → Nat → Nat) (cyI cyE : ClassId) (tC : Nat) (ad : Nat → Nat) (σ : SM) (x1 : Int32) (x2 : Int32) (res : Int32 × SM) (hf : f_X8_isName σ x1 x2 = some res) : ax_Mi l dC dI cyI cyE tC 12 (cM cyI ad) ad yX8_isName cX8_isName 5 (some .boolean) rm_X8_isName [.ref (ad 11), .int x1, .int x2] σ res.1 res.2 := by
  intro sz
  refine Met.ofW (cc := cX8_isName) (maxL := 5) (ret := (some .boolean)) (by decide) rfl ?_
  intro p e s m args below meth c s₁ B hml hv
  obtain ⟨hargs, hsz, hP, hJ, hE⟩ := hv
  subst hsz
  have hx := B.exec
  have hb := B.bytes
  have hr := B.returns
  have hlocks := B.notSynchronized
  have hts := atoms_spec (ws := wsY yX8_isName cX8_isName 5 (some .boolean)) B.pre
  have hown : s.vm.findClass RX8 = some m.cls := findClass_of_methodNamed B.named
  have C0 : CallFix p m c cX8_isName 5 s args (wsY yX8_isName cX8_isName 5 (some .boolean)) RX8 := ⟨hx, hb, hml, hown, hts⟩
  have hT : ∀ w ∈ bw, w ∈ wsY yX8_isName cX8_isName 5 (some .boolean) := fun w h => List.mem_cons_of_mem _ h
  have hS : va_S (ax_A 12 ad s.heap.size) s.heap s.heap [] := va_S.rf
  rw [show entryFrame m args 5 = entryFrame m ([.ref (ad 11), .int x1, .int x2] : List Value).toArray 5 by rw [hargs]]
  have hl := lv_entry ([.ref (ad 11), .int x1, .int x2]) (n := 5) (Nat.le_of_ble_eq_true rfl)
  rw [lg_entry_eq]
  generalize (lg_sl ([.ref (ad 11), .int x1, .int x2]) ++ List.replicate (5 - (lg_sl ([.ref (ad 11), .int x1, .int x2])).length) Slot.unset).toArray = ls at hl ⊢
  have hl : lv_has ls 5 [(0, .ref (ad 11)), (1, .int x1), (2, .int x2)] := hl
  obtain ⟨Q, hQ⟩ : ∃ Q : State → Prop, Q = MQ below (va_Qi (fun (a : Int32) (u : SM) => a = res.1 ∧ u = res.2) (ax_B dC dI 12 (cM cyI ad) ad) (ax_A 12 ad s.heap.size)) args s 0 0 (ax_A 12 ad s.heap.size) := ⟨_, rfl⟩
  show W p l e rm_X8_isName s m args below meth c s.heap [] 0 0 _ _
  rw [← hQ]
  have hret : ∀ (v : Int32) (σ : SM) (H : Heap) (locs : List Loc) (ls : Array Slot) (pc : Nat), narrow .boolean (.int v) = .int v → some (v, σ) = some res → va_P (dC, dI) vwCl (ax_w 12 ad (cM cyI ad σ)) H → va_S (ax_A 12 ad s.heap.size) s.heap H locs → decode cX8_isName pc = .ok (.ireturn, 1) → W p l e rm_X8_isName s m args below meth c H locs 0 0 Q (F0 m pc ls [.int v]) := by
    intro v σ H locs ls pc hn hf hP hS hd
    cases hf
    rw [hQ]
    exact ax_iret hx hb hr hlocks hn hP hS hd rfl rfl
  have L62 : ∀ (k19 : SM → Int32 → Int32 → Option (Int32 × SM)), (∀ (σ : SM) (x3 : Int32) (x4 : Int32), ∀ (H : Heap) (locs : List Loc) (ls : Array Slot), va_P (dC, dI) vwCl (ax_w 12 ad (cM cyI ad σ)) H → va_S (ax_A 12 ad s.heap.size) s.heap H locs → lv_has ls 5 [(0, .ref (ad 11)), (1, .int x1), (2, .int x2), (3, .int x3), (4, .int x4)] → k19 σ x3 x4 = some res → W p l e rm_X8_isName s m args below meth c H locs 0 0 Q (F0 m 19 ls [])) → ∀ (σ : SM) (x4 : Int32) (s0 : Int32), ∀ (H : Heap) (locs : List Loc) (ls : Array Slot), va_P (dC, dI) vwCl (ax_w 12 ad (cM cyI ad σ)) H → va_S (ax_A 12 ad s.heap.size) s.heap H locs → lv_has ls 5 [(0, .ref (ad 11)), (1, .int x1), (2, .int x2), (4, .int x4)] → f_X8_isName_62 x1 x2 k19 σ x4 s0 = some res → W p l e rm_X8_isName s m args below meth c H locs 0 0 Q (F0 m 62 ls [.int s0]) := by
    intro k19 hk19
    intro σ x4 s0  H locs ls hP hS hl hf
    unfold f_X8_isName_62 at hf
    refine lv_istore_n (lv' := [(3, .int s0), (0, .ref (ad 11)), (1, .int x1), (2, .int x2), (4, .int x4)]) hx hb dX8_isName_62 rfl hl (by decide) rfl (fun ls hl => ?_)
    refine lv_iinc (v := x4 + 1) (lv' := [(4, .int (x4 + 1)), (3, .int s0), (0, .ref (ad 11)), (1, .int x1), (2, .int x2)]) hx hb dX8_isName_63 hl (k := 4) rfl rfl (by decide) rfl (fun ls hl => ?_)
    refine lv_goto (tgt := 19) hx hb dX8_isName_66 (by decide) ?_
    exact hk19 _ _ _ _ _ _ hP hS (lv_sub hl [2, 3, 4, 1, 0] rfl) hf
  have L19 : ∀ (n : Nat), ∀ (σ : SM) (x3 : Int32) (x4 : Int32), ∀ (H : Heap) (locs : List Loc) (ls : Array Slot), va_P (dC, dI) vwCl (ax_w 12 ad (cM cyI ad σ)) H → va_S (ax_A 12 ad s.heap.size) s.heap H locs → lv_has ls 5 [(0, .ref (ad 11)), (1, .int x1), (2, .int x2), (3, .int x3), (4, .int x4)] → f_X8_isName_19 x1 x2 n σ x3 x4 = some res → W p l e rm_X8_isName s m args below meth c H locs 0 0 Q (F0 m 19 ls []) := by
    intro n
    induction n with
    | zero =>
      intro σ x3 x4  H locs ls hP hS hl hf
      cases hf
    | succ n ih =>
      intro σ x3 x4  H locs ls hP hS hl hf
      rw [f_X8_isName_19] at hf
      refine lv_iload hx hb dX8_isName_19 (lv_at hl 4 rfl) ?_
      refine lv_iload_n hx hb dX8_isName_21 rfl (lv_at hl 2 rfl) ?_
      refine lv_icmp_ge (tgt := 69) hx hb dX8_isName_22 (by decide) (fun h22 => ?_) (fun h22 => ?_)
      · rw [if_pos h22] at hf
        refine lv_iload_n hx hb dX8_isName_69 rfl (lv_at hl 3 rfl) ?_
        obtain ⟨hnz, hf⟩ := ob_if hf
        exact hret _ _ _ _ _ _ (nzb_n hnz) hf hP hS dX8_isName_70
      · rw [if_neg h22] at hf
        refine lv_iload_n hx hb dX8_isName_25 rfl (lv_at hl 3 rfl) ?_
        refine lv_if_eq (tgt := 69) hx hb dX8_isName_26 (by decide) (fun h26 => ?_) (fun h26 => ?_)
        · rw [if_pos h26] at hf
          refine lv_iload_n hx hb dX8_isName_69 rfl (lv_at hl 3 rfl) ?_
          obtain ⟨hnz, hf⟩ := ob_if hf
          exact hret _ _ _ _ _ _ (nzb_n hnz) hf hP hS dX8_isName_70
        · rw [if_neg h26] at hf
          refine lv_aload_n hx hb dX8_isName_29 rfl (lv_at hl 0 rfl) ?_
          refine g_Model_tape C0 hT hE hP mf_X8_13 dX8_isName_30 ?_
          refine lv_iload_n hx hb dX8_isName_33 rfl (lv_at hl 1 rfl) ?_
          refine lv_iload hx hb dX8_isName_34 (lv_at hl 4 rfl) ?_
          refine lv_iadd hx hb dX8_isName_36 ?_
          obtain ⟨hin, hf⟩ := ob_if hf
          refine aM_ld (a := 1) (by decide) C0 hT hE hP (inb_in hin) dX8_isName_37 ?_
          refine lv_bipush (v := 32) hx hb dX8_isName_38 (by decide) ?_
          refine lv_icmp_le (tgt := 61) hx hb dX8_isName_40 (by decide) (fun h40 => ?_) (fun h40 => ?_)
          · rw [if_pos h40] at hf
            refine lv_iconst (v := 0) hx hb dX8_isName_61 (by decide) ?_
            exact L62 _ ih _ _ _ _ _ _ hP hS (lv_sub hl [0, 1, 2, 4] rfl) hf
          · rw [if_neg h40] at hf
            refine lv_aload_n hx hb dX8_isName_43 rfl (lv_at hl 0 rfl) ?_
            refine g_Model_tape C0 hT hE hP mf_X8_13 dX8_isName_44 ?_
            refine lv_iload_n hx hb dX8_isName_47 rfl (lv_at hl 1 rfl) ?_
            refine lv_iload hx hb dX8_isName_48 (lv_at hl 4 rfl) ?_
            refine lv_iadd hx hb dX8_isName_50 ?_
            obtain ⟨hin, hf⟩ := ob_if hf
            refine aM_ld (a := 1) (by decide) C0 hT hE hP (inb_in hin) dX8_isName_51 ?_
            refine lv_bipush (v := 127) hx hb dX8_isName_52 (by decide) ?_
            refine lv_icmp_ge (tgt := 61) hx hb dX8_isName_54 (by decide) (fun h54 => ?_) (fun h54 => ?_)
            · rw [if_pos h54] at hf
              refine lv_iconst (v := 0) hx hb dX8_isName_61 (by decide) ?_
              exact L62 _ ih _ _ _ _ _ _ hP hS (lv_sub hl [0, 1, 2, 4] rfl) hf
            · rw [if_neg h54] at hf
              refine lv_iconst (v := 1) hx hb dX8_isName_57 (by decide) ?_
              refine lv_goto (tgt := 62) hx hb dX8_isName_58 (by decide) ?_
              exact L62 _ ih _ _ _ _ _ _ hP hS (lv_sub hl [0, 1, 2, 4] rfl) hf
  have L15 : ∀ (σ : SM) (s0 : Int32), ∀ (H : Heap) (locs : List Loc) (ls : Array Slot), va_P (dC, dI) vwCl (ax_w 12 ad (cM cyI ad σ)) H → va_S (ax_A 12 ad s.heap.size) s.heap H locs → lv_has ls 5 [(0, .ref (ad 11)), (1, .int x1), (2, .int x2)] → f_X8_isName_15 x1 x2 σ s0 = some res → W p l e rm_X8_isName s m args below meth c H locs 0 0 Q (F0 m 15 ls [.int s0]) := by
    intro σ s0  H locs ls hP hS hl hf
    unfold f_X8_isName_15 at hf
    refine lv_istore_n (lv' := [(3, .int s0), (0, .ref (ad 11)), (1, .int x1), (2, .int x2)]) hx hb dX8_isName_15 rfl hl (by decide) rfl (fun ls hl => ?_)
    refine lv_iconst (v := 0) hx hb dX8_isName_16 (by decide) ?_
    refine lv_istore (lv' := [(4, .int 0), (3, .int s0), (0, .ref (ad 11)), (1, .int x1), (2, .int x2)]) hx hb dX8_isName_17 hl (by decide) rfl (fun ls hl => ?_)
    exact L19 fu _ _ _ _ _ _ hP hS (lv_sub hl [2, 3, 4, 1, 0] rfl) hf
  unfold f_X8_isName at hf
  refine lv_iload_n hx hb dX8_isName_0 rfl (lv_at hl 2 rfl) ?_
  refine lv_if_le (tgt := 14) hx hb dX8_isName_1 (by decide) (fun h1 => ?_) (fun h1 => ?_)
  · rw [if_pos h1] at hf
    refine lv_iconst (v := 0) hx hb dX8_isName_14 (by decide) ?_
    exact L15 _ _ _ _ _ hP hS (lv_sub hl [0, 1, 2] rfl) hf
  · rw [if_neg h1] at hf
    refine lv_iload_n hx hb dX8_isName_4 rfl (lv_at hl 2 rfl) ?_
    refine lv_bipush (v := 30) hx hb dX8_isName_5 (by decide) ?_
    refine lv_icmp_gt (tgt := 14) hx hb dX8_isName_7 (by decide) (fun h7 => ?_) (fun h7 => ?_)
    · rw [if_pos h7] at hf
      refine lv_iconst (v := 0) hx hb dX8_isName_14 (by decide) ?_
      exact L15 _ _ _ _ _ hP hS (lv_sub hl [0, 1, 2] rfl) hf
    · rw [if_neg h7] at hf
      refine lv_iconst (v := 1) hx hb dX8_isName_10 (by decide) ?_
      refine lv_goto (tgt := 15) hx hb dX8_isName_11 (by decide) ?_
      exact L15 _ _ _ _ _ hP hS (lv_sub hl [0, 1, 2] rfl) hf
def f_X8_named_71 (x1 : Int32) (x2 : Int32) (x3 : Int32) (k3 : SM → Int32 → Option (Int32 × SM)) (k30 : SM → Int32 → Int32 → Int32 → Option (Int32 × SM)) (σ : SM) (x4 : Int32) (x6 : Int32) (s0 : Int32) : Option (Int32 × SM) := k30 σ x4 s0 (x6 + 1)
def f_X8_named_79 (x1 : Int32) (x2 : Int32) (x3 : Int32) (k3 : SM → Int32 → Option (Int32 × SM)) (σ : SM) (x4 : Int32) (x5 : Int32) : Option (Int32 × SM) := if x5 = 0 then (k3 σ (x4 + 1)) else (some (x4, σ))
def f_X8_named_30 (x1 : Int32) (x2 : Int32) (x3 : Int32) (k3 : SM → Int32 → Option (Int32 × SM)) : Nat → SM → Int32 → Int32 → Int32 → Option (Int32 × SM)
  | 0, _, _, _, _ => none
  | n + 1, σ, x4, x5, x6 => if x2 ≤ x6 then (f_X8_named_79 x1 x2 x3 k3 σ x4 x5) else (if x5 = 0 then (f_X8_named_79 x1 x2 x3 k3 σ x4 x5) else (if inb ((30 * x4) + x6) (capM 3) = true then (if inb (x1 + x6) (capM 1) = true then (if (σ.2 3 ((30 * x4) + x6).toNatClampNeg) = (σ.2 1 (x1 + x6).toNatClampNeg) then (f_X8_named_71 x1 x2 x3 k3 (f_X8_named_30 x1 x2 x3 k3 n) σ x4 x6 1) else (f_X8_named_71 x1 x2 x3 k3 (f_X8_named_30 x1 x2 x3 k3 n) σ x4 x6 0)) else none) else none))
def f_X8_named_25 (x1 : Int32) (x2 : Int32) (x3 : Int32) (k3 : SM → Int32 → Option (Int32 × SM)) (σ : SM) (x4 : Int32) (s0 : Int32) : Option (Int32 × SM) := f_X8_named_30 x1 x2 x3 k3 fu σ x4 s0 0
def f_X8_named_3 (x1 : Int32) (x2 : Int32) (x3 : Int32) : Nat → SM → Int32 → Option (Int32 × SM)
  | 0, _, _ => none
  | n + 1, σ, x4 => if x3 ≤ x4 then (some ((-1), σ)) else (if inb x4 (capM 4) = true then (if (σ.2 4 x4.toNatClampNeg) = x2 then (f_X8_named_25 x1 x2 x3 (f_X8_named_3 x1 x2 x3 n) σ x4 1) else (f_X8_named_25 x1 x2 x3 (f_X8_named_3 x1 x2 x3 n) σ x4 0)) else none)
def f_X8_named (σ : SM) (x1 : Int32) (x2 : Int32) (x3 : Int32) : Option (Int32 × SM) := f_X8_named_3 x1 x2 x3 fu σ 0
def rm_X8_named : Room := { frames := 0, cells := 0, slots := 0, locals := 0 }
set_option maxHeartbeats 4000000 in
set_option maxRecDepth 100000 in
theorem met_X8_named (l : Launch) (dC : Nat → ClassId) (dI : Nat → Nat → Nat) (cyI cyE : ClassId) (tC : Nat) (ad : Nat → Nat) (σ : SM) (x1 : Int32) (x2 : Int32) (x3 : Int32) (res : Int32 × SM) (hf : f_X8_named σ x1 x2 x3 = some res) : ax_Mi l dC dI cyI cyE tC 12 (cM cyI ad) ad yX8_named cX8_named 7 (some .int) rm_X8_named [.ref (ad 11), .int x1, .int x2, .int x3] σ res.1 res.2 := by
  intro sz
  refine Met.ofW (cc := cX8_named) (maxL := 7) (ret := (some .int)) (by decide) rfl ?_
  intro p e s m args below meth c s₁ B hml hv
  obtain ⟨hargs, hsz, hP, hJ, hE⟩ := hv
  subst hsz
  have hx := B.exec
  have hb := B.bytes
  have hr := B.returns
  have hlocks := B.notSynchronized
  have hts := atoms_spec (ws := wsY yX8_named cX8_named 7 (some .int)) B.pre
  have hown : s.vm.findClass RX8 = some m.cls := findClass_of_methodNamed B.named
  have C0 : CallFix p m c cX8_named 7 s args (wsY yX8_named cX8_named 7 (some .int)) RX8 := ⟨hx, hb, hml, hown, hts⟩
  have hT : ∀ w ∈ bw, w ∈ wsY yX8_named cX8_named 7 (some .int) := fun w h => List.mem_cons_of_mem _ h
  have hS : va_S (ax_A 12 ad s.heap.size) s.heap s.heap [] := va_S.rf
  rw [show entryFrame m args 7 = entryFrame m ([.ref (ad 11), .int x1, .int x2, .int x3] : List Value).toArray 7 by rw [hargs]]
  have hl := lv_entry ([.ref (ad 11), .int x1, .int x2, .int x3]) (n := 7) (Nat.le_of_ble_eq_true rfl)
  rw [lg_entry_eq]
  generalize (lg_sl ([.ref (ad 11), .int x1, .int x2, .int x3]) ++ List.replicate (7 - (lg_sl ([.ref (ad 11), .int x1, .int x2, .int x3])).length) Slot.unset).toArray = ls at hl ⊢
  have hl : lv_has ls 7 [(0, .ref (ad 11)), (1, .int x1), (2, .int x2), (3, .int x3)] := hl
  obtain ⟨Q, hQ⟩ : ∃ Q : State → Prop, Q = MQ below (va_Qi (fun (a : Int32) (u : SM) => a = res.1 ∧ u = res.2) (ax_B dC dI 12 (cM cyI ad) ad) (ax_A 12 ad s.heap.size)) args s 0 0 (ax_A 12 ad s.heap.size) := ⟨_, rfl⟩
  show W p l e rm_X8_named s m args below meth c s.heap [] 0 0 _ _
  rw [← hQ]
  have hret : ∀ (v : Int32) (σ : SM) (H : Heap) (locs : List Loc) (ls : Array Slot) (pc : Nat), narrow .int (.int v) = .int v → some (v, σ) = some res → va_P (dC, dI) vwCl (ax_w 12 ad (cM cyI ad σ)) H → va_S (ax_A 12 ad s.heap.size) s.heap H locs → decode cX8_named pc = .ok (.ireturn, 1) → W p l e rm_X8_named s m args below meth c H locs 0 0 Q (F0 m pc ls [.int v]) := by
    intro v σ H locs ls pc hn hf hP hS hd
    cases hf
    rw [hQ]
    exact ax_iret hx hb hr hlocks hn hP hS hd rfl rfl
  have L71 : ∀ (k3 : SM → Int32 → Option (Int32 × SM)), (∀ (σ : SM) (x4 : Int32), ∀ (H : Heap) (locs : List Loc) (ls : Array Slot), va_P (dC, dI) vwCl (ax_w 12 ad (cM cyI ad σ)) H → va_S (ax_A 12 ad s.heap.size) s.heap H locs → lv_has ls 7 [(0, .ref (ad 11)), (1, .int x1), (2, .int x2), (3, .int x3), (4, .int x4)] → k3 σ x4 = some res → W p l e rm_X8_named s m args below meth c H locs 0 0 Q (F0 m 3 ls [])) → ∀ (k30 : SM → Int32 → Int32 → Int32 → Option (Int32 × SM)), (∀ (σ : SM) (x4 : Int32) (x5 : Int32) (x6 : Int32), ∀ (H : Heap) (locs : List Loc) (ls : Array Slot), va_P (dC, dI) vwCl (ax_w 12 ad (cM cyI ad σ)) H → va_S (ax_A 12 ad s.heap.size) s.heap H locs → lv_has ls 7 [(0, .ref (ad 11)), (1, .int x1), (2, .int x2), (3, .int x3), (4, .int x4), (5, .int x5), (6, .int x6)] → k30 σ x4 x5 x6 = some res → W p l e rm_X8_named s m args below meth c H locs 0 0 Q (F0 m 30 ls [])) → ∀ (σ : SM) (x4 : Int32) (x6 : Int32) (s0 : Int32), ∀ (H : Heap) (locs : List Loc) (ls : Array Slot), va_P (dC, dI) vwCl (ax_w 12 ad (cM cyI ad σ)) H → va_S (ax_A 12 ad s.heap.size) s.heap H locs → lv_has ls 7 [(0, .ref (ad 11)), (1, .int x1), (2, .int x2), (3, .int x3), (4, .int x4), (6, .int x6)] → f_X8_named_71 x1 x2 x3 k3 k30 σ x4 x6 s0 = some res → W p l e rm_X8_named s m args below meth c H locs 0 0 Q (F0 m 71 ls [.int s0]) := by
    intro k3 hk3 k30 hk30
    intro σ x4 x6 s0  H locs ls hP hS hl hf
    unfold f_X8_named_71 at hf
    refine lv_istore (lv' := [(5, .int s0), (0, .ref (ad 11)), (1, .int x1), (2, .int x2), (3, .int x3), (4, .int x4), (6, .int x6)]) hx hb dX8_named_71 hl (by decide) rfl (fun ls hl => ?_)
    refine lv_iinc (v := x6 + 1) (lv' := [(6, .int (x6 + 1)), (5, .int s0), (0, .ref (ad 11)), (1, .int x1), (2, .int x2), (3, .int x3), (4, .int x4)]) hx hb dX8_named_73 hl (k := 6) rfl rfl (by decide) rfl (fun ls hl => ?_)
    refine lv_goto (tgt := 30) hx hb dX8_named_76 (by decide) ?_
    exact hk30 _ _ _ _ _ _ _ hP hS (lv_sub hl [2, 3, 4, 5, 6, 1, 0] rfl) hf
  have L79 : ∀ (k3 : SM → Int32 → Option (Int32 × SM)), (∀ (σ : SM) (x4 : Int32), ∀ (H : Heap) (locs : List Loc) (ls : Array Slot), va_P (dC, dI) vwCl (ax_w 12 ad (cM cyI ad σ)) H → va_S (ax_A 12 ad s.heap.size) s.heap H locs → lv_has ls 7 [(0, .ref (ad 11)), (1, .int x1), (2, .int x2), (3, .int x3), (4, .int x4)] → k3 σ x4 = some res → W p l e rm_X8_named s m args below meth c H locs 0 0 Q (F0 m 3 ls [])) → ∀ (σ : SM) (x4 : Int32) (x5 : Int32), ∀ (H : Heap) (locs : List Loc) (ls : Array Slot), va_P (dC, dI) vwCl (ax_w 12 ad (cM cyI ad σ)) H → va_S (ax_A 12 ad s.heap.size) s.heap H locs → lv_has ls 7 [(0, .ref (ad 11)), (1, .int x1), (2, .int x2), (3, .int x3), (4, .int x4), (5, .int x5)] → f_X8_named_79 x1 x2 x3 k3 σ x4 x5 = some res → W p l e rm_X8_named s m args below meth c H locs 0 0 Q (F0 m 79 ls []) := by
    intro k3 hk3
    intro σ x4 x5  H locs ls hP hS hl hf
    unfold f_X8_named_79 at hf
    refine lv_iload hx hb dX8_named_79 (lv_at hl 5 rfl) ?_
    refine lv_if_eq (tgt := 87) hx hb dX8_named_81 (by decide) (fun h81 => ?_) (fun h81 => ?_)
    · rw [if_pos h81] at hf
      refine lv_iinc (v := x4 + 1) (lv' := [(4, .int (x4 + 1)), (0, .ref (ad 11)), (1, .int x1), (2, .int x2), (3, .int x3), (5, .int x5)]) hx hb dX8_named_87 hl (k := 4) rfl rfl (by decide) rfl (fun ls hl => ?_)
      refine lv_goto (tgt := 3) hx hb dX8_named_90 (by decide) ?_
      exact hk3 _ _ _ _ _ hP hS (lv_sub hl [1, 2, 3, 4, 0] rfl) hf
    · rw [if_neg h81] at hf
      refine lv_iload hx hb dX8_named_84 (lv_at hl 4 rfl) ?_
      exact hret _ _ _ _ _ _ rfl hf hP hS dX8_named_86
  have L30 : ∀ (k3 : SM → Int32 → Option (Int32 × SM)), (∀ (σ : SM) (x4 : Int32), ∀ (H : Heap) (locs : List Loc) (ls : Array Slot), va_P (dC, dI) vwCl (ax_w 12 ad (cM cyI ad σ)) H → va_S (ax_A 12 ad s.heap.size) s.heap H locs → lv_has ls 7 [(0, .ref (ad 11)), (1, .int x1), (2, .int x2), (3, .int x3), (4, .int x4)] → k3 σ x4 = some res → W p l e rm_X8_named s m args below meth c H locs 0 0 Q (F0 m 3 ls [])) → ∀ (n : Nat), ∀ (σ : SM) (x4 : Int32) (x5 : Int32) (x6 : Int32), ∀ (H : Heap) (locs : List Loc) (ls : Array Slot), va_P (dC, dI) vwCl (ax_w 12 ad (cM cyI ad σ)) H → va_S (ax_A 12 ad s.heap.size) s.heap H locs → lv_has ls 7 [(0, .ref (ad 11)), (1, .int x1), (2, .int x2), (3, .int x3), (4, .int x4), (5, .int x5), (6, .int x6)] → f_X8_named_30 x1 x2 x3 k3 n σ x4 x5 x6 = some res → W p l e rm_X8_named s m args below meth c H locs 0 0 Q (F0 m 30 ls []) := by
    intro k3 hk3
    intro n
    induction n with
    | zero =>
      intro σ x4 x5 x6  H locs ls hP hS hl hf
      cases hf
    | succ n ih =>
      intro σ x4 x5 x6  H locs ls hP hS hl hf
      rw [f_X8_named_30] at hf
      refine lv_iload hx hb dX8_named_30 (lv_at hl 6 rfl) ?_
      refine lv_iload_n hx hb dX8_named_32 rfl (lv_at hl 2 rfl) ?_
      refine lv_icmp_ge (tgt := 79) hx hb dX8_named_33 (by decide) (fun h33 => ?_) (fun h33 => ?_)
      · rw [if_pos h33] at hf
        exact L79 _ hk3 _ _ _ _ _ _ hP hS (lv_sub hl [0, 1, 2, 3, 4, 5] rfl) hf
      · rw [if_neg h33] at hf
        refine lv_iload hx hb dX8_named_36 (lv_at hl 5 rfl) ?_
        refine lv_if_eq (tgt := 79) hx hb dX8_named_38 (by decide) (fun h38 => ?_) (fun h38 => ?_)
        · rw [if_pos h38] at hf
          exact L79 _ hk3 _ _ _ _ _ _ hP hS (lv_sub hl [0, 1, 2, 3, 4, 5] rfl) hf
        · rw [if_neg h38] at hf
          refine lv_aload_n hx hb dX8_named_41 rfl (lv_at hl 0 rfl) ?_
          refine g_Model_names C0 hT hE hP mf_X8_19 dX8_named_42 ?_
          refine lv_bipush (v := 30) hx hb dX8_named_45 (by decide) ?_
          refine lv_iload hx hb dX8_named_47 (lv_at hl 4 rfl) ?_
          refine lv_imul hx hb dX8_named_49 ?_
          refine lv_iload hx hb dX8_named_50 (lv_at hl 6 rfl) ?_
          refine lv_iadd hx hb dX8_named_52 ?_
          obtain ⟨hin, hf⟩ := ob_if hf
          refine aM_ld (a := 3) (by decide) C0 hT hE hP (inb_in hin) dX8_named_53 ?_
          refine lv_aload_n hx hb dX8_named_54 rfl (lv_at hl 0 rfl) ?_
          refine g_Model_tape C0 hT hE hP mf_X8_13 dX8_named_55 ?_
          refine lv_iload_n hx hb dX8_named_58 rfl (lv_at hl 1 rfl) ?_
          refine lv_iload hx hb dX8_named_59 (lv_at hl 6 rfl) ?_
          refine lv_iadd hx hb dX8_named_61 ?_
          obtain ⟨hin, hf⟩ := ob_if hf
          refine aM_ld (a := 1) (by decide) C0 hT hE hP (inb_in hin) dX8_named_62 ?_
          refine lv_icmp_ne (tgt := 70) hx hb dX8_named_63 (by decide) (fun h63 => ?_) (fun h63 => ?_)
          · rw [if_neg h63] at hf
            refine lv_iconst (v := 0) hx hb dX8_named_70 (by decide) ?_
            exact L71 _ hk3 _ ih _ _ _ _ _ _ _ hP hS (lv_sub hl [0, 1, 2, 3, 4, 6] rfl) hf
          · rw [if_pos h63] at hf
            refine lv_iconst (v := 1) hx hb dX8_named_66 (by decide) ?_
            refine lv_goto (tgt := 71) hx hb dX8_named_67 (by decide) ?_
            exact L71 _ hk3 _ ih _ _ _ _ _ _ _ hP hS (lv_sub hl [0, 1, 2, 3, 4, 6] rfl) hf
  have L25 : ∀ (k3 : SM → Int32 → Option (Int32 × SM)), (∀ (σ : SM) (x4 : Int32), ∀ (H : Heap) (locs : List Loc) (ls : Array Slot), va_P (dC, dI) vwCl (ax_w 12 ad (cM cyI ad σ)) H → va_S (ax_A 12 ad s.heap.size) s.heap H locs → lv_has ls 7 [(0, .ref (ad 11)), (1, .int x1), (2, .int x2), (3, .int x3), (4, .int x4)] → k3 σ x4 = some res → W p l e rm_X8_named s m args below meth c H locs 0 0 Q (F0 m 3 ls [])) → ∀ (σ : SM) (x4 : Int32) (s0 : Int32), ∀ (H : Heap) (locs : List Loc) (ls : Array Slot), va_P (dC, dI) vwCl (ax_w 12 ad (cM cyI ad σ)) H → va_S (ax_A 12 ad s.heap.size) s.heap H locs → lv_has ls 7 [(0, .ref (ad 11)), (1, .int x1), (2, .int x2), (3, .int x3), (4, .int x4)] → f_X8_named_25 x1 x2 x3 k3 σ x4 s0 = some res → W p l e rm_X8_named s m args below meth c H locs 0 0 Q (F0 m 25 ls [.int s0]) := by
    intro k3 hk3
    intro σ x4 s0  H locs ls hP hS hl hf
    unfold f_X8_named_25 at hf
    refine lv_istore (lv' := [(5, .int s0), (0, .ref (ad 11)), (1, .int x1), (2, .int x2), (3, .int x3), (4, .int x4)]) hx hb dX8_named_25 hl (by decide) rfl (fun ls hl => ?_)
    refine lv_iconst (v := 0) hx hb dX8_named_27 (by decide) ?_
    refine lv_istore (lv' := [(6, .int 0), (5, .int s0), (0, .ref (ad 11)), (1, .int x1), (2, .int x2), (3, .int x3), (4, .int x4)]) hx hb dX8_named_28 hl (by decide) rfl (fun ls hl => ?_)
    exact L30 _ hk3 fu _ _ _ _ _ _ _ hP hS (lv_sub hl [2, 3, 4, 5, 6, 1, 0] rfl) hf
  have L3 : ∀ (n : Nat), ∀ (σ : SM) (x4 : Int32), ∀ (H : Heap) (locs : List Loc) (ls : Array Slot), va_P (dC, dI) vwCl (ax_w 12 ad (cM cyI ad σ)) H → va_S (ax_A 12 ad s.heap.size) s.heap H locs → lv_has ls 7 [(0, .ref (ad 11)), (1, .int x1), (2, .int x2), (3, .int x3), (4, .int x4)] → f_X8_named_3 x1 x2 x3 n σ x4 = some res → W p l e rm_X8_named s m args below meth c H locs 0 0 Q (F0 m 3 ls []) := by
    intro n
    induction n with
    | zero =>
      intro σ x4  H locs ls hP hS hl hf
      cases hf
    | succ n ih =>
      intro σ x4  H locs ls hP hS hl hf
      rw [f_X8_named_3] at hf
      refine lv_iload hx hb dX8_named_3 (lv_at hl 4 rfl) ?_
      refine lv_iload_n hx hb dX8_named_5 rfl (lv_at hl 3 rfl) ?_
      refine lv_icmp_ge (tgt := 93) hx hb dX8_named_6 (by decide) (fun h6 => ?_) (fun h6 => ?_)
      · rw [if_pos h6] at hf
        refine lv_iconst (v := (-1)) hx hb dX8_named_93 (by decide) ?_
        exact hret _ _ _ _ _ _ rfl hf hP hS dX8_named_94
      · rw [if_neg h6] at hf
        refine lv_aload_n hx hb dX8_named_9 rfl (lv_at hl 0 rfl) ?_
        refine g_Model_nameSize C0 hT hE hP mf_X8_22 dX8_named_10 ?_
        refine lv_iload hx hb dX8_named_13 (lv_at hl 4 rfl) ?_
        obtain ⟨hin, hf⟩ := ob_if hf
        refine aM_ld (a := 4) (by decide) C0 hT hE hP (inb_in hin) dX8_named_15 ?_
        refine lv_iload_n hx hb dX8_named_16 rfl (lv_at hl 2 rfl) ?_
        refine lv_icmp_ne (tgt := 24) hx hb dX8_named_17 (by decide) (fun h17 => ?_) (fun h17 => ?_)
        · rw [if_neg h17] at hf
          refine lv_iconst (v := 0) hx hb dX8_named_24 (by decide) ?_
          exact L25 _ ih _ _ _ _ _ _ hP hS (lv_sub hl [0, 1, 2, 3, 4] rfl) hf
        · rw [if_pos h17] at hf
          refine lv_iconst (v := 1) hx hb dX8_named_20 (by decide) ?_
          refine lv_goto (tgt := 25) hx hb dX8_named_21 (by decide) ?_
          exact L25 _ ih _ _ _ _ _ _ hP hS (lv_sub hl [0, 1, 2, 3, 4] rfl) hf
  unfold f_X8_named at hf
  refine lv_iconst (v := 0) hx hb dX8_named_0 (by decide) ?_
  refine lv_istore (lv' := [(4, .int 0), (0, .ref (ad 11)), (1, .int x1), (2, .int x2), (3, .int x3)]) hx hb dX8_named_1 hl (by decide) rfl (fun ls hl => ?_)
  exact L3 fu _ _ _ _ _ hP hS (lv_sub hl [1, 2, 3, 4, 0] rfl) hf
def f_X8_total_4 : Nat → SM → Int32 → Int32 → Option (Int32 × SM)
  | 0, _, _, _ => none
  | n + 1, σ, x1, x2 => if (σ.1 3) ≤ x2 then (some (x1, σ)) else (if inb x2 (capM 6) = true then (f_X8_total_4 n σ (x1 + (σ.2 6 x2.toNatClampNeg)) (x2 + 1)) else none)
def f_X8_total (σ : SM) : Option (Int32 × SM) := f_X8_total_4 fu σ 0 0
def rm_X8_total : Room := { frames := 0, cells := 0, slots := 0, locals := 0 }
set_option maxHeartbeats 4000000 in
set_option maxRecDepth 100000 in
theorem met_X8_total (l : Launch) (dC : Nat → ClassId) (dI : Nat → Nat → Nat) (cyI cyE : ClassId) (tC : Nat) (ad : Nat → Nat) (σ : SM) (res : Int32 × SM) (hf : f_X8_total σ = some res) : ax_Mi l dC dI cyI cyE tC 12 (cM cyI ad) ad yX8_total cX8_total 3 (some .int) rm_X8_total [.ref (ad 11)] σ res.1 res.2 := by
  intro sz
  refine Met.ofW (cc := cX8_total) (maxL := 3) (ret := (some .int)) (by decide) rfl ?_
  intro p e s m args below meth c s₁ B hml hv
  obtain ⟨hargs, hsz, hP, hJ, hE⟩ := hv
  subst hsz
  have hx := B.exec
  have hb := B.bytes
  have hr := B.returns
  have hlocks := B.notSynchronized
  have hts := atoms_spec (ws := wsY yX8_total cX8_total 3 (some .int)) B.pre
  have hown : s.vm.findClass RX8 = some m.cls := findClass_of_methodNamed B.named
  have C0 : CallFix p m c cX8_total 3 s args (wsY yX8_total cX8_total 3 (some .int)) RX8 := ⟨hx, hb, hml, hown, hts⟩
  have hT : ∀ w ∈ bw, w ∈ wsY yX8_total cX8_total 3 (some .int) := fun w h => List.mem_cons_of_mem _ h
  have hS : va_S (ax_A 12 ad s.heap.size) s.heap s.heap [] := va_S.rf
  rw [show entryFrame m args 3 = entryFrame m ([.ref (ad 11)] : List Value).toArray 3 by rw [hargs]]
  have hl := lv_entry ([.ref (ad 11)]) (n := 3) (Nat.le_of_ble_eq_true rfl)
  rw [lg_entry_eq]
  generalize (lg_sl ([.ref (ad 11)]) ++ List.replicate (3 - (lg_sl ([.ref (ad 11)])).length) Slot.unset).toArray = ls at hl ⊢
  have hl : lv_has ls 3 [(0, .ref (ad 11))] := hl
  obtain ⟨Q, hQ⟩ : ∃ Q : State → Prop, Q = MQ below (va_Qi (fun (a : Int32) (u : SM) => a = res.1 ∧ u = res.2) (ax_B dC dI 12 (cM cyI ad) ad) (ax_A 12 ad s.heap.size)) args s 0 0 (ax_A 12 ad s.heap.size) := ⟨_, rfl⟩
  show W p l e rm_X8_total s m args below meth c s.heap [] 0 0 _ _
  rw [← hQ]
  have hret : ∀ (v : Int32) (σ : SM) (H : Heap) (locs : List Loc) (ls : Array Slot) (pc : Nat), narrow .int (.int v) = .int v → some (v, σ) = some res → va_P (dC, dI) vwCl (ax_w 12 ad (cM cyI ad σ)) H → va_S (ax_A 12 ad s.heap.size) s.heap H locs → decode cX8_total pc = .ok (.ireturn, 1) → W p l e rm_X8_total s m args below meth c H locs 0 0 Q (F0 m pc ls [.int v]) := by
    intro v σ H locs ls pc hn hf hP hS hd
    cases hf
    rw [hQ]
    exact ax_iret hx hb hr hlocks hn hP hS hd rfl rfl
  have L4 : ∀ (n : Nat), ∀ (σ : SM) (x1 : Int32) (x2 : Int32), ∀ (H : Heap) (locs : List Loc) (ls : Array Slot), va_P (dC, dI) vwCl (ax_w 12 ad (cM cyI ad σ)) H → va_S (ax_A 12 ad s.heap.size) s.heap H locs → lv_has ls 3 [(0, .ref (ad 11)), (1, .int x1), (2, .int x2)] → f_X8_total_4 n σ x1 x2 = some res → W p l e rm_X8_total s m args below meth c H locs 0 0 Q (F0 m 4 ls []) := by
    intro n
    induction n with
    | zero =>
      intro σ x1 x2  H locs ls hP hS hl hf
      cases hf
    | succ n ih =>
      intro σ x1 x2  H locs ls hP hS hl hf
      rw [f_X8_total_4] at hf
      refine lv_iload_n hx hb dX8_total_4 rfl (lv_at hl 2 rfl) ?_
      refine lv_aload_n hx hb dX8_total_5 rfl (lv_at hl 0 rfl) ?_
      refine g_Model_files C0 hT hE hP mf_X8_59 dX8_total_6 ?_
      refine lv_icmp_ge (tgt := 27) hx hb dX8_total_9 (by decide) (fun h9 => ?_) (fun h9 => ?_)
      · rw [if_pos h9] at hf
        refine lv_iload_n hx hb dX8_total_27 rfl (lv_at hl 1 rfl) ?_
        exact hret _ _ _ _ _ _ rfl hf hP hS dX8_total_28
      · rw [if_neg h9] at hf
        refine lv_iload_n hx hb dX8_total_12 rfl (lv_at hl 1 rfl) ?_
        refine lv_aload_n hx hb dX8_total_13 rfl (lv_at hl 0 rfl) ?_
        refine g_Model_many C0 hT hE hP mf_X8_28 dX8_total_14 ?_
        refine lv_iload_n hx hb dX8_total_17 rfl (lv_at hl 2 rfl) ?_
        obtain ⟨hin, hf⟩ := ob_if hf
        refine aM_ld (a := 6) (by decide) C0 hT hE hP (inb_in hin) dX8_total_18 ?_
        refine lv_iadd hx hb dX8_total_19 ?_
        refine lv_istore_n (lv' := [(1, .int (x1 + (σ.2 6 x2.toNatClampNeg))), (0, .ref (ad 11)), (2, .int x2)]) hx hb dX8_total_20 rfl hl (by decide) rfl (fun ls hl => ?_)
        refine lv_iinc (v := x2 + 1) (lv' := [(2, .int (x2 + 1)), (1, .int (x1 + (σ.2 6 x2.toNatClampNeg))), (0, .ref (ad 11))]) hx hb dX8_total_21 hl (k := 2) rfl rfl (by decide) rfl (fun ls hl => ?_)
        refine lv_goto (tgt := 4) hx hb dX8_total_24 (by decide) ?_
        exact ih _ _ _ _ _ _ hP hS (lv_sub hl [2, 1, 0] rfl) hf
  unfold f_X8_total at hf
  refine lv_iconst (v := 0) hx hb dX8_total_0 (by decide) ?_
  refine lv_istore_n (lv' := [(1, .int 0), (0, .ref (ad 11))]) hx hb dX8_total_1 rfl hl (by decide) rfl (fun ls hl => ?_)
  refine lv_iconst (v := 0) hx hb dX8_total_2 (by decide) ?_
  refine lv_istore_n (lv' := [(2, .int 0), (1, .int 0), (0, .ref (ad 11))]) hx hb dX8_total_3 rfl hl (by decide) rfl (fun ls hl => ?_)
  exact L4 fu _ _ _ _ _ _ hP hS (lv_sub hl [2, 1, 0] rfl) hf
def f_X8_setName_3 (x1 : Int32) (x2 : Int32) (x3 : Int32) : Nat → SM → Int32 → Option (SM)
  | 0, _, _ => none
  | n + 1, σ, x4 => if x3 ≤ x4 then (if inb x1 (capM 4) = true then (some (SMc σ 4 (upd (σ.2 4) x1.toNatClampNeg x3))) else none) else (if inb (x2 + x4) (capM 1) = true then (if inb ((30 * x1) + x4) (capM 3) = true then (f_X8_setName_3 x1 x2 x3 n (SMc σ 3 (upd (σ.2 3) ((30 * x1) + x4).toNatClampNeg (σ.2 1 (x2 + x4).toNatClampNeg))) (x4 + 1)) else none) else none)
def f_X8_setName (σ : SM) (x1 : Int32) (x2 : Int32) (x3 : Int32) : Option (SM) := f_X8_setName_3 x1 x2 x3 fu σ 0
def rm_X8_setName : Room := { frames := 0, cells := 0, slots := 0, locals := 0 }
set_option maxHeartbeats 4000000 in
set_option maxRecDepth 100000 in
theorem met_X8_setName (l : Launch) (dC : Nat → ClassId) (dI : Nat → Nat → Nat) (cyI cyE : ClassId) (tC : Nat) (ad : Nat → Nat) (σ : SM) (x1 : Int32) (x2 : Int32) (x3 : Int32) (res : SM) (hf : f_X8_setName σ x1 x2 x3 = some res) : ax_Mv l dC dI cyI cyE tC 12 (cM cyI ad) ad yX8_setName cX8_setName 5 none rm_X8_setName [.ref (ad 11), .int x1, .int x2, .int x3] σ res := by
  intro sz
  refine Met.ofW (cc := cX8_setName) (maxL := 5) (ret := none) (by decide) rfl ?_
  intro p e s m args below meth c s₁ B hml hv
  obtain ⟨hargs, hsz, hP, hJ, hE⟩ := hv
  subst hsz
  have hx := B.exec
  have hb := B.bytes
  have hr := B.returns
  have hlocks := B.notSynchronized
  have hts := atoms_spec (ws := wsY yX8_setName cX8_setName 5 none) B.pre
  have hown : s.vm.findClass RX8 = some m.cls := findClass_of_methodNamed B.named
  have C0 : CallFix p m c cX8_setName 5 s args (wsY yX8_setName cX8_setName 5 none) RX8 := ⟨hx, hb, hml, hown, hts⟩
  have hT : ∀ w ∈ bw, w ∈ wsY yX8_setName cX8_setName 5 none := fun w h => List.mem_cons_of_mem _ h
  have hS : va_S (ax_A 12 ad s.heap.size) s.heap s.heap [] := va_S.rf
  rw [show entryFrame m args 5 = entryFrame m ([.ref (ad 11), .int x1, .int x2, .int x3] : List Value).toArray 5 by rw [hargs]]
  have hl := lv_entry ([.ref (ad 11), .int x1, .int x2, .int x3]) (n := 5) (Nat.le_of_ble_eq_true rfl)
  rw [lg_entry_eq]
  generalize (lg_sl ([.ref (ad 11), .int x1, .int x2, .int x3]) ++ List.replicate (5 - (lg_sl ([.ref (ad 11), .int x1, .int x2, .int x3])).length) Slot.unset).toArray = ls at hl ⊢
  have hl : lv_has ls 5 [(0, .ref (ad 11)), (1, .int x1), (2, .int x2), (3, .int x3)] := hl
  obtain ⟨Q, hQ⟩ : ∃ Q : State → Prop, Q = MQ below (va_Qv (fun (u : SM) => u = res) (ax_B dC dI 12 (cM cyI ad) ad) (ax_A 12 ad s.heap.size)) args s 0 0 (ax_A 12 ad s.heap.size) := ⟨_, rfl⟩
  show W p l e rm_X8_setName s m args below meth c s.heap [] 0 0 _ _
  rw [← hQ]
  have hret : ∀ (σ : SM) (H : Heap) (locs : List Loc) (ls : Array Slot) (pc : Nat), some σ = some res → va_P (dC, dI) vwCl (ax_w 12 ad (cM cyI ad σ)) H → va_S (ax_A 12 ad s.heap.size) s.heap H locs → decode cX8_setName pc = .ok (.return_, 1) → W p l e rm_X8_setName s m args below meth c H locs 0 0 Q (F0 m pc ls []) := by
    intro σ H locs ls pc hf hP hS hd
    cases hf
    rw [hQ]
    exact ax_vret hx hb hr hlocks hP hS hd rfl
  have L3 : ∀ (n : Nat), ∀ (σ : SM) (x4 : Int32), ∀ (H : Heap) (locs : List Loc) (ls : Array Slot), va_P (dC, dI) vwCl (ax_w 12 ad (cM cyI ad σ)) H → va_S (ax_A 12 ad s.heap.size) s.heap H locs → lv_has ls 5 [(0, .ref (ad 11)), (1, .int x1), (2, .int x2), (3, .int x3), (4, .int x4)] → f_X8_setName_3 x1 x2 x3 n σ x4 = some res → W p l e rm_X8_setName s m args below meth c H locs 0 0 Q (F0 m 3 ls []) := by
    intro n
    induction n with
    | zero =>
      intro σ x4  H locs ls hP hS hl hf
      cases hf
    | succ n ih =>
      intro σ x4  H locs ls hP hS hl hf
      rw [f_X8_setName_3] at hf
      refine lv_iload hx hb dX8_setName_3 (lv_at hl 4 rfl) ?_
      refine lv_iload_n hx hb dX8_setName_5 rfl (lv_at hl 3 rfl) ?_
      refine lv_icmp_ge (tgt := 36) hx hb dX8_setName_6 (by decide) (fun h6 => ?_) (fun h6 => ?_)
      · rw [if_pos h6] at hf
        refine lv_aload_n hx hb dX8_setName_36 rfl (lv_at hl 0 rfl) ?_
        refine g_Model_nameSize C0 hT hE hP mf_X8_22 dX8_setName_37 ?_
        refine lv_iload_n hx hb dX8_setName_40 rfl (lv_at hl 1 rfl) ?_
        refine lv_iload_n hx hb dX8_setName_41 rfl (lv_at hl 3 rfl) ?_
        obtain ⟨hin, hf⟩ := ob_if hf
        refine aM_st (a := 4) (by decide) C0 hT hE hJ hP hS (inb_in hin) dX8_setName_42 (fun H locs hP hS => ?_)
        exact hret _ _ _ _ _ hf hP hS dX8_setName_43
      · rw [if_neg h6] at hf
        refine lv_aload_n hx hb dX8_setName_9 rfl (lv_at hl 0 rfl) ?_
        refine g_Model_names C0 hT hE hP mf_X8_19 dX8_setName_10 ?_
        refine lv_bipush (v := 30) hx hb dX8_setName_13 (by decide) ?_
        refine lv_iload_n hx hb dX8_setName_15 rfl (lv_at hl 1 rfl) ?_
        refine lv_imul hx hb dX8_setName_16 ?_
        refine lv_iload hx hb dX8_setName_17 (lv_at hl 4 rfl) ?_
        refine lv_iadd hx hb dX8_setName_19 ?_
        refine lv_aload_n hx hb dX8_setName_20 rfl (lv_at hl 0 rfl) ?_
        refine g_Model_tape C0 hT hE hP mf_X8_13 dX8_setName_21 ?_
        refine lv_iload_n hx hb dX8_setName_24 rfl (lv_at hl 2 rfl) ?_
        refine lv_iload hx hb dX8_setName_25 (lv_at hl 4 rfl) ?_
        refine lv_iadd hx hb dX8_setName_27 ?_
        obtain ⟨hin, hf⟩ := ob_if hf
        refine aM_ld (a := 1) (by decide) C0 hT hE hP (inb_in hin) dX8_setName_28 ?_
        obtain ⟨hin, hf⟩ := ob_if hf
        refine aM_st (a := 3) (by decide) C0 hT hE hJ hP hS (inb_in hin) dX8_setName_29 (fun H locs hP hS => ?_)
        refine lv_iinc (v := x4 + 1) (lv' := [(4, .int (x4 + 1)), (0, .ref (ad 11)), (1, .int x1), (2, .int x2), (3, .int x3)]) hx hb dX8_setName_30 hl (k := 4) rfl rfl (by decide) rfl (fun ls hl => ?_)
        refine lv_goto (tgt := 3) hx hb dX8_setName_33 (by decide) ?_
        exact ih _ _ _ _ _ hP hS (lv_sub hl [1, 2, 3, 4, 0] rfl) hf
  unfold f_X8_setName at hf
  refine lv_iconst (v := 0) hx hb dX8_setName_0 (by decide) ?_
  refine lv_istore (lv' := [(4, .int 0), (0, .ref (ad 11)), (1, .int x1), (2, .int x2), (3, .int x3)]) hx hb dX8_setName_1 hl (by decide) rfl (fun ls hl => ?_)
  exact L3 fu _ _ _ _ _ hP hS (lv_sub hl [1, 2, 3, 4, 0] rfl) hf
def f_X8_setBytes_3 (x1 : Int32) (x2 : Int32) (x3 : Int32) : Nat → SM → Int32 → Option (SM)
  | 0, _, _ => none
  | n + 1, σ, x4 => if x3 ≤ x4 then (if inb x1 (capM 6) = true then (some (SMc σ 6 (upd (σ.2 6) x1.toNatClampNeg x3))) else none) else (if inb (x2 + x4) (capM 1) = true then (if inb ((1500 * x1) + x4) (capM 5) = true then (f_X8_setBytes_3 x1 x2 x3 n (SMc σ 5 (upd (σ.2 5) ((1500 * x1) + x4).toNatClampNeg (σ.2 1 (x2 + x4).toNatClampNeg))) (x4 + 1)) else none) else none)
def f_X8_setBytes (σ : SM) (x1 : Int32) (x2 : Int32) (x3 : Int32) : Option (SM) := f_X8_setBytes_3 x1 x2 x3 fu σ 0
def rm_X8_setBytes : Room := { frames := 0, cells := 0, slots := 0, locals := 0 }
set_option maxHeartbeats 4000000 in
set_option maxRecDepth 100000 in
theorem met_X8_setBytes (l : Launch) (dC : Nat → ClassId) (dI : Nat → Nat → Nat) (cyI cyE : ClassId) (tC : Nat) (ad : Nat → Nat) (σ : SM) (x1 : Int32) (x2 : Int32) (x3 : Int32) (res : SM) (hf : f_X8_setBytes σ x1 x2 x3 = some res) : ax_Mv l dC dI cyI cyE tC 12 (cM cyI ad) ad yX8_setBytes cX8_setBytes 5 none rm_X8_setBytes [.ref (ad 11), .int x1, .int x2, .int x3] σ res := by
  intro sz
  refine Met.ofW (cc := cX8_setBytes) (maxL := 5) (ret := none) (by decide) rfl ?_
  intro p e s m args below meth c s₁ B hml hv
  obtain ⟨hargs, hsz, hP, hJ, hE⟩ := hv
  subst hsz
  have hx := B.exec
  have hb := B.bytes
  have hr := B.returns
  have hlocks := B.notSynchronized
  have hts := atoms_spec (ws := wsY yX8_setBytes cX8_setBytes 5 none) B.pre
  have hown : s.vm.findClass RX8 = some m.cls := findClass_of_methodNamed B.named
  have C0 : CallFix p m c cX8_setBytes 5 s args (wsY yX8_setBytes cX8_setBytes 5 none) RX8 := ⟨hx, hb, hml, hown, hts⟩
  have hT : ∀ w ∈ bw, w ∈ wsY yX8_setBytes cX8_setBytes 5 none := fun w h => List.mem_cons_of_mem _ h
  have hS : va_S (ax_A 12 ad s.heap.size) s.heap s.heap [] := va_S.rf
  rw [show entryFrame m args 5 = entryFrame m ([.ref (ad 11), .int x1, .int x2, .int x3] : List Value).toArray 5 by rw [hargs]]
  have hl := lv_entry ([.ref (ad 11), .int x1, .int x2, .int x3]) (n := 5) (Nat.le_of_ble_eq_true rfl)
  rw [lg_entry_eq]
  generalize (lg_sl ([.ref (ad 11), .int x1, .int x2, .int x3]) ++ List.replicate (5 - (lg_sl ([.ref (ad 11), .int x1, .int x2, .int x3])).length) Slot.unset).toArray = ls at hl ⊢
  have hl : lv_has ls 5 [(0, .ref (ad 11)), (1, .int x1), (2, .int x2), (3, .int x3)] := hl
  obtain ⟨Q, hQ⟩ : ∃ Q : State → Prop, Q = MQ below (va_Qv (fun (u : SM) => u = res) (ax_B dC dI 12 (cM cyI ad) ad) (ax_A 12 ad s.heap.size)) args s 0 0 (ax_A 12 ad s.heap.size) := ⟨_, rfl⟩
  show W p l e rm_X8_setBytes s m args below meth c s.heap [] 0 0 _ _
  rw [← hQ]
  have hret : ∀ (σ : SM) (H : Heap) (locs : List Loc) (ls : Array Slot) (pc : Nat), some σ = some res → va_P (dC, dI) vwCl (ax_w 12 ad (cM cyI ad σ)) H → va_S (ax_A 12 ad s.heap.size) s.heap H locs → decode cX8_setBytes pc = .ok (.return_, 1) → W p l e rm_X8_setBytes s m args below meth c H locs 0 0 Q (F0 m pc ls []) := by
    intro σ H locs ls pc hf hP hS hd
    cases hf
    rw [hQ]
    exact ax_vret hx hb hr hlocks hP hS hd rfl
  have L3 : ∀ (n : Nat), ∀ (σ : SM) (x4 : Int32), ∀ (H : Heap) (locs : List Loc) (ls : Array Slot), va_P (dC, dI) vwCl (ax_w 12 ad (cM cyI ad σ)) H → va_S (ax_A 12 ad s.heap.size) s.heap H locs → lv_has ls 5 [(0, .ref (ad 11)), (1, .int x1), (2, .int x2), (3, .int x3), (4, .int x4)] → f_X8_setBytes_3 x1 x2 x3 n σ x4 = some res → W p l e rm_X8_setBytes s m args below meth c H locs 0 0 Q (F0 m 3 ls []) := by
    intro n
    induction n with
    | zero =>
      intro σ x4  H locs ls hP hS hl hf
      cases hf
    | succ n ih =>
      intro σ x4  H locs ls hP hS hl hf
      rw [f_X8_setBytes_3] at hf
      refine lv_iload hx hb dX8_setBytes_3 (lv_at hl 4 rfl) ?_
      refine lv_iload_n hx hb dX8_setBytes_5 rfl (lv_at hl 3 rfl) ?_
      refine lv_icmp_ge (tgt := 37) hx hb dX8_setBytes_6 (by decide) (fun h6 => ?_) (fun h6 => ?_)
      · rw [if_pos h6] at hf
        refine lv_aload_n hx hb dX8_setBytes_37 rfl (lv_at hl 0 rfl) ?_
        refine g_Model_many C0 hT hE hP mf_X8_28 dX8_setBytes_38 ?_
        refine lv_iload_n hx hb dX8_setBytes_41 rfl (lv_at hl 1 rfl) ?_
        refine lv_iload_n hx hb dX8_setBytes_42 rfl (lv_at hl 3 rfl) ?_
        obtain ⟨hin, hf⟩ := ob_if hf
        refine aM_st (a := 6) (by decide) C0 hT hE hJ hP hS (inb_in hin) dX8_setBytes_43 (fun H locs hP hS => ?_)
        exact hret _ _ _ _ _ hf hP hS dX8_setBytes_44
      · rw [if_neg h6] at hf
        refine lv_aload_n hx hb dX8_setBytes_9 rfl (lv_at hl 0 rfl) ?_
        refine g_Model_bytes C0 hT hE hP mf_X8_25 dX8_setBytes_10 ?_
        refine lv_sipush (v := 1500) hx hb dX8_setBytes_13 (by decide) ?_
        refine lv_iload_n hx hb dX8_setBytes_16 rfl (lv_at hl 1 rfl) ?_
        refine lv_imul hx hb dX8_setBytes_17 ?_
        refine lv_iload hx hb dX8_setBytes_18 (lv_at hl 4 rfl) ?_
        refine lv_iadd hx hb dX8_setBytes_20 ?_
        refine lv_aload_n hx hb dX8_setBytes_21 rfl (lv_at hl 0 rfl) ?_
        refine g_Model_tape C0 hT hE hP mf_X8_13 dX8_setBytes_22 ?_
        refine lv_iload_n hx hb dX8_setBytes_25 rfl (lv_at hl 2 rfl) ?_
        refine lv_iload hx hb dX8_setBytes_26 (lv_at hl 4 rfl) ?_
        refine lv_iadd hx hb dX8_setBytes_28 ?_
        obtain ⟨hin, hf⟩ := ob_if hf
        refine aM_ld (a := 1) (by decide) C0 hT hE hP (inb_in hin) dX8_setBytes_29 ?_
        obtain ⟨hin, hf⟩ := ob_if hf
        refine aM_st (a := 5) (by decide) C0 hT hE hJ hP hS (inb_in hin) dX8_setBytes_30 (fun H locs hP hS => ?_)
        refine lv_iinc (v := x4 + 1) (lv' := [(4, .int (x4 + 1)), (0, .ref (ad 11)), (1, .int x1), (2, .int x2), (3, .int x3)]) hx hb dX8_setBytes_31 hl (k := 4) rfl rfl (by decide) rfl (fun ls hl => ?_)
        refine lv_goto (tgt := 3) hx hb dX8_setBytes_34 (by decide) ?_
        exact ih _ _ _ _ _ hP hS (lv_sub hl [1, 2, 3, 4, 0] rfl) hf
  unfold f_X8_setBytes at hf
  refine lv_iconst (v := 0) hx hb dX8_setBytes_0 (by decide) ?_
  refine lv_istore (lv' := [(4, .int 0), (0, .ref (ad 11)), (1, .int x1), (2, .int x2), (3, .int x3)]) hx hb dX8_setBytes_1 hl (by decide) rfl (fun ls hl => ?_)
  exact L3 fu _ _ _ _ _ hP hS (lv_sub hl [1, 2, 3, 4, 0] rfl) hf
def f_X8_copyFile_50 (x1 : Int32) (x2 : Int32) : Nat → SM → Int32 → Option (SM)
  | 0, _, _ => none
  | n + 1, σ, x3 => if inb x1 (capM 6) = true then (if (σ.2 6 x1.toNatClampNeg) ≤ x3 then (if inb x1 (capM 6) = true then (if inb x2 (capM 6) = true then (some (SMc σ 6 (upd (σ.2 6) x2.toNatClampNeg (σ.2 6 x1.toNatClampNeg)))) else none) else none) else (if inb ((1500 * x1) + x3) (capM 5) = true then (if inb ((1500 * x2) + x3) (capM 5) = true then (f_X8_copyFile_50 x1 x2 n (SMc σ 5 (upd (σ.2 5) ((1500 * x2) + x3).toNatClampNeg (σ.2 5 ((1500 * x1) + x3).toNatClampNeg))) (x3 + 1)) else none) else none)) else none
def f_X8_copyFile_2 (x1 : Int32) (x2 : Int32) : Nat → SM → Int32 → Option (SM)
  | 0, _, _ => none
  | n + 1, σ, x3 => if (30 : Int32) ≤ x3 then (if inb x1 (capM 4) = true then (if inb x2 (capM 4) = true then (f_X8_copyFile_50 x1 x2 fu (SMc σ 4 (upd (σ.2 4) x2.toNatClampNeg (σ.2 4 x1.toNatClampNeg))) 0) else none) else none) else (if inb ((30 * x1) + x3) (capM 3) = true then (if inb ((30 * x2) + x3) (capM 3) = true then (f_X8_copyFile_2 x1 x2 n (SMc σ 3 (upd (σ.2 3) ((30 * x2) + x3).toNatClampNeg (σ.2 3 ((30 * x1) + x3).toNatClampNeg))) (x3 + 1)) else none) else none)
def f_X8_copyFile (σ : SM) (x1 : Int32) (x2 : Int32) : Option (SM) := f_X8_copyFile_2 x1 x2 fu σ 0
def rm_X8_copyFile : Room := { frames := 0, cells := 0, slots := 0, locals := 0 }
set_option maxHeartbeats 4000000 in
set_option maxRecDepth 100000 in
theorem met_X8_copyFile (l : Launch) (dC : Nat → ClassId) (dI : Nat → Nat → Nat) (cyI cyE : ClassId) (tC : Nat) (ad : Nat → Nat) (σ : SM) (x1 : Int32) (x2 : Int32) (res : SM) (hf : f_X8_copyFile σ x1 x2 = some res) : ax_Mv l dC dI cyI cyE tC 12 (cM cyI ad) ad yX8_copyFile cX8_copyFile 4 none rm_X8_copyFile [.ref (ad 11), .int x1, .int x2] σ res := by
  intro sz
  refine Met.ofW (cc := cX8_copyFile) (maxL := 4) (ret := none) (by decide) rfl ?_
  intro p e s m args below meth c s₁ B hml hv
  obtain ⟨hargs, hsz, hP, hJ, hE⟩ := hv
  subst hsz
  have hx := B.exec
  have hb := B.bytes
  have hr := B.returns
  have hlocks := B.notSynchronized
  have hts := atoms_spec (ws := wsY yX8_copyFile cX8_copyFile 4 none) B.pre
  have hown : s.vm.findClass RX8 = some m.cls := findClass_of_methodNamed B.named
  have C0 : CallFix p m c cX8_copyFile 4 s args (wsY yX8_copyFile cX8_copyFile 4 none) RX8 := ⟨hx, hb, hml, hown, hts⟩
  have hT : ∀ w ∈ bw, w ∈ wsY yX8_copyFile cX8_copyFile 4 none := fun w h => List.mem_cons_of_mem _ h
  have hS : va_S (ax_A 12 ad s.heap.size) s.heap s.heap [] := va_S.rf
  rw [show entryFrame m args 4 = entryFrame m ([.ref (ad 11), .int x1, .int x2] : List Value).toArray 4 by rw [hargs]]
  have hl := lv_entry ([.ref (ad 11), .int x1, .int x2]) (n := 4) (Nat.le_of_ble_eq_true rfl)
  rw [lg_entry_eq]
  generalize (lg_sl ([.ref (ad 11), .int x1, .int x2]) ++ List.replicate (4 - (lg_sl ([.ref (ad 11), .int x1, .int x2])).length) Slot.unset).toArray = ls at hl ⊢
  have hl : lv_has ls 4 [(0, .ref (ad 11)), (1, .int x1), (2, .int x2)] := hl
  obtain ⟨Q, hQ⟩ : ∃ Q : State → Prop, Q = MQ below (va_Qv (fun (u : SM) => u = res) (ax_B dC dI 12 (cM cyI ad) ad) (ax_A 12 ad s.heap.size)) args s 0 0 (ax_A 12 ad s.heap.size) := ⟨_, rfl⟩
  show W p l e rm_X8_copyFile s m args below meth c s.heap [] 0 0 _ _
  rw [← hQ]
  have hret : ∀ (σ : SM) (H : Heap) (locs : List Loc) (ls : Array Slot) (pc : Nat), some σ = some res → va_P (dC, dI) vwCl (ax_w 12 ad (cM cyI ad σ)) H → va_S (ax_A 12 ad s.heap.size) s.heap H locs → decode cX8_copyFile pc = .ok (.return_, 1) → W p l e rm_X8_copyFile s m args below meth c H locs 0 0 Q (F0 m pc ls []) := by
    intro σ H locs ls pc hf hP hS hd
    cases hf
    rw [hQ]
    exact ax_vret hx hb hr hlocks hP hS hd rfl
  have L50 : ∀ (n : Nat), ∀ (σ : SM) (x3 : Int32), ∀ (H : Heap) (locs : List Loc) (ls : Array Slot), va_P (dC, dI) vwCl (ax_w 12 ad (cM cyI ad σ)) H → va_S (ax_A 12 ad s.heap.size) s.heap H locs → lv_has ls 4 [(0, .ref (ad 11)), (1, .int x1), (2, .int x2), (3, .int x3)] → f_X8_copyFile_50 x1 x2 n σ x3 = some res → W p l e rm_X8_copyFile s m args below meth c H locs 0 0 Q (F0 m 50 ls []) := by
    intro n
    induction n with
    | zero =>
      intro σ x3  H locs ls hP hS hl hf
      cases hf
    | succ n ih =>
      intro σ x3  H locs ls hP hS hl hf
      rw [f_X8_copyFile_50] at hf
      refine lv_iload_n hx hb dX8_copyFile_50 rfl (lv_at hl 3 rfl) ?_
      refine lv_aload_n hx hb dX8_copyFile_51 rfl (lv_at hl 0 rfl) ?_
      refine g_Model_many C0 hT hE hP mf_X8_28 dX8_copyFile_52 ?_
      refine lv_iload_n hx hb dX8_copyFile_55 rfl (lv_at hl 1 rfl) ?_
      obtain ⟨hin, hf⟩ := ob_if hf
      refine aM_ld (a := 6) (by decide) C0 hT hE hP (inb_in hin) dX8_copyFile_56 ?_
      refine lv_icmp_ge (tgt := 90) hx hb dX8_copyFile_57 (by decide) (fun h57 => ?_) (fun h57 => ?_)
      · rw [if_pos h57] at hf
        refine lv_aload_n hx hb dX8_copyFile_90 rfl (lv_at hl 0 rfl) ?_
        refine g_Model_many C0 hT hE hP mf_X8_28 dX8_copyFile_91 ?_
        refine lv_iload_n hx hb dX8_copyFile_94 rfl (lv_at hl 2 rfl) ?_
        refine lv_aload_n hx hb dX8_copyFile_95 rfl (lv_at hl 0 rfl) ?_
        refine g_Model_many C0 hT hE hP mf_X8_28 dX8_copyFile_96 ?_
        refine lv_iload_n hx hb dX8_copyFile_99 rfl (lv_at hl 1 rfl) ?_
        obtain ⟨hin, hf⟩ := ob_if hf
        refine aM_ld (a := 6) (by decide) C0 hT hE hP (inb_in hin) dX8_copyFile_100 ?_
        obtain ⟨hin, hf⟩ := ob_if hf
        refine aM_st (a := 6) (by decide) C0 hT hE hJ hP hS (inb_in hin) dX8_copyFile_101 (fun H locs hP hS => ?_)
        exact hret _ _ _ _ _ hf hP hS dX8_copyFile_102
      · rw [if_neg h57] at hf
        refine lv_aload_n hx hb dX8_copyFile_60 rfl (lv_at hl 0 rfl) ?_
        refine g_Model_bytes C0 hT hE hP mf_X8_25 dX8_copyFile_61 ?_
        refine lv_sipush (v := 1500) hx hb dX8_copyFile_64 (by decide) ?_
        refine lv_iload_n hx hb dX8_copyFile_67 rfl (lv_at hl 2 rfl) ?_
        refine lv_imul hx hb dX8_copyFile_68 ?_
        refine lv_iload_n hx hb dX8_copyFile_69 rfl (lv_at hl 3 rfl) ?_
        refine lv_iadd hx hb dX8_copyFile_70 ?_
        refine lv_aload_n hx hb dX8_copyFile_71 rfl (lv_at hl 0 rfl) ?_
        refine g_Model_bytes C0 hT hE hP mf_X8_25 dX8_copyFile_72 ?_
        refine lv_sipush (v := 1500) hx hb dX8_copyFile_75 (by decide) ?_
        refine lv_iload_n hx hb dX8_copyFile_78 rfl (lv_at hl 1 rfl) ?_
        refine lv_imul hx hb dX8_copyFile_79 ?_
        refine lv_iload_n hx hb dX8_copyFile_80 rfl (lv_at hl 3 rfl) ?_
        refine lv_iadd hx hb dX8_copyFile_81 ?_
        obtain ⟨hin, hf⟩ := ob_if hf
        refine aM_ld (a := 5) (by decide) C0 hT hE hP (inb_in hin) dX8_copyFile_82 ?_
        obtain ⟨hin, hf⟩ := ob_if hf
        refine aM_st (a := 5) (by decide) C0 hT hE hJ hP hS (inb_in hin) dX8_copyFile_83 (fun H locs hP hS => ?_)
        refine lv_iinc (v := x3 + 1) (lv' := [(3, .int (x3 + 1)), (0, .ref (ad 11)), (1, .int x1), (2, .int x2)]) hx hb dX8_copyFile_84 hl (k := 3) rfl rfl (by decide) rfl (fun ls hl => ?_)
        refine lv_goto (tgt := 50) hx hb dX8_copyFile_87 (by decide) ?_
        exact ih _ _ _ _ _ hP hS (lv_sub hl [1, 2, 3, 0] rfl) hf
  have L2 : ∀ (n : Nat), ∀ (σ : SM) (x3 : Int32), ∀ (H : Heap) (locs : List Loc) (ls : Array Slot), va_P (dC, dI) vwCl (ax_w 12 ad (cM cyI ad σ)) H → va_S (ax_A 12 ad s.heap.size) s.heap H locs → lv_has ls 4 [(0, .ref (ad 11)), (1, .int x1), (2, .int x2), (3, .int x3)] → f_X8_copyFile_2 x1 x2 n σ x3 = some res → W p l e rm_X8_copyFile s m args below meth c H locs 0 0 Q (F0 m 2 ls []) := by
    intro n
    induction n with
    | zero =>
      intro σ x3  H locs ls hP hS hl hf
      cases hf
    | succ n ih =>
      intro σ x3  H locs ls hP hS hl hf
      rw [f_X8_copyFile_2] at hf
      refine lv_iload_n hx hb dX8_copyFile_2 rfl (lv_at hl 3 rfl) ?_
      refine lv_bipush (v := 30) hx hb dX8_copyFile_3 (by decide) ?_
      refine lv_icmp_ge (tgt := 36) hx hb dX8_copyFile_5 (by decide) (fun h5 => ?_) (fun h5 => ?_)
      · rw [if_pos h5] at hf
        refine lv_aload_n hx hb dX8_copyFile_36 rfl (lv_at hl 0 rfl) ?_
        refine g_Model_nameSize C0 hT hE hP mf_X8_22 dX8_copyFile_37 ?_
        refine lv_iload_n hx hb dX8_copyFile_40 rfl (lv_at hl 2 rfl) ?_
        refine lv_aload_n hx hb dX8_copyFile_41 rfl (lv_at hl 0 rfl) ?_
        refine g_Model_nameSize C0 hT hE hP mf_X8_22 dX8_copyFile_42 ?_
        refine lv_iload_n hx hb dX8_copyFile_45 rfl (lv_at hl 1 rfl) ?_
        obtain ⟨hin, hf⟩ := ob_if hf
        refine aM_ld (a := 4) (by decide) C0 hT hE hP (inb_in hin) dX8_copyFile_46 ?_
        obtain ⟨hin, hf⟩ := ob_if hf
        refine aM_st (a := 4) (by decide) C0 hT hE hJ hP hS (inb_in hin) dX8_copyFile_47 (fun H locs hP hS => ?_)
        refine lv_iconst (v := 0) hx hb dX8_copyFile_48 (by decide) ?_
        refine lv_istore_n (lv' := [(3, .int 0), (0, .ref (ad 11)), (1, .int x1), (2, .int x2)]) hx hb dX8_copyFile_49 rfl hl (by decide) rfl (fun ls hl => ?_)
        exact L50 fu _ _ _ _ _ hP hS (lv_sub hl [1, 2, 3, 0] rfl) hf
      · rw [if_neg h5] at hf
        refine lv_aload_n hx hb dX8_copyFile_8 rfl (lv_at hl 0 rfl) ?_
        refine g_Model_names C0 hT hE hP mf_X8_19 dX8_copyFile_9 ?_
        refine lv_bipush (v := 30) hx hb dX8_copyFile_12 (by decide) ?_
        refine lv_iload_n hx hb dX8_copyFile_14 rfl (lv_at hl 2 rfl) ?_
        refine lv_imul hx hb dX8_copyFile_15 ?_
        refine lv_iload_n hx hb dX8_copyFile_16 rfl (lv_at hl 3 rfl) ?_
        refine lv_iadd hx hb dX8_copyFile_17 ?_
        refine lv_aload_n hx hb dX8_copyFile_18 rfl (lv_at hl 0 rfl) ?_
        refine g_Model_names C0 hT hE hP mf_X8_19 dX8_copyFile_19 ?_
        refine lv_bipush (v := 30) hx hb dX8_copyFile_22 (by decide) ?_
        refine lv_iload_n hx hb dX8_copyFile_24 rfl (lv_at hl 1 rfl) ?_
        refine lv_imul hx hb dX8_copyFile_25 ?_
        refine lv_iload_n hx hb dX8_copyFile_26 rfl (lv_at hl 3 rfl) ?_
        refine lv_iadd hx hb dX8_copyFile_27 ?_
        obtain ⟨hin, hf⟩ := ob_if hf
        refine aM_ld (a := 3) (by decide) C0 hT hE hP (inb_in hin) dX8_copyFile_28 ?_
        obtain ⟨hin, hf⟩ := ob_if hf
        refine aM_st (a := 3) (by decide) C0 hT hE hJ hP hS (inb_in hin) dX8_copyFile_29 (fun H locs hP hS => ?_)
        refine lv_iinc (v := x3 + 1) (lv' := [(3, .int (x3 + 1)), (0, .ref (ad 11)), (1, .int x1), (2, .int x2)]) hx hb dX8_copyFile_30 hl (k := 3) rfl rfl (by decide) rfl (fun ls hl => ?_)
        refine lv_goto (tgt := 2) hx hb dX8_copyFile_33 (by decide) ?_
        exact ih _ _ _ _ _ hP hS (lv_sub hl [1, 2, 3, 0] rfl) hf
  unfold f_X8_copyFile at hf
  refine lv_iconst (v := 0) hx hb dX8_copyFile_0 (by decide) ?_
  refine lv_istore_n (lv' := [(3, .int 0), (0, .ref (ad 11)), (1, .int x1), (2, .int x2)]) hx hb dX8_copyFile_1 rfl hl (by decide) rfl (fun ls hl => ?_)
  exact L2 fu _ _ _ _ _ hP hS (lv_sub hl [1, 2, 3, 0] rfl) hf
