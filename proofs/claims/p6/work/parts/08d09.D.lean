def f_X7_end_38 (x1 : Int32) (x2 : Int32) : Nat → SD → Int32 → Option (Int32 × SD)
  | 0, _, _ => none
  | n + 1, σ, x3 => if x2 ≤ x3 then ((f_X4_blank σ 0).bind fun q66 => (f_X4_size q66 1).bind fun q73 => some (q73.1, q73.2)) else ((f_X4_append σ 1 0 0 x1).bind fun q53 => f_X7_end_38 x1 x2 n q53 (x3 + 1))
def f_X7_end (σ : SD) (x1 : Int32) (x2 : Int32) : Option (Int32 × SD) := if x1 < 0 then (some ((-1), σ)) else (if (20 : Int32) < x1 then (some ((-1), σ)) else (if x2 < 1 then (some ((-1), σ)) else (if (100 : Int32) < x2 then (some ((-1), σ)) else ((f_X4_room σ 1).bind fun q28 => if (x1 * x2) ≤ q28.1 then (f_X7_end_38 x1 x2 fu q28.2 0) else (some ((-1), q28.2))))))
def rm_X7_end : Room := { frames := 2, cells := 0, slots := 0, locals := 53 }
set_option maxHeartbeats 4000000 in
set_option maxRecDepth 100000 in
theorem met_X7_end (l : Launch) (dC : Nat → ClassId) (dI : Nat → Nat → Nat) (cyI cyE : ClassId) (tC : Nat) (ad : Nat → Nat) (σ : SD) (x1 : Int32) (x2 : Int32) (res : Int32 × SD) (hf : f_X7_end σ x1 x2 = some res) : ax_Mi l dC dI cyI cyE tC 77 (cD cyI cyE ad) ad yX7_end cX7_end 4 (some .int) rm_X7_end [.ref (ad 76), .int x1, .int x2] σ res.1 res.2 := by
  intro sz
  refine Met.ofW (cc := cX7_end) (maxL := 4) (ret := (some .int)) (by decide) rfl ?_
  intro p e s m args below meth c s₁ B hml hv
  obtain ⟨hargs, hsz, hP, hJ, hE⟩ := hv
  subst hsz
  have hx := B.exec
  have hb := B.bytes
  have hr := B.returns
  have hlocks := B.notSynchronized
  have hts := atoms_spec (ws := wsY yX7_end cX7_end 4 (some .int)) B.pre
  have hown : s.vm.findClass RX7 = some m.cls := findClass_of_methodNamed B.named
  have C0 : CallFix p m c cX7_end 4 s args (wsY yX7_end cX7_end 4 (some .int)) RX7 := ⟨hx, hb, hml, hown, hts⟩
  have hT : ∀ w ∈ bw, w ∈ wsY yX7_end cX7_end 4 (some .int) := fun w h => List.mem_cons_of_mem _ h
  have hS : va_S (ax_A 77 ad s.heap.size) s.heap s.heap [] := va_S.rf
  rw [show entryFrame m args 4 = entryFrame m ([.ref (ad 76), .int x1, .int x2] : List Value).toArray 4 by rw [hargs]]
  have hl := lv_entry ([.ref (ad 76), .int x1, .int x2]) (n := 4) (Nat.le_of_ble_eq_true rfl)
  rw [lg_entry_eq]
  generalize (lg_sl ([.ref (ad 76), .int x1, .int x2]) ++ List.replicate (4 - (lg_sl ([.ref (ad 76), .int x1, .int x2])).length) Slot.unset).toArray = ls at hl ⊢
  have hl : lv_has ls 4 [(0, .ref (ad 76)), (1, .int x1), (2, .int x2)] := hl
  obtain ⟨Q, hQ⟩ : ∃ Q : State → Prop, Q = MQ below (va_Qi (fun (a : Int32) (u : SD) => a = res.1 ∧ u = res.2) (ax_B dC dI 77 (cD cyI cyE ad) ad) (ax_A 77 ad s.heap.size)) args s 0 0 (ax_A 77 ad s.heap.size) := ⟨_, rfl⟩
  show W p l e rm_X7_end s m args below meth c s.heap [] 0 0 _ _
  rw [← hQ]
  have hret : ∀ (v : Int32) (σ : SD) (H : Heap) (locs : List Loc) (ls : Array Slot) (pc : Nat), narrow .int (.int v) = .int v → some (v, σ) = some res → va_P (dC, dI) vwCl (ax_w 77 ad (cD cyI cyE ad σ)) H → va_S (ax_A 77 ad s.heap.size) s.heap H locs → decode cX7_end pc = .ok (.ireturn, 1) → W p l e rm_X7_end s m args below meth c H locs 0 0 Q (F0 m pc ls [.int v]) := by
    intro v σ H locs ls pc hn hf hP hS hd
    cases hf
    rw [hQ]
    exact ax_iret hx hb hr hlocks hn hP hS hd rfl rfl
  have L38 : ∀ (n : Nat), ∀ (σ : SD) (x3 : Int32), ∀ (H : Heap) (locs : List Loc) (ls : Array Slot), va_P (dC, dI) vwCl (ax_w 77 ad (cD cyI cyE ad σ)) H → va_S (ax_A 77 ad s.heap.size) s.heap H locs → lv_has ls 4 [(0, .ref (ad 76)), (1, .int x1), (2, .int x2), (3, .int x3)] → f_X7_end_38 x1 x2 n σ x3 = some res → W p l e rm_X7_end s m args below meth c H locs 0 0 Q (F0 m 38 ls []) := by
    intro n
    induction n with
    | zero =>
      intro σ x3  H locs ls hP hS hl hf
      cases hf
    | succ n ih =>
      intro σ x3  H locs ls hP hS hl hf
      rw [f_X7_end_38] at hf
      refine lv_iload_n hx hb dX7_end_38 rfl (lv_at hl 3 rfl) ?_
      refine lv_iload_n hx hb dX7_end_39 rfl (lv_at hl 2 rfl) ?_
      refine lv_icmp_ge (tgt := 62) hx hb dX7_end_40 (by decide) (fun h40 => ?_) (fun h40 => ?_)
      · rw [if_pos h40] at hf
        refine lv_aload_n hx hb dX7_end_62 rfl (lv_at hl 0 rfl) ?_
        refine g_Desk_ready C0 hT hE hP mf_X7_14 dX7_end_63 ?_
        obtain ⟨q66, hq, hf⟩ := ob_bind hf
        refine ax_callVv (b := 0) (i := 0) (k := 0) (ci := 3) [] C0 hT hJ hE (met_X4_blank l dC dI cyI cyE tC ad σ 0 (by decide) _ hq) hP hS mc_X4_blank ml_X7_38 mi_X4_blank ms_X4_blank mz_X4 (by decide +kernel) ⟨rfl, rfl⟩ ⟨by decide, by decide⟩ (by decide) (cD_Row (by decide)) rfl rfl rfl hl.1 (Nat.le_of_ble_eq_true rfl) dX7_end_66 ⟨Nat.zero_le _, Nat.zero_le _⟩ (fun H locs hP hS => ?_)
        refine lv_aload_n hx hb dX7_end_69 rfl (lv_at hl 0 rfl) ?_
        refine g_Desk_tape C0 hT hE hP mf_X7_18 dX7_end_70 ?_
        obtain ⟨q73, hq, hf⟩ := ob_bind hf
        refine ax_callVi (C := "") (b := 0) (i := 1) (k := 0) (ci := 3) [] C0 hT hJ hE (met_X4_size l dC dI cyI cyE tC ad q66 1 (by decide) _ hq) hP hS mc_X4_size ml_X7_56 mi_X4_size ms_X4_size mz_X4 (by decide +kernel) ⟨rfl, rfl⟩ ⟨by decide, by decide⟩ (by decide) (cD_Row (by decide)) rfl rfl rfl hl.1 (Nat.le_of_ble_eq_true rfl) dX7_end_73 ⟨Nat.zero_le _, Nat.zero_le _⟩ (fun H locs hP hS => ?_)
        exact hret _ _ _ _ _ _ rfl hf hP hS dX7_end_76
      · rw [if_neg h40] at hf
        refine lv_aload_n hx hb dX7_end_43 rfl (lv_at hl 0 rfl) ?_
        refine g_Desk_tape C0 hT hE hP mf_X7_18 dX7_end_44 ?_
        refine lv_aload_n hx hb dX7_end_47 rfl (lv_at hl 0 rfl) ?_
        refine g_Desk_ready C0 hT hE hP mf_X7_14 dX7_end_48 ?_
        refine lv_iconst (v := 0) hx hb dX7_end_51 (by decide) ?_
        refine lv_iload_n hx hb dX7_end_52 rfl (lv_at hl 1 rfl) ?_
        obtain ⟨q53, hq, hf⟩ := ob_bind hf
        refine ax_callVv (b := 0) (i := 1) (k := 3) (ci := 3) [.ref (ad 0), .int 0, .int x1] C0 hT hJ hE (met_X4_append l dC dI cyI cyE tC ad σ 1 0 0 x1 (by decide) (by decide) _ hq) hP hS mc_X4_append ml_X7_52 mi_X4_append ms_X4_append mz_X4 (by decide +kernel) ⟨rfl, rfl⟩ ⟨by decide, by decide⟩ (by decide) (cD_Row (by decide)) rfl rfl rfl hl.1 (Nat.le_of_ble_eq_true rfl) dX7_end_53 ⟨Nat.zero_le _, Nat.zero_le _⟩ (fun H locs hP hS => ?_)
        refine lv_iinc (v := x3 + 1) (lv' := [(3, .int (x3 + 1)), (0, .ref (ad 76)), (1, .int x1), (2, .int x2)]) hx hb dX7_end_56 hl (k := 3) rfl rfl (by decide) rfl (fun ls hl => ?_)
        refine lv_goto (tgt := 38) hx hb dX7_end_59 (by decide) ?_
        exact ih _ _ _ _ _ hP hS (lv_sub hl [1, 2, 3, 0] rfl) hf
  unfold f_X7_end at hf
  refine lv_iload_n hx hb dX7_end_0 rfl (lv_at hl 1 rfl) ?_
  refine lv_if_lt (tgt := 34) hx hb dX7_end_1 (by decide) (fun h1 => ?_) (fun h1 => ?_)
  · rw [if_pos h1] at hf
    refine lv_iconst (v := (-1)) hx hb dX7_end_34 (by decide) ?_
    exact hret _ _ _ _ _ _ rfl hf hP hS dX7_end_35
  · rw [if_neg h1] at hf
    refine lv_iload_n hx hb dX7_end_4 rfl (lv_at hl 1 rfl) ?_
    refine lv_bipush (v := 20) hx hb dX7_end_5 (by decide) ?_
    refine lv_icmp_gt (tgt := 34) hx hb dX7_end_7 (by decide) (fun h7 => ?_) (fun h7 => ?_)
    · rw [if_pos h7] at hf
      refine lv_iconst (v := (-1)) hx hb dX7_end_34 (by decide) ?_
      exact hret _ _ _ _ _ _ rfl hf hP hS dX7_end_35
    · rw [if_neg h7] at hf
      refine lv_iload_n hx hb dX7_end_10 rfl (lv_at hl 2 rfl) ?_
      refine lv_iconst (v := 1) hx hb dX7_end_11 (by decide) ?_
      refine lv_icmp_lt (tgt := 34) hx hb dX7_end_12 (by decide) (fun h12 => ?_) (fun h12 => ?_)
      · rw [if_pos h12] at hf
        refine lv_iconst (v := (-1)) hx hb dX7_end_34 (by decide) ?_
        exact hret _ _ _ _ _ _ rfl hf hP hS dX7_end_35
      · rw [if_neg h12] at hf
        refine lv_iload_n hx hb dX7_end_15 rfl (lv_at hl 2 rfl) ?_
        refine lv_bipush (v := 100) hx hb dX7_end_16 (by decide) ?_
        refine lv_icmp_gt (tgt := 34) hx hb dX7_end_18 (by decide) (fun h18 => ?_) (fun h18 => ?_)
        · rw [if_pos h18] at hf
          refine lv_iconst (v := (-1)) hx hb dX7_end_34 (by decide) ?_
          exact hret _ _ _ _ _ _ rfl hf hP hS dX7_end_35
        · rw [if_neg h18] at hf
          refine lv_iload_n hx hb dX7_end_21 rfl (lv_at hl 1 rfl) ?_
          refine lv_iload_n hx hb dX7_end_22 rfl (lv_at hl 2 rfl) ?_
          refine lv_imul hx hb dX7_end_23 ?_
          refine lv_aload_n hx hb dX7_end_24 rfl (lv_at hl 0 rfl) ?_
          refine g_Desk_tape C0 hT hE hP mf_X7_18 dX7_end_25 ?_
          obtain ⟨q28, hq, hf⟩ := ob_bind hf
          refine ax_callVi (C := "") (b := 0) (i := 1) (k := 0) (ci := 3) [] C0 hT hJ hE (met_X4_room l dC dI cyI cyE tC ad σ 1 (by decide) _ hq) hP hS mc_X4_room ml_X7_48 mi_X4_room ms_X4_room mz_X4 (by decide +kernel) ⟨rfl, rfl⟩ ⟨by decide, by decide⟩ (by decide) (cD_Row (by decide)) rfl rfl rfl hl.1 (Nat.le_of_ble_eq_true rfl) dX7_end_28 ⟨Nat.zero_le _, Nat.zero_le _⟩ (fun H locs hP hS => ?_)
          refine lv_icmp_le (tgt := 36) hx hb dX7_end_31 (by decide) (fun h31 => ?_) (fun h31 => ?_)
          · rw [if_pos h31] at hf
            refine lv_iconst (v := 0) hx hb dX7_end_36 (by decide) ?_
            refine lv_istore_n (lv' := [(3, .int 0), (0, .ref (ad 76)), (1, .int x1), (2, .int x2)]) hx hb dX7_end_37 rfl hl (by decide) rfl (fun ls hl => ?_)
            exact L38 fu _ _ _ _ _ hP hS (lv_sub hl [1, 2, 3, 0] rfl) hf
          · rw [if_neg h31] at hf
            refine lv_iconst (v := (-1)) hx hb dX7_end_34 (by decide) ?_
            exact hret _ _ _ _ _ _ rfl hf hP hS dX7_end_35
def f_X7_cut (σ : SD) (x1 : Int32) : Option (Int32 × SD) := (f_X4_shorten σ 1 x1).bind fun q5 => if nzb q5.1 = true then some (q5.1, q5.2) else none
def rm_X7_cut : Room := { frames := 1, cells := 0, slots := 0, locals := 21 }
set_option maxHeartbeats 4000000 in
set_option maxRecDepth 100000 in
theorem met_X7_cut (l : Launch) (dC : Nat → ClassId) (dI : Nat → Nat → Nat) (cyI cyE : ClassId) (tC : Nat) (ad : Nat → Nat) (σ : SD) (x1 : Int32) (res : Int32 × SD) (hf : f_X7_cut σ x1 = some res) : ax_Mi l dC dI cyI cyE tC 77 (cD cyI cyE ad) ad yX7_cut cX7_cut 2 (some .boolean) rm_X7_cut [.ref (ad 76), .int x1] σ res.1 res.2 := by
  intro sz
  refine Met.ofW (cc := cX7_cut) (maxL := 2) (ret := (some .boolean)) (by decide) rfl ?_
  intro p e s m args below meth c s₁ B hml hv
  obtain ⟨hargs, hsz, hP, hJ, hE⟩ := hv
  subst hsz
  have hx := B.exec
  have hb := B.bytes
  have hr := B.returns
  have hlocks := B.notSynchronized
  have hts := atoms_spec (ws := wsY yX7_cut cX7_cut 2 (some .boolean)) B.pre
  have hown : s.vm.findClass RX7 = some m.cls := findClass_of_methodNamed B.named
  have C0 : CallFix p m c cX7_cut 2 s args (wsY yX7_cut cX7_cut 2 (some .boolean)) RX7 := ⟨hx, hb, hml, hown, hts⟩
  have hT : ∀ w ∈ bw, w ∈ wsY yX7_cut cX7_cut 2 (some .boolean) := fun w h => List.mem_cons_of_mem _ h
  have hS : va_S (ax_A 77 ad s.heap.size) s.heap s.heap [] := va_S.rf
  rw [show entryFrame m args 2 = entryFrame m ([.ref (ad 76), .int x1] : List Value).toArray 2 by rw [hargs]]
  have hl := lv_entry ([.ref (ad 76), .int x1]) (n := 2) (Nat.le_of_ble_eq_true rfl)
  rw [lg_entry_eq]
  generalize (lg_sl ([.ref (ad 76), .int x1]) ++ List.replicate (2 - (lg_sl ([.ref (ad 76), .int x1])).length) Slot.unset).toArray = ls at hl ⊢
  have hl : lv_has ls 2 [(0, .ref (ad 76)), (1, .int x1)] := hl
  obtain ⟨Q, hQ⟩ : ∃ Q : State → Prop, Q = MQ below (va_Qi (fun (a : Int32) (u : SD) => a = res.1 ∧ u = res.2) (ax_B dC dI 77 (cD cyI cyE ad) ad) (ax_A 77 ad s.heap.size)) args s 0 0 (ax_A 77 ad s.heap.size) := ⟨_, rfl⟩
  show W p l e rm_X7_cut s m args below meth c s.heap [] 0 0 _ _
  rw [← hQ]
  have hret : ∀ (v : Int32) (σ : SD) (H : Heap) (locs : List Loc) (ls : Array Slot) (pc : Nat), narrow .boolean (.int v) = .int v → some (v, σ) = some res → va_P (dC, dI) vwCl (ax_w 77 ad (cD cyI cyE ad σ)) H → va_S (ax_A 77 ad s.heap.size) s.heap H locs → decode cX7_cut pc = .ok (.ireturn, 1) → W p l e rm_X7_cut s m args below meth c H locs 0 0 Q (F0 m pc ls [.int v]) := by
    intro v σ H locs ls pc hn hf hP hS hd
    cases hf
    rw [hQ]
    exact ax_iret hx hb hr hlocks hn hP hS hd rfl rfl
  unfold f_X7_cut at hf
  refine lv_aload_n hx hb dX7_cut_0 rfl (lv_at hl 0 rfl) ?_
  refine g_Desk_tape C0 hT hE hP mf_X7_18 dX7_cut_1 ?_
  refine lv_iload_n hx hb dX7_cut_4 rfl (lv_at hl 1 rfl) ?_
  obtain ⟨q5, hq, hf⟩ := ob_bind hf
  refine ax_callVi (C := "") (b := 0) (i := 1) (k := 1) (ci := 3) [.int x1] C0 hT hJ hE (met_X4_shorten l dC dI cyI cyE tC ad σ 1 x1 (by decide) _ hq) hP hS mc_X4_shorten ml_X7_41 mi_X4_shorten ms_X4_shorten mz_X4 (by decide +kernel) ⟨rfl, rfl⟩ ⟨by decide, by decide⟩ (by decide) (cD_Row (by decide)) rfl rfl rfl hl.1 (Nat.le_of_ble_eq_true rfl) dX7_cut_5 ⟨Nat.zero_le _, Nat.zero_le _⟩ (fun H locs hP hS => ?_)
  obtain ⟨hnz, hf⟩ := ob_if hf
  exact hret _ _ _ _ _ _ (nzb_n hnz) hf hP hS dX7_cut_8
def f_X7_drop (σ : SD) (x1 : Int32) : Option (Int32 × SD) := (f_X4_close σ 1 0 x1).bind fun q6 => if nzb q6.1 = true then some (q6.1, q6.2) else none
def rm_X7_drop : Room := { frames := 2, cells := 0, slots := 0, locals := 52 }
set_option maxHeartbeats 4000000 in
set_option maxRecDepth 100000 in
theorem met_X7_drop (l : Launch) (dC : Nat → ClassId) (dI : Nat → Nat → Nat) (cyI cyE : ClassId) (tC : Nat) (ad : Nat → Nat) (σ : SD) (x1 : Int32) (res : Int32 × SD) (hf : f_X7_drop σ x1 = some res) : ax_Mi l dC dI cyI cyE tC 77 (cD cyI cyE ad) ad yX7_drop cX7_drop 2 (some .boolean) rm_X7_drop [.ref (ad 76), .int x1] σ res.1 res.2 := by
  intro sz
  refine Met.ofW (cc := cX7_drop) (maxL := 2) (ret := (some .boolean)) (by decide) rfl ?_
  intro p e s m args below meth c s₁ B hml hv
  obtain ⟨hargs, hsz, hP, hJ, hE⟩ := hv
  subst hsz
  have hx := B.exec
  have hb := B.bytes
  have hr := B.returns
  have hlocks := B.notSynchronized
  have hts := atoms_spec (ws := wsY yX7_drop cX7_drop 2 (some .boolean)) B.pre
  have hown : s.vm.findClass RX7 = some m.cls := findClass_of_methodNamed B.named
  have C0 : CallFix p m c cX7_drop 2 s args (wsY yX7_drop cX7_drop 2 (some .boolean)) RX7 := ⟨hx, hb, hml, hown, hts⟩
  have hT : ∀ w ∈ bw, w ∈ wsY yX7_drop cX7_drop 2 (some .boolean) := fun w h => List.mem_cons_of_mem _ h
  have hS : va_S (ax_A 77 ad s.heap.size) s.heap s.heap [] := va_S.rf
  rw [show entryFrame m args 2 = entryFrame m ([.ref (ad 76), .int x1] : List Value).toArray 2 by rw [hargs]]
  have hl := lv_entry ([.ref (ad 76), .int x1]) (n := 2) (Nat.le_of_ble_eq_true rfl)
  rw [lg_entry_eq]
  generalize (lg_sl ([.ref (ad 76), .int x1]) ++ List.replicate (2 - (lg_sl ([.ref (ad 76), .int x1])).length) Slot.unset).toArray = ls at hl ⊢
  have hl : lv_has ls 2 [(0, .ref (ad 76)), (1, .int x1)] := hl
  obtain ⟨Q, hQ⟩ : ∃ Q : State → Prop, Q = MQ below (va_Qi (fun (a : Int32) (u : SD) => a = res.1 ∧ u = res.2) (ax_B dC dI 77 (cD cyI cyE ad) ad) (ax_A 77 ad s.heap.size)) args s 0 0 (ax_A 77 ad s.heap.size) := ⟨_, rfl⟩
  show W p l e rm_X7_drop s m args below meth c s.heap [] 0 0 _ _
  rw [← hQ]
  have hret : ∀ (v : Int32) (σ : SD) (H : Heap) (locs : List Loc) (ls : Array Slot) (pc : Nat), narrow .boolean (.int v) = .int v → some (v, σ) = some res → va_P (dC, dI) vwCl (ax_w 77 ad (cD cyI cyE ad σ)) H → va_S (ax_A 77 ad s.heap.size) s.heap H locs → decode cX7_drop pc = .ok (.ireturn, 1) → W p l e rm_X7_drop s m args below meth c H locs 0 0 Q (F0 m pc ls [.int v]) := by
    intro v σ H locs ls pc hn hf hP hS hd
    cases hf
    rw [hQ]
    exact ax_iret hx hb hr hlocks hn hP hS hd rfl rfl
  unfold f_X7_drop at hf
  refine lv_aload_n hx hb dX7_drop_0 rfl (lv_at hl 0 rfl) ?_
  refine g_Desk_tape C0 hT hE hP mf_X7_18 dX7_drop_1 ?_
  refine lv_iconst (v := 0) hx hb dX7_drop_4 (by decide) ?_
  refine lv_iload_n hx hb dX7_drop_5 rfl (lv_at hl 1 rfl) ?_
  obtain ⟨q6, hq, hf⟩ := ob_bind hf
  refine ax_callVi (C := "") (b := 0) (i := 1) (k := 2) (ci := 3) [.int 0, .int x1] C0 hT hJ hE (met_X4_close l dC dI cyI cyE tC ad σ 1 0 x1 (by decide) _ hq) hP hS mc_X4_close ml_X7_59 mi_X4_close ms_X4_close mz_X4 (by decide +kernel) ⟨rfl, rfl⟩ ⟨by decide, by decide⟩ (by decide) (cD_Row (by decide)) rfl rfl rfl hl.1 (Nat.le_of_ble_eq_true rfl) dX7_drop_6 ⟨Nat.zero_le _, Nat.zero_le _⟩ (fun H locs hP hS => ?_)
  obtain ⟨hnz, hf⟩ := ob_if hf
  exact hret _ _ _ _ _ _ (nzb_n hnz) hf hP hS dX7_drop_9
def f_X7_flip (σ : SD) (x1 : Int32) (x2 : Int32) : Option (Int32 × SD) := (f_X4_turn σ 1 x1 x2).bind fun q6 => if nzb q6.1 = true then some (q6.1, q6.2) else none
def rm_X7_flip : Room := { frames := 1, cells := 0, slots := 0, locals := 22 }
set_option maxHeartbeats 4000000 in
set_option maxRecDepth 100000 in
theorem met_X7_flip (l : Launch) (dC : Nat → ClassId) (dI : Nat → Nat → Nat) (cyI cyE : ClassId) (tC : Nat) (ad : Nat → Nat) (σ : SD) (x1 : Int32) (x2 : Int32) (res : Int32 × SD) (hf : f_X7_flip σ x1 x2 = some res) : ax_Mi l dC dI cyI cyE tC 77 (cD cyI cyE ad) ad yX7_flip cX7_flip 3 (some .boolean) rm_X7_flip [.ref (ad 76), .int x1, .int x2] σ res.1 res.2 := by
  intro sz
  refine Met.ofW (cc := cX7_flip) (maxL := 3) (ret := (some .boolean)) (by decide) rfl ?_
  intro p e s m args below meth c s₁ B hml hv
  obtain ⟨hargs, hsz, hP, hJ, hE⟩ := hv
  subst hsz
  have hx := B.exec
  have hb := B.bytes
  have hr := B.returns
  have hlocks := B.notSynchronized
  have hts := atoms_spec (ws := wsY yX7_flip cX7_flip 3 (some .boolean)) B.pre
  have hown : s.vm.findClass RX7 = some m.cls := findClass_of_methodNamed B.named
  have C0 : CallFix p m c cX7_flip 3 s args (wsY yX7_flip cX7_flip 3 (some .boolean)) RX7 := ⟨hx, hb, hml, hown, hts⟩
  have hT : ∀ w ∈ bw, w ∈ wsY yX7_flip cX7_flip 3 (some .boolean) := fun w h => List.mem_cons_of_mem _ h
  have hS : va_S (ax_A 77 ad s.heap.size) s.heap s.heap [] := va_S.rf
  rw [show entryFrame m args 3 = entryFrame m ([.ref (ad 76), .int x1, .int x2] : List Value).toArray 3 by rw [hargs]]
  have hl := lv_entry ([.ref (ad 76), .int x1, .int x2]) (n := 3) (Nat.le_of_ble_eq_true rfl)
  rw [lg_entry_eq]
  generalize (lg_sl ([.ref (ad 76), .int x1, .int x2]) ++ List.replicate (3 - (lg_sl ([.ref (ad 76), .int x1, .int x2])).length) Slot.unset).toArray = ls at hl ⊢
  have hl : lv_has ls 3 [(0, .ref (ad 76)), (1, .int x1), (2, .int x2)] := hl
  obtain ⟨Q, hQ⟩ : ∃ Q : State → Prop, Q = MQ below (va_Qi (fun (a : Int32) (u : SD) => a = res.1 ∧ u = res.2) (ax_B dC dI 77 (cD cyI cyE ad) ad) (ax_A 77 ad s.heap.size)) args s 0 0 (ax_A 77 ad s.heap.size) := ⟨_, rfl⟩
  show W p l e rm_X7_flip s m args below meth c s.heap [] 0 0 _ _
  rw [← hQ]
  have hret : ∀ (v : Int32) (σ : SD) (H : Heap) (locs : List Loc) (ls : Array Slot) (pc : Nat), narrow .boolean (.int v) = .int v → some (v, σ) = some res → va_P (dC, dI) vwCl (ax_w 77 ad (cD cyI cyE ad σ)) H → va_S (ax_A 77 ad s.heap.size) s.heap H locs → decode cX7_flip pc = .ok (.ireturn, 1) → W p l e rm_X7_flip s m args below meth c H locs 0 0 Q (F0 m pc ls [.int v]) := by
    intro v σ H locs ls pc hn hf hP hS hd
    cases hf
    rw [hQ]
    exact ax_iret hx hb hr hlocks hn hP hS hd rfl rfl
  unfold f_X7_flip at hf
  refine lv_aload_n hx hb dX7_flip_0 rfl (lv_at hl 0 rfl) ?_
  refine g_Desk_tape C0 hT hE hP mf_X7_18 dX7_flip_1 ?_
  refine lv_iload_n hx hb dX7_flip_4 rfl (lv_at hl 1 rfl) ?_
  refine lv_iload_n hx hb dX7_flip_5 rfl (lv_at hl 2 rfl) ?_
  obtain ⟨q6, hq, hf⟩ := ob_bind hf
  refine ax_callVi (C := "") (b := 0) (i := 1) (k := 2) (ci := 3) [.int x1, .int x2] C0 hT hJ hE (met_X4_turn l dC dI cyI cyE tC ad σ 1 x1 x2 (by decide) _ hq) hP hS mc_X4_turn ml_X7_63 mi_X4_turn ms_X4_turn mz_X4 (by decide +kernel) ⟨rfl, rfl⟩ ⟨by decide, by decide⟩ (by decide) (cD_Row (by decide)) rfl rfl rfl hl.1 (Nat.le_of_ble_eq_true rfl) dX7_flip_6 ⟨Nat.zero_le _, Nat.zero_le _⟩ (fun H locs hP hS => ?_)
  obtain ⟨hnz, hf⟩ := ob_if hf
  exact hret _ _ _ _ _ _ (nzb_n hnz) hf hP hS dX7_flip_9





def f_X7_sort (σ : SD) : Option (SD) := (f_X5_putInOrder σ ).bind fun q4 => some q4
def rm_X7_sort : Room := { frames := 3, cells := 0, slots := 0, locals := 66 }
set_option maxHeartbeats 4000000 in
set_option maxRecDepth 100000 in
theorem met_X7_sort (l : Launch) (dC : Nat → ClassId) (dI : Nat → Nat → Nat) (cyI cyE : ClassId) (tC : Nat) (ad : Nat → Nat) (σ : SD) (res : SD) (hf : f_X7_sort σ = some res) : ax_Mv l dC dI cyI cyE tC 77 (cD cyI cyE ad) ad yX7_sort cX7_sort 1 none rm_X7_sort [.ref (ad 76)] σ res := by
  intro sz
  refine Met.ofW (cc := cX7_sort) (maxL := 1) (ret := none) (by decide) rfl ?_
  intro p e s m args below meth c s₁ B hml hv
  obtain ⟨hargs, hsz, hP, hJ, hE⟩ := hv
  subst hsz
  have hx := B.exec
  have hb := B.bytes
  have hr := B.returns
  have hlocks := B.notSynchronized
  have hts := atoms_spec (ws := wsY yX7_sort cX7_sort 1 none) B.pre
  have hown : s.vm.findClass RX7 = some m.cls := findClass_of_methodNamed B.named
  have C0 : CallFix p m c cX7_sort 1 s args (wsY yX7_sort cX7_sort 1 none) RX7 := ⟨hx, hb, hml, hown, hts⟩
  have hT : ∀ w ∈ bw, w ∈ wsY yX7_sort cX7_sort 1 none := fun w h => List.mem_cons_of_mem _ h
  have hS : va_S (ax_A 77 ad s.heap.size) s.heap s.heap [] := va_S.rf
  rw [show entryFrame m args 1 = entryFrame m ([.ref (ad 76)] : List Value).toArray 1 by rw [hargs]]
  have hl := lv_entry ([.ref (ad 76)]) (n := 1) (Nat.le_of_ble_eq_true rfl)
  rw [lg_entry_eq]
  generalize (lg_sl ([.ref (ad 76)]) ++ List.replicate (1 - (lg_sl ([.ref (ad 76)])).length) Slot.unset).toArray = ls at hl ⊢
  have hl : lv_has ls 1 [(0, .ref (ad 76))] := hl
  obtain ⟨Q, hQ⟩ : ∃ Q : State → Prop, Q = MQ below (va_Qv (fun (u : SD) => u = res) (ax_B dC dI 77 (cD cyI cyE ad) ad) (ax_A 77 ad s.heap.size)) args s 0 0 (ax_A 77 ad s.heap.size) := ⟨_, rfl⟩
  show W p l e rm_X7_sort s m args below meth c s.heap [] 0 0 _ _
  rw [← hQ]
  have hret : ∀ (σ : SD) (H : Heap) (locs : List Loc) (ls : Array Slot) (pc : Nat), some σ = some res → va_P (dC, dI) vwCl (ax_w 77 ad (cD cyI cyE ad σ)) H → va_S (ax_A 77 ad s.heap.size) s.heap H locs → decode cX7_sort pc = .ok (.return_, 1) → W p l e rm_X7_sort s m args below meth c H locs 0 0 Q (F0 m pc ls []) := by
    intro σ H locs ls pc hf hP hS hd
    cases hf
    rw [hQ]
    exact ax_vret hx hb hr hlocks hP hS hd rfl
  unfold f_X7_sort at hf
  refine lv_aload_n hx hb dX7_sort_0 rfl (lv_at hl 0 rfl) ?_
  refine g_Desk_shelf C0 hT hE hP mf_X7_27 dX7_sort_1 ?_
  obtain ⟨q4, hq, hf⟩ := ob_bind hf
  refine ax_callVv (b := 0) (i := 75) (k := 0) (ci := 4) [] C0 hT hJ hE (met_X5_putInOrder l dC dI cyI cyE tC ad σ _ hq) hP hS mc_X5_putInOrder ml_X7_122 mi_X5_putInOrder ms_X5_putInOrder mz_X5 (by decide +kernel) ⟨rfl, rfl⟩ ⟨by decide, by decide⟩ (by decide) cD_Shelf rfl rfl rfl hl.1 (Nat.le_of_ble_eq_true rfl) dX7_sort_4 ⟨Nat.zero_le _, Nat.zero_le _⟩ (fun H locs hP hS => ?_)
  exact hret _ _ _ _ _ hf hP hS dX7_sort_7
def f_X7_clear (σ : SD) : Option (SD) := (f_X5_takeOutAll σ ).bind fun q4 => some q4
def rm_X7_clear : Room := { frames := 2, cells := 0, slots := 0, locals := 41 }
set_option maxHeartbeats 4000000 in
set_option maxRecDepth 100000 in
theorem met_X7_clear (l : Launch) (dC : Nat → ClassId) (dI : Nat → Nat → Nat) (cyI cyE : ClassId) (tC : Nat) (ad : Nat → Nat) (σ : SD) (res : SD) (hf : f_X7_clear σ = some res) : ax_Mv l dC dI cyI cyE tC 77 (cD cyI cyE ad) ad yX7_clear cX7_clear 1 none rm_X7_clear [.ref (ad 76)] σ res := by
  intro sz
  refine Met.ofW (cc := cX7_clear) (maxL := 1) (ret := none) (by decide) rfl ?_
  intro p e s m args below meth c s₁ B hml hv
  obtain ⟨hargs, hsz, hP, hJ, hE⟩ := hv
  subst hsz
  have hx := B.exec
  have hb := B.bytes
  have hr := B.returns
  have hlocks := B.notSynchronized
  have hts := atoms_spec (ws := wsY yX7_clear cX7_clear 1 none) B.pre
  have hown : s.vm.findClass RX7 = some m.cls := findClass_of_methodNamed B.named
  have C0 : CallFix p m c cX7_clear 1 s args (wsY yX7_clear cX7_clear 1 none) RX7 := ⟨hx, hb, hml, hown, hts⟩
  have hT : ∀ w ∈ bw, w ∈ wsY yX7_clear cX7_clear 1 none := fun w h => List.mem_cons_of_mem _ h
  have hS : va_S (ax_A 77 ad s.heap.size) s.heap s.heap [] := va_S.rf
  rw [show entryFrame m args 1 = entryFrame m ([.ref (ad 76)] : List Value).toArray 1 by rw [hargs]]
  have hl := lv_entry ([.ref (ad 76)]) (n := 1) (Nat.le_of_ble_eq_true rfl)
  rw [lg_entry_eq]
  generalize (lg_sl ([.ref (ad 76)]) ++ List.replicate (1 - (lg_sl ([.ref (ad 76)])).length) Slot.unset).toArray = ls at hl ⊢
  have hl : lv_has ls 1 [(0, .ref (ad 76))] := hl
  obtain ⟨Q, hQ⟩ : ∃ Q : State → Prop, Q = MQ below (va_Qv (fun (u : SD) => u = res) (ax_B dC dI 77 (cD cyI cyE ad) ad) (ax_A 77 ad s.heap.size)) args s 0 0 (ax_A 77 ad s.heap.size) := ⟨_, rfl⟩
  show W p l e rm_X7_clear s m args below meth c s.heap [] 0 0 _ _
  rw [← hQ]
  have hret : ∀ (σ : SD) (H : Heap) (locs : List Loc) (ls : Array Slot) (pc : Nat), some σ = some res → va_P (dC, dI) vwCl (ax_w 77 ad (cD cyI cyE ad σ)) H → va_S (ax_A 77 ad s.heap.size) s.heap H locs → decode cX7_clear pc = .ok (.return_, 1) → W p l e rm_X7_clear s m args below meth c H locs 0 0 Q (F0 m pc ls []) := by
    intro σ H locs ls pc hf hP hS hd
    cases hf
    rw [hQ]
    exact ax_vret hx hb hr hlocks hP hS hd rfl
  unfold f_X7_clear at hf
  refine lv_aload_n hx hb dX7_clear_0 rfl (lv_at hl 0 rfl) ?_
  refine g_Desk_shelf C0 hT hE hP mf_X7_27 dX7_clear_1 ?_
  obtain ⟨q4, hq, hf⟩ := ob_bind hf
  refine ax_callVv (b := 0) (i := 75) (k := 0) (ci := 4) [] C0 hT hJ hE (met_X5_takeOutAll l dC dI cyI cyE tC ad σ _ hq) hP hS mc_X5_takeOutAll ml_X7_125 mi_X5_takeOutAll ms_X5_takeOutAll mz_X5 (by decide +kernel) ⟨rfl, rfl⟩ ⟨by decide, by decide⟩ (by decide) cD_Shelf rfl rfl rfl hl.1 (Nat.le_of_ble_eq_true rfl) dX7_clear_4 ⟨Nat.zero_le _, Nat.zero_le _⟩ (fun H locs hP hS => ?_)
  exact hret _ _ _ _ _ hf hP hS dX7_clear_7
def f_X7_make (σ : SD) : Option (Int32 × SD) := (f_X4_shorten σ 2 0).bind fun q5 => (f_X5_writeLocals q5.2 2).bind fun q17 => (f_X4_size q17 2).bind fun q24 => (f_X5_writeCentrals q24.2 2).bind fun q36 => (f_X4_size q36 2).bind fun q43 => (f_X5_count q43.2 ).bind fun q57 => (f_X6_writeEnd q57.2 2 q57.1 (q43.1 - q24.1) q24.1).bind fun q62 => (f_X4_size q62 2).bind fun q69 => some (q69.1, q69.2)
def rm_X7_make : Room := { frames := 6, cells := 0, slots := 0, locals := 129 }
set_option maxHeartbeats 4000000 in
set_option maxRecDepth 100000 in
theorem met_X7_make (l : Launch) (dC : Nat → ClassId) (dI : Nat → Nat → Nat) (cyI cyE : ClassId) (tC : Nat) (ad : Nat → Nat) (σ : SD) (res : Int32 × SD) (hf : f_X7_make σ = some res) : ax_Mi l dC dI cyI cyE tC 77 (cD cyI cyE ad) ad yX7_make cX7_make 3 (some .int) rm_X7_make [.ref (ad 76)] σ res.1 res.2 := by
  intro sz
  refine Met.ofW (cc := cX7_make) (maxL := 3) (ret := (some .int)) (by decide) rfl ?_
  intro p e s m args below meth c s₁ B hml hv
  obtain ⟨hargs, hsz, hP, hJ, hE⟩ := hv
  subst hsz
  have hx := B.exec
  have hb := B.bytes
  have hr := B.returns
  have hlocks := B.notSynchronized
  have hts := atoms_spec (ws := wsY yX7_make cX7_make 3 (some .int)) B.pre
  have hown : s.vm.findClass RX7 = some m.cls := findClass_of_methodNamed B.named
  have C0 : CallFix p m c cX7_make 3 s args (wsY yX7_make cX7_make 3 (some .int)) RX7 := ⟨hx, hb, hml, hown, hts⟩
  have hT : ∀ w ∈ bw, w ∈ wsY yX7_make cX7_make 3 (some .int) := fun w h => List.mem_cons_of_mem _ h
  have hS : va_S (ax_A 77 ad s.heap.size) s.heap s.heap [] := va_S.rf
  rw [show entryFrame m args 3 = entryFrame m ([.ref (ad 76)] : List Value).toArray 3 by rw [hargs]]
  have hl := lv_entry ([.ref (ad 76)]) (n := 3) (Nat.le_of_ble_eq_true rfl)
  rw [lg_entry_eq]
  generalize (lg_sl ([.ref (ad 76)]) ++ List.replicate (3 - (lg_sl ([.ref (ad 76)])).length) Slot.unset).toArray = ls at hl ⊢
  have hl : lv_has ls 3 [(0, .ref (ad 76))] := hl
  obtain ⟨Q, hQ⟩ : ∃ Q : State → Prop, Q = MQ below (va_Qi (fun (a : Int32) (u : SD) => a = res.1 ∧ u = res.2) (ax_B dC dI 77 (cD cyI cyE ad) ad) (ax_A 77 ad s.heap.size)) args s 0 0 (ax_A 77 ad s.heap.size) := ⟨_, rfl⟩
  show W p l e rm_X7_make s m args below meth c s.heap [] 0 0 _ _
  rw [← hQ]
  have hret : ∀ (v : Int32) (σ : SD) (H : Heap) (locs : List Loc) (ls : Array Slot) (pc : Nat), narrow .int (.int v) = .int v → some (v, σ) = some res → va_P (dC, dI) vwCl (ax_w 77 ad (cD cyI cyE ad σ)) H → va_S (ax_A 77 ad s.heap.size) s.heap H locs → decode cX7_make pc = .ok (.ireturn, 1) → W p l e rm_X7_make s m args below meth c H locs 0 0 Q (F0 m pc ls [.int v]) := by
    intro v σ H locs ls pc hn hf hP hS hd
    cases hf
    rw [hQ]
    exact ax_iret hx hb hr hlocks hn hP hS hd rfl rfl
  unfold f_X7_make at hf
  refine lv_aload_n hx hb dX7_make_0 rfl (lv_at hl 0 rfl) ?_
  refine g_Desk_output C0 hT hE hP mf_X7_21 dX7_make_1 ?_
  refine lv_iconst (v := 0) hx hb dX7_make_4 (by decide) ?_
  obtain ⟨q5, hq, hf⟩ := ob_bind hf
  refine ax_callVi (C := "") (b := 0) (i := 2) (k := 1) (ci := 3) [.int 0] C0 hT hJ hE (met_X4_shorten l dC dI cyI cyE tC ad σ 2 0 (by decide) _ hq) hP hS mc_X4_shorten ml_X7_41 mi_X4_shorten ms_X4_shorten mz_X4 (by decide +kernel) ⟨rfl, rfl⟩ ⟨by decide, by decide⟩ (by decide) (cD_Row (by decide)) rfl rfl rfl hl.1 (Nat.le_of_ble_eq_true rfl) dX7_make_5 ⟨Nat.zero_le _, Nat.zero_le _⟩ (fun H locs hP hS => ?_)
  refine lv_pop hx hb dX7_make_8 rfl ?_
  refine lv_aload_n hx hb dX7_make_9 rfl (lv_at hl 0 rfl) ?_
  refine g_Desk_shelf C0 hT hE hP mf_X7_27 dX7_make_10 ?_
  refine lv_aload_n hx hb dX7_make_13 rfl (lv_at hl 0 rfl) ?_
  refine g_Desk_output C0 hT hE hP mf_X7_21 dX7_make_14 ?_
  obtain ⟨q17, hq, hf⟩ := ob_bind hf
  refine ax_callVv (b := 0) (i := 75) (k := 1) (ci := 4) [.ref (ad 2)] C0 hT hJ hE (met_X5_writeLocals l dC dI cyI cyE tC ad q5.2 2 (by decide) _ hq) hP hS mc_X5_writeLocals ml_X7_128 mi_X5_writeLocals ms_X5_writeLocals mz_X5 (by decide +kernel) ⟨rfl, rfl⟩ ⟨by decide, by decide⟩ (by decide) cD_Shelf rfl rfl rfl hl.1 (Nat.le_of_ble_eq_true rfl) dX7_make_17 ⟨Nat.zero_le _, Nat.zero_le _⟩ (fun H locs hP hS => ?_)
  refine lv_aload_n hx hb dX7_make_20 rfl (lv_at hl 0 rfl) ?_
  refine g_Desk_output C0 hT hE hP mf_X7_21 dX7_make_21 ?_
  obtain ⟨q24, hq, hf⟩ := ob_bind hf
  refine ax_callVi (C := "") (b := 0) (i := 2) (k := 0) (ci := 3) [] C0 hT hJ hE (met_X4_size l dC dI cyI cyE tC ad q17 2 (by decide) _ hq) hP hS mc_X4_size ml_X7_56 mi_X4_size ms_X4_size mz_X4 (by decide +kernel) ⟨rfl, rfl⟩ ⟨by decide, by decide⟩ (by decide) (cD_Row (by decide)) rfl rfl rfl hl.1 (Nat.le_of_ble_eq_true rfl) dX7_make_24 ⟨Nat.zero_le _, Nat.zero_le _⟩ (fun H locs hP hS => ?_)
  refine lv_istore_n (lv' := [(1, .int q24.1), (0, .ref (ad 76))]) hx hb dX7_make_27 rfl hl (by decide) rfl (fun ls hl => ?_)
  refine lv_aload_n hx hb dX7_make_28 rfl (lv_at hl 1 rfl) ?_
  refine g_Desk_shelf C0 hT hE hP mf_X7_27 dX7_make_29 ?_
  refine lv_aload_n hx hb dX7_make_32 rfl (lv_at hl 1 rfl) ?_
  refine g_Desk_output C0 hT hE hP mf_X7_21 dX7_make_33 ?_
  obtain ⟨q36, hq, hf⟩ := ob_bind hf
  refine ax_callVv (b := 0) (i := 75) (k := 1) (ci := 4) [.ref (ad 2)] C0 hT hJ hE (met_X5_writeCentrals l dC dI cyI cyE tC ad q24.2 2 (by decide) _ hq) hP hS mc_X5_writeCentrals ml_X7_132 mi_X5_writeCentrals ms_X5_writeCentrals mz_X5 (by decide +kernel) ⟨rfl, rfl⟩ ⟨by decide, by decide⟩ (by decide) cD_Shelf rfl rfl rfl hl.1 (Nat.le_of_ble_eq_true rfl) dX7_make_36 ⟨Nat.zero_le _, Nat.zero_le _⟩ (fun H locs hP hS => ?_)
  refine lv_aload_n hx hb dX7_make_39 rfl (lv_at hl 1 rfl) ?_
  refine g_Desk_output C0 hT hE hP mf_X7_21 dX7_make_40 ?_
  obtain ⟨q43, hq, hf⟩ := ob_bind hf
  refine ax_callVi (C := "") (b := 0) (i := 2) (k := 0) (ci := 3) [] C0 hT hJ hE (met_X4_size l dC dI cyI cyE tC ad q36 2 (by decide) _ hq) hP hS mc_X4_size ml_X7_56 mi_X4_size ms_X4_size mz_X4 (by decide +kernel) ⟨rfl, rfl⟩ ⟨by decide, by decide⟩ (by decide) (cD_Row (by decide)) rfl rfl rfl hl.1 (Nat.le_of_ble_eq_true rfl) dX7_make_43 ⟨Nat.zero_le _, Nat.zero_le _⟩ (fun H locs hP hS => ?_)
  refine lv_iload_n hx hb dX7_make_46 rfl (lv_at hl 0 rfl) ?_
  refine lv_isub hx hb dX7_make_47 ?_
  refine lv_istore_n (lv' := [(2, .int (q43.1 - q24.1)), (1, .int q24.1), (0, .ref (ad 76))]) hx hb dX7_make_48 rfl hl (by decide) rfl (fun ls hl => ?_)
  refine lv_aload_n hx hb dX7_make_49 rfl (lv_at hl 2 rfl) ?_
  refine g_Desk_output C0 hT hE hP mf_X7_21 dX7_make_50 ?_
  refine lv_aload_n hx hb dX7_make_53 rfl (lv_at hl 2 rfl) ?_
  refine g_Desk_shelf C0 hT hE hP mf_X7_27 dX7_make_54 ?_
  obtain ⟨q57, hq, hf⟩ := ob_bind hf
  refine ax_callVi (C := "") (b := 0) (i := 75) (k := 0) (ci := 4) [] C0 hT hJ hE (met_X5_count l dC dI cyI cyE tC ad q43.2 _ hq) hP hS mc_X5_count ml_X7_98 mi_X5_count ms_X5_count mz_X5 (by decide +kernel) ⟨rfl, rfl⟩ ⟨by decide, by decide⟩ (by decide) cD_Shelf rfl rfl rfl hl.1 (Nat.le_of_ble_eq_true rfl) dX7_make_57 ⟨Nat.zero_le _, Nat.zero_le _⟩ (fun H locs hP hS => ?_)
  refine lv_iload_n hx hb dX7_make_60 rfl (lv_at hl 0 rfl) ?_
  refine lv_iload_n hx hb dX7_make_61 rfl (lv_at hl 1 rfl) ?_
  obtain ⟨q62, hq, hf⟩ := ob_bind hf
  refine ax_callSv (k := 4) [.ref (ad 2), .int q57.1, .int (q43.1 - q24.1), .int q24.1] C0 hT hJ hE (met_X6_writeEnd l dC dI cyI cyE tC ad q57.2 2 q57.1 (q43.1 - q24.1) q24.1 (by decide) _ hq) hP hS mc_X6_writeEnd ml_X7_135 mt_X6_writeEnd mz_X6 (by decide +kernel) ⟨rfl, rfl⟩ ⟨by decide, by decide⟩ rfl rfl hl.1 (Nat.le_of_ble_eq_true rfl) dX7_make_62 ⟨Nat.zero_le _, Nat.zero_le _⟩ (fun H locs hP hS => ?_)
  refine lv_aload_n hx hb dX7_make_65 rfl (lv_at hl 2 rfl) ?_
  refine g_Desk_output C0 hT hE hP mf_X7_21 dX7_make_66 ?_
  obtain ⟨q69, hq, hf⟩ := ob_bind hf
  refine ax_callVi (C := "") (b := 0) (i := 2) (k := 0) (ci := 3) [] C0 hT hJ hE (met_X4_size l dC dI cyI cyE tC ad q62 2 (by decide) _ hq) hP hS mc_X4_size ml_X7_56 mi_X4_size ms_X4_size mz_X4 (by decide +kernel) ⟨rfl, rfl⟩ ⟨by decide, by decide⟩ (by decide) (cD_Row (by decide)) rfl rfl rfl hl.1 (Nat.le_of_ble_eq_true rfl) dX7_make_69 ⟨Nat.zero_le _, Nat.zero_le _⟩ (fun H locs hP hS => ?_)
  exact hret _ _ _ _ _ _ rfl hf hP hS dX7_make_72

def f_X7_fault (σ : SD) (x1 : Int32) : Option (Int32 × SD) := if x1.toInt < 0 ∨ 2 < x1.toInt then (some ((-1), σ)) else (if x1 = 0 then ((f_X3_faultNumber σ ).bind fun q32 => some (q32.1, q32.2)) else (if x1 = 1 then ((f_X3_faultFile σ ).bind fun q40 => some (q40.1, q40.2)) else (if x1 = 2 then ((f_X3_faultPlace σ ).bind fun q48 => some (q48.1, q48.2)) else (none))))
def rm_X7_fault : Room := { frames := 1, cells := 0, slots := 0, locals := 20 }
set_option maxHeartbeats 4000000 in
set_option maxRecDepth 100000 in
theorem met_X7_fault (l : Launch) (dC : Nat → ClassId) (dI : Nat → Nat → Nat) (cyI cyE : ClassId) (tC : Nat) (ad : Nat → Nat) (σ : SD) (x1 : Int32) (res : Int32 × SD) (hf : f_X7_fault σ x1 = some res) : ax_Mi l dC dI cyI cyE tC 77 (cD cyI cyE ad) ad yX7_fault cX7_fault 2 (some .int) rm_X7_fault [.ref (ad 76), .int x1] σ res.1 res.2 := by
  intro sz
  refine Met.ofW (cc := cX7_fault) (maxL := 2) (ret := (some .int)) (by decide) rfl ?_
  intro p e s m args below meth c s₁ B hml hv
  obtain ⟨hargs, hsz, hP, hJ, hE⟩ := hv
  subst hsz
  have hx := B.exec
  have hb := B.bytes
  have hr := B.returns
  have hlocks := B.notSynchronized
  have hts := atoms_spec (ws := wsY yX7_fault cX7_fault 2 (some .int)) B.pre
  have hown : s.vm.findClass RX7 = some m.cls := findClass_of_methodNamed B.named
  have C0 : CallFix p m c cX7_fault 2 s args (wsY yX7_fault cX7_fault 2 (some .int)) RX7 := ⟨hx, hb, hml, hown, hts⟩
  have hT : ∀ w ∈ bw, w ∈ wsY yX7_fault cX7_fault 2 (some .int) := fun w h => List.mem_cons_of_mem _ h
  have hS : va_S (ax_A 77 ad s.heap.size) s.heap s.heap [] := va_S.rf
  rw [show entryFrame m args 2 = entryFrame m ([.ref (ad 76), .int x1] : List Value).toArray 2 by rw [hargs]]
  have hl := lv_entry ([.ref (ad 76), .int x1]) (n := 2) (Nat.le_of_ble_eq_true rfl)
  rw [lg_entry_eq]
  generalize (lg_sl ([.ref (ad 76), .int x1]) ++ List.replicate (2 - (lg_sl ([.ref (ad 76), .int x1])).length) Slot.unset).toArray = ls at hl ⊢
  have hl : lv_has ls 2 [(0, .ref (ad 76)), (1, .int x1)] := hl
  obtain ⟨Q, hQ⟩ : ∃ Q : State → Prop, Q = MQ below (va_Qi (fun (a : Int32) (u : SD) => a = res.1 ∧ u = res.2) (ax_B dC dI 77 (cD cyI cyE ad) ad) (ax_A 77 ad s.heap.size)) args s 0 0 (ax_A 77 ad s.heap.size) := ⟨_, rfl⟩
  show W p l e rm_X7_fault s m args below meth c s.heap [] 0 0 _ _
  rw [← hQ]
  have hret : ∀ (v : Int32) (σ : SD) (H : Heap) (locs : List Loc) (ls : Array Slot) (pc : Nat), narrow .int (.int v) = .int v → some (v, σ) = some res → va_P (dC, dI) vwCl (ax_w 77 ad (cD cyI cyE ad σ)) H → va_S (ax_A 77 ad s.heap.size) s.heap H locs → decode cX7_fault pc = .ok (.ireturn, 1) → W p l e rm_X7_fault s m args below meth c H locs 0 0 Q (F0 m pc ls [.int v]) := by
    intro v σ H locs ls pc hn hf hP hS hd
    cases hf
    rw [hQ]
    exact ax_iret hx hb hr hlocks hn hP hS hd rfl rfl
  unfold f_X7_fault at hf
  refine lv_iload_n hx hb dX7_fault_0 rfl (lv_at hl 1 rfl) ?_
  by_cases h1 : x1.toInt < 0 ∨ 2 < x1.toInt
  · rw [if_pos h1] at hf
    refine lv_tableOut (tgt := 52) hx hb dX7_fault_1 h1 (by decide) ?_
    refine lv_iconst (v := (-1)) hx hb dX7_fault_52 (by decide) ?_
    exact hret _ _ _ _ _ _ rfl hf hP hS dX7_fault_53
  · rw [if_neg h1] at hf
    by_cases h1_0 : x1 = 0
    · rw [if_pos h1_0] at hf
      refine lv_tableIn (off := 27) (tgt := 28) hx hb dX7_fault_1 (fun q => h1 (Or.inl q)) (fun q => h1 (Or.inr q)) (by rw [h1_0]; rfl) (by decide) ?_
      refine lv_aload_n hx hb dX7_fault_28 rfl (lv_at hl 0 rfl) ?_
      refine g_Desk_reader C0 hT hE hP mf_X7_34 dX7_fault_29 ?_
      obtain ⟨q32, hq, hf⟩ := ob_bind hf
      refine ax_callVi (C := "") (b := 0) (i := 74) (k := 0) (ci := 2) [] C0 hT hJ hE (met_X3_faultNumber l dC dI cyI cyE tC ad σ _ hq) hP hS mc_X3_faultNumber ml_X7_151 mi_X3_faultNumber ms_X3_faultNumber mz_X3 (by decide +kernel) ⟨rfl, rfl⟩ ⟨by decide, by decide⟩ (by decide) cD_Reader rfl rfl rfl hl.1 (Nat.le_of_ble_eq_true rfl) dX7_fault_32 ⟨Nat.zero_le _, Nat.zero_le _⟩ (fun H locs hP hS => ?_)
      exact hret _ _ _ _ _ _ rfl hf hP hS dX7_fault_35
    · rw [if_neg h1_0] at hf
      by_cases h1_1 : x1 = 1
      · rw [if_pos h1_1] at hf
        refine lv_tableIn (off := 35) (tgt := 36) hx hb dX7_fault_1 (fun q => h1 (Or.inl q)) (fun q => h1 (Or.inr q)) (by rw [h1_1]; rfl) (by decide) ?_
        refine lv_aload_n hx hb dX7_fault_36 rfl (lv_at hl 0 rfl) ?_
        refine g_Desk_reader C0 hT hE hP mf_X7_34 dX7_fault_37 ?_
        obtain ⟨q40, hq, hf⟩ := ob_bind hf
        refine ax_callVi (C := "") (b := 0) (i := 74) (k := 0) (ci := 2) [] C0 hT hJ hE (met_X3_faultFile l dC dI cyI cyE tC ad σ _ hq) hP hS mc_X3_faultFile ml_X7_154 mi_X3_faultFile ms_X3_faultFile mz_X3 (by decide +kernel) ⟨rfl, rfl⟩ ⟨by decide, by decide⟩ (by decide) cD_Reader rfl rfl rfl hl.1 (Nat.le_of_ble_eq_true rfl) dX7_fault_40 ⟨Nat.zero_le _, Nat.zero_le _⟩ (fun H locs hP hS => ?_)
        exact hret _ _ _ _ _ _ rfl hf hP hS dX7_fault_43
      · rw [if_neg h1_1] at hf
        by_cases h1_2 : x1 = 2
        · rw [if_pos h1_2] at hf
          refine lv_tableIn (off := 43) (tgt := 44) hx hb dX7_fault_1 (fun q => h1 (Or.inl q)) (fun q => h1 (Or.inr q)) (by rw [h1_2]; rfl) (by decide) ?_
          refine lv_aload_n hx hb dX7_fault_44 rfl (lv_at hl 0 rfl) ?_
          refine g_Desk_reader C0 hT hE hP mf_X7_34 dX7_fault_45 ?_
          obtain ⟨q48, hq, hf⟩ := ob_bind hf
          refine ax_callVi (C := "") (b := 0) (i := 74) (k := 0) (ci := 2) [] C0 hT hJ hE (met_X3_faultPlace l dC dI cyI cyE tC ad σ _ hq) hP hS mc_X3_faultPlace ml_X7_157 mi_X3_faultPlace ms_X3_faultPlace mz_X3 (by decide +kernel) ⟨rfl, rfl⟩ ⟨by decide, by decide⟩ (by decide) cD_Reader rfl rfl rfl hl.1 (Nat.le_of_ble_eq_true rfl) dX7_fault_48 ⟨Nat.zero_le _, Nat.zero_le _⟩ (fun H locs hP hS => ?_)
          exact hret _ _ _ _ _ _ rfl hf hP hS dX7_fault_51
        · rw [if_neg h1_2] at hf
          cases hf
def f_X7_saveFrom (σ : SD) (x1 : Int32) : Option (Int32 × SD) := (f_X3_wholeAt σ 1 x1).bind fun q9 => if q9.1 = 0 then (some ((-1), q9.2)) else ((f_X3_nameSize q9.2 ).bind fun q26 => (f_X3_unpacked q26.2 ).bind fun q34 => match q34 with | (e34, σ34) => (if e34 < 25 then ((f_X5_lookUp σ34 1 (x1 + 30) q26.1).bind fun q49 => (f_X4_size q49.2 e34).bind fun q62 => (f_X5_hasRoom q62.2 q49.1 q62.1).bind fun q65 => if q65.1 = 0 then (some ((-1), q65.2)) else ((f_X5_takeOut q65.2 q49.1).bind fun q79 => (f_X4_size q79 e34).bind fun q97 => (f_X5_put q97.2 1 (x1 + 30) q26.1 e34 0 q97.1).bind fun q100 => (f_X3_packedSize q100 ).bind fun q110 => some (((x1 + 30) + q26.1) + q110.1, q110.2))) else none))
def rm_X7_saveFrom : Room := { frames := 5, cells := 0, slots := 0, locals := 132 }
set_option maxHeartbeats 4000000 in
set_option maxRecDepth 100000 in
theorem met_X7_saveFrom (l : Launch) (dC : Nat → ClassId) (dI : Nat → Nat → Nat) (cyI cyE : ClassId) (tC : Nat) (ad : Nat → Nat) (σ : SD) (x1 : Int32) (res : Int32 × SD) (hf : f_X7_saveFrom σ x1 = some res) : ax_Mi l dC dI cyI cyE tC 77 (cD cyI cyE ad) ad yX7_saveFrom cX7_saveFrom 6 (some .int) rm_X7_saveFrom [.ref (ad 76), .int x1] σ res.1 res.2 := by
  intro sz
  refine Met.ofW (cc := cX7_saveFrom) (maxL := 6) (ret := (some .int)) (by decide) rfl ?_
  intro p e s m args below meth c s₁ B hml hv
  obtain ⟨hargs, hsz, hP, hJ, hE⟩ := hv
  subst hsz
  have hx := B.exec
  have hb := B.bytes
  have hr := B.returns
  have hlocks := B.notSynchronized
  have hts := atoms_spec (ws := wsY yX7_saveFrom cX7_saveFrom 6 (some .int)) B.pre
  have hown : s.vm.findClass RX7 = some m.cls := findClass_of_methodNamed B.named
  have C0 : CallFix p m c cX7_saveFrom 6 s args (wsY yX7_saveFrom cX7_saveFrom 6 (some .int)) RX7 := ⟨hx, hb, hml, hown, hts⟩
  have hT : ∀ w ∈ bw, w ∈ wsY yX7_saveFrom cX7_saveFrom 6 (some .int) := fun w h => List.mem_cons_of_mem _ h
  have hS : va_S (ax_A 77 ad s.heap.size) s.heap s.heap [] := va_S.rf
  rw [show entryFrame m args 6 = entryFrame m ([.ref (ad 76), .int x1] : List Value).toArray 6 by rw [hargs]]
  have hl := lv_entry ([.ref (ad 76), .int x1]) (n := 6) (Nat.le_of_ble_eq_true rfl)
  rw [lg_entry_eq]
  generalize (lg_sl ([.ref (ad 76), .int x1]) ++ List.replicate (6 - (lg_sl ([.ref (ad 76), .int x1])).length) Slot.unset).toArray = ls at hl ⊢
  have hl : lv_has ls 6 [(0, .ref (ad 76)), (1, .int x1)] := hl
  obtain ⟨Q, hQ⟩ : ∃ Q : State → Prop, Q = MQ below (va_Qi (fun (a : Int32) (u : SD) => a = res.1 ∧ u = res.2) (ax_B dC dI 77 (cD cyI cyE ad) ad) (ax_A 77 ad s.heap.size)) args s 0 0 (ax_A 77 ad s.heap.size) := ⟨_, rfl⟩
  show W p l e rm_X7_saveFrom s m args below meth c s.heap [] 0 0 _ _
  rw [← hQ]
  have hret : ∀ (v : Int32) (σ : SD) (H : Heap) (locs : List Loc) (ls : Array Slot) (pc : Nat), narrow .int (.int v) = .int v → some (v, σ) = some res → va_P (dC, dI) vwCl (ax_w 77 ad (cD cyI cyE ad σ)) H → va_S (ax_A 77 ad s.heap.size) s.heap H locs → decode cX7_saveFrom pc = .ok (.ireturn, 1) → W p l e rm_X7_saveFrom s m args below meth c H locs 0 0 Q (F0 m pc ls [.int v]) := by
    intro v σ H locs ls pc hn hf hP hS hd
    cases hf
    rw [hQ]
    exact ax_iret hx hb hr hlocks hn hP hS hd rfl rfl
  unfold f_X7_saveFrom at hf
  refine lv_aload_n hx hb dX7_saveFrom_0 rfl (lv_at hl 0 rfl) ?_
  refine g_Desk_reader C0 hT hE hP mf_X7_34 dX7_saveFrom_1 ?_
  refine lv_aload_n hx hb dX7_saveFrom_4 rfl (lv_at hl 0 rfl) ?_
  refine g_Desk_tape C0 hT hE hP mf_X7_18 dX7_saveFrom_5 ?_
  refine lv_iload_n hx hb dX7_saveFrom_8 rfl (lv_at hl 1 rfl) ?_
  obtain ⟨q9, hq, hf⟩ := ob_bind hf
  refine ax_callVi (C := "") (b := 0) (i := 74) (k := 2) (ci := 2) [.ref (ad 1), .int x1] C0 hT hJ hE (met_X3_wholeAt l dC dI cyI cyE tC ad σ 1 x1 (by decide) _ hq) hP hS mc_X3_wholeAt ml_X7_164 mi_X3_wholeAt ms_X3_wholeAt mz_X3 (by decide +kernel) ⟨rfl, rfl⟩ ⟨by decide, by decide⟩ (by decide) cD_Reader rfl rfl rfl hl.1 (Nat.le_of_ble_eq_true rfl) dX7_saveFrom_9 ⟨Nat.zero_le _, Nat.zero_le _⟩ (fun H locs hP hS => ?_)
  refine lv_if_ne (tgt := 17) hx hb dX7_saveFrom_12 (by decide) (fun h12 => ?_) (fun h12 => ?_)
  · rw [if_neg h12] at hf
    refine lv_iload_n hx hb dX7_saveFrom_17 rfl (lv_at hl 1 rfl) ?_
    refine lv_bipush (v := 30) hx hb dX7_saveFrom_18 (by decide) ?_
    refine lv_iadd hx hb dX7_saveFrom_20 ?_
    refine lv_istore_n (lv' := [(2, .int (x1 + 30)), (0, .ref (ad 76)), (1, .int x1)]) hx hb dX7_saveFrom_21 rfl hl (by decide) rfl (fun ls hl => ?_)
    refine lv_aload_n hx hb dX7_saveFrom_22 rfl (lv_at hl 1 rfl) ?_
    refine g_Desk_reader C0 hT hE hP mf_X7_34 dX7_saveFrom_23 ?_
    obtain ⟨q26, hq, hf⟩ := ob_bind hf
    refine ax_callVi (C := "") (b := 0) (i := 74) (k := 0) (ci := 2) [] C0 hT hJ hE (met_X3_nameSize l dC dI cyI cyE tC ad q9.2 _ hq) hP hS mc_X3_nameSize ml_X7_168 mi_X3_nameSize ms_X3_nameSize mz_X3 (by decide +kernel) ⟨rfl, rfl⟩ ⟨by decide, by decide⟩ (by decide) cD_Reader rfl rfl rfl hl.1 (Nat.le_of_ble_eq_true rfl) dX7_saveFrom_26 ⟨Nat.zero_le _, Nat.zero_le _⟩ (fun H locs hP hS => ?_)
    refine lv_istore_n (lv' := [(3, .int q26.1), (2, .int (x1 + 30)), (0, .ref (ad 76)), (1, .int x1)]) hx hb dX7_saveFrom_29 rfl hl (by decide) rfl (fun ls hl => ?_)
    refine lv_aload_n hx hb dX7_saveFrom_30 rfl (lv_at hl 2 rfl) ?_
    refine g_Desk_reader C0 hT hE hP mf_X7_34 dX7_saveFrom_31 ?_
    obtain ⟨⟨e34, σ34⟩, hq, hf⟩ := ob_bind hf
    refine ax_callVq (i := 74) (k := 0) (ci := 2) [] C0 hT hJ hE (met_X3_unpacked l dC dI cyI cyE tC ad q26.2 _ hq) hP hS mc_X3_unpacked ml_X7_171 mi_X3_unpacked ms_X3_unpacked mz_X3 (by decide +kernel) ⟨rfl, rfl⟩ ⟨by decide, by decide⟩ (by decide) cD_Reader rfl rfl rfl hl.1 (Nat.le_of_ble_eq_true rfl) dX7_saveFrom_34 ⟨Nat.zero_le _, Nat.zero_le _⟩ (fun H locs hP hS => ?_)
    dsimp only at hf
    obtain ⟨hb_e34, hf⟩ := ob_if hf
    refine W.eq (g2 := F0 m 37 ls [.ref (ad e34)]) rfl ?_
    refine lv_astore (lv' := [(4, .ref (ad e34)), (3, .int q26.1), (2, .int (x1 + 30)), (0, .ref (ad 76)), (1, .int x1)]) hx hb dX7_saveFrom_37 hl (by decide) rfl (fun ls hl => ?_)
    refine lv_aload_n hx hb dX7_saveFrom_39 rfl (lv_at hl 3 rfl) ?_
    refine g_Desk_shelf C0 hT hE hP mf_X7_27 dX7_saveFrom_40 ?_
    refine lv_aload_n hx hb dX7_saveFrom_43 rfl (lv_at hl 3 rfl) ?_
    refine g_Desk_tape C0 hT hE hP mf_X7_18 dX7_saveFrom_44 ?_
    refine lv_iload_n hx hb dX7_saveFrom_47 rfl (lv_at hl 2 rfl) ?_
    refine lv_iload_n hx hb dX7_saveFrom_48 rfl (lv_at hl 1 rfl) ?_
    obtain ⟨q49, hq, hf⟩ := ob_bind hf
    refine ax_callVi (C := "") (b := 0) (i := 75) (k := 3) (ci := 4) [.ref (ad 1), .int (x1 + 30), .int q26.1] C0 hT hJ hE (met_X5_lookUp l dC dI cyI cyE tC ad σ34 1 (x1 + 30) q26.1 (by decide) _ hq) hP hS mc_X5_lookUp ml_X7_83 mi_X5_lookUp ms_X5_lookUp mz_X5 (by decide +kernel) ⟨rfl, rfl⟩ ⟨by decide, by decide⟩ (by decide) cD_Shelf rfl rfl rfl hl.1 (Nat.le_of_ble_eq_true rfl) dX7_saveFrom_49 ⟨Nat.zero_le _, Nat.zero_le _⟩ (fun H locs hP hS => ?_)
    refine lv_istore (lv' := [(5, .int q49.1), (4, .ref (ad e34)), (3, .int q26.1), (2, .int (x1 + 30)), (0, .ref (ad 76)), (1, .int x1)]) hx hb dX7_saveFrom_52 hl (by decide) rfl (fun ls hl => ?_)
    refine lv_aload_n hx hb dX7_saveFrom_54 rfl (lv_at hl 4 rfl) ?_
    refine g_Desk_shelf C0 hT hE hP mf_X7_27 dX7_saveFrom_55 ?_
    refine lv_iload hx hb dX7_saveFrom_58 (lv_at hl 0 rfl) ?_
    refine lv_aload hx hb dX7_saveFrom_60 (lv_at hl 1 rfl) ?_
    obtain ⟨q62, hq, hf⟩ := ob_bind hf
    refine ax_callVi (C := "") (b := 0) (i := e34) (k := 0) (ci := 3) [] C0 hT hJ hE (met_X4_size l dC dI cyI cyE tC ad q49.2 e34 (by omega) _ hq) hP hS mc_X4_size ml_X7_56 mi_X4_size ms_X4_size mz_X4 (by decide +kernel) ⟨rfl, rfl⟩ ⟨by decide, by decide⟩ (by omega) (cD_Row (by omega)) rfl rfl rfl hl.1 (Nat.le_of_ble_eq_true rfl) dX7_saveFrom_62 ⟨Nat.zero_le _, Nat.zero_le _⟩ (fun H locs hP hS => ?_)
    obtain ⟨q65, hq, hf⟩ := ob_bind hf
    refine ax_callVi (C := "") (b := 0) (i := 75) (k := 2) (ci := 4) [.int q49.1, .int q62.1] C0 hT hJ hE (met_X5_hasRoom l dC dI cyI cyE tC ad q62.2 q49.1 q62.1 _ hq) hP hS mc_X5_hasRoom ml_X7_89 mi_X5_hasRoom ms_X5_hasRoom mz_X5 (by decide +kernel) ⟨rfl, rfl⟩ ⟨by decide, by decide⟩ (by decide) cD_Shelf rfl rfl rfl hl.1 (Nat.le_of_ble_eq_true rfl) dX7_saveFrom_65 ⟨Nat.zero_le _, Nat.zero_le _⟩ (fun H locs hP hS => ?_)
    refine lv_if_ne (tgt := 73) hx hb dX7_saveFrom_68 (by decide) (fun h68 => ?_) (fun h68 => ?_)
    · rw [if_neg h68] at hf
      refine lv_aload_n hx hb dX7_saveFrom_73 rfl (lv_at hl 4 rfl) ?_
      refine g_Desk_shelf C0 hT hE hP mf_X7_27 dX7_saveFrom_74 ?_
      refine lv_iload hx hb dX7_saveFrom_77 (lv_at hl 0 rfl) ?_
      obtain ⟨q79, hq, hf⟩ := ob_bind hf
      refine ax_callVv (b := 0) (i := 75) (k := 1) (ci := 4) [.int q49.1] C0 hT hJ hE (met_X5_takeOut l dC dI cyI cyE tC ad q65.2 q49.1 _ hq) hP hS mc_X5_takeOut ml_X7_119 mi_X5_takeOut ms_X5_takeOut mz_X5 (by decide +kernel) ⟨rfl, rfl⟩ ⟨by decide, by decide⟩ (by decide) cD_Shelf rfl rfl rfl hl.1 (Nat.le_of_ble_eq_true rfl) dX7_saveFrom_79 ⟨Nat.zero_le _, Nat.zero_le _⟩ (fun H locs hP hS => ?_)
      refine lv_aload_n hx hb dX7_saveFrom_82 rfl (lv_at hl 4 rfl) ?_
      refine g_Desk_shelf C0 hT hE hP mf_X7_27 dX7_saveFrom_83 ?_
      refine lv_aload_n hx hb dX7_saveFrom_86 rfl (lv_at hl 4 rfl) ?_
      refine g_Desk_tape C0 hT hE hP mf_X7_18 dX7_saveFrom_87 ?_
      refine lv_iload_n hx hb dX7_saveFrom_90 rfl (lv_at hl 3 rfl) ?_
      refine lv_iload_n hx hb dX7_saveFrom_91 rfl (lv_at hl 2 rfl) ?_
      refine lv_aload hx hb dX7_saveFrom_92 (lv_at hl 1 rfl) ?_
      refine lv_iconst (v := 0) hx hb dX7_saveFrom_94 (by decide) ?_
      refine lv_aload hx hb dX7_saveFrom_95 (lv_at hl 1 rfl) ?_
      obtain ⟨q97, hq, hf⟩ := ob_bind hf
      refine ax_callVi (C := "") (b := 0) (i := e34) (k := 0) (ci := 3) [] C0 hT hJ hE (met_X4_size l dC dI cyI cyE tC ad q79 e34 (by omega) _ hq) hP hS mc_X4_size ml_X7_56 mi_X4_size ms_X4_size mz_X4 (by decide +kernel) ⟨rfl, rfl⟩ ⟨by decide, by decide⟩ (by omega) (cD_Row (by omega)) rfl rfl rfl hl.1 (Nat.le_of_ble_eq_true rfl) dX7_saveFrom_97 ⟨Nat.zero_le _, Nat.zero_le _⟩ (fun H locs hP hS => ?_)
      obtain ⟨q100, hq, hf⟩ := ob_bind hf
      refine ax_callVv (b := 0) (i := 75) (k := 6) (ci := 4) [.ref (ad 1), .int (x1 + 30), .int q26.1, .ref (ad e34), .int 0, .int q97.1] C0 hT hJ hE (met_X5_put l dC dI cyI cyE tC ad q97.2 1 (x1 + 30) q26.1 e34 0 q97.1 (by decide) (by omega) _ hq) hP hS mc_X5_put ml_X7_94 mi_X5_put ms_X5_put mz_X5 (by decide +kernel) ⟨rfl, rfl⟩ ⟨by decide, by decide⟩ (by decide) cD_Shelf rfl rfl rfl hl.1 (Nat.le_of_ble_eq_true rfl) dX7_saveFrom_100 ⟨Nat.zero_le _, Nat.zero_le _⟩ (fun H locs hP hS => ?_)
      refine lv_iload_n hx hb dX7_saveFrom_103 rfl (lv_at hl 3 rfl) ?_
      refine lv_iload_n hx hb dX7_saveFrom_104 rfl (lv_at hl 2 rfl) ?_
      refine lv_iadd hx hb dX7_saveFrom_105 ?_
      refine lv_aload_n hx hb dX7_saveFrom_106 rfl (lv_at hl 4 rfl) ?_
      refine g_Desk_reader C0 hT hE hP mf_X7_34 dX7_saveFrom_107 ?_
      obtain ⟨q110, hq, hf⟩ := ob_bind hf
      refine ax_callVi (C := "") (b := 0) (i := 74) (k := 0) (ci := 2) [] C0 hT hJ hE (met_X3_packedSize l dC dI cyI cyE tC ad q100 _ hq) hP hS mc_X3_packedSize ml_X7_175 mi_X3_packedSize ms_X3_packedSize mz_X3 (by decide +kernel) ⟨rfl, rfl⟩ ⟨by decide, by decide⟩ (by decide) cD_Reader rfl rfl rfl hl.1 (Nat.le_of_ble_eq_true rfl) dX7_saveFrom_110 ⟨Nat.zero_le _, Nat.zero_le _⟩ (fun H locs hP hS => ?_)
      refine lv_iadd hx hb dX7_saveFrom_113 ?_
      exact hret _ _ _ _ _ _ rfl hf hP hS dX7_saveFrom_114
    · rw [if_pos h68] at hf
      refine lv_iconst (v := (-1)) hx hb dX7_saveFrom_71 (by decide) ?_
      exact hret _ _ _ _ _ _ rfl hf hP hS dX7_saveFrom_72
  · rw [if_pos h12] at hf
    refine lv_iconst (v := (-1)) hx hb dX7_saveFrom_15 (by decide) ?_
    exact hret _ _ _ _ _ _ rfl hf hP hS dX7_saveFrom_16
def f_X7_save_33 (k4 : SD → Int32 → Int32 → Option (Int32 × SD)) (σ : SD) (x1 : Int32) (x2 : Int32) : Option (Int32 × SD) := k4 σ x1 (x2 + 1)
def f_X7_save_4 : Nat → SD → Int32 → Int32 → Option (Int32 × SD)
  | 0, _, _, _ => none
  | n + 1, σ, x1, x2 => (f_X4_size σ 1).bind fun q9 => if q9.1 ≤ x2 then (some (x1, q9.2)) else ((f_X7_saveFrom q9.2 x2).bind fun q17 => if q17.1 ≤ x2 then (f_X7_save_33 (f_X7_save_4 n) q17.2 x1 x2) else (f_X7_save_33 (f_X7_save_4 n) q17.2 (x1 + 1) (q17.1 - 1)))
def f_X7_save (σ : SD) : Option (Int32 × SD) := f_X7_save_4 fu σ 0 0
def rm_X7_save : Room := { frames := 6, cells := 0, slots := 0, locals := 157 }
set_option maxHeartbeats 4000000 in
set_option maxRecDepth 100000 in
theorem met_X7_save (l : Launch) (dC : Nat → ClassId) (dI : Nat → Nat → Nat) (cyI cyE : ClassId) (tC : Nat) (ad : Nat → Nat) (σ : SD) (res : Int32 × SD) (hf : f_X7_save σ = some res) : ax_Mi l dC dI cyI cyE tC 77 (cD cyI cyE ad) ad yX7_save cX7_save 4 (some .int) rm_X7_save [.ref (ad 76)] σ res.1 res.2 := by
  intro sz
  refine Met.ofW (cc := cX7_save) (maxL := 4) (ret := (some .int)) (by decide) rfl ?_
  intro p e s m args below meth c s₁ B hml hv
  obtain ⟨hargs, hsz, hP, hJ, hE⟩ := hv
  subst hsz
  have hx := B.exec
  have hb := B.bytes
  have hr := B.returns
  have hlocks := B.notSynchronized
  have hts := atoms_spec (ws := wsY yX7_save cX7_save 4 (some .int)) B.pre
  have hown : s.vm.findClass RX7 = some m.cls := findClass_of_methodNamed B.named
  have C0 : CallFix p m c cX7_save 4 s args (wsY yX7_save cX7_save 4 (some .int)) RX7 := ⟨hx, hb, hml, hown, hts⟩
  have hT : ∀ w ∈ bw, w ∈ wsY yX7_save cX7_save 4 (some .int) := fun w h => List.mem_cons_of_mem _ h
  have hS : va_S (ax_A 77 ad s.heap.size) s.heap s.heap [] := va_S.rf
  rw [show entryFrame m args 4 = entryFrame m ([.ref (ad 76)] : List Value).toArray 4 by rw [hargs]]
  have hl := lv_entry ([.ref (ad 76)]) (n := 4) (Nat.le_of_ble_eq_true rfl)
  rw [lg_entry_eq]
  generalize (lg_sl ([.ref (ad 76)]) ++ List.replicate (4 - (lg_sl ([.ref (ad 76)])).length) Slot.unset).toArray = ls at hl ⊢
  have hl : lv_has ls 4 [(0, .ref (ad 76))] := hl
  obtain ⟨Q, hQ⟩ : ∃ Q : State → Prop, Q = MQ below (va_Qi (fun (a : Int32) (u : SD) => a = res.1 ∧ u = res.2) (ax_B dC dI 77 (cD cyI cyE ad) ad) (ax_A 77 ad s.heap.size)) args s 0 0 (ax_A 77 ad s.heap.size) := ⟨_, rfl⟩
  show W p l e rm_X7_save s m args below meth c s.heap [] 0 0 _ _
  rw [← hQ]
  have hret : ∀ (v : Int32) (σ : SD) (H : Heap) (locs : List Loc) (ls : Array Slot) (pc : Nat), narrow .int (.int v) = .int v → some (v, σ) = some res → va_P (dC, dI) vwCl (ax_w 77 ad (cD cyI cyE ad σ)) H → va_S (ax_A 77 ad s.heap.size) s.heap H locs → decode cX7_save pc = .ok (.ireturn, 1) → W p l e rm_X7_save s m args below meth c H locs 0 0 Q (F0 m pc ls [.int v]) := by
    intro v σ H locs ls pc hn hf hP hS hd
    cases hf
    rw [hQ]
    exact ax_iret hx hb hr hlocks hn hP hS hd rfl rfl
  have L33 : ∀ (k4 : SD → Int32 → Int32 → Option (Int32 × SD)), (∀ (σ : SD) (x1 : Int32) (x2 : Int32), ∀ (H : Heap) (locs : List Loc) (ls : Array Slot), va_P (dC, dI) vwCl (ax_w 77 ad (cD cyI cyE ad σ)) H → va_S (ax_A 77 ad s.heap.size) s.heap H locs → lv_has ls 4 [(0, .ref (ad 76)), (1, .int x1), (2, .int x2)] → k4 σ x1 x2 = some res → W p l e rm_X7_save s m args below meth c H locs 0 0 Q (F0 m 4 ls [])) → ∀ (σ : SD) (x1 : Int32) (x2 : Int32), ∀ (H : Heap) (locs : List Loc) (ls : Array Slot), va_P (dC, dI) vwCl (ax_w 77 ad (cD cyI cyE ad σ)) H → va_S (ax_A 77 ad s.heap.size) s.heap H locs → lv_has ls 4 [(0, .ref (ad 76)), (1, .int x1), (2, .int x2)] → f_X7_save_33 k4 σ x1 x2 = some res → W p l e rm_X7_save s m args below meth c H locs 0 0 Q (F0 m 33 ls []) := by
    intro k4 hk4
    intro σ x1 x2  H locs ls hP hS hl hf
    unfold f_X7_save_33 at hf
    refine lv_iinc (v := x2 + 1) (lv' := [(2, .int (x2 + 1)), (0, .ref (ad 76)), (1, .int x1)]) hx hb dX7_save_33 hl (k := 2) rfl rfl (by decide) rfl (fun ls hl => ?_)
    refine lv_goto (tgt := 4) hx hb dX7_save_36 (by decide) ?_
    exact hk4 _ _ _ _ _ _ hP hS (lv_sub hl [1, 2, 0] rfl) hf
  have L4 : ∀ (n : Nat), ∀ (σ : SD) (x1 : Int32) (x2 : Int32), ∀ (H : Heap) (locs : List Loc) (ls : Array Slot), va_P (dC, dI) vwCl (ax_w 77 ad (cD cyI cyE ad σ)) H → va_S (ax_A 77 ad s.heap.size) s.heap H locs → lv_has ls 4 [(0, .ref (ad 76)), (1, .int x1), (2, .int x2)] → f_X7_save_4 n σ x1 x2 = some res → W p l e rm_X7_save s m args below meth c H locs 0 0 Q (F0 m 4 ls []) := by
    intro n
    induction n with
    | zero =>
      intro σ x1 x2  H locs ls hP hS hl hf
      cases hf
    | succ n ih =>
      intro σ x1 x2  H locs ls hP hS hl hf
      rw [f_X7_save_4] at hf
      refine lv_iload_n hx hb dX7_save_4 rfl (lv_at hl 2 rfl) ?_
      refine lv_aload_n hx hb dX7_save_5 rfl (lv_at hl 0 rfl) ?_
      refine g_Desk_tape C0 hT hE hP mf_X7_18 dX7_save_6 ?_
      obtain ⟨q9, hq, hf⟩ := ob_bind hf
      refine ax_callVi (C := "") (b := 0) (i := 1) (k := 0) (ci := 3) [] C0 hT hJ hE (met_X4_size l dC dI cyI cyE tC ad σ 1 (by decide) _ hq) hP hS mc_X4_size ml_X7_56 mi_X4_size ms_X4_size mz_X4 (by decide +kernel) ⟨rfl, rfl⟩ ⟨by decide, by decide⟩ (by decide) (cD_Row (by decide)) rfl rfl rfl hl.1 (Nat.le_of_ble_eq_true rfl) dX7_save_9 ⟨Nat.zero_le _, Nat.zero_le _⟩ (fun H locs hP hS => ?_)
      refine lv_icmp_ge (tgt := 39) hx hb dX7_save_12 (by decide) (fun h12 => ?_) (fun h12 => ?_)
      · rw [if_pos h12] at hf
        refine lv_iload_n hx hb dX7_save_39 rfl (lv_at hl 1 rfl) ?_
        exact hret _ _ _ _ _ _ rfl hf hP hS dX7_save_40
      · rw [if_neg h12] at hf
        refine lv_aload_n hx hb dX7_save_15 rfl (lv_at hl 0 rfl) ?_
        refine lv_iload_n hx hb dX7_save_16 rfl (lv_at hl 2 rfl) ?_
        obtain ⟨q17, hq, hf⟩ := ob_bind hf
        refine ax_callVi (C := "") (b := 0) (i := 76) (k := 1) (ci := 5) [.int x2] C0 hT hJ hE (met_X7_saveFrom l dC dI cyI cyE tC ad q9.2 x2 _ hq) hP hS mc_X7_saveFrom ml_X7_160 mi_X7_saveFrom ms_X7_saveFrom mz_X7 (by decide +kernel) ⟨rfl, rfl⟩ ⟨by decide, by decide⟩ (by decide) cD_Desk rfl rfl rfl hl.1 (Nat.le_of_ble_eq_true rfl) dX7_save_17 ⟨Nat.zero_le _, Nat.zero_le _⟩ (fun H locs hP hS => ?_)
        refine lv_istore_n (lv' := [(3, .int q17.1), (0, .ref (ad 76)), (1, .int x1), (2, .int x2)]) hx hb dX7_save_20 rfl hl (by decide) rfl (fun ls hl => ?_)
        refine lv_iload_n hx hb dX7_save_21 rfl (lv_at hl 0 rfl) ?_
        refine lv_iload_n hx hb dX7_save_22 rfl (lv_at hl 3 rfl) ?_
        refine lv_icmp_le (tgt := 33) hx hb dX7_save_23 (by decide) (fun h23 => ?_) (fun h23 => ?_)
        · rw [if_pos h23] at hf
          exact L33 _ ih _ _ _ _ _ _ hP hS (lv_sub hl [1, 2, 3] rfl) hf
        · rw [if_neg h23] at hf
          refine lv_iinc (v := x1 + 1) (lv' := [(1, .int (x1 + 1)), (3, .int q17.1), (0, .ref (ad 76)), (2, .int x2)]) hx hb dX7_save_26 hl (k := 2) rfl rfl (by decide) rfl (fun ls hl => ?_)
          refine lv_iload_n hx hb dX7_save_29 rfl (lv_at hl 1 rfl) ?_
          refine lv_iconst (v := 1) hx hb dX7_save_30 (by decide) ?_
          refine lv_isub hx hb dX7_save_31 ?_
          refine lv_istore_n (lv' := [(2, .int (q17.1 - 1)), (1, .int (x1 + 1)), (3, .int q17.1), (0, .ref (ad 76))]) hx hb dX7_save_32 rfl hl (by decide) rfl (fun ls hl => ?_)
          exact L33 _ ih _ _ _ _ _ _ hP hS (lv_sub hl [3, 1, 0] rfl) hf
  unfold f_X7_save at hf
  refine lv_iconst (v := 0) hx hb dX7_save_0 (by decide) ?_
  refine lv_istore_n (lv' := [(1, .int 0), (0, .ref (ad 76))]) hx hb dX7_save_1 rfl hl (by decide) rfl (fun ls hl => ?_)
  refine lv_iconst (v := 0) hx hb dX7_save_2 (by decide) ?_
  refine lv_istore_n (lv' := [(2, .int 0), (1, .int 0), (0, .ref (ad 76))]) hx hb dX7_save_3 rfl hl (by decide) rfl (fun ls hl => ?_)
  exact L4 fu _ _ _ _ _ _ hP hS (lv_sub hl [2, 1, 0] rfl) hf
