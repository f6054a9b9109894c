def f_X4_pushFour (σ : SD) (r0 : Nat) (x1 : Int32) : Option (SD) := (f_X4_pushTwo σ r0 x1).bind fun q2 => (f_X4_pushTwo q2 r0 ((x1.toUInt32 >>> ((16 : Int32).toUInt32 &&& Int32.toUInt32 31)).toInt32)).bind fun q10 => some q10
def rm_X4_pushFour : Room := { frames := 2, cells := 0, slots := 0, locals := 42 }
set_option maxHeartbeats 4000000 in
set_option maxRecDepth 100000 in
theorem met_X4_pushFour (l : Launch) (dC : Nat → ClassId) (dI : Nat → Nat → Nat) (cyI cyE : ClassId) (tC : Nat) (ad : Nat → Nat) (σ : SD) (r0 : Nat) (x1 : Int32) (hb_r0 : r0 < 25) (res : SD) (hf : f_X4_pushFour σ r0 x1 = some res) : ax_Mv l dC dI cyI cyE tC 77 (cD cyI cyE ad) ad yX4_pushFour cX4_pushFour 2 none rm_X4_pushFour [.ref (ad r0), .int x1] σ res := by
  intro sz
  refine Met.ofW (cc := cX4_pushFour) (maxL := 2) (ret := none) (by decide) rfl ?_
  intro p e s m args below meth c s₁ B hml hv
  obtain ⟨hargs, hsz, hP, hJ, hE⟩ := hv
  subst hsz
  have hx := B.exec
  have hb := B.bytes
  have hr := B.returns
  have hlocks := B.notSynchronized
  have hts := atoms_spec (ws := wsY yX4_pushFour cX4_pushFour 2 none) B.pre
  have hown : s.vm.findClass RX4 = some m.cls := findClass_of_methodNamed B.named
  have C0 : CallFix p m c cX4_pushFour 2 s args (wsY yX4_pushFour cX4_pushFour 2 none) RX4 := ⟨hx, hb, hml, hown, hts⟩
  have hT : ∀ w ∈ bw, w ∈ wsY yX4_pushFour cX4_pushFour 2 none := fun w h => List.mem_cons_of_mem _ h
  have hS : va_S (ax_A 77 ad s.heap.size) s.heap s.heap [] := va_S.rf
  rw [show entryFrame m args 2 = entryFrame m ([.ref (ad r0), .int x1] : List Value).toArray 2 by rw [hargs]]
  have hl := lv_entry ([.ref (ad r0), .int x1]) (n := 2) (Nat.le_of_ble_eq_true rfl)
  rw [lg_entry_eq]
  generalize (lg_sl ([.ref (ad r0), .int x1]) ++ List.replicate (2 - (lg_sl ([.ref (ad r0), .int x1])).length) Slot.unset).toArray = ls at hl ⊢
  have hl : lv_has ls 2 [(0, .ref (ad r0)), (1, .int x1)] := hl
  obtain ⟨Q, hQ⟩ : ∃ Q : State → Prop, Q = MQ below (va_Qv (fun (u : SD) => u = res) (ax_B dC dI 77 (cD cyI cyE ad) ad) (ax_A 77 ad s.heap.size)) args s 0 0 (ax_A 77 ad s.heap.size) := ⟨_, rfl⟩
  show W p l e rm_X4_pushFour s m args below meth c s.heap [] 0 0 _ _
  rw [← hQ]
  have hret : ∀ (σ : SD) (H : Heap) (locs : List Loc) (ls : Array Slot) (pc : Nat), some σ = some res → va_P (dC, dI) vwCl (ax_w 77 ad (cD cyI cyE ad σ)) H → va_S (ax_A 77 ad s.heap.size) s.heap H locs → decode cX4_pushFour pc = .ok (.return_, 1) → W p l e rm_X4_pushFour s m args below meth c H locs 0 0 Q (F0 m pc ls []) := by
    intro σ H locs ls pc hf hP hS hd
    cases hf
    rw [hQ]
    exact ax_vret hx hb hr hlocks hP hS hd rfl
  unfold f_X4_pushFour at hf
  refine lv_aload_n hx hb dX4_pushFour_0 rfl (lv_at hl 0 rfl) ?_
  refine lv_iload_n hx hb dX4_pushFour_1 rfl (lv_at hl 1 rfl) ?_
  obtain ⟨q2, hq, hf⟩ := ob_bind hf
  refine ax_callVv (b := 0) (i := r0) (k := 1) (ci := 3) [.int x1] C0 hT hJ hE (met_X4_pushTwo l dC dI cyI cyE tC ad σ r0 x1 (by omega) _ hq) hP hS mc_X4_pushTwo ml_X4_35 mi_X4_pushTwo ms_X4_pushTwo mz_X4 (by decide +kernel) ⟨rfl, rfl⟩ ⟨by decide, by decide⟩ (by omega) (cD_Row (by omega)) rfl rfl rfl hl.1 (Nat.le_of_ble_eq_true rfl) dX4_pushFour_2 ⟨Nat.zero_le _, Nat.zero_le _⟩ (fun H locs hP hS => ?_)
  refine lv_aload_n hx hb dX4_pushFour_5 rfl (lv_at hl 0 rfl) ?_
  refine lv_iload_n hx hb dX4_pushFour_6 rfl (lv_at hl 1 rfl) ?_
  refine lv_bipush (v := 16) hx hb dX4_pushFour_7 (by decide) ?_
  refine lv_iushr hx hb dX4_pushFour_9 rfl ?_
  obtain ⟨q10, hq, hf⟩ := ob_bind hf
  refine ax_callVv (b := 0) (i := r0) (k := 1) (ci := 3) [.int ((x1.toUInt32 >>> ((16 : Int32).toUInt32 &&& Int32.toUInt32 31)).toInt32)] C0 hT hJ hE (met_X4_pushTwo l dC dI cyI cyE tC ad q2 r0 ((x1.toUInt32 >>> ((16 : Int32).toUInt32 &&& Int32.toUInt32 31)).toInt32) (by omega) _ hq) hP hS mc_X4_pushTwo ml_X4_35 mi_X4_pushTwo ms_X4_pushTwo mz_X4 (by decide +kernel) ⟨rfl, rfl⟩ ⟨by decide, by decide⟩ (by omega) (cD_Row (by omega)) rfl rfl rfl hl.1 (Nat.le_of_ble_eq_true rfl) dX4_pushFour_10 ⟨Nat.zero_le _, Nat.zero_le _⟩ (fun H locs hP hS => ?_)
  exact hret _ _ _ _ _ hf hP hS dX4_pushFour_13
def f_X4_pushHighFirst (σ : SD) (r0 : Nat) (x1 : Int32) : Option (SD) := (f_X4_push σ r0 ((x1.toUInt32 >>> ((24 : Int32).toUInt32 &&& Int32.toUInt32 31)).toInt32)).bind fun q5 => (f_X4_push q5 r0 ((x1.toUInt32 >>> ((16 : Int32).toUInt32 &&& Int32.toUInt32 31)).toInt32)).bind fun q13 => (f_X4_push q13 r0 ((x1.toUInt32 >>> ((8 : Int32).toUInt32 &&& Int32.toUInt32 31)).toInt32)).bind fun q21 => (f_X4_push q21 r0 x1).bind fun q26 => some q26
def rm_X4_pushHighFirst : Room := { frames := 1, cells := 0, slots := 0, locals := 21 }
set_option maxHeartbeats 4000000 in
set_option maxRecDepth 100000 in
theorem met_X4_pushHighFirst (l : Launch) (dC : Nat → ClassId) (dI : Nat → Nat → Nat) (cyI cyE : ClassId) (tC : Nat) (ad : Nat → Nat) (σ : SD) (r0 : Nat) (x1 : Int32) (hb_r0 : r0 < 25) (res : SD) (hf : f_X4_pushHighFirst σ r0 x1 = some res) : ax_Mv l dC dI cyI cyE tC 77 (cD cyI cyE ad) ad yX4_pushHighFirst cX4_pushHighFirst 2 none rm_X4_pushHighFirst [.ref (ad r0), .int x1] σ res := by
  intro sz
  refine Met.ofW (cc := cX4_pushHighFirst) (maxL := 2) (ret := none) (by decide) rfl ?_
  intro p e s m args below meth c s₁ B hml hv
  obtain ⟨hargs, hsz, hP, hJ, hE⟩ := hv
  subst hsz
  have hx := B.exec
  have hb := B.bytes
  have hr := B.returns
  have hlocks := B.notSynchronized
  have hts := atoms_spec (ws := wsY yX4_pushHighFirst cX4_pushHighFirst 2 none) B.pre
  have hown : s.vm.findClass RX4 = some m.cls := findClass_of_methodNamed B.named
  have C0 : CallFix p m c cX4_pushHighFirst 2 s args (wsY yX4_pushHighFirst cX4_pushHighFirst 2 none) RX4 := ⟨hx, hb, hml, hown, hts⟩
  have hT : ∀ w ∈ bw, w ∈ wsY yX4_pushHighFirst cX4_pushHighFirst 2 none := fun w h => List.mem_cons_of_mem _ h
  have hS : va_S (ax_A 77 ad s.heap.size) s.heap s.heap [] := va_S.rf
  rw [show entryFrame m args 2 = entryFrame m ([.ref (ad r0), .int x1] : List Value).toArray 2 by rw [hargs]]
  have hl := lv_entry ([.ref (ad r0), .int x1]) (n := 2) (Nat.le_of_ble_eq_true rfl)
  rw [lg_entry_eq]
  generalize (lg_sl ([.ref (ad r0), .int x1]) ++ List.replicate (2 - (lg_sl ([.ref (ad r0), .int x1])).length) Slot.unset).toArray = ls at hl ⊢
  have hl : lv_has ls 2 [(0, .ref (ad r0)), (1, .int x1)] := hl
  obtain ⟨Q, hQ⟩ : ∃ Q : State → Prop, Q = MQ below (va_Qv (fun (u : SD) => u = res) (ax_B dC dI 77 (cD cyI cyE ad) ad) (ax_A 77 ad s.heap.size)) args s 0 0 (ax_A 77 ad s.heap.size) := ⟨_, rfl⟩
  show W p l e rm_X4_pushHighFirst s m args below meth c s.heap [] 0 0 _ _
  rw [← hQ]
  have hret : ∀ (σ : SD) (H : Heap) (locs : List Loc) (ls : Array Slot) (pc : Nat), some σ = some res → va_P (dC, dI) vwCl (ax_w 77 ad (cD cyI cyE ad σ)) H → va_S (ax_A 77 ad s.heap.size) s.heap H locs → decode cX4_pushHighFirst pc = .ok (.return_, 1) → W p l e rm_X4_pushHighFirst s m args below meth c H locs 0 0 Q (F0 m pc ls []) := by
    intro σ H locs ls pc hf hP hS hd
    cases hf
    rw [hQ]
    exact ax_vret hx hb hr hlocks hP hS hd rfl
  unfold f_X4_pushHighFirst at hf
  refine lv_aload_n hx hb dX4_pushHighFirst_0 rfl (lv_at hl 0 rfl) ?_
  refine lv_iload_n hx hb dX4_pushHighFirst_1 rfl (lv_at hl 1 rfl) ?_
  refine lv_bipush (v := 24) hx hb dX4_pushHighFirst_2 (by decide) ?_
  refine lv_iushr hx hb dX4_pushHighFirst_4 rfl ?_
  obtain ⟨q5, hq, hf⟩ := ob_bind hf
  refine ax_callVv (b := 0) (i := r0) (k := 1) (ci := 3) [.int ((x1.toUInt32 >>> ((24 : Int32).toUInt32 &&& Int32.toUInt32 31)).toInt32)] C0 hT hJ hE (met_X4_push l dC dI cyI cyE tC ad σ r0 ((x1.toUInt32 >>> ((24 : Int32).toUInt32 &&& Int32.toUInt32 31)).toInt32) (by omega) _ hq) hP hS mc_X4_push ml_X4_31 mi_X4_push ms_X4_push mz_X4 (by decide +kernel) ⟨rfl, rfl⟩ ⟨by decide, by decide⟩ (by omega) (cD_Row (by omega)) rfl rfl rfl hl.1 (Nat.le_of_ble_eq_true rfl) dX4_pushHighFirst_5 ⟨Nat.zero_le _, Nat.zero_le _⟩ (fun H locs hP hS => ?_)
  refine lv_aload_n hx hb dX4_pushHighFirst_8 rfl (lv_at hl 0 rfl) ?_
  refine lv_iload_n hx hb dX4_pushHighFirst_9 rfl (lv_at hl 1 rfl) ?_
  refine lv_bipush (v := 16) hx hb dX4_pushHighFirst_10 (by decide) ?_
  refine lv_iushr hx hb dX4_pushHighFirst_12 rfl ?_
  obtain ⟨q13, hq, hf⟩ := ob_bind hf
  refine ax_callVv (b := 0) (i := r0) (k := 1) (ci := 3) [.int ((x1.toUInt32 >>> ((16 : Int32).toUInt32 &&& Int32.toUInt32 31)).toInt32)] C0 hT hJ hE (met_X4_push l dC dI cyI cyE tC ad q5 r0 ((x1.toUInt32 >>> ((16 : Int32).toUInt32 &&& Int32.toUInt32 31)).toInt32) (by omega) _ hq) hP hS mc_X4_push ml_X4_31 mi_X4_push ms_X4_push mz_X4 (by decide +kernel) ⟨rfl, rfl⟩ ⟨by decide, by decide⟩ (by omega) (cD_Row (by omega)) rfl rfl rfl hl.1 (Nat.le_of_ble_eq_true rfl) dX4_pushHighFirst_13 ⟨Nat.zero_le _, Nat.zero_le _⟩ (fun H locs hP hS => ?_)
  refine lv_aload_n hx hb dX4_pushHighFirst_16 rfl (lv_at hl 0 rfl) ?_
  refine lv_iload_n hx hb dX4_pushHighFirst_17 rfl (lv_at hl 1 rfl) ?_
  refine lv_bipush (v := 8) hx hb dX4_pushHighFirst_18 (by decide) ?_
  refine lv_iushr hx hb dX4_pushHighFirst_20 rfl ?_
  obtain ⟨q21, hq, hf⟩ := ob_bind hf
  refine ax_callVv (b := 0) (i := r0) (k := 1) (ci := 3) [.int ((x1.toUInt32 >>> ((8 : Int32).toUInt32 &&& Int32.toUInt32 31)).toInt32)] C0 hT hJ hE (met_X4_push l dC dI cyI cyE tC ad q13 r0 ((x1.toUInt32 >>> ((8 : Int32).toUInt32 &&& Int32.toUInt32 31)).toInt32) (by omega) _ hq) hP hS mc_X4_push ml_X4_31 mi_X4_push ms_X4_push mz_X4 (by decide +kernel) ⟨rfl, rfl⟩ ⟨by decide, by decide⟩ (by omega) (cD_Row (by omega)) rfl rfl rfl hl.1 (Nat.le_of_ble_eq_true rfl) dX4_pushHighFirst_21 ⟨Nat.zero_le _, Nat.zero_le _⟩ (fun H locs hP hS => ?_)
  refine lv_aload_n hx hb dX4_pushHighFirst_24 rfl (lv_at hl 0 rfl) ?_
  refine lv_iload_n hx hb dX4_pushHighFirst_25 rfl (lv_at hl 1 rfl) ?_
  obtain ⟨q26, hq, hf⟩ := ob_bind hf
  refine ax_callVv (b := 0) (i := r0) (k := 1) (ci := 3) [.int x1] C0 hT hJ hE (met_X4_push l dC dI cyI cyE tC ad q21 r0 x1 (by omega) _ hq) hP hS mc_X4_push ml_X4_31 mi_X4_push ms_X4_push mz_X4 (by decide +kernel) ⟨rfl, rfl⟩ ⟨by decide, by decide⟩ (by omega) (cD_Row (by omega)) rfl rfl rfl hl.1 (Nat.le_of_ble_eq_true rfl) dX4_pushHighFirst_26 ⟨Nat.zero_le _, Nat.zero_le _⟩ (fun H locs hP hS => ?_)
  exact hret _ _ _ _ _ hf hP hS dX4_pushHighFirst_29
def f_X4_pushSignature (σ : SD) (r0 : Nat) (x1 : Int32) (x2 : Int32) : Option (SD) := (f_X4_push σ r0 80).bind fun q3 => (f_X4_push q3 r0 75).bind fun q9 => (f_X4_push q9 r0 x1).bind fun q14 => (f_X4_push q14 r0 x2).bind fun q19 => some q19
def rm_X4_pushSignature : Room := { frames := 1, cells := 0, slots := 0, locals := 21 }
set_option maxHeartbeats 4000000 in
set_option maxRecDepth 100000 in
theorem met_X4_pushSignature (l : Launch) (dC : Nat → ClassId) (dI : Nat → Nat → Nat) (cyI cyE : ClassId) (tC : Nat) (ad : Nat → Nat) (σ : SD) (r0 : Nat) (x1 : Int32) (x2 : Int32) (hb_r0 : r0 < 25) (res : SD) (hf : f_X4_pushSignature σ r0 x1 x2 = some res) : ax_Mv l dC dI cyI cyE tC 77 (cD cyI cyE ad) ad yX4_pushSignature cX4_pushSignature 3 none rm_X4_pushSignature [.ref (ad r0), .int x1, .int x2] σ res := by
  intro sz
  refine Met.ofW (cc := cX4_pushSignature) (maxL := 3) (ret := none) (by decide) rfl ?_
  intro p e s m args below meth c s₁ B hml hv
  obtain ⟨hargs, hsz, hP, hJ, hE⟩ := hv
  subst hsz
  have hx := B.exec
  have hb := B.bytes
  have hr := B.returns
  have hlocks := B.notSynchronized
  have hts := atoms_spec (ws := wsY yX4_pushSignature cX4_pushSignature 3 none) B.pre
  have hown : s.vm.findClass RX4 = some m.cls := findClass_of_methodNamed B.named
  have C0 : CallFix p m c cX4_pushSignature 3 s args (wsY yX4_pushSignature cX4_pushSignature 3 none) RX4 := ⟨hx, hb, hml, hown, hts⟩
  have hT : ∀ w ∈ bw, w ∈ wsY yX4_pushSignature cX4_pushSignature 3 none := fun w h => List.mem_cons_of_mem _ h
  have hS : va_S (ax_A 77 ad s.heap.size) s.heap s.heap [] := va_S.rf
  rw [show entryFrame m args 3 = entryFrame m ([.ref (ad r0), .int x1, .int x2] : List Value).toArray 3 by rw [hargs]]
  have hl := lv_entry ([.ref (ad r0), .int x1, .int x2]) (n := 3) (Nat.le_of_ble_eq_true rfl)
  rw [lg_entry_eq]
  generalize (lg_sl ([.ref (ad r0), .int x1, .int x2]) ++ List.replicate (3 - (lg_sl ([.ref (ad r0), .int x1, .int x2])).length) Slot.unset).toArray = ls at hl ⊢
  have hl : lv_has ls 3 [(0, .ref (ad r0)), (1, .int x1), (2, .int x2)] := hl
  obtain ⟨Q, hQ⟩ : ∃ Q : State → Prop, Q = MQ below (va_Qv (fun (u : SD) => u = res) (ax_B dC dI 77 (cD cyI cyE ad) ad) (ax_A 77 ad s.heap.size)) args s 0 0 (ax_A 77 ad s.heap.size) := ⟨_, rfl⟩
  show W p l e rm_X4_pushSignature s m args below meth c s.heap [] 0 0 _ _
  rw [← hQ]
  have hret : ∀ (σ : SD) (H : Heap) (locs : List Loc) (ls : Array Slot) (pc : Nat), some σ = some res → va_P (dC, dI) vwCl (ax_w 77 ad (cD cyI cyE ad σ)) H → va_S (ax_A 77 ad s.heap.size) s.heap H locs → decode cX4_pushSignature pc = .ok (.return_, 1) → W p l e rm_X4_pushSignature s m args below meth c H locs 0 0 Q (F0 m pc ls []) := by
    intro σ H locs ls pc hf hP hS hd
    cases hf
    rw [hQ]
    exact ax_vret hx hb hr hlocks hP hS hd rfl
  unfold f_X4_pushSignature at hf
  refine lv_aload_n hx hb dX4_pushSignature_0 rfl (lv_at hl 0 rfl) ?_
  refine lv_bipush (v := 80) hx hb dX4_pushSignature_1 (by decide) ?_
  obtain ⟨q3, hq, hf⟩ := ob_bind hf
  refine ax_callVv (b := 0) (i := r0) (k := 1) (ci := 3) [.int 80] C0 hT hJ hE (met_X4_push l dC dI cyI cyE tC ad σ r0 80 (by omega) _ hq) hP hS mc_X4_push ml_X4_31 mi_X4_push ms_X4_push mz_X4 (by decide +kernel) ⟨rfl, rfl⟩ ⟨by decide, by decide⟩ (by omega) (cD_Row (by omega)) rfl rfl rfl hl.1 (Nat.le_of_ble_eq_true rfl) dX4_pushSignature_3 ⟨Nat.zero_le _, Nat.zero_le _⟩ (fun H locs hP hS => ?_)
  refine lv_aload_n hx hb dX4_pushSignature_6 rfl (lv_at hl 0 rfl) ?_
  refine lv_bipush (v := 75) hx hb dX4_pushSignature_7 (by decide) ?_
  obtain ⟨q9, hq, hf⟩ := ob_bind hf
  refine ax_callVv (b := 0) (i := r0) (k := 1) (ci := 3) [.int 75] C0 hT hJ hE (met_X4_push l dC dI cyI cyE tC ad q3 r0 75 (by omega) _ hq) hP hS mc_X4_push ml_X4_31 mi_X4_push ms_X4_push mz_X4 (by decide +kernel) ⟨rfl, rfl⟩ ⟨by decide, by decide⟩ (by omega) (cD_Row (by omega)) rfl rfl rfl hl.1 (Nat.le_of_ble_eq_true rfl) dX4_pushSignature_9 ⟨Nat.zero_le _, Nat.zero_le _⟩ (fun H locs hP hS => ?_)
  refine lv_aload_n hx hb dX4_pushSignature_12 rfl (lv_at hl 0 rfl) ?_
  refine lv_iload_n hx hb dX4_pushSignature_13 rfl (lv_at hl 1 rfl) ?_
  obtain ⟨q14, hq, hf⟩ := ob_bind hf
  refine ax_callVv (b := 0) (i := r0) (k := 1) (ci := 3) [.int x1] C0 hT hJ hE (met_X4_push l dC dI cyI cyE tC ad q9 r0 x1 (by omega) _ hq) hP hS mc_X4_push ml_X4_31 mi_X4_push ms_X4_push mz_X4 (by decide +kernel) ⟨rfl, rfl⟩ ⟨by decide, by decide⟩ (by omega) (cD_Row (by omega)) rfl rfl rfl hl.1 (Nat.le_of_ble_eq_true rfl) dX4_pushSignature_14 ⟨Nat.zero_le _, Nat.zero_le _⟩ (fun H locs hP hS => ?_)
  refine lv_aload_n hx hb dX4_pushSignature_17 rfl (lv_at hl 0 rfl) ?_
  refine lv_iload_n hx hb dX4_pushSignature_18 rfl (lv_at hl 2 rfl) ?_
  obtain ⟨q19, hq, hf⟩ := ob_bind hf
  refine ax_callVv (b := 0) (i := r0) (k := 1) (ci := 3) [.int x2] C0 hT hJ hE (met_X4_push l dC dI cyI cyE tC ad q14 r0 x2 (by omega) _ hq) hP hS mc_X4_push ml_X4_31 mi_X4_push ms_X4_push mz_X4 (by decide +kernel) ⟨rfl, rfl⟩ ⟨by decide, by decide⟩ (by omega) (cD_Row (by omega)) rfl rfl rfl hl.1 (Nat.le_of_ble_eq_true rfl) dX4_pushSignature_19 ⟨Nat.zero_le _, Nat.zero_le _⟩ (fun H locs hP hS => ?_)
  exact hret _ _ _ _ _ hf hP hS dX4_pushSignature_22
def f_X4_blank_2 (r0 : Nat) : Nat → SD → Int32 → Option (SD)
  | 0, _, _ => none
  | n + 1, σ, x1 => if (Int32.ofNat (capD r0)) ≤ x1 then (some (SDi σ 0 r0 (Int32.ofNat (capD r0)))) else (if inb x1 (capD r0) = true then (f_X4_blank_2 r0 n (SDc σ r0 (upd (σ.2.2.1 r0) x1.toNatClampNeg 0)) (x1 + 1)) else none)
def f_X4_blank (σ : SD) (r0 : Nat) : Option (SD) := f_X4_blank_2 r0 fu σ 0
def rm_X4_blank : Room := { frames := 0, cells := 0, slots := 0, locals := 0 }
set_option maxHeartbeats 4000000 in
set_option maxRecDepth 100000 in
theorem met_X4_blank (l : Launch) (dC : Nat → ClassId) (dI : Nat → Nat → Nat) (cyI cyE : ClassId) (tC : Nat) (ad : Nat → Nat) (σ : SD) (r0 : Nat) (hb_r0 : r0 < 25) (res : SD) (hf : f_X4_blank σ r0 = some res) : ax_Mv l dC dI cyI cyE tC 77 (cD cyI cyE ad) ad yX4_blank cX4_blank 2 none rm_X4_blank [.ref (ad r0)] σ res := by
  intro sz
  refine Met.ofW (cc := cX4_blank) (maxL := 2) (ret := none) (by decide) rfl ?_
  intro p e s m args below meth c s₁ B hml hv
  obtain ⟨hargs, hsz, hP, hJ, hE⟩ := hv
  subst hsz
  have hx := B.exec
  have hb := B.bytes
  have hr := B.returns
  have hlocks := B.notSynchronized
  have hts := atoms_spec (ws := wsY yX4_blank cX4_blank 2 none) B.pre
  have hown : s.vm.findClass RX4 = some m.cls := findClass_of_methodNamed B.named
  have C0 : CallFix p m c cX4_blank 2 s args (wsY yX4_blank cX4_blank 2 none) RX4 := ⟨hx, hb, hml, hown, hts⟩
  have hT : ∀ w ∈ bw, w ∈ wsY yX4_blank cX4_blank 2 none := fun w h => List.mem_cons_of_mem _ h
  have hS : va_S (ax_A 77 ad s.heap.size) s.heap s.heap [] := va_S.rf
  rw [show entryFrame m args 2 = entryFrame m ([.ref (ad r0)] : List Value).toArray 2 by rw [hargs]]
  have hl := lv_entry ([.ref (ad r0)]) (n := 2) (Nat.le_of_ble_eq_true rfl)
  rw [lg_entry_eq]
  generalize (lg_sl ([.ref (ad r0)]) ++ List.replicate (2 - (lg_sl ([.ref (ad r0)])).length) Slot.unset).toArray = ls at hl ⊢
  have hl : lv_has ls 2 [(0, .ref (ad r0))] := hl
  obtain ⟨Q, hQ⟩ : ∃ Q : State → Prop, Q = MQ below (va_Qv (fun (u : SD) => u = res) (ax_B dC dI 77 (cD cyI cyE ad) ad) (ax_A 77 ad s.heap.size)) args s 0 0 (ax_A 77 ad s.heap.size) := ⟨_, rfl⟩
  show W p l e rm_X4_blank s m args below meth c s.heap [] 0 0 _ _
  rw [← hQ]
  have hret : ∀ (σ : SD) (H : Heap) (locs : List Loc) (ls : Array Slot) (pc : Nat), some σ = some res → va_P (dC, dI) vwCl (ax_w 77 ad (cD cyI cyE ad σ)) H → va_S (ax_A 77 ad s.heap.size) s.heap H locs → decode cX4_blank pc = .ok (.return_, 1) → W p l e rm_X4_blank s m args below meth c H locs 0 0 Q (F0 m pc ls []) := by
    intro σ H locs ls pc hf hP hS hd
    cases hf
    rw [hQ]
    exact ax_vret hx hb hr hlocks hP hS hd rfl
  have L2 : ∀ (n : Nat), ∀ (σ : SD) (x1 : Int32), ∀ (H : Heap) (locs : List Loc) (ls : Array Slot), va_P (dC, dI) vwCl (ax_w 77 ad (cD cyI cyE ad σ)) H → va_S (ax_A 77 ad s.heap.size) s.heap H locs → lv_has ls 2 [(0, .ref (ad r0)), (1, .int x1)] → f_X4_blank_2 r0 n σ x1 = some res → W p l e rm_X4_blank s m args below meth c H locs 0 0 Q (F0 m 2 ls []) := by
    intro n
    induction n with
    | zero =>
      intro σ x1  H locs ls hP hS hl hf
      cases hf
    | succ n ih =>
      intro σ x1  H locs ls hP hS hl hf
      rw [f_X4_blank_2] at hf
      refine lv_iload_n hx hb dX4_blank_2 rfl (lv_at hl 1 rfl) ?_
      refine lv_aload_n hx hb dX4_blank_3 rfl (lv_at hl 0 rfl) ?_
      refine g_Row_cells (r := r0) (by omega) C0 hT hE hP mf_X4_15 dX4_blank_4 ?_
      refine aD_len (a := r0) (by omega) C0 hT hE hP dX4_blank_7 ?_
      refine lv_icmp_ge (tgt := 24) hx hb dX4_blank_8 (by decide) (fun h8 => ?_) (fun h8 => ?_)
      · rw [if_pos h8] at hf
        refine lv_aload_n hx hb dX4_blank_24 rfl (lv_at hl 0 rfl) ?_
        refine lv_aload_n hx hb dX4_blank_25 rfl (lv_at hl 0 rfl) ?_
        refine g_Row_cells (r := r0) (by omega) C0 hT hE hP mf_X4_15 dX4_blank_26 ?_
        refine aD_len (a := r0) (by omega) C0 hT hE hP dX4_blank_29 ?_
        refine p_Row_size (r := r0) (by omega) C0 hT hE hJ hP hS mf_X4_21 dX4_blank_30 (fun H locs hP hS => ?_)
        exact hret _ _ _ _ _ hf hP hS dX4_blank_33
      · rw [if_neg h8] at hf
        refine lv_aload_n hx hb dX4_blank_11 rfl (lv_at hl 0 rfl) ?_
        refine g_Row_cells (r := r0) (by omega) C0 hT hE hP mf_X4_15 dX4_blank_12 ?_
        refine lv_iload_n hx hb dX4_blank_15 rfl (lv_at hl 1 rfl) ?_
        refine lv_iconst (v := 0) hx hb dX4_blank_16 (by decide) ?_
        obtain ⟨hin, hf⟩ := ob_if hf
        refine aD_st (a := r0) (by omega) C0 hT hE hJ hP hS (inb_in hin) dX4_blank_17 (fun H locs hP hS => ?_)
        refine lv_iinc (v := x1 + 1) (lv' := [(1, .int (x1 + 1)), (0, .ref (ad r0))]) hx hb dX4_blank_18 hl (k := 1) rfl rfl (by decide) rfl (fun ls hl => ?_)
        refine lv_goto (tgt := 2) hx hb dX4_blank_21 (by decide) ?_
        exact ih _ _ _ _ _ hP hS (lv_sub hl [1, 0] rfl) hf
  unfold f_X4_blank at hf
  refine lv_iconst (v := 0) hx hb dX4_blank_0 (by decide) ?_
  refine lv_istore_n (lv' := [(1, .int 0), (0, .ref (ad r0))]) hx hb dX4_blank_1 rfl hl (by decide) rfl (fun ls hl => ?_)
  exact L2 fu _ _ _ _ _ hP hS (lv_sub hl [1, 0] rfl) hf
def f_X4_close (σ : SD) (r0 : Nat) (x1 : Int32) (x2 : Int32) : Option (Int32 × SD) := (f_X4_holds σ r0 x1 x2).bind fun q3 => if q3.1 = 0 then (some (0, q3.2)) else (if cpb (x1 + x2) x1 (((q3.2.1 0 r0) - x1) - x2) (capD r0) (capD r0) = true then (some (1, (SDi (SDc q3.2 r0 (va_cpy (q3.2.2.2.1 r0) (q3.2.2.2.1 r0) (x1 + x2).toNatClampNeg x1.toNatClampNeg (((q3.2.1 0 r0) - x1) - x2).toNatClampNeg)) 0 r0 (((SDc q3.2 r0 (va_cpy (q3.2.2.2.1 r0) (q3.2.2.2.1 r0) (x1 + x2).toNatClampNeg x1.toNatClampNeg (((q3.2.1 0 r0) - x1) - x2).toNatClampNeg)).1 0 r0) - x2)))) else none)
def rm_X4_close : Room := { frames := 1, cells := 0, slots := 0, locals := 30 }
set_option maxHeartbeats 4000000 in
set_option maxRecDepth 100000 in
theorem met_X4_close (l : Launch) (dC : Nat → ClassId) (dI : Nat → Nat → Nat) (cyI cyE : ClassId) (tC : Nat) (ad : Nat → Nat) (σ : SD) (r0 : Nat) (x1 : Int32) (x2 : Int32) (hb_r0 : r0 < 25) (res : Int32 × SD) (hf : f_X4_close σ r0 x1 x2 = some res) : ax_Mi l dC dI cyI cyE tC 77 (cD cyI cyE ad) ad yX4_close cX4_close 3 (some .boolean) rm_X4_close [.ref (ad r0), .int x1, .int x2] σ res.1 res.2 := by
  intro sz
  refine Met.ofW (cc := cX4_close) (maxL := 3) (ret := (some .boolean)) (by decide) rfl ?_
  intro p e s m args below meth c s₁ B hml hv
  obtain ⟨hargs, hsz, hP, hJ, hE⟩ := hv
  subst hsz
  have hx := B.exec
  have hb := B.bytes
  have hr := B.returns
  have hlocks := B.notSynchronized
  have hts := atoms_spec (ws := wsY yX4_close cX4_close 3 (some .boolean)) B.pre
  have hown : s.vm.findClass RX4 = some m.cls := findClass_of_methodNamed B.named
  have C0 : CallFix p m c cX4_close 3 s args (wsY yX4_close cX4_close 3 (some .boolean)) RX4 := ⟨hx, hb, hml, hown, hts⟩
  have hT : ∀ w ∈ bw, w ∈ wsY yX4_close cX4_close 3 (some .boolean) := fun w h => List.mem_cons_of_mem _ h
  have hS : va_S (ax_A 77 ad s.heap.size) s.heap s.heap [] := va_S.rf
  rw [show entryFrame m args 3 = entryFrame m ([.ref (ad r0), .int x1, .int x2] : List Value).toArray 3 by rw [hargs]]
  have hl := lv_entry ([.ref (ad r0), .int x1, .int x2]) (n := 3) (Nat.le_of_ble_eq_true rfl)
  rw [lg_entry_eq]
  generalize (lg_sl ([.ref (ad r0), .int x1, .int x2]) ++ List.replicate (3 - (lg_sl ([.ref (ad r0), .int x1, .int x2])).length) Slot.unset).toArray = ls at hl ⊢
  have hl : lv_has ls 3 [(0, .ref (ad r0)), (1, .int x1), (2, .int x2)] := hl
  obtain ⟨Q, hQ⟩ : ∃ Q : State → Prop, Q = MQ below (va_Qi (fun (a : Int32) (u : SD) => a = res.1 ∧ u = res.2) (ax_B dC dI 77 (cD cyI cyE ad) ad) (ax_A 77 ad s.heap.size)) args s 0 0 (ax_A 77 ad s.heap.size) := ⟨_, rfl⟩
  show W p l e rm_X4_close s m args below meth c s.heap [] 0 0 _ _
  rw [← hQ]
  have hret : ∀ (v : Int32) (σ : SD) (H : Heap) (locs : List Loc) (ls : Array Slot) (pc : Nat), narrow .boolean (.int v) = .int v → some (v, σ) = some res → va_P (dC, dI) vwCl (ax_w 77 ad (cD cyI cyE ad σ)) H → va_S (ax_A 77 ad s.heap.size) s.heap H locs → decode cX4_close pc = .ok (.ireturn, 1) → W p l e rm_X4_close s m args below meth c H locs 0 0 Q (F0 m pc ls [.int v]) := by
    intro v σ H locs ls pc hn hf hP hS hd
    cases hf
    rw [hQ]
    exact ax_iret hx hb hr hlocks hn hP hS hd rfl rfl
  unfold f_X4_close at hf
  refine lv_aload_n hx hb dX4_close_0 rfl (lv_at hl 0 rfl) ?_
  refine lv_iload_n hx hb dX4_close_1 rfl (lv_at hl 1 rfl) ?_
  refine lv_iload_n hx hb dX4_close_2 rfl (lv_at hl 2 rfl) ?_
  obtain ⟨q3, hq, hf⟩ := ob_bind hf
  refine ax_callVi (C := "") (b := 0) (i := r0) (k := 2) (ci := 3) [.int x1, .int x2] C0 hT hJ hE (met_X4_holds l dC dI cyI cyE tC ad σ r0 x1 x2 (by omega) _ hq) hP hS mc_X4_holds ml_X4_25 mi_X4_holds ms_X4_holds mz_X4 (by decide +kernel) ⟨rfl, rfl⟩ ⟨by decide, by decide⟩ (by omega) (cD_Row (by omega)) rfl rfl rfl hl.1 (Nat.le_of_ble_eq_true rfl) dX4_close_3 ⟨Nat.zero_le _, Nat.zero_le _⟩ (fun H locs hP hS => ?_)
  refine lv_if_ne (tgt := 11) hx hb dX4_close_6 (by decide) (fun h6 => ?_) (fun h6 => ?_)
  · rw [if_neg h6] at hf
    refine lv_aload_n hx hb dX4_close_11 rfl (lv_at hl 0 rfl) ?_
    refine g_Row_cells (r := r0) (by omega) C0 hT hE hP mf_X4_15 dX4_close_12 ?_
    refine lv_iload_n hx hb dX4_close_15 rfl (lv_at hl 1 rfl) ?_
    refine lv_iload_n hx hb dX4_close_16 rfl (lv_at hl 2 rfl) ?_
    refine lv_iadd hx hb dX4_close_17 ?_
    refine lv_aload_n hx hb dX4_close_18 rfl (lv_at hl 0 rfl) ?_
    refine g_Row_cells (r := r0) (by omega) C0 hT hE hP mf_X4_15 dX4_close_19 ?_
    refine lv_iload_n hx hb dX4_close_22 rfl (lv_at hl 1 rfl) ?_
    refine lv_aload_n hx hb dX4_close_23 rfl (lv_at hl 0 rfl) ?_
    refine g_Row_size (r := r0) (by omega) C0 hT hE hP mf_X4_21 dX4_close_24 ?_
    refine lv_iload_n hx hb dX4_close_27 rfl (lv_at hl 1 rfl) ?_
    refine lv_isub hx hb dX4_close_28 ?_
    refine lv_iload_n hx hb dX4_close_29 rfl (lv_at hl 2 rfl) ?_
    refine lv_isub hx hb dX4_close_30 ?_
    obtain ⟨hin, hf⟩ := ob_if hf
    refine aD_cp (a := r0) (b := r0) (by omega) (by omega) C0 hT hE hJ hP hS hl.1 ml_X4_42 hin (Nat.le_of_ble_eq_true rfl) (Nat.le_of_ble_eq_true rfl) dX4_close_31 (fun H locs hP hS => ?_)
    refine lv_aload_n hx hb dX4_close_34 rfl (lv_at hl 0 rfl) ?_
    refine lv_dup hx hb dX4_close_35 rfl ?_
    refine g_Row_size (r := r0) (by omega) C0 hT hE hP mf_X4_21 dX4_close_36 ?_
    refine lv_iload_n hx hb dX4_close_39 rfl (lv_at hl 2 rfl) ?_
    refine lv_isub hx hb dX4_close_40 ?_
    refine p_Row_size (r := r0) (by omega) C0 hT hE hJ hP hS mf_X4_21 dX4_close_41 (fun H locs hP hS => ?_)
    refine lv_iconst (v := 1) hx hb dX4_close_44 (by decide) ?_
    exact hret _ _ _ _ _ _ rfl hf hP hS dX4_close_45
  · rw [if_pos h6] at hf
    refine lv_iconst (v := 0) hx hb dX4_close_9 (by decide) ?_
    exact hret _ _ _ _ _ _ rfl hf hP hS dX4_close_10
def f_X4_turn (σ : SD) (r0 : Nat) (x1 : Int32) (x2 : Int32) : Option (Int32 × SD) := if x1 < 0 then (some (0, σ)) else (if (σ.1 0 r0) ≤ x1 then (some (0, σ)) else (if x2 < 0 then (some (0, σ)) else (if x2 ≤ 7 then (if inb x1 (capD r0) = true then (if inb x1 (capD r0) = true then (some (1, (SDc σ r0 (upd (σ.2.2.1 r0) x1.toNatClampNeg ((σ.2.2.1 r0 x1.toNatClampNeg) ^^^ (1 <<< (x2 &&& 31))))))) else none) else none) else (some (0, σ)))))
def rm_X4_turn : Room := { frames := 0, cells := 0, slots := 0, locals := 0 }
set_option maxHeartbeats 4000000 in
set_option maxRecDepth 100000 in
theorem met_X4_turn (l : Launch) (dC : Nat → ClassId) (dI : Nat → Nat → Nat) (cyI cyE : ClassId) (tC : Nat) (ad : Nat → Nat) (σ : SD) (r0 : Nat) (x1 : Int32) (x2 : Int32) (hb_r0 : r0 < 25) (res : Int32 × SD) (hf : f_X4_turn σ r0 x1 x2 = some res) : ax_Mi l dC dI cyI cyE tC 77 (cD cyI cyE ad) ad yX4_turn cX4_turn 3 (some .boolean) rm_X4_turn [.ref (ad r0), .int x1, .int x2] σ res.1 res.2 := by
  intro sz
  refine Met.ofW (cc := cX4_turn) (maxL := 3) (ret := (some .boolean)) (by decide) rfl ?_
  intro p e s m args below meth c s₁ B hml hv
  obtain ⟨hargs, hsz, hP, hJ, hE⟩ := hv
  subst hsz
  have hx := B.exec
  have hb := B.bytes
  have hr := B.returns
  have hlocks := B.notSynchronized
  have hts := atoms_spec (ws := wsY yX4_turn cX4_turn 3 (some .boolean)) B.pre
  have hown : s.vm.findClass RX4 = some m.cls := findClass_of_methodNamed B.named
  have C0 : CallFix p m c cX4_turn 3 s args (wsY yX4_turn cX4_turn 3 (some .boolean)) RX4 := ⟨hx, hb, hml, hown, hts⟩
  have hT : ∀ w ∈ bw, w ∈ wsY yX4_turn cX4_turn 3 (some .boolean) := fun w h => List.mem_cons_of_mem _ h
  have hS : va_S (ax_A 77 ad s.heap.size) s.heap s.heap [] := va_S.rf
  rw [show entryFrame m args 3 = entryFrame m ([.ref (ad r0), .int x1, .int x2] : List Value).toArray 3 by rw [hargs]]
  have hl := lv_entry ([.ref (ad r0), .int x1, .int x2]) (n := 3) (Nat.le_of_ble_eq_true rfl)
  rw [lg_entry_eq]
  generalize (lg_sl ([.ref (ad r0), .int x1, .int x2]) ++ List.replicate (3 - (lg_sl ([.ref (ad r0), .int x1, .int x2])).length) Slot.unset).toArray = ls at hl ⊢
  have hl : lv_has ls 3 [(0, .ref (ad r0)), (1, .int x1), (2, .int x2)] := hl
  obtain ⟨Q, hQ⟩ : ∃ Q : State → Prop, Q = MQ below (va_Qi (fun (a : Int32) (u : SD) => a = res.1 ∧ u = res.2) (ax_B dC dI 77 (cD cyI cyE ad) ad) (ax_A 77 ad s.heap.size)) args s 0 0 (ax_A 77 ad s.heap.size) := ⟨_, rfl⟩
  show W p l e rm_X4_turn s m args below meth c s.heap [] 0 0 _ _
  rw [← hQ]
  have hret : ∀ (v : Int32) (σ : SD) (H : Heap) (locs : List Loc) (ls : Array Slot) (pc : Nat), narrow .boolean (.int v) = .int v → some (v, σ) = some res → va_P (dC, dI) vwCl (ax_w 77 ad (cD cyI cyE ad σ)) H → va_S (ax_A 77 ad s.heap.size) s.heap H locs → decode cX4_turn pc = .ok (.ireturn, 1) → W p l e rm_X4_turn s m args below meth c H locs 0 0 Q (F0 m pc ls [.int v]) := by
    intro v σ H locs ls pc hn hf hP hS hd
    cases hf
    rw [hQ]
    exact ax_iret hx hb hr hlocks hn hP hS hd rfl rfl
  unfold f_X4_turn at hf
  refine lv_iload_n hx hb dX4_turn_0 rfl (lv_at hl 1 rfl) ?_
  refine lv_if_lt (tgt := 22) hx hb dX4_turn_1 (by decide) (fun h1 => ?_) (fun h1 => ?_)
  · rw [if_pos h1] at hf
    refine lv_iconst (v := 0) hx hb dX4_turn_22 (by decide) ?_
    exact hret _ _ _ _ _ _ rfl hf hP hS dX4_turn_23
  · rw [if_neg h1] at hf
    refine lv_iload_n hx hb dX4_turn_4 rfl (lv_at hl 1 rfl) ?_
    refine lv_aload_n hx hb dX4_turn_5 rfl (lv_at hl 0 rfl) ?_
    refine g_Row_size (r := r0) (by omega) C0 hT hE hP mf_X4_21 dX4_turn_6 ?_
    refine lv_icmp_ge (tgt := 22) hx hb dX4_turn_9 (by decide) (fun h9 => ?_) (fun h9 => ?_)
    · rw [if_pos h9] at hf
      refine lv_iconst (v := 0) hx hb dX4_turn_22 (by decide) ?_
      exact hret _ _ _ _ _ _ rfl hf hP hS dX4_turn_23
    · rw [if_neg h9] at hf
      refine lv_iload_n hx hb dX4_turn_12 rfl (lv_at hl 2 rfl) ?_
      refine lv_if_lt (tgt := 22) hx hb dX4_turn_13 (by decide) (fun h13 => ?_) (fun h13 => ?_)
      · rw [if_pos h13] at hf
        refine lv_iconst (v := 0) hx hb dX4_turn_22 (by decide) ?_
        exact hret _ _ _ _ _ _ rfl hf hP hS dX4_turn_23
      · rw [if_neg h13] at hf
        refine lv_iload_n hx hb dX4_turn_16 rfl (lv_at hl 2 rfl) ?_
        refine lv_bipush (v := 7) hx hb dX4_turn_17 (by decide) ?_
        refine lv_icmp_le (tgt := 24) hx hb dX4_turn_19 (by decide) (fun h19 => ?_) (fun h19 => ?_)
        · rw [if_pos h19] at hf
          refine lv_aload_n hx hb dX4_turn_24 rfl (lv_at hl 0 rfl) ?_
          refine g_Row_cells (r := r0) (by omega) C0 hT hE hP mf_X4_15 dX4_turn_25 ?_
          refine lv_iload_n hx hb dX4_turn_28 rfl (lv_at hl 1 rfl) ?_
          refine lv_dup2_11 hx hb dX4_turn_29 rfl rfl ?_
          obtain ⟨hin, hf⟩ := ob_if hf
          refine aD_ld (a := r0) (by omega) C0 hT hE hP (inb_in hin) dX4_turn_30 ?_
          refine lv_iconst (v := 1) hx hb dX4_turn_31 (by decide) ?_
          refine lv_iload_n hx hb dX4_turn_32 rfl (lv_at hl 2 rfl) ?_
          refine lv_ishl hx hb dX4_turn_33 ?_
          refine lv_ixor hx hb dX4_turn_34 ?_
          obtain ⟨hin, hf⟩ := ob_if hf
          refine aD_st (a := r0) (by omega) C0 hT hE hJ hP hS (inb_in hin) dX4_turn_35 (fun H locs hP hS => ?_)
          refine lv_iconst (v := 1) hx hb dX4_turn_36 (by decide) ?_
          exact hret _ _ _ _ _ _ rfl hf hP hS dX4_turn_37
        · rw [if_neg h19] at hf
          refine lv_iconst (v := 0) hx hb dX4_turn_22 (by decide) ?_
          exact hret _ _ _ _ _ _ rfl hf hP hS dX4_turn_23
def f_X4_isNameAhead_2 (r0 : Nat) (r1 : Nat) : Nat → SD → Int32 → Option (Int32 × SD)
  | 0, _, _ => none
  | n + 1, σ, x2 => if (30 : Int32) ≤ x2 then (some (0, σ)) else ((f_X4_at σ r0 x2).bind fun q10 => (f_X4_at q10.2 r1 x2).bind fun q15 => if q10.1 = q15.1 then (f_X4_isNameAhead_2 r0 r1 n q15.2 (x2 + 1)) else ((f_X4_at q15.2 r0 x2).bind fun q23 => (f_X4_at q23.2 r1 x2).bind fun q28 => if q28.1 ≤ q23.1 then (some (0, q28.2)) else (some (1, q28.2))))
def f_X4_isNameAhead (σ : SD) (r0 : Nat) (r1 : Nat) : Option (Int32 × SD) := f_X4_isNameAhead_2 r0 r1 fu σ 0
def rm_X4_isNameAhead : Room := { frames := 1, cells := 0, slots := 0, locals := 21 }
set_option maxHeartbeats 4000000 in
set_option maxRecDepth 100000 in
theorem met_X4_isNameAhead (l : Launch) (dC : Nat → ClassId) (dI : Nat → Nat → Nat) (cyI cyE : ClassId) (tC : Nat) (ad : Nat → Nat) (σ : SD) (r0 : Nat) (r1 : Nat) (hb_r0 : r0 < 25) (hb_r1 : r1 < 25) (res : Int32 × SD) (hf : f_X4_isNameAhead σ r0 r1 = some res) : ax_Mi l dC dI cyI cyE tC 77 (cD cyI cyE ad) ad yX4_isNameAhead cX4_isNameAhead 3 (some .boolean) rm_X4_isNameAhead [.ref (ad r0), .ref (ad r1)] σ res.1 res.2 := by
  intro sz
  refine Met.ofW (cc := cX4_isNameAhead) (maxL := 3) (ret := (some .boolean)) (by decide) rfl ?_
  intro p e s m args below meth c s₁ B hml hv
  obtain ⟨hargs, hsz, hP, hJ, hE⟩ := hv
  subst hsz
  have hx := B.exec
  have hb := B.bytes
  have hr := B.returns
  have hlocks := B.notSynchronized
  have hts := atoms_spec (ws := wsY yX4_isNameAhead cX4_isNameAhead 3 (some .boolean)) B.pre
  have hown : s.vm.findClass RX4 = some m.cls := findClass_of_methodNamed B.named
  have C0 : CallFix p m c cX4_isNameAhead 3 s args (wsY yX4_isNameAhead cX4_isNameAhead 3 (some .boolean)) RX4 := ⟨hx, hb, hml, hown, hts⟩
  have hT : ∀ w ∈ bw, w ∈ wsY yX4_isNameAhead cX4_isNameAhead 3 (some .boolean) := fun w h => List.mem_cons_of_mem _ h
  have hS : va_S (ax_A 77 ad s.heap.size) s.heap s.heap [] := va_S.rf
  rw [show entryFrame m args 3 = entryFrame m ([.ref (ad r0), .ref (ad r1)] : List Value).toArray 3 by rw [hargs]]
  have hl := lv_entry ([.ref (ad r0), .ref (ad r1)]) (n := 3) (Nat.le_of_ble_eq_true rfl)
  rw [lg_entry_eq]
  generalize (lg_sl ([.ref (ad r0), .ref (ad r1)]) ++ List.replicate (3 - (lg_sl ([.ref (ad r0), .ref (ad r1)])).length) Slot.unset).toArray = ls at hl ⊢
  have hl : lv_has ls 3 [(0, .ref (ad r0)), (1, .ref (ad r1))] := hl
  obtain ⟨Q, hQ⟩ : ∃ Q : State → Prop, Q = MQ below (va_Qi (fun (a : Int32) (u : SD) => a = res.1 ∧ u = res.2) (ax_B dC dI 77 (cD cyI cyE ad) ad) (ax_A 77 ad s.heap.size)) args s 0 0 (ax_A 77 ad s.heap.size) := ⟨_, rfl⟩
  show W p l e rm_X4_isNameAhead s m args below meth c s.heap [] 0 0 _ _
  rw [← hQ]
  have hret : ∀ (v : Int32) (σ : SD) (H : Heap) (locs : List Loc) (ls : Array Slot) (pc : Nat), narrow .boolean (.int v) = .int v → some (v, σ) = some res → va_P (dC, dI) vwCl (ax_w 77 ad (cD cyI cyE ad σ)) H → va_S (ax_A 77 ad s.heap.size) s.heap H locs → decode cX4_isNameAhead pc = .ok (.ireturn, 1) → W p l e rm_X4_isNameAhead s m args below meth c H locs 0 0 Q (F0 m pc ls [.int v]) := by
    intro v σ H locs ls pc hn hf hP hS hd
    cases hf
    rw [hQ]
    exact ax_iret hx hb hr hlocks hn hP hS hd rfl rfl
  have L2 : ∀ (n : Nat), ∀ (σ : SD) (x2 : Int32), ∀ (H : Heap) (locs : List Loc) (ls : Array Slot), va_P (dC, dI) vwCl (ax_w 77 ad (cD cyI cyE ad σ)) H → va_S (ax_A 77 ad s.heap.size) s.heap H locs → lv_has ls 3 [(0, .ref (ad r0)), (1, .ref (ad r1)), (2, .int x2)] → f_X4_isNameAhead_2 r0 r1 n σ x2 = some res → W p l e rm_X4_isNameAhead s m args below meth c H locs 0 0 Q (F0 m 2 ls []) := by
    intro n
    induction n with
    | zero =>
      intro σ x2  H locs ls hP hS hl hf
      cases hf
    | succ n ih =>
      intro σ x2  H locs ls hP hS hl hf
      rw [f_X4_isNameAhead_2] at hf
      refine lv_iload_n hx hb dX4_isNameAhead_2 rfl (lv_at hl 2 rfl) ?_
      refine lv_bipush (v := 30) hx hb dX4_isNameAhead_3 (by decide) ?_
      refine lv_icmp_ge (tgt := 46) hx hb dX4_isNameAhead_5 (by decide) (fun h5 => ?_) (fun h5 => ?_)
      · rw [if_pos h5] at hf
        refine lv_iconst (v := 0) hx hb dX4_isNameAhead_46 (by decide) ?_
        exact hret _ _ _ _ _ _ rfl hf hP hS dX4_isNameAhead_47
      · rw [if_neg h5] at hf
        refine lv_aload_n hx hb dX4_isNameAhead_8 rfl (lv_at hl 0 rfl) ?_
        refine lv_iload_n hx hb dX4_isNameAhead_9 rfl (lv_at hl 2 rfl) ?_
        obtain ⟨q10, hq, hf⟩ := ob_bind hf
        refine ax_callVi (C := "") (b := 0) (i := r0) (k := 1) (ci := 3) [.int x2] C0 hT hJ hE (met_X4_at l dC dI cyI cyE tC ad σ r0 x2 (by omega) _ hq) hP hS mc_X4_at ml_X4_48 mi_X4_at ms_X4_at mz_X4 (by decide +kernel) ⟨rfl, rfl⟩ ⟨by decide, by decide⟩ (by omega) (cD_Row (by omega)) rfl rfl rfl hl.1 (Nat.le_of_ble_eq_true rfl) dX4_isNameAhead_10 ⟨Nat.zero_le _, Nat.zero_le _⟩ (fun H locs hP hS => ?_)
        refine lv_aload_n hx hb dX4_isNameAhead_13 rfl (lv_at hl 1 rfl) ?_
        refine lv_iload_n hx hb dX4_isNameAhead_14 rfl (lv_at hl 2 rfl) ?_
        obtain ⟨q15, hq, hf⟩ := ob_bind hf
        refine ax_callVi (C := "") (b := 0) (i := r1) (k := 1) (ci := 3) [.int x2] C0 hT hJ hE (met_X4_at l dC dI cyI cyE tC ad q10.2 r1 x2 (by omega) _ hq) hP hS mc_X4_at ml_X4_48 mi_X4_at ms_X4_at mz_X4 (by decide +kernel) ⟨rfl, rfl⟩ ⟨by decide, by decide⟩ (by omega) (cD_Row (by omega)) rfl rfl rfl hl.1 (Nat.le_of_ble_eq_true rfl) dX4_isNameAhead_15 ⟨Nat.zero_le _, Nat.zero_le _⟩ (fun H locs hP hS => ?_)
        refine lv_icmp_eq (tgt := 40) hx hb dX4_isNameAhead_18 (by decide) (fun h18 => ?_) (fun h18 => ?_)
        · rw [if_pos h18] at hf
          refine lv_iinc (v := x2 + 1) (lv' := [(2, .int (x2 + 1)), (0, .ref (ad r0)), (1, .ref (ad r1))]) hx hb dX4_isNameAhead_40 hl (k := 2) rfl rfl (by decide) rfl (fun ls hl => ?_)
          refine lv_goto (tgt := 2) hx hb dX4_isNameAhead_43 (by decide) ?_
          exact ih _ _ _ _ _ hP hS (lv_sub hl [1, 2, 0] rfl) hf
        · rw [if_neg h18] at hf
          refine lv_aload_n hx hb dX4_isNameAhead_21 rfl (lv_at hl 0 rfl) ?_
          refine lv_iload_n hx hb dX4_isNameAhead_22 rfl (lv_at hl 2 rfl) ?_
          obtain ⟨q23, hq, hf⟩ := ob_bind hf
          refine ax_callVi (C := "") (b := 0) (i := r0) (k := 1) (ci := 3) [.int x2] C0 hT hJ hE (met_X4_at l dC dI cyI cyE tC ad q15.2 r0 x2 (by omega) _ hq) hP hS mc_X4_at ml_X4_48 mi_X4_at ms_X4_at mz_X4 (by decide +kernel) ⟨rfl, rfl⟩ ⟨by decide, by decide⟩ (by omega) (cD_Row (by omega)) rfl rfl rfl hl.1 (Nat.le_of_ble_eq_true rfl) dX4_isNameAhead_23 ⟨Nat.zero_le _, Nat.zero_le _⟩ (fun H locs hP hS => ?_)
          refine lv_aload_n hx hb dX4_isNameAhead_26 rfl (lv_at hl 1 rfl) ?_
          refine lv_iload_n hx hb dX4_isNameAhead_27 rfl (lv_at hl 2 rfl) ?_
          obtain ⟨q28, hq, hf⟩ := ob_bind hf
          refine ax_callVi (C := "") (b := 0) (i := r1) (k := 1) (ci := 3) [.int x2] C0 hT hJ hE (met_X4_at l dC dI cyI cyE tC ad q23.2 r1 x2 (by omega) _ hq) hP hS mc_X4_at ml_X4_48 mi_X4_at ms_X4_at mz_X4 (by decide +kernel) ⟨rfl, rfl⟩ ⟨by decide, by decide⟩ (by omega) (cD_Row (by omega)) rfl rfl rfl hl.1 (Nat.le_of_ble_eq_true rfl) dX4_isNameAhead_28 ⟨Nat.zero_le _, Nat.zero_le _⟩ (fun H locs hP hS => ?_)
          refine lv_icmp_ge (tgt := 38) hx hb dX4_isNameAhead_31 (by decide) (fun h31 => ?_) (fun h31 => ?_)
          · rw [if_pos h31] at hf
            refine lv_iconst (v := 0) hx hb dX4_isNameAhead_38 (by decide) ?_
            exact hret _ _ _ _ _ _ rfl hf hP hS dX4_isNameAhead_39
          · rw [if_neg h31] at hf
            refine lv_iconst (v := 1) hx hb dX4_isNameAhead_34 (by decide) ?_
            refine lv_goto (tgt := 39) hx hb dX4_isNameAhead_35 (by decide) ?_
            exact hret _ _ _ _ _ _ rfl hf hP hS dX4_isNameAhead_39
  unfold f_X4_isNameAhead at hf
  refine lv_iconst (v := 0) hx hb dX4_isNameAhead_0 (by decide) ?_
  refine lv_istore_n (lv' := [(2, .int 0), (0, .ref (ad r0)), (1, .ref (ad r1))]) hx hb dX4_isNameAhead_1 rfl hl (by decide) rfl (fun ls hl => ?_)
  exact L2 fu _ _ _ _ _ hP hS (lv_sub hl [1, 2, 0] rfl) hf
def f_X5_count (σ : SD) : Option (Int32 × SD) := some (σ.1 5 0, σ)
def rm_X5_count : Room := { frames := 0, cells := 0, slots := 0, locals := 0 }
set_option maxHeartbeats 4000000 in
set_option maxRecDepth 100000 in
theorem met_X5_count (l : Launch) (dC : Nat → ClassId) (dI : Nat → Nat → Nat) (cyI cyE : ClassId) (tC : Nat) (ad : Nat → Nat) (σ : SD) (res : Int32 × SD) (hf : f_X5_count σ = some res) : ax_Mi l dC dI cyI cyE tC 77 (cD cyI cyE ad) ad yX5_count cX5_count 1 (some .int) rm_X5_count [.ref (ad 75)] σ res.1 res.2 := by
  intro sz
  refine Met.ofW (cc := cX5_count) (maxL := 1) (ret := (some .int)) (by decide) rfl ?_
  intro p e s m args below meth c s₁ B hml hv
  obtain ⟨hargs, hsz, hP, hJ, hE⟩ := hv
  subst hsz
  have hx := B.exec
  have hb := B.bytes
  have hr := B.returns
  have hlocks := B.notSynchronized
  have hts := atoms_spec (ws := wsY yX5_count cX5_count 1 (some .int)) B.pre
  have hown : s.vm.findClass RX5 = some m.cls := findClass_of_methodNamed B.named
  have C0 : CallFix p m c cX5_count 1 s args (wsY yX5_count cX5_count 1 (some .int)) RX5 := ⟨hx, hb, hml, hown, hts⟩
  have hT : ∀ w ∈ bw, w ∈ wsY yX5_count cX5_count 1 (some .int) := fun w h => List.mem_cons_of_mem _ h
  have hS : va_S (ax_A 77 ad s.heap.size) s.heap s.heap [] := va_S.rf
  rw [show entryFrame m args 1 = entryFrame m ([.ref (ad 75)] : List Value).toArray 1 by rw [hargs]]
  have hl := lv_entry ([.ref (ad 75)]) (n := 1) (Nat.le_of_ble_eq_true rfl)
  rw [lg_entry_eq]
  generalize (lg_sl ([.ref (ad 75)]) ++ List.replicate (1 - (lg_sl ([.ref (ad 75)])).length) Slot.unset).toArray = ls at hl ⊢
  have hl : lv_has ls 1 [(0, .ref (ad 75))] := hl
  obtain ⟨Q, hQ⟩ : ∃ Q : State → Prop, Q = MQ below (va_Qi (fun (a : Int32) (u : SD) => a = res.1 ∧ u = res.2) (ax_B dC dI 77 (cD cyI cyE ad) ad) (ax_A 77 ad s.heap.size)) args s 0 0 (ax_A 77 ad s.heap.size) := ⟨_, rfl⟩
  show W p l e rm_X5_count s m args below meth c s.heap [] 0 0 _ _
  rw [← hQ]
  have hret : ∀ (v : Int32) (σ : SD) (H : Heap) (locs : List Loc) (ls : Array Slot) (pc : Nat), narrow .int (.int v) = .int v → some (v, σ) = some res → va_P (dC, dI) vwCl (ax_w 77 ad (cD cyI cyE ad σ)) H → va_S (ax_A 77 ad s.heap.size) s.heap H locs → decode cX5_count pc = .ok (.ireturn, 1) → W p l e rm_X5_count s m args below meth c H locs 0 0 Q (F0 m pc ls [.int v]) := by
    intro v σ H locs ls pc hn hf hP hS hd
    cases hf
    rw [hQ]
    exact ax_iret hx hb hr hlocks hn hP hS hd rfl rfl
  unfold f_X5_count at hf
  refine lv_aload_n hx hb dX5_count_0 rfl (lv_at hl 0 rfl) ?_
  refine g_Shelf_count C0 hT hE hP mf_X5_27 dX5_count_1 ?_
  exact hret _ _ _ _ _ _ rfl hf hP hS dX5_count_4
def f_X5_together (σ : SD) : Option (Int32 × SD) := (f_X4_size σ 3).bind fun q4 => some (q4.1, q4.2)
def rm_X5_together : Room := { frames := 1, cells := 0, slots := 0, locals := 20 }
set_option maxHeartbeats 4000000 in
set_option maxRecDepth 100000 in
theorem met_X5_together (l : Launch) (dC : Nat → ClassId) (dI : Nat → Nat → Nat) (cyI cyE : ClassId) (tC : Nat) (ad : Nat → Nat) (σ : SD) (res : Int32 × SD) (hf : f_X5_together σ = some res) : ax_Mi l dC dI cyI cyE tC 77 (cD cyI cyE ad) ad yX5_together cX5_together 1 (some .int) rm_X5_together [.ref (ad 75)] σ res.1 res.2 := by
  intro sz
  refine Met.ofW (cc := cX5_together) (maxL := 1) (ret := (some .int)) (by decide) rfl ?_
  intro p e s m args below meth c s₁ B hml hv
  obtain ⟨hargs, hsz, hP, hJ, hE⟩ := hv
  subst hsz
  have hx := B.exec
  have hb := B.bytes
  have hr := B.returns
  have hlocks := B.notSynchronized
  have hts := atoms_spec (ws := wsY yX5_together cX5_together 1 (some .int)) B.pre
  have hown : s.vm.findClass RX5 = some m.cls := findClass_of_methodNamed B.named
  have C0 : CallFix p m c cX5_together 1 s args (wsY yX5_together cX5_together 1 (some .int)) RX5 := ⟨hx, hb, hml, hown, hts⟩
  have hT : ∀ w ∈ bw, w ∈ wsY yX5_together cX5_together 1 (some .int) := fun w h => List.mem_cons_of_mem _ h
  have hS : va_S (ax_A 77 ad s.heap.size) s.heap s.heap [] := va_S.rf
  rw [show entryFrame m args 1 = entryFrame m ([.ref (ad 75)] : List Value).toArray 1 by rw [hargs]]
  have hl := lv_entry ([.ref (ad 75)]) (n := 1) (Nat.le_of_ble_eq_true rfl)
  rw [lg_entry_eq]
  generalize (lg_sl ([.ref (ad 75)]) ++ List.replicate (1 - (lg_sl ([.ref (ad 75)])).length) Slot.unset).toArray = ls at hl ⊢
  have hl : lv_has ls 1 [(0, .ref (ad 75))] := hl
  obtain ⟨Q, hQ⟩ : ∃ Q : State → Prop, Q = MQ below (va_Qi (fun (a : Int32) (u : SD) => a = res.1 ∧ u = res.2) (ax_B dC dI 77 (cD cyI cyE ad) ad) (ax_A 77 ad s.heap.size)) args s 0 0 (ax_A 77 ad s.heap.size) := ⟨_, rfl⟩
  show W p l e rm_X5_together s m args below meth c s.heap [] 0 0 _ _
  rw [← hQ]
  have hret : ∀ (v : Int32) (σ : SD) (H : Heap) (locs : List Loc) (ls : Array Slot) (pc : Nat), narrow .int (.int v) = .int v → some (v, σ) = some res → va_P (dC, dI) vwCl (ax_w 77 ad (cD cyI cyE ad σ)) H → va_S (ax_A 77 ad s.heap.size) s.heap H locs → decode cX5_together pc = .ok (.ireturn, 1) → W p l e rm_X5_together s m args below meth c H locs 0 0 Q (F0 m pc ls [.int v]) := by
    intro v σ H locs ls pc hn hf hP hS hd
    cases hf
    rw [hQ]
    exact ax_iret hx hb hr hlocks hn hP hS hd rfl rfl
  unfold f_X5_together at hf
  refine lv_aload_n hx hb dX5_together_0 rfl (lv_at hl 0 rfl) ?_
  refine g_Shelf_bytes C0 hT hE hP mf_X5_22 dX5_together_1 ?_
  obtain ⟨q4, hq, hf⟩ := ob_bind hf
  refine ax_callVi (C := "") (b := 0) (i := 3) (k := 0) (ci := 3) [] C0 hT hJ hE (met_X4_size l dC dI cyI cyE tC ad σ 3 (by decide) _ hq) hP hS mc_X4_size ml_X5_31 mi_X4_size ms_X4_size mz_X4 (by decide +kernel) ⟨rfl, rfl⟩ ⟨by decide, by decide⟩ (by decide) (cD_Row (by decide)) rfl rfl rfl hl.1 (Nat.le_of_ble_eq_true rfl) dX5_together_4 ⟨Nat.zero_le _, Nat.zero_le _⟩ (fun H locs hP hS => ?_)
  exact hret _ _ _ _ _ _ rfl hf hP hS dX5_together_7
def f_X5_entry (σ : SD) (x1 : Int32) : Option (Option Nat × SD) := if x1 < 0 then (some (none, σ)) else (if (σ.1 5 0) ≤ x1 then (some (none, σ)) else (if inb x1 20 = true then (if σ.2.2.2 x1.toNatClampNeg < 20 then (some (some (σ.2.2.2 x1.toNatClampNeg), σ)) else none) else none))
def rm_X5_entry : Room := { frames := 0, cells := 0, slots := 0, locals := 0 }
set_option maxHeartbeats 4000000 in
set_option maxRecDepth 100000 in
theorem met_X5_entry (l : Launch) (dC : Nat → ClassId) (dI : Nat → Nat → Nat) (cyI cyE : ClassId) (tC : Nat) (ad : Nat → Nat) (σ : SD) (x1 : Int32) (res : Option Nat × SD) (hf : f_X5_entry σ x1 = some res) : ax_Mq l dC dI cyI cyE tC 77 (cD cyI cyE ad) ad yX5_entry cX5_entry 2 (some (.object "ArchiveDesk$Entry")) rm_X5_entry [.ref (ad 75), .int x1] σ (res.1.map fun k => ad (52 + k)) res.2 := by
  intro sz
  refine Met.ofW (cc := cX5_entry) (maxL := 2) (ret := (some (.object "ArchiveDesk$Entry"))) (by decide) rfl ?_
  intro p e s m args below meth c s₁ B hml hv
  obtain ⟨hargs, hsz, hP, hJ, hE⟩ := hv
  subst hsz
  have hx := B.exec
  have hb := B.bytes
  have hr := B.returns
  have hlocks := B.notSynchronized
  have hts := atoms_spec (ws := wsY yX5_entry cX5_entry 2 (some (.object "ArchiveDesk$Entry"))) B.pre
  have hown : s.vm.findClass RX5 = some m.cls := findClass_of_methodNamed B.named
  have C0 : CallFix p m c cX5_entry 2 s args (wsY yX5_entry cX5_entry 2 (some (.object "ArchiveDesk$Entry"))) RX5 := ⟨hx, hb, hml, hown, hts⟩
  have hT : ∀ w ∈ bw, w ∈ wsY yX5_entry cX5_entry 2 (some (.object "ArchiveDesk$Entry")) := fun w h => List.mem_cons_of_mem _ h
  have hS : va_S (ax_A 77 ad s.heap.size) s.heap s.heap [] := va_S.rf
  rw [show entryFrame m args 2 = entryFrame m ([.ref (ad 75), .int x1] : List Value).toArray 2 by rw [hargs]]
  have hl := lv_entry ([.ref (ad 75), .int x1]) (n := 2) (Nat.le_of_ble_eq_true rfl)
  rw [lg_entry_eq]
  generalize (lg_sl ([.ref (ad 75), .int x1]) ++ List.replicate (2 - (lg_sl ([.ref (ad 75), .int x1])).length) Slot.unset).toArray = ls at hl ⊢
  have hl : lv_has ls 2 [(0, .ref (ad 75)), (1, .int x1)] := hl
  obtain ⟨Q, hQ⟩ : ∃ Q : State → Prop, Q = MQ below (va_Qq (fun (a : Option Nat) (u : SD) => a = (res.1.map fun k => ad (52 + k)) ∧ u = res.2) (ax_B dC dI 77 (cD cyI cyE ad) ad) (ax_A 77 ad s.heap.size)) args s 0 0 (ax_A 77 ad s.heap.size) := ⟨_, rfl⟩
  show W p l e rm_X5_entry s m args below meth c s.heap [] 0 0 _ _
  rw [← hQ]
  have hret : ∀ (v : Option Nat) (σ : SD) (H : Heap) (locs : List Loc) (ls : Array Slot) (pc : Nat), some (v, σ) = some res → va_P (dC, dI) vwCl (ax_w 77 ad (cD cyI cyE ad σ)) H → va_S (ax_A 77 ad s.heap.size) s.heap H locs → decode cX5_entry pc = .ok (.areturn, 1) → W p l e rm_X5_entry s m args below meth c H locs 0 0 Q (F0 m pc ls [va_rf (v.map fun k => ad (52 + k))]) := by
    intro v σ H locs ls pc hf hP hS hd
    cases hf
    rw [hQ]
    exact ax_aret hx hb hr hlocks hP hS hd rfl rfl
  unfold f_X5_entry at hf
  refine lv_iload_n hx hb dX5_entry_0 rfl (lv_at hl 1 rfl) ?_
  refine lv_if_lt (tgt := 21) hx hb dX5_entry_1 (by decide) (fun h1 => ?_) (fun h1 => ?_)
  · rw [if_pos h1] at hf
    refine lv_null hx hb dX5_entry_21 ?_
    exact hret none _ _ _ _ _ hf hP hS dX5_entry_22
  · rw [if_neg h1] at hf
    refine lv_iload_n hx hb dX5_entry_4 rfl (lv_at hl 1 rfl) ?_
    refine lv_aload_n hx hb dX5_entry_5 rfl (lv_at hl 0 rfl) ?_
    refine g_Shelf_count C0 hT hE hP mf_X5_27 dX5_entry_6 ?_
    refine lv_icmp_ge (tgt := 21) hx hb dX5_entry_9 (by decide) (fun h9 => ?_) (fun h9 => ?_)
    · rw [if_pos h9] at hf
      refine lv_null hx hb dX5_entry_21 ?_
      exact hret none _ _ _ _ _ hf hP hS dX5_entry_22
    · rw [if_neg h9] at hf
      refine lv_aload_n hx hb dX5_entry_12 rfl (lv_at hl 0 rfl) ?_
      refine g_Shelf_entries C0 hT hE hP mf_X5_11 dX5_entry_13 ?_
      refine lv_iload_n hx hb dX5_entry_16 rfl (lv_at hl 1 rfl) ?_
      obtain ⟨hin, hf⟩ := ob_if hf
      obtain ⟨hen17, hf⟩ := ob_if hf
      refine aD_lde C0 hT hE hP (inb_in hin) dX5_entry_17 ?_
      refine lv_goto (tgt := 22) hx hb dX5_entry_18 (by decide) ?_
      exact hret (some _) _ _ _ _ _ hf hP hS dX5_entry_22
def f_X5_byteOf (σ : SD) (k1 : Nat) (x2 : Int32) : Option (Int32 × SD) := if x2 < 0 then (some ((-1), σ)) else (if (σ.1 2 k1) ≤ x2 then (some ((-1), σ)) else ((f_X4_at σ 3 ((σ.1 1 k1) + x2)).bind fun q22 => some (q22.1, q22.2)))
def rm_X5_byteOf : Room := { frames := 1, cells := 0, slots := 0, locals := 21 }
set_option maxHeartbeats 4000000 in
set_option maxRecDepth 100000 in
theorem met_X5_byteOf (l : Launch) (dC : Nat → ClassId) (dI : Nat → Nat → Nat) (cyI cyE : ClassId) (tC : Nat) (ad : Nat → Nat) (σ : SD) (k1 : Nat) (x2 : Int32) (hb_k1 : k1 < 20) (res : Int32 × SD) (hf : f_X5_byteOf σ k1 x2 = some res) : ax_Mi l dC dI cyI cyE tC 77 (cD cyI cyE ad) ad yX5_byteOf cX5_byteOf 3 (some .int) rm_X5_byteOf [.ref (ad 75), .ref (ad (52 + k1)), .int x2] σ res.1 res.2 := by
  intro sz
  refine Met.ofW (cc := cX5_byteOf) (maxL := 3) (ret := (some .int)) (by decide) rfl ?_
  intro p e s m args below meth c s₁ B hml hv
  obtain ⟨hargs, hsz, hP, hJ, hE⟩ := hv
  subst hsz
  have hx := B.exec
  have hb := B.bytes
  have hr := B.returns
  have hlocks := B.notSynchronized
  have hts := atoms_spec (ws := wsY yX5_byteOf cX5_byteOf 3 (some .int)) B.pre
  have hown : s.vm.findClass RX5 = some m.cls := findClass_of_methodNamed B.named
  have C0 : CallFix p m c cX5_byteOf 3 s args (wsY yX5_byteOf cX5_byteOf 3 (some .int)) RX5 := ⟨hx, hb, hml, hown, hts⟩
  have hT : ∀ w ∈ bw, w ∈ wsY yX5_byteOf cX5_byteOf 3 (some .int) := fun w h => List.mem_cons_of_mem _ h
  have hS : va_S (ax_A 77 ad s.heap.size) s.heap s.heap [] := va_S.rf
  rw [show entryFrame m args 3 = entryFrame m ([.ref (ad 75), .ref (ad (52 + k1)), .int x2] : List Value).toArray 3 by rw [hargs]]
  have hl := lv_entry ([.ref (ad 75), .ref (ad (52 + k1)), .int x2]) (n := 3) (Nat.le_of_ble_eq_true rfl)
  rw [lg_entry_eq]
  generalize (lg_sl ([.ref (ad 75), .ref (ad (52 + k1)), .int x2]) ++ List.replicate (3 - (lg_sl ([.ref (ad 75), .ref (ad (52 + k1)), .int x2])).length) Slot.unset).toArray = ls at hl ⊢
  have hl : lv_has ls 3 [(0, .ref (ad 75)), (1, .ref (ad (52 + k1))), (2, .int x2)] := hl
  obtain ⟨Q, hQ⟩ : ∃ Q : State → Prop, Q = MQ below (va_Qi (fun (a : Int32) (u : SD) => a = res.1 ∧ u = res.2) (ax_B dC dI 77 (cD cyI cyE ad) ad) (ax_A 77 ad s.heap.size)) args s 0 0 (ax_A 77 ad s.heap.size) := ⟨_, rfl⟩
  show W p l e rm_X5_byteOf s m args below meth c s.heap [] 0 0 _ _
  rw [← hQ]
  have hret : ∀ (v : Int32) (σ : SD) (H : Heap) (locs : List Loc) (ls : Array Slot) (pc : Nat), narrow .int (.int v) = .int v → some (v, σ) = some res → va_P (dC, dI) vwCl (ax_w 77 ad (cD cyI cyE ad σ)) H → va_S (ax_A 77 ad s.heap.size) s.heap H locs → decode cX5_byteOf pc = .ok (.ireturn, 1) → W p l e rm_X5_byteOf s m args below meth c H locs 0 0 Q (F0 m pc ls [.int v]) := by
    intro v σ H locs ls pc hn hf hP hS hd
    cases hf
    rw [hQ]
    exact ax_iret hx hb hr hlocks hn hP hS hd rfl rfl
  unfold f_X5_byteOf at hf
  refine lv_iload_n hx hb dX5_byteOf_0 rfl (lv_at hl 2 rfl) ?_
  refine lv_if_lt (tgt := 28) hx hb dX5_byteOf_1 (by decide) (fun h1 => ?_) (fun h1 => ?_)
  · rw [if_pos h1] at hf
    refine lv_iconst (v := (-1)) hx hb dX5_byteOf_28 (by decide) ?_
    exact hret _ _ _ _ _ _ rfl hf hP hS dX5_byteOf_29
  · rw [if_neg h1] at hf
    refine lv_iload_n hx hb dX5_byteOf_4 rfl (lv_at hl 2 rfl) ?_
    refine lv_aload_n hx hb dX5_byteOf_5 rfl (lv_at hl 1 rfl) ?_
    refine gN_Entry_size (k := k1) (by omega) C0 hT hE hP (by decide) dX5_byteOf_6 ?_
    refine lv_icmp_ge (tgt := 28) hx hb dX5_byteOf_9 (by decide) (fun h9 => ?_) (fun h9 => ?_)
    · rw [if_pos h9] at hf
      refine lv_iconst (v := (-1)) hx hb dX5_byteOf_28 (by decide) ?_
      exact hret _ _ _ _ _ _ rfl hf hP hS dX5_byteOf_29
    · rw [if_neg h9] at hf
      refine lv_aload_n hx hb dX5_byteOf_12 rfl (lv_at hl 0 rfl) ?_
      refine g_Shelf_bytes C0 hT hE hP mf_X5_22 dX5_byteOf_13 ?_
      refine lv_aload_n hx hb dX5_byteOf_16 rfl (lv_at hl 1 rfl) ?_
      refine gN_Entry_start (k := k1) (by omega) C0 hT hE hP (by decide) dX5_byteOf_17 ?_
      refine lv_iload_n hx hb dX5_byteOf_20 rfl (lv_at hl 2 rfl) ?_
      refine lv_iadd hx hb dX5_byteOf_21 ?_
      obtain ⟨q22, hq, hf⟩ := ob_bind hf
      refine ax_callVi (C := "") (b := 0) (i := 3) (k := 1) (ci := 3) [.int ((σ.1 1 k1) + x2)] C0 hT hJ hE (met_X4_at l dC dI cyI cyE tC ad σ 3 ((σ.1 1 k1) + x2) (by decide) _ hq) hP hS mc_X4_at ml_X5_40 mi_X4_at ms_X4_at mz_X4 (by decide +kernel) ⟨rfl, rfl⟩ ⟨by decide, by decide⟩ (by decide) (cD_Row (by decide)) rfl rfl rfl hl.1 (Nat.le_of_ble_eq_true rfl) dX5_byteOf_22 ⟨Nat.zero_le _, Nat.zero_le _⟩ (fun H locs hP hS => ?_)
      refine lv_goto (tgt := 29) hx hb dX5_byteOf_25 (by decide) ?_
      exact hret _ _ _ _ _ _ rfl hf hP hS dX5_byteOf_29
