theorem mi_obj : Cond.instanceMethod objectInit ∈ bw := bw_mem 75 (by decide +kernel) (by decide +kernel)
theorem mc_obj : Cond.code objectInit ⟨#[0xb1]⟩ 1 none ∈ bw := bw_mem 76 (by decide +kernel) (by decide +kernel)
theorem ma_int : Cond.arrayClass .int ∈ bw := bw_mem 93 (by decide +kernel) (by decide +kernel)
theorem ma_long : Cond.arrayClass .long ∈ bw := bw_mem 1066 (by decide +kernel) (by decide +kernel)
theorem mq_L_8 : Cond.classLink RL 8 RX7 ∈ bw := bw_mem 69 (by decide +kernel) (by decide +kernel)
theorem mn_X7 : Cond.instantiable RX7 5 ∈ bw := bw_mem 70 (by decide +kernel) (by decide +kernel)
theorem mq_X7_7 : Cond.classLink RX7 7 RX4 ∈ bw := bw_mem 77 (by decide +kernel) (by decide +kernel)
theorem mn_X4 : Cond.instantiable RX4 2 ∈ bw := bw_mem 78 (by decide +kernel) (by decide +kernel)
theorem mq_X7_24 : Cond.classLink RX7 24 RX5 ∈ bw := bw_mem 94 (by decide +kernel) (by decide +kernel)
theorem mn_X5 : Cond.instantiable RX5 3 ∈ bw := bw_mem 95 (by decide +kernel) (by decide +kernel)
theorem mq_X5_9 : Cond.classLink RX5 9 RX1 ∈ bw := bw_mem 100 (by decide +kernel) (by decide +kernel)
theorem mq_X5_17 : Cond.classLink RX5 17 RX4 ∈ bw := bw_mem 102 (by decide +kernel) (by decide +kernel)
theorem mn_X1 : Cond.instantiable RX1 5 ∈ bw := bw_mem 104 (by decide +kernel) (by decide +kernel)
theorem mq_X1_9 : Cond.classLink RX1 9 RX4 ∈ bw := bw_mem 109 (by decide +kernel) (by decide +kernel)
theorem mq_X7_31 : Cond.classLink RX7 31 RX3 ∈ bw := bw_mem 148 (by decide +kernel) (by decide +kernel)
theorem mn_X3 : Cond.instantiable RX3 10 ∈ bw := bw_mem 149 (by decide +kernel) (by decide +kernel)
theorem mq_X3_18 : Cond.classLink RX3 18 RX2 ∈ bw := bw_mem 154 (by decide +kernel) (by decide +kernel)
theorem mn_X2 : Cond.instantiable RX2 5 ∈ bw := bw_mem 155 (by decide +kernel) (by decide +kernel)
theorem mq_X3_25 : Cond.classLink RX3 25 RX4 ∈ bw := bw_mem 181 (by decide +kernel) (by decide +kernel)
theorem mq_L_37 : Cond.classLink RL 37 RX8 ∈ bw := bw_mem 769 (by decide +kernel) (by decide +kernel)
theorem mn_X8 : Cond.instantiable RX8 19 ∈ bw := bw_mem 770 (by decide +kernel) (by decide +kernel)
theorem rg_congr {dC : Nat → ClassId} {dI : Nat → Nat → Nat} {B k : Nat} {c c' : Nat → va_E} {H : Heap} (h : rg dC dI B k c H) (hc : ∀ i, i < k → c i = c' i) : rg dC dI B k c' H := by
  refine ⟨h.1, fun i q hi => ?_⟩
  obtain ⟨hk, rfl⟩ := ax_inv hi
  rw [← hc i hk]
  exact h.2 i _ (ax_get hk)
theorem kx_congr {l : Launch} {dC : Nat → ClassId} {dI : Nat → Nat → Nat} {cyI cyE : ClassId} {tC : Nat} {y : MethodName} {cc : ByteArray} {nL : Nat} {rm : Room} {vs : List Value} {B k k' : Nat} {c c1 c2 : Nat → va_E} (h : kx l dC dI cyI cyE tC y cc nL rm vs B k c k' c1) (hc : c1 = c2) : kx l dC dI cyI cyE tC y cc nL rm vs B k c k' c2 := hc ▸ h
abbrev oRow (a : Value) (n : Int32) : va_E := .inr (3, [a, .int n])
abbrev oEnt (a : Value) : va_E := .inr (0, [a, .int 0, .int 0, .int 0, .int 0])
abbrev oArr (cyI : ClassId) (N : Nat) : va_E := .inl (cyI, N, .inl (fun _ => 0))
def rm_Row (N : Nat) : Room := { frames := 1, cells := 1, slots := N, locals := 30 }
set_option maxHeartbeats 4000000 in
set_option maxRecDepth 100000 in
theorem met_X4_init (l : Launch) (dC : Nat → ClassId) (dI : Nat → Nat → Nat) (cyI cyE : ClassId) (tC : Nat) (B : Nat) (k j : Nat) (c : Nat → va_E) (x1 : Int32) (N : Nat) (hj : j < k) (he : c j = oRow .null 0) (hn : ¬ (if (0 : Int32) < x1 then x1 else 0) < 0) (hN : (if (0 : Int32) < x1 then x1 else 0).toNatClampNeg = N) (hN4 : N * 4 ≤ 536870912) : kx l dC dI cyI cyE tC yX4_init cX4_init 2 (rm_Row N) [.ref (B + j), .int x1] B k c (k + 1) (va_up (va_up c k (oArr cyI N)) j (oRow (.ref (B + k)) 0)) := by
  refine Met.ofW (cc := cX4_init) (maxL := 2) (ret := none) (by decide) rfl ?_
  intro p e s m args below meth c0 s₁ B0 hml hv
  obtain ⟨hargs, hG, hE⟩ := hv
  have hx := B0.exec
  have hb := B0.bytes
  have hr := B0.returns
  have hlocks := B0.notSynchronized
  have hin : meth.name = "<init>" := (name_of_methodNamed B0.named B0.method).1
  have hts := atoms_spec (ws := wsY yX4_init cX4_init 2 none) B0.pre
  have hown : s.vm.findClass RX4 = some m.cls := findClass_of_methodNamed B0.named
  have C0 : CallFix p m c0 cX4_init 2 s args (wsY yX4_init cX4_init 2 none) RX4 := ⟨hx, hb, hml, hown, hts⟩
  have hT : ∀ w ∈ bw, w ∈ wsY yX4_init cX4_init 2 none := fun w h => List.mem_cons_of_mem _ h
  have hK := hE.1.1
  have hS : va_S (rA B) s.heap s.heap [] := va_S.rf
  rw [show entryFrame m args 2 = entryFrame m ([.ref (B + j), .int x1] : List Value).toArray 2 by rw [hargs]]
  have hl := lv_entry ([.ref (B + j), .int x1]) (n := 2) (Nat.le_of_ble_eq_true rfl)
  rw [lg_entry_eq]
  generalize (lg_sl ([.ref (B + j), .int x1]) ++ List.replicate (2 - (lg_sl ([.ref (B + j), .int x1])).length) Slot.unset).toArray = ls at hl ⊢
  show W p l e (rm_Row N) s m args below meth c0 s.heap [] 0 0 _ _
  have hl : lv_has ls 2 [(0, .ref (B + j)), (1, .int x1)] := hl
  refine lv_aload_n hx hb dX4_init_0 rfl (lv_at hl 0 rfl) ?_
  refine W.objInit hx hb hown (C0.2.2.2.2 _ (hT _ ml_X4_3)) (C0.2.2.2.2 _ (hT _ mi_obj)) (C0.2.2.2.2 _ (hT _ mc_obj)) rfl (by rw [hml]; exact hl.1) rfl dX4_init_1 (Nat.le_of_ble_eq_true rfl) (Nat.le_of_ble_eq_true rfl) ?_
  refine W.eq (g2 := F0 m 4 ls []) rfl ?_
  refine lv_aload_n hx hb dX4_init_4 rfl (lv_at hl 0 rfl) ?_
  refine lv_iconst (v := 0) hx hb dX4_init_5 (by decide) ?_
  refine lv_iload_n hx hb dX4_init_6 rfl (lv_at hl 1 rfl) ?_
  refine va_mmax hx hb (C0.2.2.1.trans hl.1.symm) hown (C0.2.2.2.2 _ (hT _ ml_X4_9)) (C0.2.2.2.2 _ (hT _ mt_J9_max_7cf53)) (C0.2.2.2.2 _ (hT _ mz_J9)) (C0.2.2.2.2 _ (hT _ mc_J9_max_7cf53)) (Nat.le_of_ble_eq_true rfl) (Nat.le_of_ble_eq_true rfl) (Nat.zero_le _) (Nat.zero_le _) dX4_init_7 ?_
  refine rg_newa C0 hT hK ma_int hG hS hn hN hN4 (Nat.le_refl 1) (Nat.le_of_eq (Nat.zero_add N)) dX4_init_10 (fun H hG hS => ?_)
  refine rg_put (C := RX4) (T := TX4) (N := 2) (ci := 3) (j := j) (f := 0) (ty := (.array .int)) true C0 hT hK inX4 tyX4 tyX4_ok nmX4 hG hS (by omega) ((va_up_ne _ _ (by omega)).trans he) rfl (by decide) mf_X4_15 rfl (fun _ => hin) rfl (by decide +kernel) rfl rfl (Nat.le_of_ble_eq_true rfl) dX4_init_12 (fun H locs hG hS => ?_)
  refine W.widen (k := 1) (n := N) (Nat.le_refl 1) (Nat.le_of_eq (Nat.zero_add N)) ?_
  exact rg_vret hx hb hr hlocks hG hS dX4_init_15 rfl rfl
def rm_Hdr : Room := { frames := 1, cells := 0, slots := 0, locals := 30 }
set_option maxHeartbeats 4000000 in
set_option maxRecDepth 100000 in
theorem met_X2_init (l : Launch) (dC : Nat → ClassId) (dI : Nat → Nat → Nat) (cyI cyE : ClassId) (tC : Nat) (B : Nat) (k j : Nat) (c : Nat → va_E) : kx l dC dI cyI cyE tC yX2_init cX2_init 1 rm_Hdr [.ref (B + j)] B k c k c := by
  refine Met.ofW (cc := cX2_init) (maxL := 1) (ret := none) (by decide) rfl ?_
  intro p e s m args below meth c0 s₁ B0 hml hv
  obtain ⟨hargs, hG, hE⟩ := hv
  have hx := B0.exec
  have hb := B0.bytes
  have hr := B0.returns
  have hlocks := B0.notSynchronized
  have hin : meth.name = "<init>" := (name_of_methodNamed B0.named B0.method).1
  have hts := atoms_spec (ws := wsY yX2_init cX2_init 1 none) B0.pre
  have hown : s.vm.findClass RX2 = some m.cls := findClass_of_methodNamed B0.named
  have C0 : CallFix p m c0 cX2_init 1 s args (wsY yX2_init cX2_init 1 none) RX2 := ⟨hx, hb, hml, hown, hts⟩
  have hT : ∀ w ∈ bw, w ∈ wsY yX2_init cX2_init 1 none := fun w h => List.mem_cons_of_mem _ h
  have hK := hE.1.1
  have hS : va_S (rA B) s.heap s.heap [] := va_S.rf
  rw [show entryFrame m args 1 = entryFrame m ([.ref (B + j)] : List Value).toArray 1 by rw [hargs]]
  have hl := lv_entry ([.ref (B + j)]) (n := 1) (Nat.le_of_ble_eq_true rfl)
  rw [lg_entry_eq]
  generalize (lg_sl ([.ref (B + j)]) ++ List.replicate (1 - (lg_sl ([.ref (B + j)])).length) Slot.unset).toArray = ls at hl ⊢
  show W p l e rm_Hdr s m args below meth c0 s.heap [] 0 0 _ _
  have hl : lv_has ls 1 [(0, .ref (B + j))] := hl
  refine lv_aload_n hx hb dX2_init_0 rfl (lv_at hl 0 rfl) ?_
  refine W.objInit hx hb hown (C0.2.2.2.2 _ (hT _ ml_X2_3)) (C0.2.2.2.2 _ (hT _ mi_obj)) (C0.2.2.2.2 _ (hT _ mc_obj)) rfl (by rw [hml]; exact hl.1) rfl dX2_init_1 (Nat.le_of_ble_eq_true rfl) (Nat.le_of_ble_eq_true rfl) ?_
  refine W.eq (g2 := F0 m 4 ls []) rfl ?_
  exact rg_vret hx hb hr hlocks hG hS dX2_init_4 rfl rfl
def rm_Ent : Room := { frames := 2, cells := 2, slots := 32, locals := 60 }
set_option maxHeartbeats 4000000 in
set_option maxRecDepth 100000 in
theorem met_X1_init (l : Launch) (dC : Nat → ClassId) (dI : Nat → Nat → Nat) (cyI cyE : ClassId) (tC : Nat) (B : Nat) (k j : Nat) (c : Nat → va_E) (hj : j < k) (he : c j = oEnt .null) : kx l dC dI cyI cyE tC yX1_init cX1_init 1 rm_Ent [.ref (B + j)] B k c (k + 2) (va_up (va_up (va_up (va_up c k (oRow .null 0)) (k + 1) (oArr cyI 30)) k (oRow (.ref (B + (k + 1))) 0)) j (oEnt (.ref (B + k)))) := by
  refine Met.ofW (cc := cX1_init) (maxL := 1) (ret := none) (by decide) rfl ?_
  intro p e s m args below meth c0 s₁ B0 hml hv
  obtain ⟨hargs, hG, hE⟩ := hv
  have hx := B0.exec
  have hb := B0.bytes
  have hr := B0.returns
  have hlocks := B0.notSynchronized
  have hin : meth.name = "<init>" := (name_of_methodNamed B0.named B0.method).1
  have hts := atoms_spec (ws := wsY yX1_init cX1_init 1 none) B0.pre
  have hown : s.vm.findClass RX1 = some m.cls := findClass_of_methodNamed B0.named
  have C0 : CallFix p m c0 cX1_init 1 s args (wsY yX1_init cX1_init 1 none) RX1 := ⟨hx, hb, hml, hown, hts⟩
  have hT : ∀ w ∈ bw, w ∈ wsY yX1_init cX1_init 1 none := fun w h => List.mem_cons_of_mem _ h
  have hK := hE.1.1
  have hS : va_S (rA B) s.heap s.heap [] := va_S.rf
  rw [show entryFrame m args 1 = entryFrame m ([.ref (B + j)] : List Value).toArray 1 by rw [hargs]]
  have hl := lv_entry ([.ref (B + j)]) (n := 1) (Nat.le_of_ble_eq_true rfl)
  rw [lg_entry_eq]
  generalize (lg_sl ([.ref (B + j)]) ++ List.replicate (1 - (lg_sl ([.ref (B + j)])).length) Slot.unset).toArray = ls at hl ⊢
  show W p l e rm_Ent s m args below meth c0 s.heap [] 0 0 _ _
  have hl : lv_has ls 1 [(0, .ref (B + j))] := hl
  refine lv_aload_n hx hb dX1_init_0 rfl (lv_at hl 0 rfl) ?_
  refine W.objInit hx hb hown (C0.2.2.2.2 _ (hT _ ml_X1_3)) (C0.2.2.2.2 _ (hT _ mi_obj)) (C0.2.2.2.2 _ (hT _ mc_obj)) rfl (by rw [hml]; exact hl.1) rfl dX1_init_1 (Nat.le_of_ble_eq_true rfl) (Nat.le_of_ble_eq_true rfl) ?_
  refine W.eq (g2 := F0 m 4 ls []) rfl ?_
  refine lv_aload_n hx hb dX1_init_4 rfl (lv_at hl 0 rfl) ?_
  refine rg_new (C := RX4) (T := TX4) (N := 2) (ci := 3) (fs := [.null, .int 0]) C0 hT hK inX4 tyX4 tyX4_ok mq_X1_9 mn_X4 mz_X4 rfl (fun j hj => by rcases (show j = 0 ∨ j = 1 by omega) with rfl | rfl <;> rfl) hG hS (Nat.le_of_ble_eq_true rfl) (Nat.le_of_ble_eq_true rfl) dX1_init_5 (fun H hG hS => ?_)
  refine lv_dup hx hb dX1_init_8 rfl ?_
  refine lv_bipush (v := 30) hx hb dX1_init_9 (by decide) ?_
  refine rg_callI (j := k) (kn := 1) (k' := k + 2) [.int 30] false C0 hT hE (met_X4_init l dC dI cyI cyE tC B (k + 1) k _ 30 30 (by omega) (va_up_self _ _ _) (by decide) (by decide) (by decide)) hG hS mc_X4_init (fun _ => ml_X1_11) (fun h => by cases h) mi_X4_init mz_X4 rfl (by decide +kernel) ⟨Nat.le_of_ble_eq_true rfl, Nat.le_of_ble_eq_true rfl⟩ rfl rfl hl.1 (Nat.le_of_ble_eq_true rfl) dX1_init_11 ⟨Nat.le_of_ble_eq_true rfl, Nat.le_of_ble_eq_true rfl⟩ (fun H locs hG hS => ?_)
  refine rg_put (C := RX1) (T := TX1) (N := 5) (ci := 0) (j := j) (f := 0) (ty := (.object "ArchiveDesk$Row")) true C0 hT hK inX1 tyX1 tyX1_ok nmX1 hG hS (by omega) (by rw [va_up_ne _ _ (by omega : j ≠ k), va_up_ne _ _ (by omega : j ≠ k + 1), va_up_ne _ _ (by omega : j ≠ k)]; exact he) rfl (by decide) mf_X1_14 rfl (fun _ => hin) rfl (by decide +kernel) rfl rfl (Nat.le_of_ble_eq_true rfl) dX1_init_14 (fun H locs hG hS => ?_)
  exact rg_vret hx hb hr hlocks hG hS dX1_init_17 rfl rfl
def rm_Rd : Room := { frames := 2, cells := 5, slots := 1547, locals := 60 }
def rdC (cyI : ClassId) (B : Nat) (c : Nat → va_E) (n : Nat) : va_E := if n = 71 then .inr (2, [.ref (B + 72), .ref (B + 73), .ref (B + 74), .ref (B + 75), .int 0, .int 0, .int 0, .int (-1), .int (-1), .int (-1)]) else if n = 72 then oArr cyI 20 else if n = 73 then oArr cyI 20 else if n = 74 then .inr (1, [.int 0, .int 0, .long 0, .long 0, .int 0]) else if n = 75 then oRow (.ref (B + 76)) 0 else if n = 76 then oArr cyI 1500 else c n
set_option maxHeartbeats 4000000 in
set_option maxRecDepth 100000 in
theorem met_X3_init (l : Launch) (dC : Nat → ClassId) (dI : Nat → Nat → Nat) (cyI cyE : ClassId) (tC : Nat) (B : Nat) (c : Nat → va_E) (he : c 71 = .inr (2, [.null, .null, .null, .null, .int 0, .int 0, .int 0, .int 0, .int 0, .int 0])) : kx l dC dI cyI cyE tC yX3_init cX3_init 1 rm_Rd [.ref (B + 71)] B 72 c 77 (rdC cyI B c) := by
  refine Met.ofW (cc := cX3_init) (maxL := 1) (ret := none) (by decide) rfl ?_
  intro p e s m args below meth c0 s₁ B0 hml hv
  obtain ⟨hargs, hG, hE⟩ := hv
  have hx := B0.exec
  have hb := B0.bytes
  have hr := B0.returns
  have hlocks := B0.notSynchronized
  have hin : meth.name = "<init>" := (name_of_methodNamed B0.named B0.method).1
  have hts := atoms_spec (ws := wsY yX3_init cX3_init 1 none) B0.pre
  have hown : s.vm.findClass RX3 = some m.cls := findClass_of_methodNamed B0.named
  have C0 : CallFix p m c0 cX3_init 1 s args (wsY yX3_init cX3_init 1 none) RX3 := ⟨hx, hb, hml, hown, hts⟩
  have hT : ∀ w ∈ bw, w ∈ wsY yX3_init cX3_init 1 none := fun w h => List.mem_cons_of_mem _ h
  have hK := hE.1.1
  have hS : va_S (rA B) s.heap s.heap [] := va_S.rf
  rw [show entryFrame m args 1 = entryFrame m ([.ref (B + 71)] : List Value).toArray 1 by rw [hargs]]
  have hl := lv_entry ([.ref (B + 71)]) (n := 1) (Nat.le_of_ble_eq_true rfl)
  rw [lg_entry_eq]
  generalize (lg_sl ([.ref (B + 71)]) ++ List.replicate (1 - (lg_sl ([.ref (B + 71)])).length) Slot.unset).toArray = ls at hl ⊢
  show W p l e rm_Rd s m args below meth c0 s.heap [] 0 0 _ _
  have hl : lv_has ls 1 [(0, .ref (B + 71))] := hl
  refine lv_aload_n hx hb dX3_init_0 rfl (lv_at hl 0 rfl) ?_
  refine W.objInit hx hb hown (C0.2.2.2.2 _ (hT _ ml_X3_3)) (C0.2.2.2.2 _ (hT _ mi_obj)) (C0.2.2.2.2 _ (hT _ mc_obj)) rfl (by rw [hml]; exact hl.1) rfl dX3_init_1 (Nat.le_of_ble_eq_true rfl) (Nat.le_of_ble_eq_true rfl) ?_
  refine W.eq (g2 := F0 m 4 ls []) rfl ?_
  refine lv_aload_n hx hb dX3_init_4 rfl (lv_at hl 0 rfl) ?_
  refine lv_bipush (v := 20) hx hb dX3_init_5 (by decide) ?_
  refine rg_newa (N := 20) C0 hT hK ma_int hG hS (by decide) (by decide) (by decide) (Nat.le_of_ble_eq_true rfl) (Nat.le_of_ble_eq_true rfl) dX3_init_7 (fun H hG hS => ?_)
  refine rg_put (C := RX3) (T := TX3) (N := 10) (ci := 2) (j := 71) (f := 0) (ty := (.array .int)) true C0 hT hK inX3 tyX3 tyX3_ok nmX3 hG hS (by decide) (by first | rfl | exact he | (simp only [va_up]; first | rfl | exact he)) rfl (by decide) mf_X3_9 rfl (fun _ => hin) rfl (by decide +kernel) rfl rfl (Nat.le_of_ble_eq_true rfl) dX3_init_9 (fun H locs hG hS => ?_)
  refine lv_aload_n hx hb dX3_init_12 rfl (lv_at hl 0 rfl) ?_
  refine lv_bipush (v := 20) hx hb dX3_init_13 (by decide) ?_
  refine rg_newa (N := 20) C0 hT hK ma_int hG hS (by decide) (by decide) (by decide) (Nat.le_of_ble_eq_true rfl) (Nat.le_of_ble_eq_true rfl) dX3_init_15 (fun H hG hS => ?_)
  refine rg_put (C := RX3) (T := TX3) (N := 10) (ci := 2) (j := 71) (f := 1) (ty := (.array .int)) true C0 hT hK inX3 tyX3 tyX3_ok nmX3 hG hS (by decide) (by first | rfl | exact he | (simp only [va_up]; first | rfl | exact he)) rfl (by decide) mf_X3_15 rfl (fun _ => hin) rfl (by decide +kernel) rfl rfl (Nat.le_of_ble_eq_true rfl) dX3_init_17 (fun H locs hG hS => ?_)
  refine lv_aload_n hx hb dX3_init_20 rfl (lv_at hl 0 rfl) ?_
  refine rg_new (C := RX2) (T := TX2) (N := 5) (ci := 1) (fs := [.int 0, .int 0, .long 0, .long 0, .int 0]) C0 hT hK inX2 tyX2 tyX2_ok mq_X3_18 mn_X2 mz_X2 rfl (fun j hj => by rcases (show j = 0 ∨ j = 1 ∨ j = 2 ∨ j = 3 ∨ j = 4 by omega) with rfl | rfl | rfl | rfl | rfl <;> rfl) hG hS (Nat.le_of_ble_eq_true rfl) (Nat.le_of_ble_eq_true rfl) dX3_init_21 (fun H hG hS => ?_)
  refine lv_dup hx hb dX3_init_24 rfl ?_
  refine rg_callI (j := 74) (kn := 0) (k' := 75) [] true C0 hT hE (met_X2_init l dC dI cyI cyE tC B 75 74 _) hG hS mc_X2_init (fun h => by cases h) (fun h => by decide) mi_X2_init mz_X2 rfl (by decide +kernel) ⟨Nat.le_of_ble_eq_true rfl, Nat.le_of_ble_eq_true rfl⟩ rfl rfl hl.1 (Nat.le_of_ble_eq_true rfl) dX3_init_25 ⟨Nat.le_of_ble_eq_true rfl, Nat.le_of_ble_eq_true rfl⟩ (fun H locs hG hS => ?_)
  refine rg_put (C := RX3) (T := TX3) (N := 10) (ci := 2) (j := 71) (f := 2) (ty := (.object "ArchiveDesk$Header")) true C0 hT hK inX3 tyX3 tyX3_ok nmX3 hG hS (by decide) (by first | rfl | exact he | (simp only [va_up]; first | rfl | exact he)) rfl (by decide) mf_X3_21 rfl (fun _ => hin) rfl (by decide +kernel) rfl rfl (Nat.le_of_ble_eq_true rfl) dX3_init_28 (fun H locs hG hS => ?_)
  refine lv_aload_n hx hb dX3_init_31 rfl (lv_at hl 0 rfl) ?_
  refine rg_new (C := RX4) (T := TX4) (N := 2) (ci := 3) (fs := [.null, .int 0]) C0 hT hK inX4 tyX4 tyX4_ok mq_X3_25 mn_X4 mz_X4 rfl (fun j hj => by rcases (show j = 0 ∨ j = 1 by omega) with rfl | rfl <;> rfl) hG hS (Nat.le_of_ble_eq_true rfl) (Nat.le_of_ble_eq_true rfl) dX3_init_32 (fun H hG hS => ?_)
  refine lv_dup hx hb dX3_init_35 rfl ?_
  refine lv_sipush (v := 1500) hx hb dX3_init_36 (by decide) ?_
  refine rg_callI (j := 75) (kn := 1) (k' := 77) [.int 1500] false C0 hT hE (met_X4_init l dC dI cyI cyE tC B 76 75 _ 1500 1500 (by decide) rfl (by decide) (by decide) (by decide)) hG hS mc_X4_init (fun h => ml_X3_27) (fun h => by cases h) mi_X4_init mz_X4 rfl (by decide +kernel) ⟨Nat.le_of_ble_eq_true rfl, Nat.le_of_ble_eq_true rfl⟩ rfl rfl hl.1 (Nat.le_of_ble_eq_true rfl) dX3_init_39 ⟨Nat.le_of_ble_eq_true rfl, Nat.le_of_ble_eq_true rfl⟩ (fun H locs hG hS => ?_)
  refine rg_put (C := RX3) (T := TX3) (N := 10) (ci := 2) (j := 71) (f := 3) (ty := (.object "ArchiveDesk$Row")) true C0 hT hK inX3 tyX3 tyX3_ok nmX3 hG hS (by decide) (by first | rfl | exact he | (simp only [va_up]; first | rfl | exact he)) rfl (by decide) mf_X3_30 rfl (fun _ => hin) rfl (by decide +kernel) rfl rfl (Nat.le_of_ble_eq_true rfl) dX3_init_42 (fun H locs hG hS => ?_)
  refine lv_aload_n hx hb dX3_init_45 rfl (lv_at hl 0 rfl) ?_
  refine lv_iconst (v := -1) hx hb dX3_init_46 (by decide) ?_
  refine rg_put (C := RX3) (T := TX3) (N := 10) (ci := 2) (j := 71) (f := 7) (ty := .int) false C0 hT hK inX3 tyX3 tyX3_ok nmX3 hG hS (by decide) (by first | rfl | exact he | (simp only [va_up]; first | rfl | exact he)) rfl (by decide) mf_X3_34 rfl (fun _ => hin) rfl (by decide +kernel) rfl rfl (Nat.le_of_ble_eq_true rfl) dX3_init_47 (fun H locs hG hS => ?_)
  refine lv_aload_n hx hb dX3_init_50 rfl (lv_at hl 0 rfl) ?_
  refine lv_iconst (v := -1) hx hb dX3_init_51 (by decide) ?_
  refine rg_put (C := RX3) (T := TX3) (N := 10) (ci := 2) (j := 71) (f := 8) (ty := .int) false C0 hT hK inX3 tyX3 tyX3_ok nmX3 hG hS (by decide) (by first | rfl | exact he | (simp only [va_up]; first | rfl | exact he)) rfl (by decide) mf_X3_38 rfl (fun _ => hin) rfl (by decide +kernel) rfl rfl (Nat.le_of_ble_eq_true rfl) dX3_init_52 (fun H locs hG hS => ?_)
  refine lv_aload_n hx hb dX3_init_55 rfl (lv_at hl 0 rfl) ?_
  refine lv_iconst (v := -1) hx hb dX3_init_56 (by decide) ?_
  refine rg_put (C := RX3) (T := TX3) (N := 10) (ci := 2) (j := 71) (f := 9) (ty := .int) false C0 hT hK inX3 tyX3 tyX3_ok nmX3 hG hS (by decide) (by first | rfl | exact he | (simp only [va_up]; first | rfl | exact he)) rfl (by decide) mf_X3_41 rfl (fun _ => hin) rfl (by decide +kernel) rfl rfl (Nat.le_of_ble_eq_true rfl) dX3_init_57 (fun H locs hG hS => ?_)
  refine rg_vret hx hb hr hlocks (rg_congr hG (c' := rdC cyI B c) (fun i hi => ?_)) hS dX3_init_60 rfl rfl
  by_cases h1 : i < 71
  · simp [rdC, va_up, show i ≠ 71 by omega, show i ≠ 72 by omega, show i ≠ 73 by omega, show i ≠ 74 by omega, show i ≠ 75 by omega, show i ≠ 76 by omega]
  · rcases (show i = 71 ∨ i = 72 ∨ i = 73 ∨ i = 74 ∨ i = 75 ∨ i = 76 by omega) with rfl | rfl | rfl | rfl | rfl | rfl <;> rfl
