set_option maxHeartbeats 4000000 in
set_option maxRecDepth 100000 in
theorem LM_isOpen_19 {p : Program} {l : Launch} {e : Env} {s : State} {m : MethodId} {below : List Frame} {meth : Method} {c : Code} {D : va_G} {sa : Nat → Nat} {ad : Nat → Nat} {ca : Nat → ClassId} {A : Nat → Prop} {y1 : Int32} {po : Int32 → wF → wA → wB → Prop} (X : cx Wl (tyS ca) txS D vwCl sa A p l s m ([.ref (ad 0), .int y1] : List Value).toArray meth c cM_isOpen 2 "SendBestModel") (hex : ∀ x ∈ c.exceptionTable.toList, False) (hr : meth.sig.returnType = (some .boolean)) : ∀ (k0 : Int32) (f : wF) (a : wA) (b : wB), wp_M_isOpen_19 po k0 f a b → ∀ (H : Heap) (locs : List Loc), wd nM kM D vwCl ad ca A s H locs f a b → ∀ (ls : Array Slot), lv_has ls 2 [] → W p l e ({ frames := 0, cells := 0, slots := 0, locals := 0 }) s m ([.ref (ad 0), .int y1] : List Value).toArray below meth c H locs 0 0 (vx_MQ below (va_Qi (fun r (u : wF × wA × wB) => po r u.1 u.2.1 u.2.2) (sPost nM kM D vwCl ad ca A) A) (sX nM kM D vwCl ad ca A (fun _ _ _ _ => False)) ([.ref (ad 0), .int y1] : List Value).toArray s 0 0 A) (F0 m 19 ls [.int k0]) := by
  obtain ⟨hx, hb, hml, hown, hts, hK, hA, hth, hlk, hl9⟩ := id X
  intro k0 f a b hw H locs K ls hl
  dsimp only [wp_M_isOpen_19] at hw
  exact endI X K hr hw.1 hw.2 (by decide) (by decide) dM_isOpen_19
set_option maxHeartbeats 4000000 in
set_option maxRecDepth 100000 in
theorem met_M_isOpen {l : Launch} (hl9 : l.stackTraces = false) (D : va_G) (ad : Nat → Nat) (ca : Nat → ClassId) (sa : Nat → Nat) (sz : Nat) (x1 : Int32) (f : wF) (a : wA) (b : wB) (po : Int32 → wF → wA → wB → Prop) (hw : wp_M_isOpen po x1 f a b) : mI nM kM (tyS ca) txS D vwCl l yM_isOpen (Cond.code yM_isOpen cM_isOpen 2 (some .boolean) :: Wl) ({ frames := 0, cells := 0, slots := 0, locals := 0 }) [.ref (ad 0), .int x1] ad ca sa sz f a b po (fun _ _ _ _ => False) 0 0 := by
  refine ofI (by decide) hl9 (Nat.le_of_ble_eq_true rfl) ?_
  intro p e s m below meth c ls X hex hr K hl
  obtain ⟨hx, hb, hml, hown, hts, hK, hA, hth, hlk, hl9⟩ := id X
  have hl : lv_has ls 2 [(0, .ref (ad 0)), (1, .int x1)] := hl
  dsimp only [wp_M_isOpen] at hw
  refine lv_aload_n hx hb dM_isOpen_0 rfl (lv_at hl 0 rfl) ?_
  refine gGet X K (o := 0) (k := 7) (v := .ref (ad 5)) (by decide) kM_o0 rfl inM_o0 (by decide) (tm3 (i := 110) rfl rfl) rfl dM_isOpen_1 ?_
  refine lv_aload_n hx hb dM_isOpen_4 rfl (lv_at hl 0 rfl) ?_
  refine gGet X K (o := 0) (k := 9) (v := .ref (ad 6)) (by decide) kM_o0 rfl inM_o0 (by decide) (tm3 (i := 112) rfl rfl) rfl dM_isOpen_5 ?_
  refine lv_iload_n hx hb dM_isOpen_8 rfl (lv_at hl 1 rfl) ?_
  obtain ⟨hi, hw⟩ := hw
  refine gild X K (o := 6) (t0 := 0) (by decide) kM_c6 rfl hi dM_isOpen_9 ?_
  obtain ⟨hi, hw⟩ := hw
  refine gzld X K (o := 5) (t0 := 1) (by decide) kM_c5 rfl hi dM_isOpen_10 ?_
  refine lv_if_ne (tgt := 18) hx hb dM_isOpen_11 (by decide) (fun hc => ?_) (fun hc => ?_)
  · replace hw := hw.1 hc
    refine lv_iconst (v := (0 : Int32)) hx hb dM_isOpen_18 (by decide) ?_
    exact LM_isOpen_19 X hex hr (0 : Int32) f a b hw _ _ K _ (lv_sub hl [] rfl)
  · replace hw := hw.2 hc
    refine lv_iconst (v := (1 : Int32)) hx hb dM_isOpen_14 (by decide) ?_
    refine lv_goto (tgt := 19) hx hb dM_isOpen_15 (by decide) ?_
    exact LM_isOpen_19 X hex hr (1 : Int32) f a b hw _ _ K _ (lv_sub hl [] rfl)
set_option maxHeartbeats 4000000 in
set_option maxRecDepth 100000 in
theorem LM_canFill_78 {p : Program} {l : Launch} {e : Env} {s : State} {m : MethodId} {below : List Frame} {meth : Method} {c : Code} {D : va_G} {sa : Nat → Nat} {ad : Nat → Nat} {ca : Nat → ClassId} {A : Nat → Prop} {y1 : Int32} {y2 : Int32} {po : Int32 → wF → wA → wB → Prop} (X : cx Wl (tyS ca) txS D vwCl sa A p l s m ([.ref (ad 0), .int y1, .int y2] : List Value).toArray meth c cM_canFill 5 "SendBestModel") (hex : ∀ x ∈ c.exceptionTable.toList, False) (hr : meth.sig.returnType = (some .boolean)) : ∀ (k0 : Int32) (f : wF) (a : wA) (b : wB), wp_M_canFill_78 po k0 f a b → ∀ (H : Heap) (locs : List Loc), wd nM kM D vwCl ad ca A s H locs f a b → ∀ (ls : Array Slot), lv_has ls 5 [] → W p l e ({ frames := 0, cells := 0, slots := 0, locals := 0 }) s m ([.ref (ad 0), .int y1, .int y2] : List Value).toArray below meth c H locs 0 0 (vx_MQ below (va_Qi (fun r (u : wF × wA × wB) => po r u.1 u.2.1 u.2.2) (sPost nM kM D vwCl ad ca A) A) (sX nM kM D vwCl ad ca A (fun _ _ _ _ => False)) ([.ref (ad 0), .int y1, .int y2] : List Value).toArray s 0 0 A) (F0 m 78 ls [.int k0]) := by
  obtain ⟨hx, hb, hml, hown, hts, hK, hA, hth, hlk, hl9⟩ := id X
  intro k0 f a b hw H locs K ls hl
  dsimp only [wp_M_canFill_78] at hw
  exact endI X K hr hw.1 hw.2 (by decide) (by decide) dM_canFill_78
set_option maxHeartbeats 4000000 in
set_option maxRecDepth 100000 in
theorem LM_canFill_77 {p : Program} {l : Launch} {e : Env} {s : State} {m : MethodId} {below : List Frame} {meth : Method} {c : Code} {D : va_G} {sa : Nat → Nat} {ad : Nat → Nat} {ca : Nat → ClassId} {A : Nat → Prop} {y1 : Int32} {y2 : Int32} {po : Int32 → wF → wA → wB → Prop} (X : cx Wl (tyS ca) txS D vwCl sa A p l s m ([.ref (ad 0), .int y1, .int y2] : List Value).toArray meth c cM_canFill 5 "SendBestModel") (hex : ∀ x ∈ c.exceptionTable.toList, False) (hr : meth.sig.returnType = (some .boolean)) : ∀ (f : wF) (a : wA) (b : wB), wp_M_canFill_77 po f a b → ∀ (H : Heap) (locs : List Loc), wd nM kM D vwCl ad ca A s H locs f a b → ∀ (ls : Array Slot), lv_has ls 5 [] → W p l e ({ frames := 0, cells := 0, slots := 0, locals := 0 }) s m ([.ref (ad 0), .int y1, .int y2] : List Value).toArray below meth c H locs 0 0 (vx_MQ below (va_Qi (fun r (u : wF × wA × wB) => po r u.1 u.2.1 u.2.2) (sPost nM kM D vwCl ad ca A) A) (sX nM kM D vwCl ad ca A (fun _ _ _ _ => False)) ([.ref (ad 0), .int y1, .int y2] : List Value).toArray s 0 0 A) (F0 m 77 ls []) := by
  obtain ⟨hx, hb, hml, hown, hts, hK, hA, hth, hlk, hl9⟩ := id X
  intro  f a b hw H locs K ls hl
  dsimp only [wp_M_canFill_77] at hw
  refine lv_iconst (v := (0 : Int32)) hx hb dM_canFill_77 (by decide) ?_
  exact LM_canFill_78 X hex hr (0 : Int32) f a b hw _ _ K _ (lv_sub hl [] rfl)
set_option maxHeartbeats 4000000 in
set_option maxRecDepth 100000 in
theorem LM_canFill_73 {p : Program} {l : Launch} {e : Env} {s : State} {m : MethodId} {below : List Frame} {meth : Method} {c : Code} {D : va_G} {sa : Nat → Nat} {ad : Nat → Nat} {ca : Nat → ClassId} {A : Nat → Prop} {y1 : Int32} {y2 : Int32} {po : Int32 → wF → wA → wB → Prop} (X : cx Wl (tyS ca) txS D vwCl sa A p l s m ([.ref (ad 0), .int y1, .int y2] : List Value).toArray meth c cM_canFill 5 "SendBestModel") (hex : ∀ x ∈ c.exceptionTable.toList, False) (hr : meth.sig.returnType = (some .boolean)) : ∀ (f : wF) (a : wA) (b : wB), wp_M_canFill_73 po f a b → ∀ (H : Heap) (locs : List Loc), wd nM kM D vwCl ad ca A s H locs f a b → ∀ (ls : Array Slot), lv_has ls 5 [] → W p l e ({ frames := 0, cells := 0, slots := 0, locals := 0 }) s m ([.ref (ad 0), .int y1, .int y2] : List Value).toArray below meth c H locs 0 0 (vx_MQ below (va_Qi (fun r (u : wF × wA × wB) => po r u.1 u.2.1 u.2.2) (sPost nM kM D vwCl ad ca A) A) (sX nM kM D vwCl ad ca A (fun _ _ _ _ => False)) ([.ref (ad 0), .int y1, .int y2] : List Value).toArray s 0 0 A) (F0 m 73 ls []) := by
  obtain ⟨hx, hb, hml, hown, hts, hK, hA, hth, hlk, hl9⟩ := id X
  intro  f a b hw H locs K ls hl
  dsimp only [wp_M_canFill_73] at hw
  refine lv_iconst (v := (1 : Int32)) hx hb dM_canFill_73 (by decide) ?_
  refine lv_goto (tgt := 78) hx hb dM_canFill_74 (by decide) ?_
  exact LM_canFill_78 X hex hr (1 : Int32) f a b hw _ _ K _ (lv_sub hl [] rfl)
set_option maxHeartbeats 4000000 in
set_option maxRecDepth 100000 in
theorem met_M_canFill {l : Launch} (hl9 : l.stackTraces = false) (D : va_G) (ad : Nat → Nat) (ca : Nat → ClassId) (sa : Nat → Nat) (sz : Nat) (x1 : Int32) (x2 : Int32) (f : wF) (a : wA) (b : wB) (po : Int32 → wF → wA → wB → Prop) (hw : wp_M_canFill po x1 x2 f a b) : mI nM kM (tyS ca) txS D vwCl l yM_canFill (Cond.code yM_canFill cM_canFill 5 (some .boolean) :: Wl) ({ frames := 0, cells := 0, slots := 0, locals := 0 }) [.ref (ad 0), .int x1, .int x2] ad ca sa sz f a b po (fun _ _ _ _ => False) 0 0 := by
  refine ofI (by decide) hl9 (Nat.le_of_ble_eq_true rfl) ?_
  intro p e s m below meth c ls X hex hr K hl
  obtain ⟨hx, hb, hml, hown, hts, hK, hA, hth, hlk, hl9⟩ := id X
  have hl : lv_has ls 5 [(0, .ref (ad 0)), (1, .int x1), (2, .int x2)] := hl
  dsimp only [wp_M_canFill] at hw
  refine lv_aload_n hx hb dM_canFill_0 rfl (lv_at hl 0 rfl) ?_
  refine gGet X K (o := 0) (k := 4) (v := .ref (ad 3)) (by decide) kM_o0 rfl inM_o0 (by decide) (tm3 (i := 107) rfl rfl) rfl dM_canFill_1 ?_
  refine lv_bipush (v := (6 : Int32)) hx hb dM_canFill_4 (by decide) ?_
  refine lv_iload_n hx hb dM_canFill_6 rfl (lv_at hl 1 rfl) ?_
  refine lv_imul hx hb dM_canFill_7 ?_
  refine lv_aload_n hx hb dM_canFill_8 rfl (lv_at hl 0 rfl) ?_
  refine gGet X K (o := 0) (k := 9) (v := .ref (ad 6)) (by decide) kM_o0 rfl inM_o0 (by decide) (tm3 (i := 112) rfl rfl) rfl dM_canFill_9 ?_
  refine lv_iload_n hx hb dM_canFill_12 rfl (lv_at hl 2 rfl) ?_
  obtain ⟨hi, hw⟩ := hw
  refine gild X K (o := 6) (t0 := 0) (by decide) kM_c6 rfl hi dM_canFill_13 ?_
  refine lv_iadd hx hb dM_canFill_14 ?_
  obtain ⟨hi, hw⟩ := hw
  refine gild X K (o := 3) (t0 := 0) (by decide) kM_c3 rfl hi dM_canFill_15 ?_
  refine lv_istore_n (lv' := [(3, .int (a 3 (((6 : Int32) * x1) + (a 6 x2.toNatClampNeg)).toNatClampNeg)), (0, .ref (ad 0)), (1, .int x1), (2, .int x2)]) hx hb dM_canFill_16 rfl hl (by decide) rfl (fun ls hl => ?_)
  refine lv_aload_n hx hb dM_canFill_17 rfl (lv_at hl 1 rfl) ?_
  refine gGet X K (o := 0) (k := 13) (v := .ref (ad 10)) (by decide) kM_o0 rfl inM_o0 (by decide) (tm3 (i := 116) rfl rfl) rfl dM_canFill_18 ?_
  refine lv_aload_n hx hb dM_canFill_21 rfl (lv_at hl 1 rfl) ?_
  refine gGet X K (o := 0) (k := 10) (v := .ref (ad 7)) (by decide) kM_o0 rfl inM_o0 (by decide) (tm3 (i := 113) rfl rfl) rfl dM_canFill_22 ?_
  refine lv_iload_n hx hb dM_canFill_25 rfl (lv_at hl 3 rfl) ?_
  obtain ⟨hi, hw⟩ := hw
  refine gild X K (o := 7) (t0 := 0) (by decide) kM_c7 rfl hi dM_canFill_26 ?_
  obtain ⟨hi, hw⟩ := hw
  refine gild X K (o := 10) (t0 := 0) (by decide) kM_c10 rfl hi dM_canFill_27 ?_
  refine lv_istore (lv' := [(4, .int (a 10 (a 7 x2.toNatClampNeg).toNatClampNeg)), (3, .int (a 3 (((6 : Int32) * x1) + (a 6 x2.toNatClampNeg)).toNatClampNeg)), (0, .ref (ad 0)), (1, .int x1), (2, .int x2)]) hx hb dM_canFill_28 hl (by decide) rfl (fun ls hl => ?_)
  refine lv_aload_n hx hb dM_canFill_30 rfl (lv_at hl 2 rfl) ?_
  refine gGet X K (o := 0) (k := 3) (v := .ref (ad 2)) (by decide) kM_o0 rfl inM_o0 (by decide) (tm3 (i := 106) rfl rfl) rfl dM_canFill_31 ?_
  refine lv_iload_n hx hb dM_canFill_34 rfl (lv_at hl 3 rfl) ?_
  obtain ⟨hi, hw⟩ := hw
  refine gzld X K (o := 2) (t0 := 1) (by decide) kM_c2 rfl hi dM_canFill_35 ?_
  refine lv_if_ne (tgt := 77) hx hb dM_canFill_36 (by decide) (fun hc => ?_) (fun hc => ?_)
  · replace hw := hw.1 hc
    exact LM_canFill_77 X hex hr f a b hw _ _ K _ (lv_sub hl [] rfl)
  · replace hw := hw.2 hc
    refine lv_aload_n hx hb dM_canFill_39 rfl (lv_at hl 2 rfl) ?_
    refine gGet X K (o := 0) (k := 2) (v := .ref (ad 1)) (by decide) kM_o0 rfl inM_o0 (by decide) (tm3 (i := 105) rfl rfl) rfl dM_canFill_40 ?_
    refine lv_iload_n hx hb dM_canFill_43 rfl (lv_at hl 3 rfl) ?_
    obtain ⟨hi, hw⟩ := hw
    refine gild X K (o := 1) (t0 := 0) (by decide) kM_c1 rfl hi dM_canFill_44 ?_
    refine lv_aload_n hx hb dM_canFill_45 rfl (lv_at hl 2 rfl) ?_
    refine gGet X K (o := 0) (k := 10) (v := .ref (ad 7)) (by decide) kM_o0 rfl inM_o0 (by decide) (tm3 (i := 113) rfl rfl) rfl dM_canFill_46 ?_
    refine lv_iload_n hx hb dM_canFill_49 rfl (lv_at hl 4 rfl) ?_
    obtain ⟨hi, hw⟩ := hw
    refine gild X K (o := 7) (t0 := 0) (by decide) kM_c7 rfl hi dM_canFill_50 ?_
    refine lv_ishr hx hb dM_canFill_51 ?_
    refine lv_iconst (v := (1 : Int32)) hx hb dM_canFill_52 (by decide) ?_
    refine lv_iand hx hb dM_canFill_53 ?_
    refine lv_iconst (v := (1 : Int32)) hx hb dM_canFill_54 (by decide) ?_
    refine lv_icmp_ne (tgt := 77) hx hb dM_canFill_55 (by decide) (fun hc => ?_) (fun hc => ?_)
    · replace hw := hw.1 hc
      exact LM_canFill_77 X hex hr f a b hw _ _ K _ (lv_sub hl [] rfl)
    · replace hw := hw.2 hc
      refine lv_iload_n hx hb dM_canFill_58 rfl (lv_at hl 1 rfl) ?_
      refine lv_if_lt (tgt := 77) hx hb dM_canFill_59 (by decide) (fun hc => ?_) (fun hc => ?_)
      · replace hw := hw.1 hc
        exact LM_canFill_77 X hex hr f a b hw _ _ K _ (lv_sub hl [] rfl)
      · replace hw := hw.2 hc
        refine lv_iload hx hb dM_canFill_62 (lv_at hl 0 rfl) ?_
        refine lv_if_lt (tgt := 73) hx hb dM_canFill_64 (by decide) (fun hc => ?_) (fun hc => ?_)
        · replace hw := hw.1 hc
          exact LM_canFill_73 X hex hr f a b hw _ _ K _ (lv_sub hl [] rfl)
        · replace hw := hw.2 hc
          refine lv_iload_n hx hb dM_canFill_67 rfl (lv_at hl 1 rfl) ?_
          refine lv_iload hx hb dM_canFill_68 (lv_at hl 0 rfl) ?_
          refine lv_icmp_gt (tgt := 77) hx hb dM_canFill_70 (by decide) (fun hc => ?_) (fun hc => ?_)
          · replace hw := hw.1 hc
            exact LM_canFill_77 X hex hr f a b hw _ _ K _ (lv_sub hl [] rfl)
          · replace hw := hw.2 hc
            exact LM_canFill_73 X hex hr f a b hw _ _ K _ (lv_sub hl [] rfl)
set_option maxHeartbeats 4000000 in
set_option maxRecDepth 100000 in
theorem LM_isFixed_45 {p : Program} {l : Launch} {e : Env} {s : State} {m : MethodId} {below : List Frame} {meth : Method} {c : Code} {D : va_G} {sa : Nat → Nat} {ad : Nat → Nat} {ca : Nat → ClassId} {A : Nat → Prop} {y1 : Int32} {po : Int32 → wF → wA → wB → Prop} (X : cx Wl (tyS ca) txS D vwCl sa A p l s m ([.ref (ad 0), .int y1] : List Value).toArray meth c cM_isFixed 2 "SendBestModel") (hex : ∀ x ∈ c.exceptionTable.toList, False) (hr : meth.sig.returnType = (some .boolean)) : ∀ (k0 : Int32) (f : wF) (a : wA) (b : wB), wp_M_isFixed_45 po k0 f a b → ∀ (H : Heap) (locs : List Loc), wd nM kM D vwCl ad ca A s H locs f a b → ∀ (ls : Array Slot), lv_has ls 2 [] → W p l e ({ frames := 1, cells := 0, slots := 0, locals := 24 }) s m ([.ref (ad 0), .int y1] : List Value).toArray below meth c H locs 0 0 (vx_MQ below (va_Qi (fun r (u : wF × wA × wB) => po r u.1 u.2.1 u.2.2) (sPost nM kM D vwCl ad ca A) A) (sX nM kM D vwCl ad ca A (fun _ _ _ _ => False)) ([.ref (ad 0), .int y1] : List Value).toArray s 0 0 A) (F0 m 45 ls [.int k0]) := by
  obtain ⟨hx, hb, hml, hown, hts, hK, hA, hth, hlk, hl9⟩ := id X
  intro k0 f a b hw H locs K ls hl
  dsimp only [wp_M_isFixed_45] at hw
  exact endI X K hr hw.1 hw.2 (by decide) (by decide) dM_isFixed_45
set_option maxHeartbeats 4000000 in
set_option maxRecDepth 100000 in
theorem LM_isFixed_44 {p : Program} {l : Launch} {e : Env} {s : State} {m : MethodId} {below : List Frame} {meth : Method} {c : Code} {D : va_G} {sa : Nat → Nat} {ad : Nat → Nat} {ca : Nat → ClassId} {A : Nat → Prop} {y1 : Int32} {po : Int32 → wF → wA → wB → Prop} (X : cx Wl (tyS ca) txS D vwCl sa A p l s m ([.ref (ad 0), .int y1] : List Value).toArray meth c cM_isFixed 2 "SendBestModel") (hex : ∀ x ∈ c.exceptionTable.toList, False) (hr : meth.sig.returnType = (some .boolean)) : ∀ (f : wF) (a : wA) (b : wB), wp_M_isFixed_44 po f a b → ∀ (H : Heap) (locs : List Loc), wd nM kM D vwCl ad ca A s H locs f a b → ∀ (ls : Array Slot), lv_has ls 2 [] → W p l e ({ frames := 1, cells := 0, slots := 0, locals := 24 }) s m ([.ref (ad 0), .int y1] : List Value).toArray below meth c H locs 0 0 (vx_MQ below (va_Qi (fun r (u : wF × wA × wB) => po r u.1 u.2.1 u.2.2) (sPost nM kM D vwCl ad ca A) A) (sX nM kM D vwCl ad ca A (fun _ _ _ _ => False)) ([.ref (ad 0), .int y1] : List Value).toArray s 0 0 A) (F0 m 44 ls []) := by
  obtain ⟨hx, hb, hml, hown, hts, hK, hA, hth, hlk, hl9⟩ := id X
  intro  f a b hw H locs K ls hl
  dsimp only [wp_M_isFixed_44] at hw
  refine lv_iconst (v := (0 : Int32)) hx hb dM_isFixed_44 (by decide) ?_
  exact LM_isFixed_45 X hex hr (0 : Int32) f a b hw _ _ K _ (lv_sub hl [] rfl)
set_option maxHeartbeats 4000000 in
set_option maxRecDepth 100000 in
theorem met_M_isFixed {l : Launch} (hl9 : l.stackTraces = false) (D : va_G) (ad : Nat → Nat) (ca : Nat → ClassId) (sa : Nat → Nat) (sz : Nat) (x1 : Int32) (f : wF) (a : wA) (b : wB) (po : Int32 → wF → wA → wB → Prop) (hw : wp_M_isFixed po x1 f a b) : mI nM kM (tyS ca) txS D vwCl l yM_isFixed (Cond.code yM_isFixed cM_isFixed 2 (some .boolean) :: Wl) ({ frames := 1, cells := 0, slots := 0, locals := 24 }) [.ref (ad 0), .int x1] ad ca sa sz f a b po (fun _ _ _ _ => False) 0 0 := by
  refine ofI (by decide) hl9 (Nat.le_of_ble_eq_true rfl) ?_
  intro p e s m below meth c ls X hex hr K hl
  obtain ⟨hx, hb, hml, hown, hts, hK, hA, hth, hlk, hl9⟩ := id X
  have hl : lv_has ls 2 [(0, .ref (ad 0)), (1, .int x1)] := hl
  dsimp only [wp_M_isFixed] at hw
  refine lv_aload_n hx hb dM_isFixed_0 rfl (lv_at hl 0 rfl) ?_
  refine lv_iload_n hx hb dM_isFixed_1 rfl (lv_at hl 1 rfl) ?_
  refine gcI X K (n0 := 1) (As := [.int x1]) (rest := []) (hM := (met_M_isOpen hl9 D ad ca sa _ x1 f a b _ hw)) (o := 0) (ho := by decide) (hko := kM_o0) (hci := rfl) (hg := wl_good) (w1 := (tm3 (i := 239) rfl rfl)) (w2 := (tm4 (i := 1) rfl rfl)) (w3 := (tm0 (i := 38) rfl rfl)) (w4 := (tm1 (i := 4) rfl rfl)) (w5 := (tm4 (i := 2) rfl rfl)) (hd := ⟨rfl, by decide, by decide, by decide +kernel⟩) (hrc := rfl) (hrs := rfl) (hR := ⟨Nat.le_of_ble_eq_true rfl, Nat.le_of_ble_eq_true rfl⟩) (hn := rfl) (hsz := hl.1) (hst := rfl) (hW := Nat.le_of_ble_eq_true rfl) (hdg := dM_isFixed_2) (hf := ⟨Nat.le_of_ble_eq_true rfl, Nat.le_of_ble_eq_true rfl⟩) (fun _ _ _ _ _ _ _ _ hw => hw.elim) (fun r2 f2 a2 b2 H locs hw K => ?_)
  refine lv_if_eq (tgt := 44) hx hb dM_isFixed_5 (by decide) (fun hc => ?_) (fun hc => ?_)
  · replace hw := hw.1 hc
    exact LM_isFixed_44 X hex hr f2 a2 b2 hw _ _ K _ (lv_sub hl [] rfl)
  · replace hw := hw.2 hc
    refine lv_aload_n hx hb dM_isFixed_8 rfl (lv_at hl 0 rfl) ?_
    refine gGet X K (o := 0) (k := 11) (v := .ref (ad 8)) (by decide) kM_o0 rfl inM_o0 (by decide) (tm3 (i := 114) rfl rfl) rfl dM_isFixed_9 ?_
    refine lv_iload_n hx hb dM_isFixed_12 rfl (lv_at hl 1 rfl) ?_
    obtain ⟨hi, hw⟩ := hw
    refine gild X K (o := 8) (t0 := 0) (by decide) kM_c8 rfl hi dM_isFixed_13 ?_
    refine lv_if_lt (tgt := 44) hx hb dM_isFixed_14 (by decide) (fun hc => ?_) (fun hc => ?_)
    · replace hw := hw.1 hc
      exact LM_isFixed_44 X hex hr f2 a2 b2 hw _ _ K _ (lv_sub hl [] rfl)
    · replace hw := hw.2 hc
      refine lv_aload_n hx hb dM_isFixed_17 rfl (lv_at hl 0 rfl) ?_
      refine gGet X K (o := 0) (k := 12) (v := .ref (ad 9)) (by decide) kM_o0 rfl inM_o0 (by decide) (tm3 (i := 115) rfl rfl) rfl dM_isFixed_18 ?_
      refine lv_iload_n hx hb dM_isFixed_21 rfl (lv_at hl 1 rfl) ?_
      obtain ⟨hi, hw⟩ := hw
      refine gzld X K (o := 9) (t0 := 1) (by decide) kM_c9 rfl hi dM_isFixed_22 ?_
      refine lv_if_eq (tgt := 44) hx hb dM_isFixed_23 (by decide) (fun hc => ?_) (fun hc => ?_)
      · replace hw := hw.1 hc
        exact LM_isFixed_44 X hex hr f2 a2 b2 hw _ _ K _ (lv_sub hl [] rfl)
      · replace hw := hw.2 hc
        refine lv_aload_n hx hb dM_isFixed_26 rfl (lv_at hl 0 rfl) ?_
        refine lv_aload_n hx hb dM_isFixed_27 rfl (lv_at hl 0 rfl) ?_
        refine gGet X K (o := 0) (k := 11) (v := .ref (ad 8)) (by decide) kM_o0 rfl inM_o0 (by decide) (tm3 (i := 114) rfl rfl) rfl dM_isFixed_28 ?_
        refine lv_iload_n hx hb dM_isFixed_31 rfl (lv_at hl 1 rfl) ?_
        obtain ⟨hi, hw⟩ := hw
        refine gild X K (o := 8) (t0 := 0) (by decide) kM_c8 rfl hi dM_isFixed_32 ?_
        refine lv_iload_n hx hb dM_isFixed_33 rfl (lv_at hl 1 rfl) ?_
        refine gcI X K (n0 := 2) (As := [.int (a2 8 x1.toNatClampNeg), .int x1]) (rest := []) (hM := (met_M_canFill hl9 D ad ca sa _ (a2 8 x1.toNatClampNeg) x1 f2 a2 b2 _ hw)) (o := 0) (ho := by decide) (hko := kM_o0) (hci := rfl) (hg := wl_good) (w1 := (tm4 (i := 7) rfl rfl)) (w2 := (tm4 (i := 9) rfl rfl)) (w3 := (tm0 (i := 40) rfl rfl)) (w4 := (tm1 (i := 4) rfl rfl)) (w5 := (tm4 (i := 10) rfl rfl)) (hd := ⟨rfl, by decide, by decide, by decide +kernel⟩) (hrc := rfl) (hrs := rfl) (hR := ⟨Nat.le_of_ble_eq_true rfl, Nat.le_of_ble_eq_true rfl⟩) (hn := rfl) (hsz := hl.1) (hst := rfl) (hW := Nat.le_of_ble_eq_true rfl) (hdg := dM_isFixed_34) (hf := ⟨Nat.le_of_ble_eq_true rfl, Nat.le_of_ble_eq_true rfl⟩) (fun _ _ _ _ _ _ _ _ hw => hw.elim) (fun r34 f34 a34 b34 H locs hw K => ?_)
        refine lv_if_eq (tgt := 44) hx hb dM_isFixed_37 (by decide) (fun hc => ?_) (fun hc => ?_)
        · replace hw := hw.1 hc
          exact LM_isFixed_44 X hex hr f34 a34 b34 hw _ _ K _ (lv_sub hl [] rfl)
        · replace hw := hw.2 hc
          refine lv_iconst (v := (1 : Int32)) hx hb dM_isFixed_40 (by decide) ?_
          refine lv_goto (tgt := 45) hx hb dM_isFixed_41 (by decide) ?_
          exact LM_isFixed_45 X hex hr (1 : Int32) f34 a34 b34 hw _ _ K _ (lv_sub hl [] rfl)
set_option maxHeartbeats 4000000 in
set_option maxRecDepth 100000 in
theorem met_M_rankOf {l : Launch} (hl9 : l.stackTraces = false) (D : va_G) (ad : Nat → Nat) (ca : Nat → ClassId) (sa : Nat → Nat) (sz : Nat) (x1 : Int32) (f : wF) (a : wA) (b : wB) (po : Int32 → wF → wA → wB → Prop) (hw : wp_M_rankOf po x1 f a b) : mI nM kM (tyS ca) txS D vwCl l yM_rankOf (Cond.code yM_rankOf cM_rankOf 2 (some .int) :: Wl) ({ frames := 0, cells := 0, slots := 0, locals := 0 }) [.ref (ad 0), .int x1] ad ca sa sz f a b po (fun _ _ _ _ => False) 0 0 := by
  refine ofI (by decide) hl9 (Nat.le_of_ble_eq_true rfl) ?_
  intro p e s m below meth c ls X hex hr K hl
  obtain ⟨hx, hb, hml, hown, hts, hK, hA, hth, hlk, hl9⟩ := id X
  have hl : lv_has ls 2 [(0, .ref (ad 0)), (1, .int x1)] := hl
  dsimp only [wp_M_rankOf] at hw
  refine lv_aload_n hx hb dM_rankOf_0 rfl (lv_at hl 0 rfl) ?_
  refine gGet X K (o := 0) (k := 6) (v := .ref (ad 4)) (by decide) kM_o0 rfl inM_o0 (by decide) (tm3 (i := 109) rfl rfl) rfl dM_rankOf_1 ?_
  refine lv_aload_n hx hb dM_rankOf_4 rfl (lv_at hl 0 rfl) ?_
  refine gGet X K (o := 0) (k := 9) (v := .ref (ad 6)) (by decide) kM_o0 rfl inM_o0 (by decide) (tm3 (i := 112) rfl rfl) rfl dM_rankOf_5 ?_
  refine lv_iload_n hx hb dM_rankOf_8 rfl (lv_at hl 1 rfl) ?_
  obtain ⟨hi, hw⟩ := hw
  refine gild X K (o := 6) (t0 := 0) (by decide) kM_c6 rfl hi dM_rankOf_9 ?_
  obtain ⟨hi, hw⟩ := hw
  refine gild X K (o := 4) (t0 := 0) (by decide) kM_c4 rfl hi dM_rankOf_10 ?_
  exact endI X K hr rfl hw (by decide) (by decide) dM_rankOf_11
set_option maxHeartbeats 4000000 in
set_option maxRecDepth 100000 in
theorem LM_most_31 {p : Program} {l : Launch} {e : Env} {s : State} {m : MethodId} {below : List Frame} {meth : Method} {c : Code} {D : va_G} {sa : Nat → Nat} {ad : Nat → Nat} {ca : Nat → ClassId} {A : Nat → Prop} {po : Int32 → wF → wA → wB → Prop} (X : cx Wl (tyS ca) txS D vwCl sa A p l s m ([.ref (ad 0)] : List Value).toArray meth c cM_most 3 "SendBestModel") (hex : ∀ x ∈ c.exceptionTable.toList, False) (hr : meth.sig.returnType = (some .int)) (J8 : Int32 → Int32 → wF → wA → wB → Prop) (hJ8 : ∀ (x1 : Int32) (x2 : Int32) (f : wF) (a : wA) (b : wB), J8 x1 x2 f a b → ∀ (H : Heap) (locs : List Loc), wd nM kM D vwCl ad ca A s H locs f a b → ∀ (ls : Array Slot), lv_has ls 3 [(0, .ref (ad 0)), (1, .int x1), (2, .int x2)] → W p l e ({ frames := 0, cells := 0, slots := 0, locals := 0 }) s m ([.ref (ad 0)] : List Value).toArray below meth c H locs 0 0 (vx_MQ below (va_Qi (fun r (u : wF × wA × wB) => po r u.1 u.2.1 u.2.2) (sPost nM kM D vwCl ad ca A) A) (sX nM kM D vwCl ad ca A (fun _ _ _ _ => False)) ([.ref (ad 0)] : List Value).toArray s 0 0 A) (F0 m 8 ls [])) : ∀ (k0 : Int32) (k1 : Int32) (x2 : Int32) (f : wF) (a : wA) (b : wB), wp_M_most_31 po J8 k0 k1 x2 f a b → ∀ (H : Heap) (locs : List Loc), wd nM kM D vwCl ad ca A s H locs f a b → ∀ (ls : Array Slot), lv_has ls 3 [(0, .ref (ad 0)), (2, .int x2)] → W p l e ({ frames := 0, cells := 0, slots := 0, locals := 0 }) s m ([.ref (ad 0)] : List Value).toArray below meth c H locs 0 0 (vx_MQ below (va_Qi (fun r (u : wF × wA × wB) => po r u.1 u.2.1 u.2.2) (sPost nM kM D vwCl ad ca A) A) (sX nM kM D vwCl ad ca A (fun _ _ _ _ => False)) ([.ref (ad 0)] : List Value).toArray s 0 0 A) (F0 m 31 ls [.int k0, .int k1]) := by
  obtain ⟨hx, hb, hml, hown, hts, hK, hA, hth, hlk, hl9⟩ := id X
  intro k0 k1 x2 f a b hw H locs K ls hl
  dsimp only [wp_M_most_31] at hw
  refine lv_iadd hx hb dM_most_31 ?_
  refine lv_istore_n (lv' := [(1, .int (k1 + k0)), (0, .ref (ad 0)), (2, .int x2)]) hx hb dM_most_32 rfl hl (by decide) rfl (fun ls hl => ?_)
  refine lv_iinc (v := (x2 + (1 : Int32))) (lv' := [(2, .int (x2 + (1 : Int32))), (1, .int (k1 + k0)), (0, .ref (ad 0))]) hx hb dM_most_33 hl (k := 2) rfl rfl (by decide) rfl (fun ls hl => ?_)
  refine lv_goto (tgt := 8) hx hb dM_most_36 (by decide) ?_
  exact hJ8 (k1 + k0) (x2 + (1 : Int32)) f a b hw _ _ K _ (lv_sub hl [2, 1, 0] rfl)
set_option maxHeartbeats 4000000 in
set_option maxRecDepth 100000 in
theorem LM_most_8 {p : Program} {l : Launch} {e : Env} {s : State} {m : MethodId} {below : List Frame} {meth : Method} {c : Code} {D : va_G} {sa : Nat → Nat} {ad : Nat → Nat} {ca : Nat → ClassId} {A : Nat → Prop} {po : Int32 → wF → wA → wB → Prop} (X : cx Wl (tyS ca) txS D vwCl sa A p l s m ([.ref (ad 0)] : List Value).toArray meth c cM_most 3 "SendBestModel") (hex : ∀ x ∈ c.exceptionTable.toList, False) (hr : meth.sig.returnType = (some .int)) : ∀ n : Nat, ∀ (x1 : Int32) (x2 : Int32) (f : wF) (a : wA) (b : wB), wp_M_most_8 po n x1 x2 f a b → ∀ (H : Heap) (locs : List Loc), wd nM kM D vwCl ad ca A s H locs f a b → ∀ (ls : Array Slot), lv_has ls 3 [(0, .ref (ad 0)), (1, .int x1), (2, .int x2)] → W p l e ({ frames := 0, cells := 0, slots := 0, locals := 0 }) s m ([.ref (ad 0)] : List Value).toArray below meth c H locs 0 0 (vx_MQ below (va_Qi (fun r (u : wF × wA × wB) => po r u.1 u.2.1 u.2.2) (sPost nM kM D vwCl ad ca A) A) (sX nM kM D vwCl ad ca A (fun _ _ _ _ => False)) ([.ref (ad 0)] : List Value).toArray s 0 0 A) (F0 m 8 ls []) := by
  obtain ⟨hx, hb, hml, hown, hts, hK, hA, hth, hlk, hl9⟩ := id X
  intro n
  induction n with
  | zero => intro x1 x2 f a b hw; exact hw.elim
  | succ n ih =>
    intro x1 x2 f a b hw H locs K ls hl
    dsimp only [wp_M_most_8] at hw
    refine lv_iload_n hx hb dM_most_8 rfl (lv_at hl 2 rfl) ?_
    refine lv_aload_n hx hb dM_most_9 rfl (lv_at hl 0 rfl) ?_
    refine gGet X K (o := 0) (k := 1) (v := .int (f 1)) (by decide) kM_o0 rfl inM_o0 (by decide) (tm3 (i := 104) rfl rfl) rfl dM_most_10 ?_
    refine lv_icmp_ge (tgt := 39) hx hb dM_most_13 (by decide) (fun hc => ?_) (fun hc => ?_)
    · replace hw := hw.1 hc
      refine lv_iload_n hx hb dM_most_39 rfl (lv_at hl 1 rfl) ?_
      exact endI X K hr rfl hw (by decide) (by decide) dM_most_40
    · replace hw := hw.2 hc
      refine lv_iload_n hx hb dM_most_16 rfl (lv_at hl 1 rfl) ?_
      refine lv_aload_n hx hb dM_most_17 rfl (lv_at hl 0 rfl) ?_
      refine gGet X K (o := 0) (k := 3) (v := .ref (ad 2)) (by decide) kM_o0 rfl inM_o0 (by decide) (tm3 (i := 106) rfl rfl) rfl dM_most_18 ?_
      refine lv_iload_n hx hb dM_most_21 rfl (lv_at hl 2 rfl) ?_
      obtain ⟨hi, hw⟩ := hw
      refine gzld X K (o := 2) (t0 := 1) (by decide) kM_c2 rfl hi dM_most_22 ?_
      refine lv_if_eq (tgt := 30) hx hb dM_most_23 (by decide) (fun hc => ?_) (fun hc => ?_)
      · replace hw := hw.1 hc
        refine lv_iconst (v := (1 : Int32)) hx hb dM_most_30 (by decide) ?_
        exact LM_most_31 X hex hr (wp_M_most_8 po n) ih (1 : Int32) x1 x2 f a b hw _ _ K _ (lv_sub hl [0, 2] rfl)
      · replace hw := hw.2 hc
        refine lv_iconst (v := (0 : Int32)) hx hb dM_most_26 (by decide) ?_
        refine lv_goto (tgt := 31) hx hb dM_most_27 (by decide) ?_
        exact LM_most_31 X hex hr (wp_M_most_8 po n) ih (0 : Int32) x1 x2 f a b hw _ _ K _ (lv_sub hl [0, 2] rfl)
set_option maxHeartbeats 4000000 in
set_option maxRecDepth 100000 in
theorem met_M_most {l : Launch} (hl9 : l.stackTraces = false) (D : va_G) (ad : Nat → Nat) (ca : Nat → ClassId) (sa : Nat → Nat) (sz : Nat)  (f : wF) (a : wA) (b : wB) (po : Int32 → wF → wA → wB → Prop) (hw : wp_M_most po f a b) : mI nM kM (tyS ca) txS D vwCl l yM_most (Cond.code yM_most cM_most 3 (some .int) :: Wl) ({ frames := 0, cells := 0, slots := 0, locals := 0 }) [.ref (ad 0)] ad ca sa sz f a b po (fun _ _ _ _ => False) 0 0 := by
  refine ofI (by decide) hl9 (Nat.le_of_ble_eq_true rfl) ?_
  intro p e s m below meth c ls X hex hr K hl
  obtain ⟨hx, hb, hml, hown, hts, hK, hA, hth, hlk, hl9⟩ := id X
  have hl : lv_has ls 3 [(0, .ref (ad 0))] := hl
  dsimp only [wp_M_most] at hw
  refine lv_aload_n hx hb dM_most_0 rfl (lv_at hl 0 rfl) ?_
  refine gGet X K (o := 0) (k := 14) (v := .int (f 4)) (by decide) kM_o0 rfl inM_o0 (by decide) (tm3 (i := 117) rfl rfl) rfl dM_most_1 ?_
  refine lv_ineg hx hb dM_most_4 ?_
  refine lv_istore_n (lv' := [(1, .int (-(f 4))), (0, .ref (ad 0))]) hx hb dM_most_5 rfl hl (by decide) rfl (fun ls hl => ?_)
  refine lv_iconst (v := (0 : Int32)) hx hb dM_most_6 (by decide) ?_
  refine lv_istore_n (lv' := [(2, .int (0 : Int32)), (1, .int (-(f 4))), (0, .ref (ad 0))]) hx hb dM_most_7 rfl hl (by decide) rfl (fun ls hl => ?_)
  obtain ⟨n9, hw⟩ := hw
  exact LM_most_8 X hex hr n9 (-(f 4)) (0 : Int32) f a b hw _ _ K _ (lv_sub hl [2, 1, 0] rfl)
set_option maxHeartbeats 4000000 in
set_option maxRecDepth 100000 in
theorem LM_fixedUnits_31 {p : Program} {l : Launch} {e : Env} {s : State} {m : MethodId} {below : List Frame} {meth : Method} {c : Code} {D : va_G} {sa : Nat → Nat} {ad : Nat → Nat} {ca : Nat → ClassId} {A : Nat → Prop} {po : Int32 → wF → wA → wB → Prop} (X : cx Wl (tyS ca) txS D vwCl sa A p l s m ([.ref (ad 0)] : List Value).toArray meth c cM_fixedUnits 3 "SendBestModel") (hex : ∀ x ∈ c.exceptionTable.toList, False) (hr : meth.sig.returnType = (some .int)) (J4 : Int32 → Int32 → wF → wA → wB → Prop) (hJ4 : ∀ (x1 : Int32) (x2 : Int32) (f : wF) (a : wA) (b : wB), J4 x1 x2 f a b → ∀ (H : Heap) (locs : List Loc), wd nM kM D vwCl ad ca A s H locs f a b → ∀ (ls : Array Slot), lv_has ls 3 [(0, .ref (ad 0)), (1, .int x1), (2, .int x2)] → W p l e ({ frames := 2, cells := 0, slots := 0, locals := 45 }) s m ([.ref (ad 0)] : List Value).toArray below meth c H locs 0 0 (vx_MQ below (va_Qi (fun r (u : wF × wA × wB) => po r u.1 u.2.1 u.2.2) (sPost nM kM D vwCl ad ca A) A) (sX nM kM D vwCl ad ca A (fun _ _ _ _ => False)) ([.ref (ad 0)] : List Value).toArray s 0 0 A) (F0 m 4 ls [])) : ∀ (x1 : Int32) (x2 : Int32) (f : wF) (a : wA) (b : wB), wp_M_fixedUnits_31 po J4 x1 x2 f a b → ∀ (H : Heap) (locs : List Loc), wd nM kM D vwCl ad ca A s H locs f a b → ∀ (ls : Array Slot), lv_has ls 3 [(0, .ref (ad 0)), (1, .int x1), (2, .int x2)] → W p l e ({ frames := 2, cells := 0, slots := 0, locals := 45 }) s m ([.ref (ad 0)] : List Value).toArray below meth c H locs 0 0 (vx_MQ below (va_Qi (fun r (u : wF × wA × wB) => po r u.1 u.2.1 u.2.2) (sPost nM kM D vwCl ad ca A) A) (sX nM kM D vwCl ad ca A (fun _ _ _ _ => False)) ([.ref (ad 0)] : List Value).toArray s 0 0 A) (F0 m 31 ls []) := by
  obtain ⟨hx, hb, hml, hown, hts, hK, hA, hth, hlk, hl9⟩ := id X
  intro x1 x2 f a b hw H locs K ls hl
  dsimp only [wp_M_fixedUnits_31] at hw
  refine lv_iinc (v := (x2 + (1 : Int32))) (lv' := [(2, .int (x2 + (1 : Int32))), (0, .ref (ad 0)), (1, .int x1)]) hx hb dM_fixedUnits_31 hl (k := 2) rfl rfl (by decide) rfl (fun ls hl => ?_)
  refine lv_goto (tgt := 4) hx hb dM_fixedUnits_34 (by decide) ?_
  exact hJ4 x1 (x2 + (1 : Int32)) f a b hw _ _ K _ (lv_sub hl [1, 2, 0] rfl)
set_option maxHeartbeats 4000000 in
set_option maxRecDepth 100000 in
theorem LM_fixedUnits_4 {p : Program} {l : Launch} {e : Env} {s : State} {m : MethodId} {below : List Frame} {meth : Method} {c : Code} {D : va_G} {sa : Nat → Nat} {ad : Nat → Nat} {ca : Nat → ClassId} {A : Nat → Prop} {po : Int32 → wF → wA → wB → Prop} (X : cx Wl (tyS ca) txS D vwCl sa A p l s m ([.ref (ad 0)] : List Value).toArray meth c cM_fixedUnits 3 "SendBestModel") (hex : ∀ x ∈ c.exceptionTable.toList, False) (hr : meth.sig.returnType = (some .int)) : ∀ n : Nat, ∀ (x1 : Int32) (x2 : Int32) (f : wF) (a : wA) (b : wB), wp_M_fixedUnits_4 po n x1 x2 f a b → ∀ (H : Heap) (locs : List Loc), wd nM kM D vwCl ad ca A s H locs f a b → ∀ (ls : Array Slot), lv_has ls 3 [(0, .ref (ad 0)), (1, .int x1), (2, .int x2)] → W p l e ({ frames := 2, cells := 0, slots := 0, locals := 45 }) s m ([.ref (ad 0)] : List Value).toArray below meth c H locs 0 0 (vx_MQ below (va_Qi (fun r (u : wF × wA × wB) => po r u.1 u.2.1 u.2.2) (sPost nM kM D vwCl ad ca A) A) (sX nM kM D vwCl ad ca A (fun _ _ _ _ => False)) ([.ref (ad 0)] : List Value).toArray s 0 0 A) (F0 m 4 ls []) := by
  obtain ⟨hx, hb, hml, hown, hts, hK, hA, hth, hlk, hl9⟩ := id X
  intro n
  induction n with
  | zero => intro x1 x2 f a b hw; exact hw.elim
  | succ n ih =>
    intro x1 x2 f a b hw H locs K ls hl
    dsimp only [wp_M_fixedUnits_4] at hw
    refine lv_iload_n hx hb dM_fixedUnits_4 rfl (lv_at hl 2 rfl) ?_
    refine lv_aload_n hx hb dM_fixedUnits_5 rfl (lv_at hl 0 rfl) ?_
    refine gGet X K (o := 0) (k := 8) (v := .int (f 3)) (by decide) kM_o0 rfl inM_o0 (by decide) (tm3 (i := 111) rfl rfl) rfl dM_fixedUnits_6 ?_
    refine lv_icmp_ge (tgt := 37) hx hb dM_fixedUnits_9 (by decide) (fun hc => ?_) (fun hc => ?_)
    · replace hw := hw.1 hc
      refine lv_iload_n hx hb dM_fixedUnits_37 rfl (lv_at hl 1 rfl) ?_
      exact endI X K hr rfl hw (by decide) (by decide) dM_fixedUnits_38
    · replace hw := hw.2 hc
      refine lv_aload_n hx hb dM_fixedUnits_12 rfl (lv_at hl 0 rfl) ?_
      refine lv_iload_n hx hb dM_fixedUnits_13 rfl (lv_at hl 2 rfl) ?_
      refine gcI X K (n0 := 1) (As := [.int x2]) (rest := []) (hM := (met_M_isFixed hl9 D ad ca sa _ x2 f a b _ hw)) (o := 0) (ho := by decide) (hko := kM_o0) (hci := rfl) (hg := wl_good) (w1 := (tm4 (i := 3) rfl rfl)) (w2 := (tm4 (i := 5) rfl rfl)) (w3 := (tm0 (i := 39) rfl rfl)) (w4 := (tm1 (i := 4) rfl rfl)) (w5 := (tm4 (i := 6) rfl rfl)) (hd := ⟨rfl, by decide, by decide, by decide +kernel⟩) (hrc := rfl) (hrs := rfl) (hR := ⟨Nat.le_of_ble_eq_true rfl, Nat.le_of_ble_eq_true rfl⟩) (hn := rfl) (hsz := hl.1) (hst := rfl) (hW := Nat.le_of_ble_eq_true rfl) (hdg := dM_fixedUnits_14) (hf := ⟨Nat.le_of_ble_eq_true rfl, Nat.le_of_ble_eq_true rfl⟩) (fun _ _ _ _ _ _ _ _ hw => hw.elim) (fun r14 f14 a14 b14 H locs hw K => ?_)
      refine lv_if_eq (tgt := 31) hx hb dM_fixedUnits_17 (by decide) (fun hc => ?_) (fun hc => ?_)
      · replace hw := hw.1 hc
        exact LM_fixedUnits_31 X hex hr (wp_M_fixedUnits_4 po n) ih x1 x2 f14 a14 b14 hw _ _ K _ (lv_sub hl [0, 1, 2] rfl)
      · replace hw := hw.2 hc
        refine lv_iload_n hx hb dM_fixedUnits_20 rfl (lv_at hl 1 rfl) ?_
        refine lv_iconst (v := (1 : Int32)) hx hb dM_fixedUnits_21 (by decide) ?_
        refine lv_aload_n hx hb dM_fixedUnits_22 rfl (lv_at hl 0 rfl) ?_
        refine gGet X K (o := 0) (k := 11) (v := .ref (ad 8)) (by decide) kM_o0 rfl inM_o0 (by decide) (tm3 (i := 114) rfl rfl) rfl dM_fixedUnits_23 ?_
        refine lv_iload_n hx hb dM_fixedUnits_26 rfl (lv_at hl 2 rfl) ?_
        obtain ⟨hi, hw⟩ := hw
        refine gild X K (o := 8) (t0 := 0) (by decide) kM_c8 rfl hi dM_fixedUnits_27 ?_
        refine lv_ishl hx hb dM_fixedUnits_28 ?_
        refine lv_ior hx hb dM_fixedUnits_29 ?_
        refine lv_istore_n (lv' := [(1, .int (x1 ||| ((1 : Int32) <<< ((a14 8 x2.toNatClampNeg) &&& 31)))), (0, .ref (ad 0)), (2, .int x2)]) hx hb dM_fixedUnits_30 rfl hl (by decide) rfl (fun ls hl => ?_)
        exact LM_fixedUnits_31 X hex hr (wp_M_fixedUnits_4 po n) ih (x1 ||| ((1 : Int32) <<< ((a14 8 x2.toNatClampNeg) &&& 31))) x2 f14 a14 b14 hw _ _ K _ (lv_sub hl [1, 0, 2] rfl)
set_option maxHeartbeats 4000000 in
set_option maxRecDepth 100000 in
theorem met_M_fixedUnits {l : Launch} (hl9 : l.stackTraces = false) (D : va_G) (ad : Nat → Nat) (ca : Nat → ClassId) (sa : Nat → Nat) (sz : Nat)  (f : wF) (a : wA) (b : wB) (po : Int32 → wF → wA → wB → Prop) (hw : wp_M_fixedUnits po f a b) : mI nM kM (tyS ca) txS D vwCl l yM_fixedUnits (Cond.code yM_fixedUnits cM_fixedUnits 3 (some .int) :: Wl) ({ frames := 2, cells := 0, slots := 0, locals := 45 }) [.ref (ad 0)] ad ca sa sz f a b po (fun _ _ _ _ => False) 0 0 := by
  refine ofI (by decide) hl9 (Nat.le_of_ble_eq_true rfl) ?_
  intro p e s m below meth c ls X hex hr K hl
  obtain ⟨hx, hb, hml, hown, hts, hK, hA, hth, hlk, hl9⟩ := id X
  have hl : lv_has ls 3 [(0, .ref (ad 0))] := hl
  dsimp only [wp_M_fixedUnits] at hw
  refine lv_iconst (v := (0 : Int32)) hx hb dM_fixedUnits_0 (by decide) ?_
  refine lv_istore_n (lv' := [(1, .int (0 : Int32)), (0, .ref (ad 0))]) hx hb dM_fixedUnits_1 rfl hl (by decide) rfl (fun ls hl => ?_)
  refine lv_iconst (v := (0 : Int32)) hx hb dM_fixedUnits_2 (by decide) ?_
  refine lv_istore_n (lv' := [(2, .int (0 : Int32)), (1, .int (0 : Int32)), (0, .ref (ad 0))]) hx hb dM_fixedUnits_3 rfl hl (by decide) rfl (fun ls hl => ?_)
  obtain ⟨n9, hw⟩ := hw
  exact LM_fixedUnits_4 X hex hr n9 (0 : Int32) (0 : Int32) f a b hw _ _ K _ (lv_sub hl [2, 1, 0] rfl)
set_option maxHeartbeats 4000000 in
set_option maxRecDepth 100000 in
theorem LM_ones_4 {p : Program} {l : Launch} {e : Env} {s : State} {m : MethodId} {below : List Frame} {meth : Method} {c : Code} {D : va_G} {sa : Nat → Nat} {ad : Nat → Nat} {ca : Nat → ClassId} {A : Nat → Prop} {y0 : Int32} {po : Int32 → wF → wA → wB → Prop} (X : cx Wl (tyS ca) txS D vwCl sa A p l s m ([.int y0] : List Value).toArray meth c cM_ones 3 "SendBestModel") (hex : ∀ x ∈ c.exceptionTable.toList, False) (hr : meth.sig.returnType = (some .int)) : ∀ n : Nat, ∀ (x0 : Int32) (x1 : Int32) (x2 : Int32) (f : wF) (a : wA) (b : wB), wp_M_ones_4 po n x0 x1 x2 f a b → ∀ (H : Heap) (locs : List Loc), wd nM kM D vwCl ad ca A s H locs f a b → ∀ (ls : Array Slot), lv_has ls 3 [(0, .int x0), (1, .int x1), (2, .int x2)] → W p l e ({ frames := 0, cells := 0, slots := 0, locals := 0 }) s m ([.int y0] : List Value).toArray below meth c H locs 0 0 (vx_MQ below (va_Qi (fun r (u : wF × wA × wB) => po r u.1 u.2.1 u.2.2) (sPost nM kM D vwCl ad ca A) A) (sX nM kM D vwCl ad ca A (fun _ _ _ _ => False)) ([.int y0] : List Value).toArray s 0 0 A) (F0 m 4 ls []) := by
  obtain ⟨hx, hb, hml, hown, hts, hK, hA, hth, hlk, hl9⟩ := id X
  intro n
  induction n with
  | zero => intro x0 x1 x2 f a b hw; exact hw.elim
  | succ n ih =>
    intro x0 x1 x2 f a b hw H locs K ls hl
    dsimp only [wp_M_ones_4] at hw
    refine lv_iload_n hx hb dM_ones_4 rfl (lv_at hl 2 rfl) ?_
    refine lv_bipush (v := (12 : Int32)) hx hb dM_ones_5 (by decide) ?_
    refine lv_icmp_ge (tgt := 24) hx hb dM_ones_7 (by decide) (fun hc => ?_) (fun hc => ?_)
    · replace hw := hw.1 hc
      refine lv_iload_n hx hb dM_ones_24 rfl (lv_at hl 1 rfl) ?_
      exact endI X K hr rfl hw (by decide) (by decide) dM_ones_25
    · replace hw := hw.2 hc
      refine lv_iload_n hx hb dM_ones_10 rfl (lv_at hl 1 rfl) ?_
      refine lv_iload_n hx hb dM_ones_11 rfl (lv_at hl 0 rfl) ?_
      refine lv_iload_n hx hb dM_ones_12 rfl (lv_at hl 2 rfl) ?_
      refine lv_ishr hx hb dM_ones_13 ?_
      refine lv_iconst (v := (1 : Int32)) hx hb dM_ones_14 (by decide) ?_
      refine lv_iand hx hb dM_ones_15 ?_
      refine lv_iadd hx hb dM_ones_16 ?_
      refine lv_istore_n (lv' := [(1, .int (x1 + ((x0 >>> (x2 &&& 31)) &&& (1 : Int32)))), (0, .int x0), (2, .int x2)]) hx hb dM_ones_17 rfl hl (by decide) rfl (fun ls hl => ?_)
      refine lv_iinc (v := (x2 + (1 : Int32))) (lv' := [(2, .int (x2 + (1 : Int32))), (1, .int (x1 + ((x0 >>> (x2 &&& 31)) &&& (1 : Int32)))), (0, .int x0)]) hx hb dM_ones_18 hl (k := 2) rfl rfl (by decide) rfl (fun ls hl => ?_)
      refine lv_goto (tgt := 4) hx hb dM_ones_21 (by decide) ?_
      exact ih x0 (x1 + ((x0 >>> (x2 &&& 31)) &&& (1 : Int32))) (x2 + (1 : Int32)) f a b hw _ _ K _ (lv_sub hl [2, 1, 0] rfl)
set_option maxHeartbeats 4000000 in
set_option maxRecDepth 100000 in
theorem met_M_ones {l : Launch} (hl9 : l.stackTraces = false) (D : va_G) (ad : Nat → Nat) (ca : Nat → ClassId) (sa : Nat → Nat) (sz : Nat) (x0 : Int32) (f : wF) (a : wA) (b : wB) (po : Int32 → wF → wA → wB → Prop) (hw : wp_M_ones po x0 f a b) : mI nM kM (tyS ca) txS D vwCl l yM_ones (Cond.code yM_ones cM_ones 3 (some .int) :: Wl) ({ frames := 0, cells := 0, slots := 0, locals := 0 }) [.int x0] ad ca sa sz f a b po (fun _ _ _ _ => False) 0 0 := by
  refine ofI (by decide) hl9 (Nat.le_of_ble_eq_true rfl) ?_
  intro p e s m below meth c ls X hex hr K hl
  obtain ⟨hx, hb, hml, hown, hts, hK, hA, hth, hlk, hl9⟩ := id X
  have hl : lv_has ls 3 [(0, .int x0)] := hl
  dsimp only [wp_M_ones] at hw
  refine lv_iconst (v := (0 : Int32)) hx hb dM_ones_0 (by decide) ?_
  refine lv_istore_n (lv' := [(1, .int (0 : Int32)), (0, .int x0)]) hx hb dM_ones_1 rfl hl (by decide) rfl (fun ls hl => ?_)
  refine lv_iconst (v := (0 : Int32)) hx hb dM_ones_2 (by decide) ?_
  refine lv_istore_n (lv' := [(2, .int (0 : Int32)), (1, .int (0 : Int32)), (0, .int x0)]) hx hb dM_ones_3 rfl hl (by decide) rfl (fun ls hl => ?_)
  obtain ⟨n9, hw⟩ := hw
  exact LM_ones_4 X hex hr n9 x0 (0 : Int32) (0 : Int32) f a b hw _ _ K _ (lv_sub hl [2, 1, 0] rfl)
set_option maxHeartbeats 4000000 in
set_option maxRecDepth 100000 in
theorem LM_gather_89 {p : Program} {l : Launch} {e : Env} {s : State} {m : MethodId} {below : List Frame} {meth : Method} {c : Code} {D : va_G} {sa : Nat → Nat} {ad : Nat → Nat} {ca : Nat → ClassId} {A : Nat → Prop} {po : wF → wA → wB → Prop} (X : cx Wl (tyS ca) txS D vwCl sa A p l s m ([.ref (ad 0)] : List Value).toArray meth c cM_gather 4 "SendBestModel") (hex : ∀ x ∈ c.exceptionTable.toList, False) (hr : meth.sig.returnType = none) (J7 : Int32 → wF → wA → wB → Prop) (J14 : Int32 → Int32 → wF → wA → wB → Prop) (hJ7 : ∀ (x1 : Int32) (f : wF) (a : wA) (b : wB), J7 x1 f a b → ∀ (H : Heap) (locs : List Loc), wd nM kM D vwCl ad ca A s H locs f a b → ∀ (ls : Array Slot), lv_has ls 4 [(0, .ref (ad 0)), (1, .int x1)] → W p l e ({ frames := 2, cells := 0, slots := 0, locals := 45 }) s m ([.ref (ad 0)] : List Value).toArray below meth c H locs 0 0 (vx_MQ below (va_Qv (fun (u : wF × wA × wB) => po u.1 u.2.1 u.2.2) (sPost nM kM D vwCl ad ca A) A) (sX nM kM D vwCl ad ca A (fun _ _ _ _ => False)) ([.ref (ad 0)] : List Value).toArray s 0 0 A) (F0 m 7 ls [])) (hJ14 : ∀ (x1 : Int32) (x2 : Int32) (f : wF) (a : wA) (b : wB), J14 x1 x2 f a b → ∀ (H : Heap) (locs : List Loc), wd nM kM D vwCl ad ca A s H locs f a b → ∀ (ls : Array Slot), lv_has ls 4 [(0, .ref (ad 0)), (1, .int x1), (2, .int x2)] → W p l e ({ frames := 2, cells := 0, slots := 0, locals := 45 }) s m ([.ref (ad 0)] : List Value).toArray below meth c H locs 0 0 (vx_MQ below (va_Qv (fun (u : wF × wA × wB) => po u.1 u.2.1 u.2.2) (sPost nM kM D vwCl ad ca A) A) (sX nM kM D vwCl ad ca A (fun _ _ _ _ => False)) ([.ref (ad 0)] : List Value).toArray s 0 0 A) (F0 m 14 ls [])) : ∀ (x1 : Int32) (x2 : Int32) (f : wF) (a : wA) (b : wB), wp_M_gather_89 po J7 J14 x1 x2 f a b → ∀ (H : Heap) (locs : List Loc), wd nM kM D vwCl ad ca A s H locs f a b → ∀ (ls : Array Slot), lv_has ls 4 [(0, .ref (ad 0)), (1, .int x1), (2, .int x2)] → W p l e ({ frames := 2, cells := 0, slots := 0, locals := 45 }) s m ([.ref (ad 0)] : List Value).toArray below meth c H locs 0 0 (vx_MQ below (va_Qv (fun (u : wF × wA × wB) => po u.1 u.2.1 u.2.2) (sPost nM kM D vwCl ad ca A) A) (sX nM kM D vwCl ad ca A (fun _ _ _ _ => False)) ([.ref (ad 0)] : List Value).toArray s 0 0 A) (F0 m 89 ls []) := by
  obtain ⟨hx, hb, hml, hown, hts, hK, hA, hth, hlk, hl9⟩ := id X
  intro x1 x2 f a b hw H locs K ls hl
  dsimp only [wp_M_gather_89] at hw
  refine lv_iinc (v := (x2 + (1 : Int32))) (lv' := [(2, .int (x2 + (1 : Int32))), (0, .ref (ad 0)), (1, .int x1)]) hx hb dM_gather_89 hl (k := 2) rfl rfl (by decide) rfl (fun ls hl => ?_)
  refine lv_goto (tgt := 14) hx hb dM_gather_92 (by decide) ?_
  exact hJ14 x1 (x2 + (1 : Int32)) f a b hw _ _ K _ (lv_sub hl [1, 2, 0] rfl)
set_option maxHeartbeats 4000000 in
set_option maxRecDepth 100000 in
theorem LM_gather_66 {p : Program} {l : Launch} {e : Env} {s : State} {m : MethodId} {below : List Frame} {meth : Method} {c : Code} {D : va_G} {sa : Nat → Nat} {ad : Nat → Nat} {ca : Nat → ClassId} {A : Nat → Prop} {po : wF → wA → wB → Prop} (X : cx Wl (tyS ca) txS D vwCl sa A p l s m ([.ref (ad 0)] : List Value).toArray meth c cM_gather 4 "SendBestModel") (hex : ∀ x ∈ c.exceptionTable.toList, False) (hr : meth.sig.returnType = none) (J7 : Int32 → wF → wA → wB → Prop) (J14 : Int32 → Int32 → wF → wA → wB → Prop) (hJ7 : ∀ (x1 : Int32) (f : wF) (a : wA) (b : wB), J7 x1 f a b → ∀ (H : Heap) (locs : List Loc), wd nM kM D vwCl ad ca A s H locs f a b → ∀ (ls : Array Slot), lv_has ls 4 [(0, .ref (ad 0)), (1, .int x1)] → W p l e ({ frames := 2, cells := 0, slots := 0, locals := 45 }) s m ([.ref (ad 0)] : List Value).toArray below meth c H locs 0 0 (vx_MQ below (va_Qv (fun (u : wF × wA × wB) => po u.1 u.2.1 u.2.2) (sPost nM kM D vwCl ad ca A) A) (sX nM kM D vwCl ad ca A (fun _ _ _ _ => False)) ([.ref (ad 0)] : List Value).toArray s 0 0 A) (F0 m 7 ls [])) (hJ14 : ∀ (x1 : Int32) (x2 : Int32) (f : wF) (a : wA) (b : wB), J14 x1 x2 f a b → ∀ (H : Heap) (locs : List Loc), wd nM kM D vwCl ad ca A s H locs f a b → ∀ (ls : Array Slot), lv_has ls 4 [(0, .ref (ad 0)), (1, .int x1), (2, .int x2)] → W p l e ({ frames := 2, cells := 0, slots := 0, locals := 45 }) s m ([.ref (ad 0)] : List Value).toArray below meth c H locs 0 0 (vx_MQ below (va_Qv (fun (u : wF × wA × wB) => po u.1 u.2.1 u.2.2) (sPost nM kM D vwCl ad ca A) A) (sX nM kM D vwCl ad ca A (fun _ _ _ _ => False)) ([.ref (ad 0)] : List Value).toArray s 0 0 A) (F0 m 14 ls [])) : ∀ (k0 : Int32) (k1 : Int32) (x1 : Int32) (x2 : Int32) (f : wF) (a : wA) (b : wB), wp_M_gather_66 po J7 J14 k0 k1 x1 x2 f a b → ∀ (H : Heap) (locs : List Loc), wd nM kM D vwCl ad ca A s H locs f a b → ∀ (ls : Array Slot), lv_has ls 4 [(0, .ref (ad 0)), (1, .int x1), (2, .int x2)] → W p l e ({ frames := 2, cells := 0, slots := 0, locals := 45 }) s m ([.ref (ad 0)] : List Value).toArray below meth c H locs 0 0 (vx_MQ below (va_Qv (fun (u : wF × wA × wB) => po u.1 u.2.1 u.2.2) (sPost nM kM D vwCl ad ca A) A) (sX nM kM D vwCl ad ca A (fun _ _ _ _ => False)) ([.ref (ad 0)] : List Value).toArray s 0 0 A) (F0 m 66 ls [.int k0, .int k1]) := by
  obtain ⟨hx, hb, hml, hown, hts, hK, hA, hth, hlk, hl9⟩ := id X
  intro k0 k1 x1 x2 f a b hw H locs K ls hl
  dsimp only [wp_M_gather_66] at hw
  refine lv_icmp_ne (tgt := 89) hx hb dM_gather_66 (by decide) (fun hc => ?_) (fun hc => ?_)
  · replace hw := hw.1 hc
    exact LM_gather_89 X hex hr J7 J14 hJ7 hJ14 x1 x2 f a b hw _ _ K _ (lv_sub hl [0, 1, 2] rfl)
  · replace hw := hw.2 hc
    refine lv_aload_n hx hb dM_gather_69 rfl (lv_at hl 0 rfl) ?_
    refine gGet X K (o := 0) (k := 16) (v := .ref (ad 11)) (by decide) kM_o0 rfl inM_o0 (by decide) (tm3 (i := 119) rfl rfl) rfl dM_gather_70 ?_
    refine lv_aload_n hx hb dM_gather_73 rfl (lv_at hl 0 rfl) ?_
    refine gGet X K (o := 0) (k := 17) (v := .int (f 6)) (by decide) kM_o0 rfl inM_o0 (by decide) (tm3 (i := 120) rfl rfl) rfl dM_gather_74 ?_
    refine lv_iload_n hx hb dM_gather_77 rfl (lv_at hl 2 rfl) ?_
    obtain ⟨hi, hw⟩ := hw
    refine gist X K (o := 11) (t0 := 0) (by decide) kM_c11 rfl hi dM_gather_78 kM_p11 (fun H locs K => ?_)
    refine lv_aload_n hx hb dM_gather_79 rfl (lv_at hl 0 rfl) ?_
    refine lv_dup hx hb dM_gather_80 rfl ?_
    refine gGet X K (o := 0) (k := 17) (v := .int (f 6)) (by decide) kM_o0 rfl inM_o0 (by decide) (tm3 (i := 120) rfl rfl) rfl dM_gather_81 ?_
    refine lv_iconst (v := (1 : Int32)) hx hb dM_gather_84 (by decide) ?_
    refine lv_iadd hx hb dM_gather_85 ?_
    refine gPut X K (o := 0) (k := 17) (v := .int ((f 6) + (1 : Int32))) (ty := .int) tM_o0 tM_o0_ok nM_o0 (by decide) kM_o0 rfl inM_o0 (by decide) (tm3 (i := 120) rfl rfl) rfl rfl rfl rfl (by simp [flM_o0]) dM_gather_86 kM_u0_17 (fun H locs K => ?_)
    exact LM_gather_89 X hex hr J7 J14 hJ7 hJ14 x1 x2 (va_up f 6 ((f 6) + (1 : Int32))) (va_up a 11 (upd (a 11) (f 6).toNatClampNeg x2)) b hw _ _ K _ (lv_sub hl [0, 1, 2] rfl)
set_option maxHeartbeats 4000000 in
set_option maxRecDepth 100000 in
theorem LM_gather_39 {p : Program} {l : Launch} {e : Env} {s : State} {m : MethodId} {below : List Frame} {meth : Method} {c : Code} {D : va_G} {sa : Nat → Nat} {ad : Nat → Nat} {ca : Nat → ClassId} {A : Nat → Prop} {po : wF → wA → wB → Prop} (X : cx Wl (tyS ca) txS D vwCl sa A p l s m ([.ref (ad 0)] : List Value).toArray meth c cM_gather 4 "SendBestModel") (hex : ∀ x ∈ c.exceptionTable.toList, False) (hr : meth.sig.returnType = none) (J7 : Int32 → wF → wA → wB → Prop) (J14 : Int32 → Int32 → wF → wA → wB → Prop) (hJ7 : ∀ (x1 : Int32) (f : wF) (a : wA) (b : wB), J7 x1 f a b → ∀ (H : Heap) (locs : List Loc), wd nM kM D vwCl ad ca A s H locs f a b → ∀ (ls : Array Slot), lv_has ls 4 [(0, .ref (ad 0)), (1, .int x1)] → W p l e ({ frames := 2, cells := 0, slots := 0, locals := 45 }) s m ([.ref (ad 0)] : List Value).toArray below meth c H locs 0 0 (vx_MQ below (va_Qv (fun (u : wF × wA × wB) => po u.1 u.2.1 u.2.2) (sPost nM kM D vwCl ad ca A) A) (sX nM kM D vwCl ad ca A (fun _ _ _ _ => False)) ([.ref (ad 0)] : List Value).toArray s 0 0 A) (F0 m 7 ls [])) (hJ14 : ∀ (x1 : Int32) (x2 : Int32) (f : wF) (a : wA) (b : wB), J14 x1 x2 f a b → ∀ (H : Heap) (locs : List Loc), wd nM kM D vwCl ad ca A s H locs f a b → ∀ (ls : Array Slot), lv_has ls 4 [(0, .ref (ad 0)), (1, .int x1), (2, .int x2)] → W p l e ({ frames := 2, cells := 0, slots := 0, locals := 45 }) s m ([.ref (ad 0)] : List Value).toArray below meth c H locs 0 0 (vx_MQ below (va_Qv (fun (u : wF × wA × wB) => po u.1 u.2.1 u.2.2) (sPost nM kM D vwCl ad ca A) A) (sX nM kM D vwCl ad ca A (fun _ _ _ _ => False)) ([.ref (ad 0)] : List Value).toArray s 0 0 A) (F0 m 14 ls [])) : ∀ (k0 : Int32) (x1 : Int32) (x2 : Int32) (f : wF) (a : wA) (b : wB), wp_M_gather_39 po J7 J14 k0 x1 x2 f a b → ∀ (H : Heap) (locs : List Loc), wd nM kM D vwCl ad ca A s H locs f a b → ∀ (ls : Array Slot), lv_has ls 4 [(0, .ref (ad 0)), (1, .int x1), (2, .int x2)] → W p l e ({ frames := 2, cells := 0, slots := 0, locals := 45 }) s m ([.ref (ad 0)] : List Value).toArray below meth c H locs 0 0 (vx_MQ below (va_Qv (fun (u : wF × wA × wB) => po u.1 u.2.1 u.2.2) (sPost nM kM D vwCl ad ca A) A) (sX nM kM D vwCl ad ca A (fun _ _ _ _ => False)) ([.ref (ad 0)] : List Value).toArray s 0 0 A) (F0 m 39 ls [.int k0]) := by
  obtain ⟨hx, hb, hml, hown, hts, hK, hA, hth, hlk, hl9⟩ := id X
  intro k0 x1 x2 f a b hw H locs K ls hl
  dsimp only [wp_M_gather_39] at hw
  refine lv_istore_n (lv' := [(3, .int k0), (0, .ref (ad 0)), (1, .int x1), (2, .int x2)]) hx hb dM_gather_39 rfl hl (by decide) rfl (fun ls hl => ?_)
  refine lv_aload_n hx hb dM_gather_40 rfl (lv_at hl 1 rfl) ?_
  refine lv_iload_n hx hb dM_gather_41 rfl (lv_at hl 3 rfl) ?_
  refine gcI X K (n0 := 1) (As := [.int x2]) (rest := []) (hM := (met_M_isOpen hl9 D ad ca sa _ x2 f a b _ hw)) (o := 0) (ho := by decide) (hko := kM_o0) (hci := rfl) (hg := wl_good) (w1 := (tm3 (i := 239) rfl rfl)) (w2 := (tm4 (i := 1) rfl rfl)) (w3 := (tm0 (i := 38) rfl rfl)) (w4 := (tm1 (i := 4) rfl rfl)) (w5 := (tm4 (i := 2) rfl rfl)) (hd := ⟨rfl, by decide, by decide, by decide +kernel⟩) (hrc := rfl) (hrs := rfl) (hR := ⟨Nat.le_of_ble_eq_true rfl, Nat.le_of_ble_eq_true rfl⟩) (hn := rfl) (hsz := hl.1) (hst := rfl) (hW := Nat.le_of_ble_eq_true rfl) (hdg := dM_gather_42) (hf := ⟨Nat.le_of_ble_eq_true rfl, Nat.le_of_ble_eq_true rfl⟩) (fun _ _ _ _ _ _ _ _ hw => hw.elim) (fun r42 f42 a42 b42 H locs hw K => ?_)
  refine lv_if_eq (tgt := 89) hx hb dM_gather_45 (by decide) (fun hc => ?_) (fun hc => ?_)
  · replace hw := hw.1 hc
    exact LM_gather_89 X hex hr J7 J14 hJ7 hJ14 x1 x2 f42 a42 b42 hw _ _ K _ (lv_sub hl [1, 2, 3] rfl)
  · replace hw := hw.2 hc
    refine lv_aload_n hx hb dM_gather_48 rfl (lv_at hl 1 rfl) ?_
    refine lv_iload_n hx hb dM_gather_49 rfl (lv_at hl 3 rfl) ?_
    refine gcI X K (n0 := 1) (As := [.int x2]) (rest := []) (hM := (met_M_isFixed hl9 D ad ca sa _ x2 f42 a42 b42 _ hw)) (o := 0) (ho := by decide) (hko := kM_o0) (hci := rfl) (hg := wl_good) (w1 := (tm4 (i := 3) rfl rfl)) (w2 := (tm4 (i := 5) rfl rfl)) (w3 := (tm0 (i := 39) rfl rfl)) (w4 := (tm1 (i := 4) rfl rfl)) (w5 := (tm4 (i := 6) rfl rfl)) (hd := ⟨rfl, by decide, by decide, by decide +kernel⟩) (hrc := rfl) (hrs := rfl) (hR := ⟨Nat.le_of_ble_eq_true rfl, Nat.le_of_ble_eq_true rfl⟩) (hn := rfl) (hsz := hl.1) (hst := rfl) (hW := Nat.le_of_ble_eq_true rfl) (hdg := dM_gather_50) (hf := ⟨Nat.le_of_ble_eq_true rfl, Nat.le_of_ble_eq_true rfl⟩) (fun _ _ _ _ _ _ _ _ hw => hw.elim) (fun r50 f50 a50 b50 H locs hw K => ?_)
    refine lv_if_ne (tgt := 89) hx hb dM_gather_53 (by decide) (fun hc => ?_) (fun hc => ?_)
    · replace hw := hw.1 hc
      exact LM_gather_89 X hex hr J7 J14 hJ7 hJ14 x1 x2 f50 a50 b50 hw _ _ K _ (lv_sub hl [1, 2, 3] rfl)
    · replace hw := hw.2 hc
      refine lv_iload_n hx hb dM_gather_56 rfl (lv_at hl 0 rfl) ?_
      refine lv_iload_n hx hb dM_gather_57 rfl (lv_at hl 2 rfl) ?_
      refine lv_if_ne (tgt := 65) hx hb dM_gather_58 (by decide) (fun hc => ?_) (fun hc => ?_)
      · replace hw := hw.1 hc
        refine lv_iconst (v := (0 : Int32)) hx hb dM_gather_65 (by decide) ?_
        exact LM_gather_66 X hex hr J7 J14 hJ7 hJ14 (0 : Int32) k0 x1 x2 f50 a50 b50 hw _ _ K _ (lv_sub hl [1, 2, 3] rfl)
      · replace hw := hw.2 hc
        refine lv_iconst (v := (1 : Int32)) hx hb dM_gather_61 (by decide) ?_
        refine lv_goto (tgt := 66) hx hb dM_gather_62 (by decide) ?_
        exact LM_gather_66 X hex hr J7 J14 hJ7 hJ14 (1 : Int32) k0 x1 x2 f50 a50 b50 hw _ _ K _ (lv_sub hl [1, 2, 3] rfl)
set_option maxHeartbeats 4000000 in
set_option maxRecDepth 100000 in
theorem LM_gather_14 {p : Program} {l : Launch} {e : Env} {s : State} {m : MethodId} {below : List Frame} {meth : Method} {c : Code} {D : va_G} {sa : Nat → Nat} {ad : Nat → Nat} {ca : Nat → ClassId} {A : Nat → Prop} {po : wF → wA → wB → Prop} (X : cx Wl (tyS ca) txS D vwCl sa A p l s m ([.ref (ad 0)] : List Value).toArray meth c cM_gather 4 "SendBestModel") (hex : ∀ x ∈ c.exceptionTable.toList, False) (hr : meth.sig.returnType = none) (J7 : Int32 → wF → wA → wB → Prop) (hJ7 : ∀ (x1 : Int32) (f : wF) (a : wA) (b : wB), J7 x1 f a b → ∀ (H : Heap) (locs : List Loc), wd nM kM D vwCl ad ca A s H locs f a b → ∀ (ls : Array Slot), lv_has ls 4 [(0, .ref (ad 0)), (1, .int x1)] → W p l e ({ frames := 2, cells := 0, slots := 0, locals := 45 }) s m ([.ref (ad 0)] : List Value).toArray below meth c H locs 0 0 (vx_MQ below (va_Qv (fun (u : wF × wA × wB) => po u.1 u.2.1 u.2.2) (sPost nM kM D vwCl ad ca A) A) (sX nM kM D vwCl ad ca A (fun _ _ _ _ => False)) ([.ref (ad 0)] : List Value).toArray s 0 0 A) (F0 m 7 ls [])) : ∀ n : Nat, ∀ (x1 : Int32) (x2 : Int32) (f : wF) (a : wA) (b : wB), wp_M_gather_14 po J7 n x1 x2 f a b → ∀ (H : Heap) (locs : List Loc), wd nM kM D vwCl ad ca A s H locs f a b → ∀ (ls : Array Slot), lv_has ls 4 [(0, .ref (ad 0)), (1, .int x1), (2, .int x2)] → W p l e ({ frames := 2, cells := 0, slots := 0, locals := 45 }) s m ([.ref (ad 0)] : List Value).toArray below meth c H locs 0 0 (vx_MQ below (va_Qv (fun (u : wF × wA × wB) => po u.1 u.2.1 u.2.2) (sPost nM kM D vwCl ad ca A) A) (sX nM kM D vwCl ad ca A (fun _ _ _ _ => False)) ([.ref (ad 0)] : List Value).toArray s 0 0 A) (F0 m 14 ls []) := by
  obtain ⟨hx, hb, hml, hown, hts, hK, hA, hth, hlk, hl9⟩ := id X
  intro n
  induction n with
  | zero => intro x1 x2 f a b hw; exact hw.elim
  | succ n ih =>
    intro x1 x2 f a b hw H locs K ls hl
    dsimp only [wp_M_gather_14] at hw
    refine lv_iload_n hx hb dM_gather_14 rfl (lv_at hl 2 rfl) ?_
    refine lv_aload_n hx hb dM_gather_15 rfl (lv_at hl 0 rfl) ?_
    refine gGet X K (o := 0) (k := 8) (v := .int (f 3)) (by decide) kM_o0 rfl inM_o0 (by decide) (tm3 (i := 111) rfl rfl) rfl dM_gather_16 ?_
    refine lv_icmp_ge (tgt := 95) hx hb dM_gather_19 (by decide) (fun hc => ?_) (fun hc => ?_)
    · replace hw := hw.1 hc
      refine lv_iinc (v := (x1 + (1 : Int32))) (lv' := [(1, .int (x1 + (1 : Int32))), (0, .ref (ad 0)), (2, .int x2)]) hx hb dM_gather_95 hl (k := 1) rfl rfl (by decide) rfl (fun ls hl => ?_)
      refine lv_goto (tgt := 7) hx hb dM_gather_98 (by decide) ?_
      exact hJ7 (x1 + (1 : Int32)) f a b hw _ _ K _ (lv_sub hl [1, 0] rfl)
    · replace hw := hw.2 hc
      refine lv_aload_n hx hb dM_gather_22 rfl (lv_at hl 0 rfl) ?_
      refine lv_iload_n hx hb dM_gather_23 rfl (lv_at hl 2 rfl) ?_
      refine gcI X K (n0 := 1) (As := [.int x2]) (rest := []) (hM := (met_M_rankOf hl9 D ad ca sa _ x2 f a b _ hw)) (o := 0) (ho := by decide) (hko := kM_o0) (hci := rfl) (hg := wl_good) (w1 := (tm3 (i := 235) rfl rfl)) (w2 := (tm3 (i := 237) rfl rfl)) (w3 := (tm0 (i := 37) rfl rfl)) (w4 := (tm1 (i := 4) rfl rfl)) (w5 := (tm3 (i := 238) rfl rfl)) (hd := ⟨rfl, by decide, by decide, by decide +kernel⟩) (hrc := rfl) (hrs := rfl) (hR := ⟨Nat.le_of_ble_eq_true rfl, Nat.le_of_ble_eq_true rfl⟩) (hn := rfl) (hsz := hl.1) (hst := rfl) (hW := Nat.le_of_ble_eq_true rfl) (hdg := dM_gather_24) (hf := ⟨Nat.le_of_ble_eq_true rfl, Nat.le_of_ble_eq_true rfl⟩) (fun _ _ _ _ _ _ _ _ hw => hw.elim) (fun r24 f24 a24 b24 H locs hw K => ?_)
      refine lv_aload_n hx hb dM_gather_27 rfl (lv_at hl 0 rfl) ?_
      refine gGet X K (o := 0) (k := 15) (v := .int (f24 5)) (by decide) kM_o0 rfl inM_o0 (by decide) (tm3 (i := 118) rfl rfl) rfl dM_gather_28 ?_
      refine lv_icmp_lt (tgt := 38) hx hb dM_gather_31 (by decide) (fun hc => ?_) (fun hc => ?_)
      · replace hw := hw.1 hc
        refine lv_iconst (v := (0 : Int32)) hx hb dM_gather_38 (by decide) ?_
        exact LM_gather_39 X hex hr J7 (wp_M_gather_14 po J7 n) hJ7 ih (0 : Int32) x1 x2 f24 a24 b24 hw _ _ K _ (lv_sub hl [0, 1, 2] rfl)
      · replace hw := hw.2 hc
        refine lv_iconst (v := (1 : Int32)) hx hb dM_gather_34 (by decide) ?_
        refine lv_goto (tgt := 39) hx hb dM_gather_35 (by decide) ?_
        exact LM_gather_39 X hex hr J7 (wp_M_gather_14 po J7 n) hJ7 ih (1 : Int32) x1 x2 f24 a24 b24 hw _ _ K _ (lv_sub hl [0, 1, 2] rfl)
set_option maxHeartbeats 4000000 in
set_option maxRecDepth 100000 in
theorem LM_gather_7 {p : Program} {l : Launch} {e : Env} {s : State} {m : MethodId} {below : List Frame} {meth : Method} {c : Code} {D : va_G} {sa : Nat → Nat} {ad : Nat → Nat} {ca : Nat → ClassId} {A : Nat → Prop} {po : wF → wA → wB → Prop} (X : cx Wl (tyS ca) txS D vwCl sa A p l s m ([.ref (ad 0)] : List Value).toArray meth c cM_gather 4 "SendBestModel") (hex : ∀ x ∈ c.exceptionTable.toList, False) (hr : meth.sig.returnType = none) : ∀ n : Nat, ∀ (x1 : Int32) (f : wF) (a : wA) (b : wB), wp_M_gather_7 po n x1 f a b → ∀ (H : Heap) (locs : List Loc), wd nM kM D vwCl ad ca A s H locs f a b → ∀ (ls : Array Slot), lv_has ls 4 [(0, .ref (ad 0)), (1, .int x1)] → W p l e ({ frames := 2, cells := 0, slots := 0, locals := 45 }) s m ([.ref (ad 0)] : List Value).toArray below meth c H locs 0 0 (vx_MQ below (va_Qv (fun (u : wF × wA × wB) => po u.1 u.2.1 u.2.2) (sPost nM kM D vwCl ad ca A) A) (sX nM kM D vwCl ad ca A (fun _ _ _ _ => False)) ([.ref (ad 0)] : List Value).toArray s 0 0 A) (F0 m 7 ls []) := by
  obtain ⟨hx, hb, hml, hown, hts, hK, hA, hth, hlk, hl9⟩ := id X
  intro n
  induction n with
  | zero => intro x1 f a b hw; exact hw.elim
  | succ n ih =>
    intro x1 f a b hw H locs K ls hl
    dsimp only [wp_M_gather_7] at hw
    refine lv_iload_n hx hb dM_gather_7 rfl (lv_at hl 1 rfl) ?_
    refine lv_iconst (v := (2 : Int32)) hx hb dM_gather_8 (by decide) ?_
    refine lv_icmp_ge (tgt := 101) hx hb dM_gather_9 (by decide) (fun hc => ?_) (fun hc => ?_)
    · replace hw := hw.1 hc
      exact endV X K hr hw (by decide) (by decide) dM_gather_101
    · replace hw := hw.2 hc
      refine lv_iconst (v := (0 : Int32)) hx hb dM_gather_12 (by decide) ?_
      refine lv_istore_n (lv' := [(2, .int (0 : Int32)), (0, .ref (ad 0)), (1, .int x1)]) hx hb dM_gather_13 rfl hl (by decide) rfl (fun ls hl => ?_)
      obtain ⟨n9, hw⟩ := hw
      exact LM_gather_14 X hex hr (wp_M_gather_7 po n) ih n9 x1 (0 : Int32) f a b hw _ _ K _ (lv_sub hl [1, 2, 0] rfl)
set_option maxHeartbeats 4000000 in
set_option maxRecDepth 100000 in
theorem met_M_gather {l : Launch} (hl9 : l.stackTraces = false) (D : va_G) (ad : Nat → Nat) (ca : Nat → ClassId) (sa : Nat → Nat) (sz : Nat)  (f : wF) (a : wA) (b : wB) (po : wF → wA → wB → Prop) (hw : wp_M_gather po f a b) : mV nM kM (tyS ca) txS D vwCl l yM_gather (Cond.code yM_gather cM_gather 4 none :: Wl) ({ frames := 2, cells := 0, slots := 0, locals := 45 }) [.ref (ad 0)] ad ca sa sz f a b po (fun _ _ _ _ => False) 0 0 := by
  refine ofV (by decide) hl9 (Nat.le_of_ble_eq_true rfl) ?_
  intro p e s m below meth c ls X hex hr K hl
  obtain ⟨hx, hb, hml, hown, hts, hK, hA, hth, hlk, hl9⟩ := id X
  have hl : lv_has ls 4 [(0, .ref (ad 0))] := hl
  dsimp only [wp_M_gather] at hw
  refine lv_aload_n hx hb dM_gather_0 rfl (lv_at hl 0 rfl) ?_
  refine lv_iconst (v := (0 : Int32)) hx hb dM_gather_1 (by decide) ?_
  refine gPut X K (o := 0) (k := 17) (v := .int (0 : Int32)) (ty := .int) tM_o0 tM_o0_ok nM_o0 (by decide) kM_o0 rfl inM_o0 (by decide) (tm3 (i := 120) rfl rfl) rfl rfl rfl rfl (by simp [flM_o0]) dM_gather_2 kM_u0_17 (fun H locs K => ?_)
  refine lv_iconst (v := (0 : Int32)) hx hb dM_gather_5 (by decide) ?_
  refine lv_istore_n (lv' := [(1, .int (0 : Int32)), (0, .ref (ad 0))]) hx hb dM_gather_6 rfl hl (by decide) rfl (fun ls hl => ?_)
  obtain ⟨n9, hw⟩ := hw
  exact LM_gather_7 X hex hr n9 (0 : Int32) (va_up f 6 (0 : Int32)) a b hw _ _ K _ (lv_sub hl [1, 0] rfl)
set_option maxHeartbeats 4000000 in
set_option maxRecDepth 100000 in
theorem LM_may_50 {p : Program} {l : Launch} {e : Env} {s : State} {m : MethodId} {below : List Frame} {meth : Method} {c : Code} {D : va_G} {sa : Nat → Nat} {ad : Nat → Nat} {ca : Nat → ClassId} {A : Nat → Prop} {y1 : Int32} {y2 : Int32} {y3 : Int32} {po : Int32 → wF → wA → wB → Prop} (X : cx Wl (tyS ca) txS D vwCl sa A p l s m ([.ref (ad 0), .int y1, .int y2, .int y3] : List Value).toArray meth c cM_may 4 "SendBestModel") (hex : ∀ x ∈ c.exceptionTable.toList, False) (hr : meth.sig.returnType = (some .boolean)) : ∀ (k0 : Int32) (f : wF) (a : wA) (b : wB), wp_M_may_50 po k0 f a b → ∀ (H : Heap) (locs : List Loc), wd nM kM D vwCl ad ca A s H locs f a b → ∀ (ls : Array Slot), lv_has ls 4 [] → W p l e ({ frames := 1, cells := 0, slots := 0, locals := 24 }) s m ([.ref (ad 0), .int y1, .int y2, .int y3] : List Value).toArray below meth c H locs 0 0 (vx_MQ below (va_Qi (fun r (u : wF × wA × wB) => po r u.1 u.2.1 u.2.2) (sPost nM kM D vwCl ad ca A) A) (sX nM kM D vwCl ad ca A (fun _ _ _ _ => False)) ([.ref (ad 0), .int y1, .int y2, .int y3] : List Value).toArray s 0 0 A) (F0 m 50 ls [.int k0]) := by
  obtain ⟨hx, hb, hml, hown, hts, hK, hA, hth, hlk, hl9⟩ := id X
  intro k0 f a b hw H locs K ls hl
  dsimp only [wp_M_may_50] at hw
  exact endI X K hr hw.1 hw.2 (by decide) (by decide) dM_may_50
set_option maxHeartbeats 4000000 in
set_option maxRecDepth 100000 in
theorem LM_may_45 {p : Program} {l : Launch} {e : Env} {s : State} {m : MethodId} {below : List Frame} {meth : Method} {c : Code} {D : va_G} {sa : Nat → Nat} {ad : Nat → Nat} {ca : Nat → ClassId} {A : Nat → Prop} {y1 : Int32} {y2 : Int32} {y3 : Int32} {po : Int32 → wF → wA → wB → Prop} (X : cx Wl (tyS ca) txS D vwCl sa A p l s m ([.ref (ad 0), .int y1, .int y2, .int y3] : List Value).toArray meth c cM_may 4 "SendBestModel") (hex : ∀ x ∈ c.exceptionTable.toList, False) (hr : meth.sig.returnType = (some .boolean)) : ∀ (f : wF) (a : wA) (b : wB), wp_M_may_45 po f a b → ∀ (H : Heap) (locs : List Loc), wd nM kM D vwCl ad ca A s H locs f a b → ∀ (ls : Array Slot), lv_has ls 4 [] → W p l e ({ frames := 1, cells := 0, slots := 0, locals := 24 }) s m ([.ref (ad 0), .int y1, .int y2, .int y3] : List Value).toArray below meth c H locs 0 0 (vx_MQ below (va_Qi (fun r (u : wF × wA × wB) => po r u.1 u.2.1 u.2.2) (sPost nM kM D vwCl ad ca A) A) (sX nM kM D vwCl ad ca A (fun _ _ _ _ => False)) ([.ref (ad 0), .int y1, .int y2, .int y3] : List Value).toArray s 0 0 A) (F0 m 45 ls []) := by
  obtain ⟨hx, hb, hml, hown, hts, hK, hA, hth, hlk, hl9⟩ := id X
  intro  f a b hw H locs K ls hl
  dsimp only [wp_M_may_45] at hw
  refine lv_iconst (v := (1 : Int32)) hx hb dM_may_45 (by decide) ?_
  refine lv_goto (tgt := 50) hx hb dM_may_46 (by decide) ?_
  exact LM_may_50 X hex hr (1 : Int32) f a b hw _ _ K _ (lv_sub hl [] rfl)
set_option maxHeartbeats 4000000 in
set_option maxRecDepth 100000 in
theorem LM_may_18 {p : Program} {l : Launch} {e : Env} {s : State} {m : MethodId} {below : List Frame} {meth : Method} {c : Code} {D : va_G} {sa : Nat → Nat} {ad : Nat → Nat} {ca : Nat → ClassId} {A : Nat → Prop} {y1 : Int32} {y2 : Int32} {y3 : Int32} {po : Int32 → wF → wA → wB → Prop} (X : cx Wl (tyS ca) txS D vwCl sa A p l s m ([.ref (ad 0), .int y1, .int y2, .int y3] : List Value).toArray meth c cM_may 4 "SendBestModel") (hex : ∀ x ∈ c.exceptionTable.toList, False) (hr : meth.sig.returnType = (some .boolean)) : ∀ (f : wF) (a : wA) (b : wB), wp_M_may_18 po f a b → ∀ (H : Heap) (locs : List Loc), wd nM kM D vwCl ad ca A s H locs f a b → ∀ (ls : Array Slot), lv_has ls 4 [] → W p l e ({ frames := 1, cells := 0, slots := 0, locals := 24 }) s m ([.ref (ad 0), .int y1, .int y2, .int y3] : List Value).toArray below meth c H locs 0 0 (vx_MQ below (va_Qi (fun r (u : wF × wA × wB) => po r u.1 u.2.1 u.2.2) (sPost nM kM D vwCl ad ca A) A) (sX nM kM D vwCl ad ca A (fun _ _ _ _ => False)) ([.ref (ad 0), .int y1, .int y2, .int y3] : List Value).toArray s 0 0 A) (F0 m 18 ls []) := by
  obtain ⟨hx, hb, hml, hown, hts, hK, hA, hth, hlk, hl9⟩ := id X
  intro  f a b hw H locs K ls hl
  dsimp only [wp_M_may_18] at hw
  refine lv_iconst (v := (0 : Int32)) hx hb dM_may_18 (by decide) ?_
  exact endI X K hr hw.1 hw.2 (by decide) (by decide) dM_may_19
set_option maxHeartbeats 4000000 in
set_option maxRecDepth 100000 in
theorem met_M_may {l : Launch} (hl9 : l.stackTraces = false) (D : va_G) (ad : Nat → Nat) (ca : Nat → ClassId) (sa : Nat → Nat) (sz : Nat) (x1 : Int32) (x2 : Int32) (x3 : Int32) (f : wF) (a : wA) (b : wB) (po : Int32 → wF → wA → wB → Prop) (hw : wp_M_may po x1 x2 x3 f a b) : mI nM kM (tyS ca) txS D vwCl l yM_may (Cond.code yM_may cM_may 4 (some .boolean) :: Wl) ({ frames := 1, cells := 0, slots := 0, locals := 24 }) [.ref (ad 0), .int x1, .int x2, .int x3] ad ca sa sz f a b po (fun _ _ _ _ => False) 0 0 := by
  refine ofI (by decide) hl9 (Nat.le_of_ble_eq_true rfl) ?_
  intro p e s m below meth c ls X hex hr K hl
  obtain ⟨hx, hb, hml, hown, hts, hK, hA, hth, hlk, hl9⟩ := id X
  have hl : lv_has ls 4 [(0, .ref (ad 0)), (1, .int x1), (2, .int x2), (3, .int x3)] := hl
  dsimp only [wp_M_may] at hw
  refine lv_iload_n hx hb dM_may_0 rfl (lv_at hl 3 rfl) ?_
  refine lv_iload_n hx hb dM_may_1 rfl (lv_at hl 2 rfl) ?_
  refine lv_ishr hx hb dM_may_2 ?_
  refine lv_iconst (v := (1 : Int32)) hx hb dM_may_3 (by decide) ?_
  refine lv_iand hx hb dM_may_4 ?_
  refine lv_iconst (v := (1 : Int32)) hx hb dM_may_5 (by decide) ?_
  refine lv_icmp_eq (tgt := 18) hx hb dM_may_6 (by decide) (fun hc => ?_) (fun hc => ?_)
  · replace hw := hw.1 hc
    exact LM_may_18 X hex hr f a b hw _ _ K _ (lv_sub hl [] rfl)
  · replace hw := hw.2 hc
    refine lv_aload_n hx hb dM_may_9 rfl (lv_at hl 0 rfl) ?_
    refine lv_iload_n hx hb dM_may_10 rfl (lv_at hl 2 rfl) ?_
    refine lv_iload_n hx hb dM_may_11 rfl (lv_at hl 1 rfl) ?_
    refine gcI X K (n0 := 2) (As := [.int x2, .int x1]) (rest := []) (hM := (met_M_canFill hl9 D ad ca sa _ x2 x1 f a b _ hw)) (o := 0) (ho := by decide) (hko := kM_o0) (hci := rfl) (hg := wl_good) (w1 := (tm4 (i := 7) rfl rfl)) (w2 := (tm4 (i := 9) rfl rfl)) (w3 := (tm0 (i := 40) rfl rfl)) (w4 := (tm1 (i := 4) rfl rfl)) (w5 := (tm4 (i := 10) rfl rfl)) (hd := ⟨rfl, by decide, by decide, by decide +kernel⟩) (hrc := rfl) (hrs := rfl) (hR := ⟨Nat.le_of_ble_eq_true rfl, Nat.le_of_ble_eq_true rfl⟩) (hn := rfl) (hsz := hl.1) (hst := rfl) (hW := Nat.le_of_ble_eq_true rfl) (hdg := dM_may_12) (hf := ⟨Nat.le_of_ble_eq_true rfl, Nat.le_of_ble_eq_true rfl⟩) (fun _ _ _ _ _ _ _ _ hw => hw.elim) (fun r12 f12 a12 b12 H locs hw K => ?_)
    refine lv_if_ne (tgt := 20) hx hb dM_may_15 (by decide) (fun hc => ?_) (fun hc => ?_)
    · replace hw := hw.1 hc
      refine lv_aload_n hx hb dM_may_20 rfl (lv_at hl 0 rfl) ?_
      refine lv_iload_n hx hb dM_may_21 rfl (lv_at hl 1 rfl) ?_
      refine gcI X K (n0 := 1) (As := [.int x1]) (rest := []) (hM := (met_M_rankOf hl9 D ad ca sa _ x1 f12 a12 b12 _ hw)) (o := 0) (ho := by decide) (hko := kM_o0) (hci := rfl) (hg := wl_good) (w1 := (tm3 (i := 235) rfl rfl)) (w2 := (tm3 (i := 237) rfl rfl)) (w3 := (tm0 (i := 37) rfl rfl)) (w4 := (tm1 (i := 4) rfl rfl)) (w5 := (tm3 (i := 238) rfl rfl)) (hd := ⟨rfl, by decide, by decide, by decide +kernel⟩) (hrc := rfl) (hrs := rfl) (hR := ⟨Nat.le_of_ble_eq_true rfl, Nat.le_of_ble_eq_true rfl⟩) (hn := rfl) (hsz := hl.1) (hst := rfl) (hW := Nat.le_of_ble_eq_true rfl) (hdg := dM_may_22) (hf := ⟨Nat.le_of_ble_eq_true rfl, Nat.le_of_ble_eq_true rfl⟩) (fun _ _ _ _ _ _ _ _ hw => hw.elim) (fun r22 f22 a22 b22 H locs hw K => ?_)
      refine lv_aload_n hx hb dM_may_25 rfl (lv_at hl 0 rfl) ?_
      refine gGet X K (o := 0) (k := 15) (v := .int (f22 5)) (by decide) kM_o0 rfl inM_o0 (by decide) (tm3 (i := 118) rfl rfl) rfl dM_may_26 ?_
      refine lv_icmp_ge (tgt := 45) hx hb dM_may_29 (by decide) (fun hc => ?_) (fun hc => ?_)
      · replace hw := hw.1 hc
        exact LM_may_45 X hex hr f22 a22 b22 hw _ _ K _ (lv_sub hl [] rfl)
      · replace hw := hw.2 hc
        refine lv_iload_n hx hb dM_may_32 rfl (lv_at hl 3 rfl) ?_
        refine gcSI X K (n0 := 1) (As := [.int x3]) (rest := []) (hM := (met_M_ones hl9 D ad ca sa _ x3 f22 a22 b22 _ hw)) (hg := wl_good) (w1 := (tm4 (i := 20) rfl rfl)) (w2 := (tm4 (i := 21) rfl rfl)) (w4 := (tm1 (i := 4) rfl rfl)) (w5 := (tm4 (i := 22) rfl rfl)) (hd := ⟨by decide, by decide, by decide +kernel⟩) (hrc := rfl) (hrs := rfl) (hR := ⟨Nat.le_of_ble_eq_true rfl, Nat.le_of_ble_eq_true rfl⟩) (hn := rfl) (hsz := hl.1) (hst := rfl) (hW := Nat.le_of_ble_eq_true rfl) (hdg := dM_may_33) (hf := ⟨Nat.le_of_ble_eq_true rfl, Nat.le_of_ble_eq_true rfl⟩) (fun _ _ _ _ _ _ _ _ hw => hw.elim) (fun r33 f33 a33 b33 H locs hw K => ?_)
        refine lv_iconst (v := (1 : Int32)) hx hb dM_may_36 (by decide) ?_
        refine lv_iadd hx hb dM_may_37 ?_
        refine lv_aload_n hx hb dM_may_38 rfl (lv_at hl 0 rfl) ?_
        refine gcI X K (n0 := 0) (As := []) (rest := [.int (r33 + (1 : Int32))]) (hM := (met_M_most hl9 D ad ca sa _ f33 a33 b33 _ hw)) (o := 0) (ho := by decide) (hko := kM_o0) (hci := rfl) (hg := wl_good) (w1 := (tm4 (i := 23) rfl rfl)) (w2 := (tm4 (i := 25) rfl rfl)) (w3 := (tm0 (i := 43) rfl rfl)) (w4 := (tm1 (i := 4) rfl rfl)) (w5 := (tm4 (i := 26) rfl rfl)) (hd := ⟨rfl, by decide, by decide, by decide +kernel⟩) (hrc := rfl) (hrs := rfl) (hR := ⟨Nat.le_of_ble_eq_true rfl, Nat.le_of_ble_eq_true rfl⟩) (hn := rfl) (hsz := hl.1) (hst := rfl) (hW := Nat.le_of_ble_eq_true rfl) (hdg := dM_may_39) (hf := ⟨Nat.le_of_ble_eq_true rfl, Nat.le_of_ble_eq_true rfl⟩) (fun _ _ _ _ _ _ _ _ hw => hw.elim) (fun r39 f39 a39 b39 H locs hw K => ?_)
        refine lv_icmp_gt (tgt := 49) hx hb dM_may_42 (by decide) (fun hc => ?_) (fun hc => ?_)
        · replace hw := hw.1 hc
          refine lv_iconst (v := (0 : Int32)) hx hb dM_may_49 (by decide) ?_
          exact LM_may_50 X hex hr (0 : Int32) f39 a39 b39 hw _ _ K _ (lv_sub hl [] rfl)
        · replace hw := hw.2 hc
          exact LM_may_45 X hex hr f39 a39 b39 hw _ _ K _ (lv_sub hl [] rfl)
    · replace hw := hw.2 hc
      exact LM_may_18 X hex hr f12 a12 b12 hw _ _ K _ (lv_sub hl [] rfl)
set_option maxHeartbeats 4000000 in
set_option maxRecDepth 100000 in
theorem met_M_with {l : Launch} (hl9 : l.stackTraces = false) (D : va_G) (ad : Nat → Nat) (ca : Nat → ClassId) (sa : Nat → Nat) (sz : Nat) (x1 : Int32) (x2 : Int32) (x3 : Int32) (f : wF) (a : wA) (b : wB) (po : Int64 → wF → wA → wB → Prop) (hw : wp_M_with po x1 x2 x3 f a b) : mL nM kM (tyS ca) txS D vwCl l yM_with (Cond.code yM_with cM_with 5 (some .long) :: Wl) ({ frames := 1, cells := 0, slots := 0, locals := 21 }) [.ref (ad 0), .int x1, .int x2, .int x3] ad ca sa sz f a b po (fun _ _ _ _ => False) 0 0 := by
  refine ofL (by decide) hl9 (Nat.le_of_ble_eq_true rfl) ?_
  intro p e s m below meth c ls X hex hr K hl
  obtain ⟨hx, hb, hml, hown, hts, hK, hA, hth, hlk, hl9⟩ := id X
  have hl : lv_has ls 5 [(0, .ref (ad 0)), (1, .int x1), (2, .int x2), (3, .int x3)] := hl
  dsimp only [wp_M_with] at hw
  refine lv_aload_n hx hb dM_with_0 rfl (lv_at hl 0 rfl) ?_
  refine gGet X K (o := 0) (k := 16) (v := .ref (ad 11)) (by decide) kM_o0 rfl inM_o0 (by decide) (tm3 (i := 119) rfl rfl) rfl dM_with_1 ?_
  refine lv_iload_n hx hb dM_with_4 rfl (lv_at hl 1 rfl) ?_
  obtain ⟨hi, hw⟩ := hw
  refine gild X K (o := 11) (t0 := 0) (by decide) kM_c11 rfl hi dM_with_5 ?_
  refine lv_istore (lv' := [(4, .int (a 11 x1.toNatClampNeg)), (0, .ref (ad 0)), (1, .int x1), (2, .int x2), (3, .int x3)]) hx hb dM_with_6 hl (by decide) rfl (fun ls hl => ?_)
  refine lv_aload_n hx hb dM_with_8 rfl (lv_at hl 1 rfl) ?_
  refine lv_iload hx hb dM_with_9 (lv_at hl 0 rfl) ?_
  refine gcI X K (n0 := 1) (As := [.int (a 11 x1.toNatClampNeg)]) (rest := []) (hM := (met_M_rankOf hl9 D ad ca sa _ (a 11 x1.toNatClampNeg) f a b _ hw)) (o := 0) (ho := by decide) (hko := kM_o0) (hci := rfl) (hg := wl_good) (w1 := (tm3 (i := 235) rfl rfl)) (w2 := (tm3 (i := 237) rfl rfl)) (w3 := (tm0 (i := 37) rfl rfl)) (w4 := (tm1 (i := 4) rfl rfl)) (w5 := (tm3 (i := 238) rfl rfl)) (hd := ⟨rfl, by decide, by decide, by decide +kernel⟩) (hrc := rfl) (hrs := rfl) (hR := ⟨Nat.le_of_ble_eq_true rfl, Nat.le_of_ble_eq_true rfl⟩) (hn := rfl) (hsz := hl.1) (hst := rfl) (hW := Nat.le_of_ble_eq_true rfl) (hdg := dM_with_11) (hf := ⟨Nat.le_of_ble_eq_true rfl, Nat.le_of_ble_eq_true rfl⟩) (fun _ _ _ _ _ _ _ _ hw => hw.elim) (fun r11 f11 a11 b11 H locs hw K => ?_)
  refine lv_i2l (v := r11.toInt64) hx hb dM_with_14 rfl ?_
  refine lv_aload_n hx hb dM_with_15 rfl (lv_at hl 1 rfl) ?_
  refine gGet X K (o := 0) (k := 4) (v := .ref (ad 3)) (by decide) kM_o0 rfl inM_o0 (by decide) (tm3 (i := 107) rfl rfl) rfl dM_with_16 ?_
  refine lv_bipush (v := (6 : Int32)) hx hb dM_with_19 (by decide) ?_
  refine lv_iload_n hx hb dM_with_21 rfl (lv_at hl 3 rfl) ?_
  refine lv_imul hx hb dM_with_22 ?_
  refine lv_aload_n hx hb dM_with_23 rfl (lv_at hl 1 rfl) ?_
  refine gGet X K (o := 0) (k := 9) (v := .ref (ad 6)) (by decide) kM_o0 rfl inM_o0 (by decide) (tm3 (i := 112) rfl rfl) rfl dM_with_24 ?_
  refine lv_iload hx hb dM_with_27 (lv_at hl 0 rfl) ?_
  obtain ⟨hi, hw⟩ := hw
  refine gild X K (o := 6) (t0 := 0) (by decide) kM_c6 rfl hi dM_with_29 ?_
  refine lv_iadd hx hb dM_with_30 ?_
  obtain ⟨hi, hw⟩ := hw
  refine gild X K (o := 3) (t0 := 0) (by decide) kM_c3 rfl hi dM_with_31 ?_
  refine lv_i2l (v := (a11 3 (((6 : Int32) * x2) + (a11 6 (a 11 x1.toNatClampNeg).toNatClampNeg)).toNatClampNeg).toInt64) hx hb dM_with_32 rfl ?_
  refine lv_lmul hx hb dM_with_33 ?_
  refine lv_aload_n hx hb dM_with_34 rfl (lv_at hl 1 rfl) ?_
  refine gGet X K (o := 0) (k := 18) (v := .ref (ad 12)) (by decide) kM_o0 rfl inM_o0 (by decide) (tm3 (i := 121) rfl rfl) rfl dM_with_35 ?_
  refine lv_sipush (v := (4096 : Int32)) hx hb dM_with_38 (by decide) ?_
  refine lv_iload_n hx hb dM_with_41 rfl (lv_at hl 2 rfl) ?_
  refine lv_iconst (v := (1 : Int32)) hx hb dM_with_42 (by decide) ?_
  refine lv_iadd hx hb dM_with_43 ?_
  refine lv_imul hx hb dM_with_44 ?_
  refine lv_iload_n hx hb dM_with_45 rfl (lv_at hl 4 rfl) ?_
  refine lv_iconst (v := (1 : Int32)) hx hb dM_with_46 (by decide) ?_
  refine lv_iload_n hx hb dM_with_47 rfl (lv_at hl 3 rfl) ?_
  refine lv_ishl hx hb dM_with_48 ?_
  refine lv_ior hx hb dM_with_49 ?_
  refine lv_iadd hx hb dM_with_50 ?_
  obtain ⟨hi, hw⟩ := hw
  refine glld X K (o := 12) (t0 := 2) (by decide) kM_c12 rfl hi dM_with_51 ?_
  refine lv_ladd hx hb dM_with_52 ?_
  exact endL X K hr hw (by decide) (by decide) dM_with_53
set_option maxHeartbeats 4000000 in
set_option maxRecDepth 100000 in
theorem met_M_without {l : Launch} (hl9 : l.stackTraces = false) (D : va_G) (ad : Nat → Nat) (ca : Nat → ClassId) (sa : Nat → Nat) (sz : Nat) (x1 : Int32) (x2 : Int32) (f : wF) (a : wA) (b : wB) (po : Int64 → wF → wA → wB → Prop) (hw : wp_M_without po x1 x2 f a b) : mL nM kM (tyS ca) txS D vwCl l yM_without (Cond.code yM_without cM_without 3 (some .long) :: Wl) ({ frames := 1, cells := 0, slots := 0, locals := 21 }) [.ref (ad 0), .int x1, .int x2] ad ca sa sz f a b po (fun _ _ _ _ => False) 0 0 := by
  refine ofL (by decide) hl9 (Nat.le_of_ble_eq_true rfl) ?_
  intro p e s m below meth c ls X hex hr K hl
  obtain ⟨hx, hb, hml, hown, hts, hK, hA, hth, hlk, hl9⟩ := id X
  have hl : lv_has ls 3 [(0, .ref (ad 0)), (1, .int x1), (2, .int x2)] := hl
  dsimp only [wp_M_without] at hw
  refine lv_ldc2 (v := (1000000000000 : Int64)) hx hb hown (hts _ (tm4 (i := 15) rfl rfl)) dM_without_0 ?_
  refine lv_aload_n hx hb dM_without_3 rfl (lv_at hl 0 rfl) ?_
  refine lv_aload_n hx hb dM_without_4 rfl (lv_at hl 0 rfl) ?_
  refine gGet X K (o := 0) (k := 16) (v := .ref (ad 11)) (by decide) kM_o0 rfl inM_o0 (by decide) (tm3 (i := 119) rfl rfl) rfl dM_without_5 ?_
  refine lv_iload_n hx hb dM_without_8 rfl (lv_at hl 1 rfl) ?_
  obtain ⟨hi, hw⟩ := hw
  refine gild X K (o := 11) (t0 := 0) (by decide) kM_c11 rfl hi dM_without_9 ?_
  refine gcI X K (n0 := 1) (As := [.int (a 11 x1.toNatClampNeg)]) (rest := [.long (1000000000000 : Int64)]) (hM := (met_M_rankOf hl9 D ad ca sa _ (a 11 x1.toNatClampNeg) f a b _ hw)) (o := 0) (ho := by decide) (hko := kM_o0) (hci := rfl) (hg := wl_good) (w1 := (tm3 (i := 235) rfl rfl)) (w2 := (tm3 (i := 237) rfl rfl)) (w3 := (tm0 (i := 37) rfl rfl)) (w4 := (tm1 (i := 4) rfl rfl)) (w5 := (tm3 (i := 238) rfl rfl)) (hd := ⟨rfl, by decide, by decide, by decide +kernel⟩) (hrc := rfl) (hrs := rfl) (hR := ⟨Nat.le_of_ble_eq_true rfl, Nat.le_of_ble_eq_true rfl⟩) (hn := rfl) (hsz := hl.1) (hst := rfl) (hW := Nat.le_of_ble_eq_true rfl) (hdg := dM_without_10) (hf := ⟨Nat.le_of_ble_eq_true rfl, Nat.le_of_ble_eq_true rfl⟩) (fun _ _ _ _ _ _ _ _ hw => hw.elim) (fun r10 f10 a10 b10 H locs hw K => ?_)
  refine lv_i2l (v := r10.toInt64) hx hb dM_without_13 rfl ?_
  refine lv_lmul hx hb dM_without_14 ?_
  refine lv_aload_n hx hb dM_without_15 rfl (lv_at hl 0 rfl) ?_
  refine gGet X K (o := 0) (k := 18) (v := .ref (ad 12)) (by decide) kM_o0 rfl inM_o0 (by decide) (tm3 (i := 121) rfl rfl) rfl dM_without_16 ?_
  refine lv_sipush (v := (4096 : Int32)) hx hb dM_without_19 (by decide) ?_
  refine lv_iload_n hx hb dM_without_22 rfl (lv_at hl 1 rfl) ?_
  refine lv_iconst (v := (1 : Int32)) hx hb dM_without_23 (by decide) ?_
  refine lv_iadd hx hb dM_without_24 ?_
  refine lv_imul hx hb dM_without_25 ?_
  refine lv_iload_n hx hb dM_without_26 rfl (lv_at hl 2 rfl) ?_
  refine lv_iadd hx hb dM_without_27 ?_
  obtain ⟨hi, hw⟩ := hw
  refine glld X K (o := 12) (t0 := 2) (by decide) kM_c12 rfl hi dM_without_28 ?_
  refine lv_ladd hx hb dM_without_29 ?_
  exact endL X K hr hw (by decide) (by decide) dM_without_30
set_option maxHeartbeats 4000000 in
set_option maxRecDepth 100000 in
theorem LM_reckon_117 {p : Program} {l : Launch} {e : Env} {s : State} {m : MethodId} {below : List Frame} {meth : Method} {c : Code} {D : va_G} {sa : Nat → Nat} {ad : Nat → Nat} {ca : Nat → ClassId} {A : Nat → Prop} {po : wF → wA → wB → Prop} (X : cx Wl (tyS ca) txS D vwCl sa A p l s m ([.ref (ad 0)] : List Value).toArray meth c cM_reckon 8 "SendBestModel") (hex : ∀ x ∈ c.exceptionTable.toList, False) (hr : meth.sig.returnType = none) (J42 : Int32 → wF → wA → wB → Prop) (J48 : Int32 → Int32 → wF → wA → wB → Prop) (J65 : Int32 → Int32 → Int64 → Int32 → wF → wA → wB → Prop) (hJ42 : ∀ (x1 : Int32) (f : wF) (a : wA) (b : wB), J42 x1 f a b → ∀ (H : Heap) (locs : List Loc), wd nM kM D vwCl ad ca A s H locs f a b → ∀ (ls : Array Slot), lv_has ls 8 [(0, .ref (ad 0)), (1, .int x1)] → W p l e ({ frames := 3, cells := 0, slots := 0, locals := 68 }) s m ([.ref (ad 0)] : List Value).toArray below meth c H locs 0 0 (vx_MQ below (va_Qv (fun (u : wF × wA × wB) => po u.1 u.2.1 u.2.2) (sPost nM kM D vwCl ad ca A) A) (sX nM kM D vwCl ad ca A (fun _ _ _ _ => False)) ([.ref (ad 0)] : List Value).toArray s 0 0 A) (F0 m 42 ls [])) (hJ48 : ∀ (x1 : Int32) (x2 : Int32) (f : wF) (a : wA) (b : wB), J48 x1 x2 f a b → ∀ (H : Heap) (locs : List Loc), wd nM kM D vwCl ad ca A s H locs f a b → ∀ (ls : Array Slot), lv_has ls 8 [(0, .ref (ad 0)), (1, .int x1), (2, .int x2)] → W p l e ({ frames := 3, cells := 0, slots := 0, locals := 68 }) s m ([.ref (ad 0)] : List Value).toArray below meth c H locs 0 0 (vx_MQ below (va_Qv (fun (u : wF × wA × wB) => po u.1 u.2.1 u.2.2) (sPost nM kM D vwCl ad ca A) A) (sX nM kM D vwCl ad ca A (fun _ _ _ _ => False)) ([.ref (ad 0)] : List Value).toArray s 0 0 A) (F0 m 48 ls [])) (hJ65 : ∀ (x1 : Int32) (x2 : Int32) (x3 : Int64) (x5 : Int32) (f : wF) (a : wA) (b : wB), J65 x1 x2 x3 x5 f a b → ∀ (H : Heap) (locs : List Loc), wd nM kM D vwCl ad ca A s H locs f a b → ∀ (ls : Array Slot), lv_has ls 8 [(0, .ref (ad 0)), (1, .int x1), (2, .int x2), (3, .long x3), (5, .int x5)] → W p l e ({ frames := 3, cells := 0, slots := 0, locals := 68 }) s m ([.ref (ad 0)] : List Value).toArray below meth c H locs 0 0 (vx_MQ below (va_Qv (fun (u : wF × wA × wB) => po u.1 u.2.1 u.2.2) (sPost nM kM D vwCl ad ca A) A) (sX nM kM D vwCl ad ca A (fun _ _ _ _ => False)) ([.ref (ad 0)] : List Value).toArray s 0 0 A) (F0 m 65 ls [])) : ∀ (k0 : Int64) (x1 : Int32) (x2 : Int32) (x5 : Int32) (f : wF) (a : wA) (b : wB), wp_M_reckon_117 po J42 J48 J65 k0 x1 x2 x5 f a b → ∀ (H : Heap) (locs : List Loc), wd nM kM D vwCl ad ca A s H locs f a b → ∀ (ls : Array Slot), lv_has ls 8 [(0, .ref (ad 0)), (1, .int x1), (2, .int x2), (5, .int x5)] → W p l e ({ frames := 3, cells := 0, slots := 0, locals := 68 }) s m ([.ref (ad 0)] : List Value).toArray below meth c H locs 0 0 (vx_MQ below (va_Qv (fun (u : wF × wA × wB) => po u.1 u.2.1 u.2.2) (sPost nM kM D vwCl ad ca A) A) (sX nM kM D vwCl ad ca A (fun _ _ _ _ => False)) ([.ref (ad 0)] : List Value).toArray s 0 0 A) (F0 m 117 ls [.long k0]) := by
  obtain ⟨hx, hb, hml, hown, hts, hK, hA, hth, hlk, hl9⟩ := id X
  intro k0 x1 x2 x5 f a b hw H locs K ls hl
  dsimp only [wp_M_reckon_117] at hw
  refine lv_lstore_n (lv' := [(3, .long k0), (0, .ref (ad 0)), (1, .int x1), (2, .int x2), (5, .int x5)]) hx hb dM_reckon_117 rfl hl (by decide) rfl (fun ls hl => ?_)
  refine lv_iinc (v := (x5 + (1 : Int32))) (lv' := [(5, .int (x5 + (1 : Int32))), (3, .long k0), (0, .ref (ad 0)), (1, .int x1), (2, .int x2)]) hx hb dM_reckon_118 hl (k := 4) rfl rfl (by decide) rfl (fun ls hl => ?_)
  refine lv_goto (tgt := 65) hx hb dM_reckon_121 (by decide) ?_
  exact hJ65 x1 x2 k0 (x5 + (1 : Int32)) f a b hw _ _ K _ (lv_sub hl [2, 3, 4, 1, 0] rfl)
set_option maxHeartbeats 4000000 in
set_option maxRecDepth 100000 in
theorem LM_reckon_102 {p : Program} {l : Launch} {e : Env} {s : State} {m : MethodId} {below : List Frame} {meth : Method} {c : Code} {D : va_G} {sa : Nat → Nat} {ad : Nat → Nat} {ca : Nat → ClassId} {A : Nat → Prop} {po : wF → wA → wB → Prop} (X : cx Wl (tyS ca) txS D vwCl sa A p l s m ([.ref (ad 0)] : List Value).toArray meth c cM_reckon 8 "SendBestModel") (hex : ∀ x ∈ c.exceptionTable.toList, False) (hr : meth.sig.returnType = none) (J42 : Int32 → wF → wA → wB → Prop) (J48 : Int32 → Int32 → wF → wA → wB → Prop) (J65 : Int32 → Int32 → Int64 → Int32 → wF → wA → wB → Prop) (hJ42 : ∀ (x1 : Int32) (f : wF) (a : wA) (b : wB), J42 x1 f a b → ∀ (H : Heap) (locs : List Loc), wd nM kM D vwCl ad ca A s H locs f a b → ∀ (ls : Array Slot), lv_has ls 8 [(0, .ref (ad 0)), (1, .int x1)] → W p l e ({ frames := 3, cells := 0, slots := 0, locals := 68 }) s m ([.ref (ad 0)] : List Value).toArray below meth c H locs 0 0 (vx_MQ below (va_Qv (fun (u : wF × wA × wB) => po u.1 u.2.1 u.2.2) (sPost nM kM D vwCl ad ca A) A) (sX nM kM D vwCl ad ca A (fun _ _ _ _ => False)) ([.ref (ad 0)] : List Value).toArray s 0 0 A) (F0 m 42 ls [])) (hJ48 : ∀ (x1 : Int32) (x2 : Int32) (f : wF) (a : wA) (b : wB), J48 x1 x2 f a b → ∀ (H : Heap) (locs : List Loc), wd nM kM D vwCl ad ca A s H locs f a b → ∀ (ls : Array Slot), lv_has ls 8 [(0, .ref (ad 0)), (1, .int x1), (2, .int x2)] → W p l e ({ frames := 3, cells := 0, slots := 0, locals := 68 }) s m ([.ref (ad 0)] : List Value).toArray below meth c H locs 0 0 (vx_MQ below (va_Qv (fun (u : wF × wA × wB) => po u.1 u.2.1 u.2.2) (sPost nM kM D vwCl ad ca A) A) (sX nM kM D vwCl ad ca A (fun _ _ _ _ => False)) ([.ref (ad 0)] : List Value).toArray s 0 0 A) (F0 m 48 ls [])) (hJ65 : ∀ (x1 : Int32) (x2 : Int32) (x3 : Int64) (x5 : Int32) (f : wF) (a : wA) (b : wB), J65 x1 x2 x3 x5 f a b → ∀ (H : Heap) (locs : List Loc), wd nM kM D vwCl ad ca A s H locs f a b → ∀ (ls : Array Slot), lv_has ls 8 [(0, .ref (ad 0)), (1, .int x1), (2, .int x2), (3, .long x3), (5, .int x5)] → W p l e ({ frames := 3, cells := 0, slots := 0, locals := 68 }) s m ([.ref (ad 0)] : List Value).toArray below meth c H locs 0 0 (vx_MQ below (va_Qv (fun (u : wF × wA × wB) => po u.1 u.2.1 u.2.2) (sPost nM kM D vwCl ad ca A) A) (sX nM kM D vwCl ad ca A (fun _ _ _ _ => False)) ([.ref (ad 0)] : List Value).toArray s 0 0 A) (F0 m 65 ls [])) : ∀ (k0 : Int64) (x1 : Int32) (x2 : Int32) (x3 : Int64) (x5 : Int32) (f : wF) (a : wA) (b : wB), wp_M_reckon_102 po J42 J48 J65 k0 x1 x2 x3 x5 f a b → ∀ (H : Heap) (locs : List Loc), wd nM kM D vwCl ad ca A s H locs f a b → ∀ (ls : Array Slot), lv_has ls 8 [(0, .ref (ad 0)), (1, .int x1), (2, .int x2), (3, .long x3), (5, .int x5)] → W p l e ({ frames := 3, cells := 0, slots := 0, locals := 68 }) s m ([.ref (ad 0)] : List Value).toArray below meth c H locs 0 0 (vx_MQ below (va_Qv (fun (u : wF × wA × wB) => po u.1 u.2.1 u.2.2) (sPost nM kM D vwCl ad ca A) A) (sX nM kM D vwCl ad ca A (fun _ _ _ _ => False)) ([.ref (ad 0)] : List Value).toArray s 0 0 A) (F0 m 102 ls [.long k0]) := by
  obtain ⟨hx, hb, hml, hown, hts, hK, hA, hth, hlk, hl9⟩ := id X
  intro k0 x1 x2 x3 x5 f a b hw H locs K ls hl
  dsimp only [wp_M_reckon_102] at hw
  refine lv_lstore (lv' := [(6, .long k0), (0, .ref (ad 0)), (1, .int x1), (2, .int x2), (3, .long x3), (5, .int x5)]) hx hb dM_reckon_102 hl (by decide) rfl (fun ls hl => ?_)
  refine lv_lload hx hb dM_reckon_104 (lv_at hl 0 rfl) ?_
  refine lv_lload_n hx hb dM_reckon_106 rfl (lv_at hl 4 rfl) ?_
  refine W.lcmp hx hb dM_reckon_107 ?_
  refine lv_if_ge (tgt := 116) hx hb dM_reckon_108 (by decide) (fun hc => ?_) (fun hc => ?_)
  · replace hw := hw.1 hc
    refine lv_lload_n hx hb dM_reckon_116 rfl (lv_at hl 4 rfl) ?_
    exact LM_reckon_117 X hex hr J42 J48 J65 hJ42 hJ48 hJ65 x3 x1 x2 x5 f a b hw _ _ K _ (lv_sub hl [1, 2, 3, 5] rfl)
  · replace hw := hw.2 hc
    refine lv_lload hx hb dM_reckon_111 (lv_at hl 0 rfl) ?_
    refine lv_goto (tgt := 117) hx hb dM_reckon_113 (by decide) ?_
    exact LM_reckon_117 X hex hr J42 J48 J65 hJ42 hJ48 hJ65 k0 x1 x2 x5 f a b hw _ _ K _ (lv_sub hl [1, 2, 3, 5] rfl)
set_option maxHeartbeats 4000000 in
set_option maxRecDepth 100000 in
theorem LM_reckon_65 {p : Program} {l : Launch} {e : Env} {s : State} {m : MethodId} {below : List Frame} {meth : Method} {c : Code} {D : va_G} {sa : Nat → Nat} {ad : Nat → Nat} {ca : Nat → ClassId} {A : Nat → Prop} {po : wF → wA → wB → Prop} (X : cx Wl (tyS ca) txS D vwCl sa A p l s m ([.ref (ad 0)] : List Value).toArray meth c cM_reckon 8 "SendBestModel") (hex : ∀ x ∈ c.exceptionTable.toList, False) (hr : meth.sig.returnType = none) (J42 : Int32 → wF → wA → wB → Prop) (J48 : Int32 → Int32 → wF → wA → wB → Prop) (hJ42 : ∀ (x1 : Int32) (f : wF) (a : wA) (b : wB), J42 x1 f a b → ∀ (H : Heap) (locs : List Loc), wd nM kM D vwCl ad ca A s H locs f a b → ∀ (ls : Array Slot), lv_has ls 8 [(0, .ref (ad 0)), (1, .int x1)] → W p l e ({ frames := 3, cells := 0, slots := 0, locals := 68 }) s m ([.ref (ad 0)] : List Value).toArray below meth c H locs 0 0 (vx_MQ below (va_Qv (fun (u : wF × wA × wB) => po u.1 u.2.1 u.2.2) (sPost nM kM D vwCl ad ca A) A) (sX nM kM D vwCl ad ca A (fun _ _ _ _ => False)) ([.ref (ad 0)] : List Value).toArray s 0 0 A) (F0 m 42 ls [])) (hJ48 : ∀ (x1 : Int32) (x2 : Int32) (f : wF) (a : wA) (b : wB), J48 x1 x2 f a b → ∀ (H : Heap) (locs : List Loc), wd nM kM D vwCl ad ca A s H locs f a b → ∀ (ls : Array Slot), lv_has ls 8 [(0, .ref (ad 0)), (1, .int x1), (2, .int x2)] → W p l e ({ frames := 3, cells := 0, slots := 0, locals := 68 }) s m ([.ref (ad 0)] : List Value).toArray below meth c H locs 0 0 (vx_MQ below (va_Qv (fun (u : wF × wA × wB) => po u.1 u.2.1 u.2.2) (sPost nM kM D vwCl ad ca A) A) (sX nM kM D vwCl ad ca A (fun _ _ _ _ => False)) ([.ref (ad 0)] : List Value).toArray s 0 0 A) (F0 m 48 ls [])) : ∀ n : Nat, ∀ (x1 : Int32) (x2 : Int32) (x3 : Int64) (x5 : Int32) (f : wF) (a : wA) (b : wB), wp_M_reckon_65 po J42 J48 n x1 x2 x3 x5 f a b → ∀ (H : Heap) (locs : List Loc), wd nM kM D vwCl ad ca A s H locs f a b → ∀ (ls : Array Slot), lv_has ls 8 [(0, .ref (ad 0)), (1, .int x1), (2, .int x2), (3, .long x3), (5, .int x5)] → W p l e ({ frames := 3, cells := 0, slots := 0, locals := 68 }) s m ([.ref (ad 0)] : List Value).toArray below meth c H locs 0 0 (vx_MQ below (va_Qv (fun (u : wF × wA × wB) => po u.1 u.2.1 u.2.2) (sPost nM kM D vwCl ad ca A) A) (sX nM kM D vwCl ad ca A (fun _ _ _ _ => False)) ([.ref (ad 0)] : List Value).toArray s 0 0 A) (F0 m 65 ls []) := by
  obtain ⟨hx, hb, hml, hown, hts, hK, hA, hth, hlk, hl9⟩ := id X
  intro n
  induction n with
  | zero => intro x1 x2 x3 x5 f a b hw; exact hw.elim
  | succ n ih =>
    intro x1 x2 x3 x5 f a b hw H locs K ls hl
    dsimp only [wp_M_reckon_65] at hw
    refine lv_iload hx hb dM_reckon_65 (lv_at hl 4 rfl) ?_
    refine lv_aload_n hx hb dM_reckon_67 rfl (lv_at hl 0 rfl) ?_
    refine gGet X K (o := 0) (k := 1) (v := .int (f 1)) (by decide) kM_o0 rfl inM_o0 (by decide) (tm3 (i := 104) rfl rfl) rfl dM_reckon_68 ?_
    refine lv_icmp_ge (tgt := 124) hx hb dM_reckon_71 (by decide) (fun hc => ?_) (fun hc => ?_)
    · replace hw := hw.1 hc
      refine lv_aload_n hx hb dM_reckon_124 rfl (lv_at hl 0 rfl) ?_
      refine gGet X K (o := 0) (k := 18) (v := .ref (ad 12)) (by decide) kM_o0 rfl inM_o0 (by decide) (tm3 (i := 121) rfl rfl) rfl dM_reckon_125 ?_
      refine lv_sipush (v := (4096 : Int32)) hx hb dM_reckon_128 (by decide) ?_
      refine lv_iload_n hx hb dM_reckon_131 rfl (lv_at hl 1 rfl) ?_
      refine lv_imul hx hb dM_reckon_132 ?_
      refine lv_iload_n hx hb dM_reckon_133 rfl (lv_at hl 2 rfl) ?_
      refine lv_iadd hx hb dM_reckon_134 ?_
      refine lv_lload_n hx hb dM_reckon_135 rfl (lv_at hl 3 rfl) ?_
      obtain ⟨hi, hw⟩ := hw
      refine glst X K (o := 12) (t0 := 2) (by decide) kM_c12 rfl hi dM_reckon_136 kM_p12 (fun H locs K => ?_)
      refine lv_iinc (v := (x2 + (1 : Int32))) (lv' := [(2, .int (x2 + (1 : Int32))), (0, .ref (ad 0)), (1, .int x1), (3, .long x3), (5, .int x5)]) hx hb dM_reckon_137 hl (k := 2) rfl rfl (by decide) rfl (fun ls hl => ?_)
      refine lv_goto (tgt := 48) hx hb dM_reckon_140 (by decide) ?_
      exact hJ48 x1 (x2 + (1 : Int32)) f a (va_up b 12 (vp_updL (b 12) (((4096 : Int32) * x1) + x2).toNatClampNeg x3)) hw _ _ K _ (lv_sub hl [1, 2, 0] rfl)
    · replace hw := hw.2 hc
      refine lv_aload_n hx hb dM_reckon_74 rfl (lv_at hl 0 rfl) ?_
      refine lv_aload_n hx hb dM_reckon_75 rfl (lv_at hl 0 rfl) ?_
      refine gGet X K (o := 0) (k := 16) (v := .ref (ad 11)) (by decide) kM_o0 rfl inM_o0 (by decide) (tm3 (i := 119) rfl rfl) rfl dM_reckon_76 ?_
      refine lv_iload_n hx hb dM_reckon_79 rfl (lv_at hl 1 rfl) ?_
      obtain ⟨hi, hw⟩ := hw
      refine gild X K (o := 11) (t0 := 0) (by decide) kM_c11 rfl hi dM_reckon_80 ?_
      refine lv_iload hx hb dM_reckon_81 (lv_at hl 4 rfl) ?_
      refine lv_iload_n hx hb dM_reckon_83 rfl (lv_at hl 2 rfl) ?_
      refine gcI X K (n0 := 3) (As := [.int (a 11 x1.toNatClampNeg), .int x5, .int x2]) (rest := []) (hM := (met_M_may hl9 D ad ca sa _ (a 11 x1.toNatClampNeg) x5 x2 f a b _ hw)) (o := 0) (ho := by decide) (hko := kM_o0) (hci := rfl) (hg := wl_good) (w1 := (tm4 (i := 16) rfl rfl)) (w2 := (tm4 (i := 18) rfl rfl)) (w3 := (tm0 (i := 42) rfl rfl)) (w4 := (tm1 (i := 4) rfl rfl)) (w5 := (tm4 (i := 19) rfl rfl)) (hd := ⟨rfl, by decide, by decide, by decide +kernel⟩) (hrc := rfl) (hrs := rfl) (hR := ⟨Nat.le_of_ble_eq_true rfl, Nat.le_of_ble_eq_true rfl⟩) (hn := rfl) (hsz := hl.1) (hst := rfl) (hW := Nat.le_of_ble_eq_true rfl) (hdg := dM_reckon_84) (hf := ⟨Nat.le_of_ble_eq_true rfl, Nat.le_of_ble_eq_true rfl⟩) (fun _ _ _ _ _ _ _ _ hw => hw.elim) (fun r84 f84 a84 b84 H locs hw K => ?_)
      refine lv_if_eq (tgt := 101) hx hb dM_reckon_87 (by decide) (fun hc => ?_) (fun hc => ?_)
      · replace hw := hw.1 hc
        refine lv_lload_n hx hb dM_reckon_101 rfl (lv_at hl 3 rfl) ?_
        exact LM_reckon_102 X hex hr J42 J48 (wp_M_reckon_65 po J42 J48 n) hJ42 hJ48 ih x3 x1 x2 x3 x5 f84 a84 b84 hw _ _ K _ (lv_sub hl [0, 1, 2, 3, 4] rfl)
      · replace hw := hw.2 hc
        refine lv_aload_n hx hb dM_reckon_90 rfl (lv_at hl 0 rfl) ?_
        refine lv_iload_n hx hb dM_reckon_91 rfl (lv_at hl 1 rfl) ?_
        refine lv_iload hx hb dM_reckon_92 (lv_at hl 4 rfl) ?_
        refine lv_iload_n hx hb dM_reckon_94 rfl (lv_at hl 2 rfl) ?_
        refine gcL X K (n0 := 3) (As := [.int x1, .int x5, .int x2]) (rest := []) (hM := (met_M_with hl9 D ad ca sa _ x1 x5 x2 f84 a84 b84 _ hw)) (o := 0) (ho := by decide) (hko := kM_o0) (hci := rfl) (hg := wl_good) (w1 := (tm4 (i := 27) rfl rfl)) (w2 := (tm4 (i := 29) rfl rfl)) (w3 := (tm0 (i := 44) rfl rfl)) (w4 := (tm1 (i := 4) rfl rfl)) (w5 := (tm4 (i := 30) rfl rfl)) (hd := ⟨rfl, by decide, by decide, by decide +kernel⟩) (hrc := rfl) (hrs := rfl) (hR := ⟨Nat.le_of_ble_eq_true rfl, Nat.le_of_ble_eq_true rfl⟩) (hn := rfl) (hsz := hl.1) (hst := rfl) (hW := Nat.le_of_ble_eq_true rfl) (hdg := dM_reckon_95) (hf := ⟨Nat.le_of_ble_eq_true rfl, Nat.le_of_ble_eq_true rfl⟩) (fun _ _ _ _ _ _ _ _ hw => hw.elim) (fun r95 f95 a95 b95 H locs hw K => ?_)
        refine lv_goto (tgt := 102) hx hb dM_reckon_98 (by decide) ?_
        exact LM_reckon_102 X hex hr J42 J48 (wp_M_reckon_65 po J42 J48 n) hJ42 hJ48 ih r95 x1 x2 x3 x5 f95 a95 b95 hw _ _ K _ (lv_sub hl [0, 1, 2, 3, 4] rfl)
set_option maxHeartbeats 4000000 in
set_option maxRecDepth 100000 in
theorem LM_reckon_48 {p : Program} {l : Launch} {e : Env} {s : State} {m : MethodId} {below : List Frame} {meth : Method} {c : Code} {D : va_G} {sa : Nat → Nat} {ad : Nat → Nat} {ca : Nat → ClassId} {A : Nat → Prop} {po : wF → wA → wB → Prop} (X : cx Wl (tyS ca) txS D vwCl sa A p l s m ([.ref (ad 0)] : List Value).toArray meth c cM_reckon 8 "SendBestModel") (hex : ∀ x ∈ c.exceptionTable.toList, False) (hr : meth.sig.returnType = none) (J42 : Int32 → wF → wA → wB → Prop) (hJ42 : ∀ (x1 : Int32) (f : wF) (a : wA) (b : wB), J42 x1 f a b → ∀ (H : Heap) (locs : List Loc), wd nM kM D vwCl ad ca A s H locs f a b → ∀ (ls : Array Slot), lv_has ls 8 [(0, .ref (ad 0)), (1, .int x1)] → W p l e ({ frames := 3, cells := 0, slots := 0, locals := 68 }) s m ([.ref (ad 0)] : List Value).toArray below meth c H locs 0 0 (vx_MQ below (va_Qv (fun (u : wF × wA × wB) => po u.1 u.2.1 u.2.2) (sPost nM kM D vwCl ad ca A) A) (sX nM kM D vwCl ad ca A (fun _ _ _ _ => False)) ([.ref (ad 0)] : List Value).toArray s 0 0 A) (F0 m 42 ls [])) : ∀ n : Nat, ∀ (x1 : Int32) (x2 : Int32) (f : wF) (a : wA) (b : wB), wp_M_reckon_48 po J42 n x1 x2 f a b → ∀ (H : Heap) (locs : List Loc), wd nM kM D vwCl ad ca A s H locs f a b → ∀ (ls : Array Slot), lv_has ls 8 [(0, .ref (ad 0)), (1, .int x1), (2, .int x2)] → W p l e ({ frames := 3, cells := 0, slots := 0, locals := 68 }) s m ([.ref (ad 0)] : List Value).toArray below meth c H locs 0 0 (vx_MQ below (va_Qv (fun (u : wF × wA × wB) => po u.1 u.2.1 u.2.2) (sPost nM kM D vwCl ad ca A) A) (sX nM kM D vwCl ad ca A (fun _ _ _ _ => False)) ([.ref (ad 0)] : List Value).toArray s 0 0 A) (F0 m 48 ls []) := by
  obtain ⟨hx, hb, hml, hown, hts, hK, hA, hth, hlk, hl9⟩ := id X
  intro n
  induction n with
  | zero => intro x1 x2 f a b hw; exact hw.elim
  | succ n ih =>
    intro x1 x2 f a b hw H locs K ls hl
    dsimp only [wp_M_reckon_48] at hw
    refine lv_iload_n hx hb dM_reckon_48 rfl (lv_at hl 2 rfl) ?_
    refine lv_sipush (v := (4096 : Int32)) hx hb dM_reckon_49 (by decide) ?_
    refine lv_icmp_ge (tgt := 143) hx hb dM_reckon_52 (by decide) (fun hc => ?_) (fun hc => ?_)
    · replace hw := hw.1 hc
      refine lv_iinc (v := (x1 + (-1 : Int32))) (lv' := [(1, .int (x1 + (-1 : Int32))), (0, .ref (ad 0)), (2, .int x2)]) hx hb dM_reckon_143 hl (k := 1) rfl rfl (by decide) rfl (fun ls hl => ?_)
      refine lv_goto (tgt := 42) hx hb dM_reckon_146 (by decide) ?_
      exact hJ42 (x1 + (-1 : Int32)) f a b hw _ _ K _ (lv_sub hl [1, 0] rfl)
    · replace hw := hw.2 hc
      refine lv_aload_n hx hb dM_reckon_55 rfl (lv_at hl 0 rfl) ?_
      refine lv_iload_n hx hb dM_reckon_56 rfl (lv_at hl 1 rfl) ?_
      refine lv_iload_n hx hb dM_reckon_57 rfl (lv_at hl 2 rfl) ?_
      refine gcL X K (n0 := 2) (As := [.int x1, .int x2]) (rest := []) (hM := (met_M_without hl9 D ad ca sa _ x1 x2 f a b _ hw)) (o := 0) (ho := by decide) (hko := kM_o0) (hci := rfl) (hg := wl_good) (w1 := (tm4 (i := 11) rfl rfl)) (w2 := (tm4 (i := 13) rfl rfl)) (w3 := (tm0 (i := 41) rfl rfl)) (w4 := (tm1 (i := 4) rfl rfl)) (w5 := (tm4 (i := 14) rfl rfl)) (hd := ⟨rfl, by decide, by decide, by decide +kernel⟩) (hrc := rfl) (hrs := rfl) (hR := ⟨Nat.le_of_ble_eq_true rfl, Nat.le_of_ble_eq_true rfl⟩) (hn := rfl) (hsz := hl.1) (hst := rfl) (hW := Nat.le_of_ble_eq_true rfl) (hdg := dM_reckon_58) (hf := ⟨Nat.le_of_ble_eq_true rfl, Nat.le_of_ble_eq_true rfl⟩) (fun _ _ _ _ _ _ _ _ hw => hw.elim) (fun r58 f58 a58 b58 H locs hw K => ?_)
      refine lv_lstore_n (lv' := [(3, .long r58), (0, .ref (ad 0)), (1, .int x1), (2, .int x2)]) hx hb dM_reckon_61 rfl hl (by decide) rfl (fun ls hl => ?_)
      refine lv_iconst (v := (0 : Int32)) hx hb dM_reckon_62 (by decide) ?_
      refine lv_istore (lv' := [(5, .int (0 : Int32)), (3, .long r58), (0, .ref (ad 0)), (1, .int x1), (2, .int x2)]) hx hb dM_reckon_63 hl (by decide) rfl (fun ls hl => ?_)
      obtain ⟨n9, hw⟩ := hw
      exact LM_reckon_65 X hex hr J42 (wp_M_reckon_48 po J42 n) hJ42 ih n9 x1 x2 r58 (0 : Int32) f58 a58 b58 hw _ _ K _ (lv_sub hl [2, 3, 4, 1, 0] rfl)
set_option maxHeartbeats 4000000 in
set_option maxRecDepth 100000 in
theorem LM_reckon_42 {p : Program} {l : Launch} {e : Env} {s : State} {m : MethodId} {below : List Frame} {meth : Method} {c : Code} {D : va_G} {sa : Nat → Nat} {ad : Nat → Nat} {ca : Nat → ClassId} {A : Nat → Prop} {po : wF → wA → wB → Prop} (X : cx Wl (tyS ca) txS D vwCl sa A p l s m ([.ref (ad 0)] : List Value).toArray meth c cM_reckon 8 "SendBestModel") (hex : ∀ x ∈ c.exceptionTable.toList, False) (hr : meth.sig.returnType = none) : ∀ n : Nat, ∀ (x1 : Int32) (f : wF) (a : wA) (b : wB), wp_M_reckon_42 po n x1 f a b → ∀ (H : Heap) (locs : List Loc), wd nM kM D vwCl ad ca A s H locs f a b → ∀ (ls : Array Slot), lv_has ls 8 [(0, .ref (ad 0)), (1, .int x1)] → W p l e ({ frames := 3, cells := 0, slots := 0, locals := 68 }) s m ([.ref (ad 0)] : List Value).toArray below meth c H locs 0 0 (vx_MQ below (va_Qv (fun (u : wF × wA × wB) => po u.1 u.2.1 u.2.2) (sPost nM kM D vwCl ad ca A) A) (sX nM kM D vwCl ad ca A (fun _ _ _ _ => False)) ([.ref (ad 0)] : List Value).toArray s 0 0 A) (F0 m 42 ls []) := by
  obtain ⟨hx, hb, hml, hown, hts, hK, hA, hth, hlk, hl9⟩ := id X
  intro n
  induction n with
  | zero => intro x1 f a b hw; exact hw.elim
  | succ n ih =>
    intro x1 f a b hw H locs K ls hl
    dsimp only [wp_M_reckon_42] at hw
    refine lv_iload_n hx hb dM_reckon_42 rfl (lv_at hl 1 rfl) ?_
    refine lv_if_lt (tgt := 149) hx hb dM_reckon_43 (by decide) (fun hc => ?_) (fun hc => ?_)
    · replace hw := hw.1 hc
      exact endV X K hr hw (by decide) (by decide) dM_reckon_149
    · replace hw := hw.2 hc
      refine lv_iconst (v := (0 : Int32)) hx hb dM_reckon_46 (by decide) ?_
      refine lv_istore_n (lv' := [(2, .int (0 : Int32)), (0, .ref (ad 0)), (1, .int x1)]) hx hb dM_reckon_47 rfl hl (by decide) rfl (fun ls hl => ?_)
      obtain ⟨n9, hw⟩ := hw
      exact LM_reckon_48 X hex hr (wp_M_reckon_42 po n) ih n9 x1 (0 : Int32) f a b hw _ _ K _ (lv_sub hl [1, 2, 0] rfl)
set_option maxHeartbeats 4000000 in
set_option maxRecDepth 100000 in
theorem LM_reckon_6 {p : Program} {l : Launch} {e : Env} {s : State} {m : MethodId} {below : List Frame} {meth : Method} {c : Code} {D : va_G} {sa : Nat → Nat} {ad : Nat → Nat} {ca : Nat → ClassId} {A : Nat → Prop} {po : wF → wA → wB → Prop} (X : cx Wl (tyS ca) txS D vwCl sa A p l s m ([.ref (ad 0)] : List Value).toArray meth c cM_reckon 8 "SendBestModel") (hex : ∀ x ∈ c.exceptionTable.toList, False) (hr : meth.sig.returnType = none) : ∀ n : Nat, ∀ (x1 : Int32) (f : wF) (a : wA) (b : wB), wp_M_reckon_6 po n x1 f a b → ∀ (H : Heap) (locs : List Loc), wd nM kM D vwCl ad ca A s H locs f a b → ∀ (ls : Array Slot), lv_has ls 8 [(0, .ref (ad 0)), (1, .int x1)] → W p l e ({ frames := 3, cells := 0, slots := 0, locals := 68 }) s m ([.ref (ad 0)] : List Value).toArray below meth c H locs 0 0 (vx_MQ below (va_Qv (fun (u : wF × wA × wB) => po u.1 u.2.1 u.2.2) (sPost nM kM D vwCl ad ca A) A) (sX nM kM D vwCl ad ca A (fun _ _ _ _ => False)) ([.ref (ad 0)] : List Value).toArray s 0 0 A) (F0 m 6 ls []) := by
  obtain ⟨hx, hb, hml, hown, hts, hK, hA, hth, hlk, hl9⟩ := id X
  intro n
  induction n with
  | zero => intro x1 f a b hw; exact hw.elim
  | succ n ih =>
    intro x1 f a b hw H locs K ls hl
    dsimp only [wp_M_reckon_6] at hw
    refine lv_iload_n hx hb dM_reckon_6 rfl (lv_at hl 1 rfl) ?_
    refine lv_sipush (v := (4096 : Int32)) hx hb dM_reckon_7 (by decide) ?_
    refine lv_icmp_ge (tgt := 35) hx hb dM_reckon_10 (by decide) (fun hc => ?_) (fun hc => ?_)
    · replace hw := hw.1 hc
      refine lv_aload_n hx hb dM_reckon_35 rfl (lv_at hl 0 rfl) ?_
      refine gGet X K (o := 0) (k := 17) (v := .int (f 6)) (by decide) kM_o0 rfl inM_o0 (by decide) (tm3 (i := 120) rfl rfl) rfl dM_reckon_36 ?_
      refine lv_iconst (v := (1 : Int32)) hx hb dM_reckon_39 (by decide) ?_
      refine lv_isub hx hb dM_reckon_40 ?_
      refine lv_istore_n (lv' := [(1, .int ((f 6) - (1 : Int32))), (0, .ref (ad 0))]) hx hb dM_reckon_41 rfl hl (by decide) rfl (fun ls hl => ?_)
      obtain ⟨n9, hw⟩ := hw
      exact LM_reckon_42 X hex hr n9 ((f 6) - (1 : Int32)) f a b hw _ _ K _ (lv_sub hl [1, 0] rfl)
    · replace hw := hw.2 hc
      refine lv_aload_n hx hb dM_reckon_13 rfl (lv_at hl 0 rfl) ?_
      refine gGet X K (o := 0) (k := 18) (v := .ref (ad 12)) (by decide) kM_o0 rfl inM_o0 (by decide) (tm3 (i := 121) rfl rfl) rfl dM_reckon_14 ?_
      refine lv_sipush (v := (4096 : Int32)) hx hb dM_reckon_17 (by decide) ?_
      refine lv_aload_n hx hb dM_reckon_20 rfl (lv_at hl 0 rfl) ?_
      refine gGet X K (o := 0) (k := 17) (v := .int (f 6)) (by decide) kM_o0 rfl inM_o0 (by decide) (tm3 (i := 120) rfl rfl) rfl dM_reckon_21 ?_
      refine lv_imul hx hb dM_reckon_24 ?_
      refine lv_iload_n hx hb dM_reckon_25 rfl (lv_at hl 1 rfl) ?_
      refine lv_iadd hx hb dM_reckon_26 ?_
      refine lv_lconst (v := (0 : Int64)) hx hb dM_reckon_27 (by decide) ?_
      obtain ⟨hi, hw⟩ := hw
      refine glst X K (o := 12) (t0 := 2) (by decide) kM_c12 rfl hi dM_reckon_28 kM_p12 (fun H locs K => ?_)
      refine lv_iinc (v := (x1 + (1 : Int32))) (lv' := [(1, .int (x1 + (1 : Int32))), (0, .ref (ad 0))]) hx hb dM_reckon_29 hl (k := 1) rfl rfl (by decide) rfl (fun ls hl => ?_)
      refine lv_goto (tgt := 6) hx hb dM_reckon_32 (by decide) ?_
      exact ih (x1 + (1 : Int32)) f a (va_up b 12 (vp_updL (b 12) (((4096 : Int32) * (f 6)) + x1).toNatClampNeg (0 : Int64))) hw _ _ K _ (lv_sub hl [1, 0] rfl)
set_option maxHeartbeats 4000000 in
set_option maxRecDepth 100000 in
theorem met_M_reckon {l : Launch} (hl9 : l.stackTraces = false) (D : va_G) (ad : Nat → Nat) (ca : Nat → ClassId) (sa : Nat → Nat) (sz : Nat)  (f : wF) (a : wA) (b : wB) (po : wF → wA → wB → Prop) (hw : wp_M_reckon po f a b) : mV nM kM (tyS ca) txS D vwCl l yM_reckon (Cond.code yM_reckon cM_reckon 8 none :: Wl) ({ frames := 3, cells := 0, slots := 0, locals := 68 }) [.ref (ad 0)] ad ca sa sz f a b po (fun _ _ _ _ => False) 0 0 := by
  refine ofV (by decide) hl9 (Nat.le_of_ble_eq_true rfl) ?_
  intro p e s m below meth c ls X hex hr K hl
  obtain ⟨hx, hb, hml, hown, hts, hK, hA, hth, hlk, hl9⟩ := id X
  have hl : lv_has ls 8 [(0, .ref (ad 0))] := hl
  dsimp only [wp_M_reckon] at hw
  refine lv_aload_n hx hb dM_reckon_0 rfl (lv_at hl 0 rfl) ?_
  refine gcV X K (n0 := 0) (As := []) (rest := []) (hM := (met_M_gather hl9 D ad ca sa _ f a b _ hw)) (o := 0) (ho := by decide) (hko := kM_o0) (hci := rfl) (hg := wl_good) (w1 := (tm3 (i := 231) rfl rfl)) (w2 := (tm3 (i := 233) rfl rfl)) (w3 := (tm0 (i := 36) rfl rfl)) (w4 := (tm1 (i := 4) rfl rfl)) (w5 := (tm3 (i := 234) rfl rfl)) (hd := ⟨rfl, by decide, by decide, by decide +kernel⟩) (hrc := rfl) (hrs := rfl) (hR := ⟨Nat.le_of_ble_eq_true rfl, Nat.le_of_ble_eq_true rfl⟩) (hn := rfl) (hsz := hl.1) (hst := rfl) (hW := Nat.le_of_ble_eq_true rfl) (hdg := dM_reckon_1) (hf := ⟨Nat.le_of_ble_eq_true rfl, Nat.le_of_ble_eq_true rfl⟩) (fun _ _ _ _ _ _ _ _ hw => hw.elim) (fun f1 a1 b1 H locs hw K => ?_)
  refine lv_iconst (v := (0 : Int32)) hx hb dM_reckon_4 (by decide) ?_
  refine lv_istore_n (lv' := [(1, .int (0 : Int32)), (0, .ref (ad 0))]) hx hb dM_reckon_5 rfl hl (by decide) rfl (fun ls hl => ?_)
  obtain ⟨n9, hw⟩ := hw
  exact LM_reckon_6 X hex hr n9 (0 : Int32) f1 a1 b1 hw _ _ K _ (lv_sub hl [1, 0] rfl)
set_option maxHeartbeats 4000000 in
set_option maxRecDepth 100000 in
theorem LM_present_121 {p : Program} {l : Launch} {e : Env} {s : State} {m : MethodId} {below : List Frame} {meth : Method} {c : Code} {D : va_G} {sa : Nat → Nat} {ad : Nat → Nat} {ca : Nat → ClassId} {A : Nat → Prop} {po : Int64 → wF → wA → wB → Prop} (X : cx Wl (tyS ca) txS D vwCl sa A p l s m ([.ref (ad 0)] : List Value).toArray meth c cM_present 7 "SendBestModel") (hex : ∀ x ∈ c.exceptionTable.toList, False) (hr : meth.sig.returnType = (some .long)) (J10 : Int64 → Int32 → Int32 → wF → wA → wB → Prop) (hJ10 : ∀ (x1 : Int64) (x3 : Int32) (x4 : Int32) (f : wF) (a : wA) (b : wB), J10 x1 x3 x4 f a b → ∀ (H : Heap) (locs : List Loc), wd nM kM D vwCl ad ca A s H locs f a b → ∀ (ls : Array Slot), lv_has ls 7 [(0, .ref (ad 0)), (1, .long x1), (3, .int x3), (4, .int x4)] → W p l e ({ frames := 3, cells := 0, slots := 0, locals := 67 }) s m ([.ref (ad 0)] : List Value).toArray below meth c H locs 0 0 (vx_MQ below (va_Ql (fun r (u : wF × wA × wB) => po r u.1 u.2.1 u.2.2) (sPost nM kM D vwCl ad ca A) A) (sX nM kM D vwCl ad ca A (fun _ _ _ _ => False)) ([.ref (ad 0)] : List Value).toArray s 0 0 A) (F0 m 10 ls [])) : ∀ (k0 : Int64) (k1 : Int64) (x3 : Int32) (x4 : Int32) (f : wF) (a : wA) (b : wB), wp_M_present_121 po J10 k0 k1 x3 x4 f a b → ∀ (H : Heap) (locs : List Loc), wd nM kM D vwCl ad ca A s H locs f a b → ∀ (ls : Array Slot), lv_has ls 7 [(0, .ref (ad 0)), (3, .int x3), (4, .int x4)] → W p l e ({ frames := 3, cells := 0, slots := 0, locals := 67 }) s m ([.ref (ad 0)] : List Value).toArray below meth c H locs 0 0 (vx_MQ below (va_Ql (fun r (u : wF × wA × wB) => po r u.1 u.2.1 u.2.2) (sPost nM kM D vwCl ad ca A) A) (sX nM kM D vwCl ad ca A (fun _ _ _ _ => False)) ([.ref (ad 0)] : List Value).toArray s 0 0 A) (F0 m 121 ls [.long k0, .long k1]) := by
  obtain ⟨hx, hb, hml, hown, hts, hK, hA, hth, hlk, hl9⟩ := id X
  intro k0 k1 x3 x4 f a b hw H locs K ls hl
  dsimp only [wp_M_present_121] at hw
  refine lv_ladd hx hb dM_present_121 ?_
  refine lv_lstore_n (lv' := [(1, .long (k1 + k0)), (0, .ref (ad 0)), (3, .int x3), (4, .int x4)]) hx hb dM_present_122 rfl hl (by decide) rfl (fun ls hl => ?_)
  refine lv_iinc (v := (x4 + (1 : Int32))) (lv' := [(4, .int (x4 + (1 : Int32))), (1, .long (k1 + k0)), (0, .ref (ad 0)), (3, .int x3)]) hx hb dM_present_123 hl (k := 3) rfl rfl (by decide) rfl (fun ls hl => ?_)
  refine lv_goto (tgt := 10) hx hb dM_present_126 (by decide) ?_
  exact hJ10 (k1 + k0) x3 (x4 + (1 : Int32)) f a b hw _ _ K _ (lv_sub hl [2, 1, 3, 0] rfl)
set_option maxHeartbeats 4000000 in
set_option maxRecDepth 100000 in
theorem LM_present_72 {p : Program} {l : Launch} {e : Env} {s : State} {m : MethodId} {below : List Frame} {meth : Method} {c : Code} {D : va_G} {sa : Nat → Nat} {ad : Nat → Nat} {ca : Nat → ClassId} {A : Nat → Prop} {po : Int64 → wF → wA → wB → Prop} (X : cx Wl (tyS ca) txS D vwCl sa A p l s m ([.ref (ad 0)] : List Value).toArray meth c cM_present 7 "SendBestModel") (hex : ∀ x ∈ c.exceptionTable.toList, False) (hr : meth.sig.returnType = (some .long)) (J10 : Int64 → Int32 → Int32 → wF → wA → wB → Prop) (hJ10 : ∀ (x1 : Int64) (x3 : Int32) (x4 : Int32) (f : wF) (a : wA) (b : wB), J10 x1 x3 x4 f a b → ∀ (H : Heap) (locs : List Loc), wd nM kM D vwCl ad ca A s H locs f a b → ∀ (ls : Array Slot), lv_has ls 7 [(0, .ref (ad 0)), (1, .long x1), (3, .int x3), (4, .int x4)] → W p l e ({ frames := 3, cells := 0, slots := 0, locals := 67 }) s m ([.ref (ad 0)] : List Value).toArray below meth c H locs 0 0 (vx_MQ below (va_Ql (fun r (u : wF × wA × wB) => po r u.1 u.2.1 u.2.2) (sPost nM kM D vwCl ad ca A) A) (sX nM kM D vwCl ad ca A (fun _ _ _ _ => False)) ([.ref (ad 0)] : List Value).toArray s 0 0 A) (F0 m 10 ls [])) : ∀ (k0 : Int32) (k1 : Int32) (x1 : Int64) (x4 : Int32) (x5 : Int32) (x6 : Int32) (f : wF) (a : wA) (b : wB), wp_M_present_72 po J10 k0 k1 x1 x4 x5 x6 f a b → ∀ (H : Heap) (locs : List Loc), wd nM kM D vwCl ad ca A s H locs f a b → ∀ (ls : Array Slot), lv_has ls 7 [(0, .ref (ad 0)), (1, .long x1), (4, .int x4), (5, .int x5), (6, .int x6)] → W p l e ({ frames := 3, cells := 0, slots := 0, locals := 67 }) s m ([.ref (ad 0)] : List Value).toArray below meth c H locs 0 0 (vx_MQ below (va_Ql (fun r (u : wF × wA × wB) => po r u.1 u.2.1 u.2.2) (sPost nM kM D vwCl ad ca A) A) (sX nM kM D vwCl ad ca A (fun _ _ _ _ => False)) ([.ref (ad 0)] : List Value).toArray s 0 0 A) (F0 m 72 ls [.int k0, .int k1]) := by
  obtain ⟨hx, hb, hml, hown, hts, hK, hA, hth, hlk, hl9⟩ := id X
  intro k0 k1 x1 x4 x5 x6 f a b hw H locs K ls hl
  dsimp only [wp_M_present_72] at hw
  refine lv_ior hx hb dM_present_72 ?_
  refine lv_istore_n (lv' := [(3, .int (k1 ||| k0)), (0, .ref (ad 0)), (1, .long x1), (4, .int x4), (5, .int x5), (6, .int x6)]) hx hb dM_present_73 rfl hl (by decide) rfl (fun ls hl => ?_)
  refine lv_lload_n hx hb dM_present_74 rfl (lv_at hl 2 rfl) ?_
  refine lv_iload hx hb dM_present_75 (lv_at hl 5 rfl) ?_
  refine lv_if_lt (tgt := 110) hx hb dM_present_77 (by decide) (fun hc => ?_) (fun hc => ?_)
  · replace hw := hw.1 hc
    refine lv_ldc2 (v := (1000000000000 : Int64)) hx hb hown (hts _ (tm4 (i := 15) rfl rfl)) dM_present_110 ?_
    refine lv_aload_n hx hb dM_present_113 rfl (lv_at hl 1 rfl) ?_
    refine lv_iload hx hb dM_present_114 (lv_at hl 4 rfl) ?_
    refine gcI X K (n0 := 1) (As := [.int x5]) (rest := [.long (1000000000000 : Int64), .long x1]) (hM := (met_M_rankOf hl9 D ad ca sa _ x5 f a b _ hw)) (o := 0) (ho := by decide) (hko := kM_o0) (hci := rfl) (hg := wl_good) (w1 := (tm3 (i := 235) rfl rfl)) (w2 := (tm3 (i := 237) rfl rfl)) (w3 := (tm0 (i := 37) rfl rfl)) (w4 := (tm1 (i := 4) rfl rfl)) (w5 := (tm3 (i := 238) rfl rfl)) (hd := ⟨rfl, by decide, by decide, by decide +kernel⟩) (hrc := rfl) (hrs := rfl) (hR := ⟨Nat.le_of_ble_eq_true rfl, Nat.le_of_ble_eq_true rfl⟩) (hn := rfl) (hsz := hl.1) (hst := rfl) (hW := Nat.le_of_ble_eq_true rfl) (hdg := dM_present_116) (hf := ⟨Nat.le_of_ble_eq_true rfl, Nat.le_of_ble_eq_true rfl⟩) (fun _ _ _ _ _ _ _ _ hw => hw.elim) (fun r116 f116 a116 b116 H locs hw K => ?_)
    refine lv_i2l (v := r116.toInt64) hx hb dM_present_119 rfl ?_
    refine lv_lmul hx hb dM_present_120 ?_
    exact LM_present_121 X hex hr J10 hJ10 ((1000000000000 : Int64) * r116.toInt64) x1 (k1 ||| k0) x4 f116 a116 b116 hw _ _ K _ (lv_sub hl [1, 0, 3] rfl)
  · replace hw := hw.2 hc
    refine lv_aload_n hx hb dM_present_80 rfl (lv_at hl 1 rfl) ?_
    refine lv_iload hx hb dM_present_81 (lv_at hl 4 rfl) ?_
    refine gcI X K (n0 := 1) (As := [.int x5]) (rest := [.long x1]) (hM := (met_M_rankOf hl9 D ad ca sa _ x5 f a b _ hw)) (o := 0) (ho := by decide) (hko := kM_o0) (hci := rfl) (hg := wl_good) (w1 := (tm3 (i := 235) rfl rfl)) (w2 := (tm3 (i := 237) rfl rfl)) (w3 := (tm0 (i := 37) rfl rfl)) (w4 := (tm1 (i := 4) rfl rfl)) (w5 := (tm3 (i := 238) rfl rfl)) (hd := ⟨rfl, by decide, by decide, by decide +kernel⟩) (hrc := rfl) (hrs := rfl) (hR := ⟨Nat.le_of_ble_eq_true rfl, Nat.le_of_ble_eq_true rfl⟩) (hn := rfl) (hsz := hl.1) (hst := rfl) (hW := Nat.le_of_ble_eq_true rfl) (hdg := dM_present_83) (hf := ⟨Nat.le_of_ble_eq_true rfl, Nat.le_of_ble_eq_true rfl⟩) (fun _ _ _ _ _ _ _ _ hw => hw.elim) (fun r83 f83 a83 b83 H locs hw K => ?_)
    refine lv_i2l (v := r83.toInt64) hx hb dM_present_86 rfl ?_
    refine lv_aload_n hx hb dM_present_87 rfl (lv_at hl 1 rfl) ?_
    refine gGet X K (o := 0) (k := 4) (v := .ref (ad 3)) (by decide) kM_o0 rfl inM_o0 (by decide) (tm3 (i := 107) rfl rfl) rfl dM_present_88 ?_
    refine lv_bipush (v := (6 : Int32)) hx hb dM_present_91 (by decide) ?_
    refine lv_iload hx hb dM_present_93 (lv_at hl 5 rfl) ?_
    refine lv_imul hx hb dM_present_95 ?_
    refine lv_aload_n hx hb dM_present_96 rfl (lv_at hl 1 rfl) ?_
    refine gGet X K (o := 0) (k := 9) (v := .ref (ad 6)) (by decide) kM_o0 rfl inM_o0 (by decide) (tm3 (i := 112) rfl rfl) rfl dM_present_97 ?_
    refine lv_iload hx hb dM_present_100 (lv_at hl 4 rfl) ?_
    obtain ⟨hi, hw⟩ := hw
    refine gild X K (o := 6) (t0 := 0) (by decide) kM_c6 rfl hi dM_present_102 ?_
    refine lv_iadd hx hb dM_present_103 ?_
    obtain ⟨hi, hw⟩ := hw
    refine gild X K (o := 3) (t0 := 0) (by decide) kM_c3 rfl hi dM_present_104 ?_
    refine lv_i2l (v := (a83 3 (((6 : Int32) * x6) + (a83 6 x5.toNatClampNeg)).toNatClampNeg).toInt64) hx hb dM_present_105 rfl ?_
    refine lv_lmul hx hb dM_present_106 ?_
    refine lv_goto (tgt := 121) hx hb dM_present_107 (by decide) ?_
    exact LM_present_121 X hex hr J10 hJ10 (r83.toInt64 * ((a83 3 (((6 : Int32) * x6) + (a83 6 x5.toNatClampNeg)).toNatClampNeg).toInt64)) x1 (k1 ||| k0) x4 f83 a83 b83 hw _ _ K _ (lv_sub hl [1, 0, 3] rfl)
set_option maxHeartbeats 4000000 in
set_option maxRecDepth 100000 in
theorem LM_present_58 {p : Program} {l : Launch} {e : Env} {s : State} {m : MethodId} {below : List Frame} {meth : Method} {c : Code} {D : va_G} {sa : Nat → Nat} {ad : Nat → Nat} {ca : Nat → ClassId} {A : Nat → Prop} {po : Int64 → wF → wA → wB → Prop} (X : cx Wl (tyS ca) txS D vwCl sa A p l s m ([.ref (ad 0)] : List Value).toArray meth c cM_present 7 "SendBestModel") (hex : ∀ x ∈ c.exceptionTable.toList, False) (hr : meth.sig.returnType = (some .long)) (J10 : Int64 → Int32 → Int32 → wF → wA → wB → Prop) (hJ10 : ∀ (x1 : Int64) (x3 : Int32) (x4 : Int32) (f : wF) (a : wA) (b : wB), J10 x1 x3 x4 f a b → ∀ (H : Heap) (locs : List Loc), wd nM kM D vwCl ad ca A s H locs f a b → ∀ (ls : Array Slot), lv_has ls 7 [(0, .ref (ad 0)), (1, .long x1), (3, .int x3), (4, .int x4)] → W p l e ({ frames := 3, cells := 0, slots := 0, locals := 67 }) s m ([.ref (ad 0)] : List Value).toArray below meth c H locs 0 0 (vx_MQ below (va_Ql (fun r (u : wF × wA × wB) => po r u.1 u.2.1 u.2.2) (sPost nM kM D vwCl ad ca A) A) (sX nM kM D vwCl ad ca A (fun _ _ _ _ => False)) ([.ref (ad 0)] : List Value).toArray s 0 0 A) (F0 m 10 ls [])) : ∀ (x1 : Int64) (x3 : Int32) (x4 : Int32) (x5 : Int32) (x6 : Int32) (f : wF) (a : wA) (b : wB), wp_M_present_58 po J10 x1 x3 x4 x5 x6 f a b → ∀ (H : Heap) (locs : List Loc), wd nM kM D vwCl ad ca A s H locs f a b → ∀ (ls : Array Slot), lv_has ls 7 [(0, .ref (ad 0)), (1, .long x1), (3, .int x3), (4, .int x4), (5, .int x5), (6, .int x6)] → W p l e ({ frames := 3, cells := 0, slots := 0, locals := 67 }) s m ([.ref (ad 0)] : List Value).toArray below meth c H locs 0 0 (vx_MQ below (va_Ql (fun r (u : wF × wA × wB) => po r u.1 u.2.1 u.2.2) (sPost nM kM D vwCl ad ca A) A) (sX nM kM D vwCl ad ca A (fun _ _ _ _ => False)) ([.ref (ad 0)] : List Value).toArray s 0 0 A) (F0 m 58 ls []) := by
  obtain ⟨hx, hb, hml, hown, hts, hK, hA, hth, hlk, hl9⟩ := id X
  intro x1 x3 x4 x5 x6 f a b hw H locs K ls hl
  dsimp only [wp_M_present_58] at hw
  refine lv_iload_n hx hb dM_present_58 rfl (lv_at hl 2 rfl) ?_
  refine lv_iload hx hb dM_present_59 (lv_at hl 5 rfl) ?_
  refine lv_if_lt (tgt := 71) hx hb dM_present_61 (by decide) (fun hc => ?_) (fun hc => ?_)
  · replace hw := hw.1 hc
    refine lv_iconst (v := (0 : Int32)) hx hb dM_present_71 (by decide) ?_
    exact LM_present_72 X hex hr J10 hJ10 (0 : Int32) x3 x1 x4 x5 x6 f a b hw _ _ K _ (lv_sub hl [0, 1, 3, 4, 5] rfl)
  · replace hw := hw.2 hc
    refine lv_iconst (v := (1 : Int32)) hx hb dM_present_64 (by decide) ?_
    refine lv_iload hx hb dM_present_65 (lv_at hl 5 rfl) ?_
    refine lv_ishl hx hb dM_present_67 ?_
    refine lv_goto (tgt := 72) hx hb dM_present_68 (by decide) ?_
    exact LM_present_72 X hex hr J10 hJ10 ((1 : Int32) <<< (x6 &&& 31)) x3 x1 x4 x5 x6 f a b hw _ _ K _ (lv_sub hl [0, 1, 3, 4, 5] rfl)
set_option maxHeartbeats 4000000 in
set_option maxRecDepth 100000 in
theorem LM_present_10 {p : Program} {l : Launch} {e : Env} {s : State} {m : MethodId} {below : List Frame} {meth : Method} {c : Code} {D : va_G} {sa : Nat → Nat} {ad : Nat → Nat} {ca : Nat → ClassId} {A : Nat → Prop} {po : Int64 → wF → wA → wB → Prop} (X : cx Wl (tyS ca) txS D vwCl sa A p l s m ([.ref (ad 0)] : List Value).toArray meth c cM_present 7 "SendBestModel") (hex : ∀ x ∈ c.exceptionTable.toList, False) (hr : meth.sig.returnType = (some .long)) : ∀ n : Nat, ∀ (x1 : Int64) (x3 : Int32) (x4 : Int32) (f : wF) (a : wA) (b : wB), wp_M_present_10 po n x1 x3 x4 f a b → ∀ (H : Heap) (locs : List Loc), wd nM kM D vwCl ad ca A s H locs f a b → ∀ (ls : Array Slot), lv_has ls 7 [(0, .ref (ad 0)), (1, .long x1), (3, .int x3), (4, .int x4)] → W p l e ({ frames := 3, cells := 0, slots := 0, locals := 67 }) s m ([.ref (ad 0)] : List Value).toArray below meth c H locs 0 0 (vx_MQ below (va_Ql (fun r (u : wF × wA × wB) => po r u.1 u.2.1 u.2.2) (sPost nM kM D vwCl ad ca A) A) (sX nM kM D vwCl ad ca A (fun _ _ _ _ => False)) ([.ref (ad 0)] : List Value).toArray s 0 0 A) (F0 m 10 ls []) := by
  obtain ⟨hx, hb, hml, hown, hts, hK, hA, hth, hlk, hl9⟩ := id X
  intro n
  induction n with
  | zero => intro x1 x3 x4 f a b hw; exact hw.elim
  | succ n ih =>
    intro x1 x3 x4 f a b hw H locs K ls hl
    dsimp only [wp_M_present_10] at hw
    refine lv_iload hx hb dM_present_10 (lv_at hl 3 rfl) ?_
    refine lv_aload_n hx hb dM_present_12 rfl (lv_at hl 0 rfl) ?_
    refine gGet X K (o := 0) (k := 17) (v := .int (f 6)) (by decide) kM_o0 rfl inM_o0 (by decide) (tm3 (i := 120) rfl rfl) rfl dM_present_13 ?_
    refine lv_icmp_ge (tgt := 129) hx hb dM_present_16 (by decide) (fun hc => ?_) (fun hc => ?_)
    · replace hw := hw.1 hc
      refine lv_lload_n hx hb dM_present_129 rfl (lv_at hl 1 rfl) ?_
      exact endL X K hr hw (by decide) (by decide) dM_present_130
    · replace hw := hw.2 hc
      refine lv_aload_n hx hb dM_present_19 rfl (lv_at hl 0 rfl) ?_
      refine gGet X K (o := 0) (k := 16) (v := .ref (ad 11)) (by decide) kM_o0 rfl inM_o0 (by decide) (tm3 (i := 119) rfl rfl) rfl dM_present_20 ?_
      refine lv_iload hx hb dM_present_23 (lv_at hl 3 rfl) ?_
      obtain ⟨hi, hw⟩ := hw
      refine gild X K (o := 11) (t0 := 0) (by decide) kM_c11 rfl hi dM_present_25 ?_
      refine lv_istore (lv' := [(5, .int (a 11 x4.toNatClampNeg)), (0, .ref (ad 0)), (1, .long x1), (3, .int x3), (4, .int x4)]) hx hb dM_present_26 hl (by decide) rfl (fun ls hl => ?_)
      refine lv_aload_n hx hb dM_present_28 rfl (lv_at hl 1 rfl) ?_
      refine gGet X K (o := 0) (k := 11) (v := .ref (ad 8)) (by decide) kM_o0 rfl inM_o0 (by decide) (tm3 (i := 114) rfl rfl) rfl dM_present_29 ?_
      refine lv_iload hx hb dM_present_32 (lv_at hl 0 rfl) ?_
      obtain ⟨hi, hw⟩ := hw
      refine gild X K (o := 8) (t0 := 0) (by decide) kM_c8 rfl hi dM_present_34 ?_
      refine lv_istore (lv' := [(6, .int (a 8 (a 11 x4.toNatClampNeg).toNatClampNeg)), (5, .int (a 11 x4.toNatClampNeg)), (0, .ref (ad 0)), (1, .long x1), (3, .int x3), (4, .int x4)]) hx hb dM_present_35 hl (by decide) rfl (fun ls hl => ?_)
      refine lv_iload hx hb dM_present_37 (lv_at hl 0 rfl) ?_
      refine lv_if_lt (tgt := 58) hx hb dM_present_39 (by decide) (fun hc => ?_) (fun hc => ?_)
      · replace hw := hw.1 hc
        exact LM_present_58 X hex hr (wp_M_present_10 po n) ih x1 x3 x4 (a 11 x4.toNatClampNeg) (a 8 (a 11 x4.toNatClampNeg).toNatClampNeg) f a b hw _ _ K _ (lv_sub hl [2, 3, 4, 5, 1, 0] rfl)
      · replace hw := hw.2 hc
        refine lv_aload_n hx hb dM_present_42 rfl (lv_at hl 2 rfl) ?_
        refine lv_iload hx hb dM_present_43 (lv_at hl 1 rfl) ?_
        refine lv_iload hx hb dM_present_45 (lv_at hl 0 rfl) ?_
        refine lv_iload_n hx hb dM_present_47 rfl (lv_at hl 4 rfl) ?_
        refine gcI X K (n0 := 3) (As := [.int (a 11 x4.toNatClampNeg), .int (a 8 (a 11 x4.toNatClampNeg).toNatClampNeg), .int x3]) (rest := []) (hM := (met_M_may hl9 D ad ca sa _ (a 11 x4.toNatClampNeg) (a 8 (a 11 x4.toNatClampNeg).toNatClampNeg) x3 f a b _ hw)) (o := 0) (ho := by decide) (hko := kM_o0) (hci := rfl) (hg := wl_good) (w1 := (tm4 (i := 16) rfl rfl)) (w2 := (tm4 (i := 18) rfl rfl)) (w3 := (tm0 (i := 42) rfl rfl)) (w4 := (tm1 (i := 4) rfl rfl)) (w5 := (tm4 (i := 19) rfl rfl)) (hd := ⟨rfl, by decide, by decide, by decide +kernel⟩) (hrc := rfl) (hrs := rfl) (hR := ⟨Nat.le_of_ble_eq_true rfl, Nat.le_of_ble_eq_true rfl⟩) (hn := rfl) (hsz := hl.1) (hst := rfl) (hW := Nat.le_of_ble_eq_true rfl) (hdg := dM_present_48) (hf := ⟨Nat.le_of_ble_eq_true rfl, Nat.le_of_ble_eq_true rfl⟩) (fun _ _ _ _ _ _ _ _ hw => hw.elim) (fun r48 f48 a48 b48 H locs hw K => ?_)
        refine lv_if_ne (tgt := 58) hx hb dM_present_51 (by decide) (fun hc => ?_) (fun hc => ?_)
        · replace hw := hw.1 hc
          exact LM_present_58 X hex hr (wp_M_present_10 po n) ih x1 x3 x4 (a 11 x4.toNatClampNeg) (a 8 (a 11 x4.toNatClampNeg).toNatClampNeg) f48 a48 b48 hw _ _ K _ (lv_sub hl [2, 3, 4, 5, 1, 0] rfl)
        · replace hw := hw.2 hc
          refine lv_ldc2 (v := (-1 : Int64)) hx hb hown (hts _ (tm4 (i := 39) rfl rfl)) dM_present_54 ?_
          exact endL X K hr hw (by decide) (by decide) dM_present_57
set_option maxHeartbeats 4000000 in
set_option maxRecDepth 100000 in
theorem met_M_present {l : Launch} (hl9 : l.stackTraces = false) (D : va_G) (ad : Nat → Nat) (ca : Nat → ClassId) (sa : Nat → Nat) (sz : Nat)  (f : wF) (a : wA) (b : wB) (po : Int64 → wF → wA → wB → Prop) (hw : wp_M_present po f a b) : mL nM kM (tyS ca) txS D vwCl l yM_present (Cond.code yM_present cM_present 7 (some .long) :: Wl) ({ frames := 3, cells := 0, slots := 0, locals := 67 }) [.ref (ad 0)] ad ca sa sz f a b po (fun _ _ _ _ => False) 0 0 := by
  refine ofL (by decide) hl9 (Nat.le_of_ble_eq_true rfl) ?_
  intro p e s m below meth c ls X hex hr K hl
  obtain ⟨hx, hb, hml, hown, hts, hK, hA, hth, hlk, hl9⟩ := id X
  have hl : lv_has ls 7 [(0, .ref (ad 0))] := hl
  dsimp only [wp_M_present] at hw
  refine lv_lconst (v := (0 : Int64)) hx hb dM_present_0 (by decide) ?_
  refine lv_lstore_n (lv' := [(1, .long (0 : Int64)), (0, .ref (ad 0))]) hx hb dM_present_1 rfl hl (by decide) rfl (fun ls hl => ?_)
  refine lv_aload_n hx hb dM_present_2 rfl (lv_at hl 1 rfl) ?_
  refine gcI X K (n0 := 0) (As := []) (rest := []) (hM := (met_M_fixedUnits hl9 D ad ca sa _ f a b _ hw)) (o := 0) (ho := by decide) (hko := kM_o0) (hci := rfl) (hg := wl_good) (w1 := (tm4 (i := 31) rfl rfl)) (w2 := (tm4 (i := 33) rfl rfl)) (w3 := (tm0 (i := 45) rfl rfl)) (w4 := (tm1 (i := 4) rfl rfl)) (w5 := (tm4 (i := 34) rfl rfl)) (hd := ⟨rfl, by decide, by decide, by decide +kernel⟩) (hrc := rfl) (hrs := rfl) (hR := ⟨Nat.le_of_ble_eq_true rfl, Nat.le_of_ble_eq_true rfl⟩) (hn := rfl) (hsz := hl.1) (hst := rfl) (hW := Nat.le_of_ble_eq_true rfl) (hdg := dM_present_3) (hf := ⟨Nat.le_of_ble_eq_true rfl, Nat.le_of_ble_eq_true rfl⟩) (fun _ _ _ _ _ _ _ _ hw => hw.elim) (fun r3 f3 a3 b3 H locs hw K => ?_)
  refine lv_istore_n (lv' := [(3, .int r3), (1, .long (0 : Int64)), (0, .ref (ad 0))]) hx hb dM_present_6 rfl hl (by decide) rfl (fun ls hl => ?_)
  refine lv_iconst (v := (0 : Int32)) hx hb dM_present_7 (by decide) ?_
  refine lv_istore (lv' := [(4, .int (0 : Int32)), (3, .int r3), (1, .long (0 : Int64)), (0, .ref (ad 0))]) hx hb dM_present_8 hl (by decide) rfl (fun ls hl => ?_)
  obtain ⟨n9, hw⟩ := hw
  exact LM_present_10 X hex hr n9 (0 : Int64) r3 (0 : Int32) f3 a3 b3 hw _ _ K _ (lv_sub hl [3, 2, 1, 0] rfl)
