set_option maxHeartbeats 4000000 in
set_option maxRecDepth 100000 in
theorem met_M_thrown {l : Launch} (hl9 : l.stackTraces = false) (D : va_G) (ad : Nat → Nat) (ca : Nat → ClassId) (sa : Nat → Nat) (sz : Nat)  (f : wF) (a : wA) (b : wB) (po : Int32 → wF → wA → wB → Prop) (hw : wp_M_thrown po f a b) : mI nM kM (tyS ca) txS D vwCl l yM_thrown (Cond.code yM_thrown cM_thrown 1 (some .int) :: Wl) ({ frames := 0, cells := 0, slots := 0, locals := 0 }) [.ref (ad 0)] ad ca sa sz f a b po (fun _ _ _ _ => False) 0 0 := by
  refine ofI (by decide) hl9 (Nat.le_of_ble_eq_true rfl) ?_
  intro p e s m below meth c ls X hex hr K hl
  obtain ⟨hx, hb, hml, hown, hts, hK, hA, hth, hlk, hl9⟩ := id X
  have hl : lv_has ls 1 [(0, .ref (ad 0))] := hl
  dsimp only [wp_M_thrown] at hw
  refine lv_aload_n hx hb dM_thrown_0 rfl (lv_at hl 0 rfl) ?_
  refine gGet X K (o := 0) (k := 0) (v := .int (f 0)) (by decide) kM_o0 rfl inM_o0 (by decide) (tm3 (i := 103) rfl rfl) rfl dM_thrown_1 ?_
  exact endI X K hr rfl hw (by decide) (by decide) dM_thrown_4
set_option maxHeartbeats 4000000 in
set_option maxRecDepth 100000 in
theorem LM_throwing_50 {p : Program} {l : Launch} {e : Env} {s : State} {m : MethodId} {below : List Frame} {meth : Method} {c : Code} {D : va_G} {sa : Nat → Nat} {ad : Nat → Nat} {ca : Nat → ClassId} {A : Nat → Prop} {y1 : Int32} {y2 : Int32} {y3 : Int32} {y4 : Int32} {po : Int32 → wF → wA → wB → Prop} (X : cx Wl (tyS ca) txS D vwCl sa A p l s m ([.ref (ad 0), .int y1, .int y2, .int y3, .int y4] : List Value).toArray meth c cM_throwing 5 "SendBestModel") (hex : ∀ x ∈ c.exceptionTable.toList, False) (hr : meth.sig.returnType = (some .boolean)) : ∀ (k0 : Int32) (f : wF) (a : wA) (b : wB), wp_M_throwing_50 po k0 f a b → ∀ (H : Heap) (locs : List Loc), wd nM kM D vwCl ad ca A s H locs f a b → ∀ (ls : Array Slot), lv_has ls 5 [] → W p l e ({ frames := 0, cells := 0, slots := 0, locals := 0 }) s m ([.ref (ad 0), .int y1, .int y2, .int y3, .int y4] : List Value).toArray below meth c H locs 0 0 (vx_MQ below (va_Qi (fun r (u : wF × wA × wB) => po r u.1 u.2.1 u.2.2) (sPost nM kM D vwCl ad ca A) A) (sX nM kM D vwCl ad ca A (fun _ _ _ _ => False)) ([.ref (ad 0), .int y1, .int y2, .int y3, .int y4] : List Value).toArray s 0 0 A) (F0 m 50 ls [.int k0]) := by
  obtain ⟨hx, hb, hml, hown, hts, hK, hA, hth, hlk, hl9⟩ := id X
  intro k0 f a b hw H locs K ls hl
  dsimp only [wp_M_throwing_50] at hw
  exact endI X K hr hw.1 hw.2 (by decide) (by decide) dM_throwing_50
set_option maxHeartbeats 4000000 in
set_option maxRecDepth 100000 in
theorem LM_throwing_35 {p : Program} {l : Launch} {e : Env} {s : State} {m : MethodId} {below : List Frame} {meth : Method} {c : Code} {D : va_G} {sa : Nat → Nat} {ad : Nat → Nat} {ca : Nat → ClassId} {A : Nat → Prop} {y1 : Int32} {y2 : Int32} {y3 : Int32} {y4 : Int32} {po : Int32 → wF → wA → wB → Prop} (X : cx Wl (tyS ca) txS D vwCl sa A p l s m ([.ref (ad 0), .int y1, .int y2, .int y3, .int y4] : List Value).toArray meth c cM_throwing 5 "SendBestModel") (hex : ∀ x ∈ c.exceptionTable.toList, False) (hr : meth.sig.returnType = (some .boolean)) : ∀ (k0 : Int32) (f : wF) (a : wA) (b : wB), wp_M_throwing_35 po k0 f a b → ∀ (H : Heap) (locs : List Loc), wd nM kM D vwCl ad ca A s H locs f a b → ∀ (ls : Array Slot), lv_has ls 5 [(0, .ref (ad 0))] → W p l e ({ frames := 0, cells := 0, slots := 0, locals := 0 }) s m ([.ref (ad 0), .int y1, .int y2, .int y3, .int y4] : List Value).toArray below meth c H locs 0 0 (vx_MQ below (va_Qi (fun r (u : wF × wA × wB) => po r u.1 u.2.1 u.2.2) (sPost nM kM D vwCl ad ca A) A) (sX nM kM D vwCl ad ca A (fun _ _ _ _ => False)) ([.ref (ad 0), .int y1, .int y2, .int y3, .int y4] : List Value).toArray s 0 0 A) (F0 m 35 ls [.int k0, .ref (ad 0)]) := by
  obtain ⟨hx, hb, hml, hown, hts, hK, hA, hth, hlk, hl9⟩ := id X
  intro k0 f a b hw H locs K ls hl
  dsimp only [wp_M_throwing_35] at hw
  refine gPut X K (o := 0) (k := 0) (v := .int k0) (ty := .int) tM_o0 tM_o0_ok nM_o0 (by decide) kM_o0 rfl inM_o0 (by decide) (tm3 (i := 103) rfl rfl) rfl rfl rfl rfl (by simp [flM_o0]) dM_throwing_35 kM_u0_0 (fun H locs K => ?_)
  refine lv_aload_n hx hb dM_throwing_38 rfl (lv_at hl 0 rfl) ?_
  refine gGet X K (o := 0) (k := 0) (v := .int ((va_up f 0 k0) 0)) (by decide) kM_o0 rfl inM_o0 (by decide) (tm3 (i := 103) rfl rfl) rfl dM_throwing_39 ?_
  refine lv_if_le (tgt := 49) hx hb dM_throwing_42 (by decide) (fun hc => ?_) (fun hc => ?_)
  · replace hw := hw.1 hc
    refine lv_iconst (v := (0 : Int32)) hx hb dM_throwing_49 (by decide) ?_
    exact LM_throwing_50 X hex hr (0 : Int32) (va_up f 0 k0) a b hw _ _ K _ (lv_sub hl [] rfl)
  · replace hw := hw.2 hc
    refine lv_iconst (v := (1 : Int32)) hx hb dM_throwing_45 (by decide) ?_
    refine lv_goto (tgt := 50) hx hb dM_throwing_46 (by decide) ?_
    exact LM_throwing_50 X hex hr (1 : Int32) (va_up f 0 k0) a b hw _ _ K _ (lv_sub hl [] rfl)
set_option maxHeartbeats 4000000 in
set_option maxRecDepth 100000 in
theorem met_M_throwing {l : Launch} (hl9 : l.stackTraces = false) (D : va_G) (ad : Nat → Nat) (ca : Nat → ClassId) (sa : Nat → Nat) (sz : Nat) (x1 : Int32) (x2 : Int32) (x3 : Int32) (x4 : Int32) (f : wF) (a : wA) (b : wB) (po : Int32 → wF → wA → wB → Prop) (hw : wp_M_throwing po x1 x2 x3 x4 f a b) : mI nM kM (tyS ca) txS D vwCl l yM_throwing (Cond.code yM_throwing cM_throwing 5 (some .boolean) :: Wl) ({ frames := 0, cells := 0, slots := 0, locals := 0 }) [.ref (ad 0), .int x1, .int x2, .int x3, .int x4] ad ca sa sz f a b po (fun _ _ _ _ => False) 0 0 := by
  refine ofI (by decide) hl9 (Nat.le_of_ble_eq_true rfl) ?_
  intro p e s m below meth c ls X hex hr K hl
  obtain ⟨hx, hb, hml, hown, hts, hK, hA, hth, hlk, hl9⟩ := id X
  have hl : lv_has ls 5 [(0, .ref (ad 0)), (1, .int x1), (2, .int x2), (3, .int x3), (4, .int x4)] := hl
  dsimp only [wp_M_throwing] at hw
  refine lv_aload_n hx hb dM_throwing_0 rfl (lv_at hl 0 rfl) ?_
  refine lv_iload_n hx hb dM_throwing_1 rfl (lv_at hl 1 rfl) ?_
  refine lv_if_eq (tgt := 9) hx hb dM_throwing_2 (by decide) (fun hc => ?_) (fun hc => ?_)
  · replace hw := hw.1 hc
    refine lv_iload_n hx hb dM_throwing_9 rfl (lv_at hl 2 rfl) ?_
    refine lv_if_eq (tgt := 17) hx hb dM_throwing_10 (by decide) (fun hc => ?_) (fun hc => ?_)
    · replace hw := hw.1 hc
      refine lv_iload_n hx hb dM_throwing_17 rfl (lv_at hl 3 rfl) ?_
      refine lv_if_eq (tgt := 25) hx hb dM_throwing_18 (by decide) (fun hc => ?_) (fun hc => ?_)
      · replace hw := hw.1 hc
        refine lv_iload hx hb dM_throwing_25 (lv_at hl 4 rfl) ?_
        refine lv_if_eq (tgt := 34) hx hb dM_throwing_27 (by decide) (fun hc => ?_) (fun hc => ?_)
        · replace hw := hw.1 hc
          refine lv_iconst (v := (0 : Int32)) hx hb dM_throwing_34 (by decide) ?_
          exact LM_throwing_35 X hex hr (0 : Int32) f a b hw _ _ K _ (lv_sub hl [0] rfl)
        · replace hw := hw.2 hc
          refine lv_iconst (v := (4 : Int32)) hx hb dM_throwing_30 (by decide) ?_
          refine lv_goto (tgt := 35) hx hb dM_throwing_31 (by decide) ?_
          exact LM_throwing_35 X hex hr (4 : Int32) f a b hw _ _ K _ (lv_sub hl [0] rfl)
      · replace hw := hw.2 hc
        refine lv_iconst (v := (3 : Int32)) hx hb dM_throwing_21 (by decide) ?_
        refine lv_goto (tgt := 35) hx hb dM_throwing_22 (by decide) ?_
        exact LM_throwing_35 X hex hr (3 : Int32) f a b hw _ _ K _ (lv_sub hl [0] rfl)
    · replace hw := hw.2 hc
      refine lv_iconst (v := (2 : Int32)) hx hb dM_throwing_13 (by decide) ?_
      refine lv_goto (tgt := 35) hx hb dM_throwing_14 (by decide) ?_
      exact LM_throwing_35 X hex hr (2 : Int32) f a b hw _ _ K _ (lv_sub hl [0] rfl)
  · replace hw := hw.2 hc
    refine lv_iconst (v := (1 : Int32)) hx hb dM_throwing_5 (by decide) ?_
    refine lv_goto (tgt := 35) hx hb dM_throwing_6 (by decide) ?_
    exact LM_throwing_35 X hex hr (1 : Int32) f a b hw _ _ K _ (lv_sub hl [0] rfl)
set_option maxHeartbeats 4000000 in
set_option maxRecDepth 100000 in
theorem LM_in_15 {p : Program} {l : Launch} {e : Env} {s : State} {m : MethodId} {below : List Frame} {meth : Method} {c : Code} {D : va_G} {sa : Nat → Nat} {ad : Nat → Nat} {ca : Nat → ClassId} {A : Nat → Prop} {y0 : Int32} {y1 : Int32} {y2 : Int32} {po : Int32 → wF → wA → wB → Prop} (X : cx Wl (tyS ca) txS D vwCl sa A p l s m ([.int y0, .int y1, .int y2] : List Value).toArray meth c cM_in 3 "SendBestModel") (hex : ∀ x ∈ c.exceptionTable.toList, False) (hr : meth.sig.returnType = (some .boolean)) : ∀ (k0 : Int32) (f : wF) (a : wA) (b : wB), wp_M_in_15 po k0 f a b → ∀ (H : Heap) (locs : List Loc), wd nM kM D vwCl ad ca A s H locs f a b → ∀ (ls : Array Slot), lv_has ls 3 [] → W p l e ({ frames := 0, cells := 0, slots := 0, locals := 0 }) s m ([.int y0, .int y1, .int y2] : List Value).toArray below meth c H locs 0 0 (vx_MQ below (va_Qi (fun r (u : wF × wA × wB) => po r u.1 u.2.1 u.2.2) (sPost nM kM D vwCl ad ca A) A) (sX nM kM D vwCl ad ca A (fun _ _ _ _ => False)) ([.int y0, .int y1, .int y2] : List Value).toArray s 0 0 A) (F0 m 15 ls [.int k0]) := by
  obtain ⟨hx, hb, hml, hown, hts, hK, hA, hth, hlk, hl9⟩ := id X
  intro k0 f a b hw H locs K ls hl
  dsimp only [wp_M_in_15] at hw
  exact endI X K hr hw.1 hw.2 (by decide) (by decide) dM_in_15
set_option maxHeartbeats 4000000 in
set_option maxRecDepth 100000 in
theorem LM_in_14 {p : Program} {l : Launch} {e : Env} {s : State} {m : MethodId} {below : List Frame} {meth : Method} {c : Code} {D : va_G} {sa : Nat → Nat} {ad : Nat → Nat} {ca : Nat → ClassId} {A : Nat → Prop} {y0 : Int32} {y1 : Int32} {y2 : Int32} {po : Int32 → wF → wA → wB → Prop} (X : cx Wl (tyS ca) txS D vwCl sa A p l s m ([.int y0, .int y1, .int y2] : List Value).toArray meth c cM_in 3 "SendBestModel") (hex : ∀ x ∈ c.exceptionTable.toList, False) (hr : meth.sig.returnType = (some .boolean)) : ∀ (f : wF) (a : wA) (b : wB), wp_M_in_14 po f a b → ∀ (H : Heap) (locs : List Loc), wd nM kM D vwCl ad ca A s H locs f a b → ∀ (ls : Array Slot), lv_has ls 3 [] → W p l e ({ frames := 0, cells := 0, slots := 0, locals := 0 }) s m ([.int y0, .int y1, .int y2] : List Value).toArray below meth c H locs 0 0 (vx_MQ below (va_Qi (fun r (u : wF × wA × wB) => po r u.1 u.2.1 u.2.2) (sPost nM kM D vwCl ad ca A) A) (sX nM kM D vwCl ad ca A (fun _ _ _ _ => False)) ([.int y0, .int y1, .int y2] : List Value).toArray s 0 0 A) (F0 m 14 ls []) := by
  obtain ⟨hx, hb, hml, hown, hts, hK, hA, hth, hlk, hl9⟩ := id X
  intro  f a b hw H locs K ls hl
  dsimp only [wp_M_in_14] at hw
  refine lv_iconst (v := (0 : Int32)) hx hb dM_in_14 (by decide) ?_
  exact LM_in_15 X hex hr (0 : Int32) f a b hw _ _ K _ (lv_sub hl [] rfl)
set_option maxHeartbeats 4000000 in
set_option maxRecDepth 100000 in
theorem met_M_in {l : Launch} (hl9 : l.stackTraces = false) (D : va_G) (ad : Nat → Nat) (ca : Nat → ClassId) (sa : Nat → Nat) (sz : Nat) (x0 : Int32) (x1 : Int32) (x2 : Int32) (f : wF) (a : wA) (b : wB) (po : Int32 → wF → wA → wB → Prop) (hw : wp_M_in po x0 x1 x2 f a b) : mI nM kM (tyS ca) txS D vwCl l yM_in (Cond.code yM_in cM_in 3 (some .boolean) :: Wl) ({ frames := 0, cells := 0, slots := 0, locals := 0 }) [.int x0, .int x1, .int x2] ad ca sa sz f a b po (fun _ _ _ _ => False) 0 0 := by
  refine ofI (by decide) hl9 (Nat.le_of_ble_eq_true rfl) ?_
  intro p e s m below meth c ls X hex hr K hl
  obtain ⟨hx, hb, hml, hown, hts, hK, hA, hth, hlk, hl9⟩ := id X
  have hl : lv_has ls 3 [(0, .int x0), (1, .int x1), (2, .int x2)] := hl
  dsimp only [wp_M_in] at hw
  refine lv_iload_n hx hb dM_in_0 rfl (lv_at hl 0 rfl) ?_
  refine lv_iload_n hx hb dM_in_1 rfl (lv_at hl 1 rfl) ?_
  refine lv_icmp_lt (tgt := 14) hx hb dM_in_2 (by decide) (fun hc => ?_) (fun hc => ?_)
  · replace hw := hw.1 hc
    exact LM_in_14 X hex hr f a b hw _ _ K _ (lv_sub hl [] rfl)
  · replace hw := hw.2 hc
    refine lv_iload_n hx hb dM_in_5 rfl (lv_at hl 0 rfl) ?_
    refine lv_iload_n hx hb dM_in_6 rfl (lv_at hl 2 rfl) ?_
    refine lv_icmp_gt (tgt := 14) hx hb dM_in_7 (by decide) (fun hc => ?_) (fun hc => ?_)
    · replace hw := hw.1 hc
      exact LM_in_14 X hex hr f a b hw _ _ K _ (lv_sub hl [] rfl)
    · replace hw := hw.2 hc
      refine lv_iconst (v := (1 : Int32)) hx hb dM_in_10 (by decide) ?_
      refine lv_goto (tgt := 15) hx hb dM_in_11 (by decide) ?_
      exact LM_in_15 X hex hr (1 : Int32) f a b hw _ _ K _ (lv_sub hl [] rfl)
set_option maxHeartbeats 4000000 in
set_option maxRecDepth 100000 in
theorem met_M_isUnit {l : Launch} (hl9 : l.stackTraces = false) (D : va_G) (ad : Nat → Nat) (ca : Nat → ClassId) (sa : Nat → Nat) (sz : Nat) (x1 : Int32) (f : wF) (a : wA) (b : wB) (po : Int32 → wF → wA → wB → Prop) (hw : wp_M_isUnit po x1 f a b) : mI nM kM (tyS ca) txS D vwCl l yM_isUnit (Cond.code yM_isUnit cM_isUnit 2 (some .boolean) :: Wl) ({ frames := 1, cells := 0, slots := 0, locals := 22 }) [.ref (ad 0), .int x1] ad ca sa sz f a b po (fun _ _ _ _ => False) 0 0 := by
  refine ofI (by decide) hl9 (Nat.le_of_ble_eq_true rfl) ?_
  intro p e s m below meth c ls X hex hr K hl
  obtain ⟨hx, hb, hml, hown, hts, hK, hA, hth, hlk, hl9⟩ := id X
  have hl : lv_has ls 2 [(0, .ref (ad 0)), (1, .int x1)] := hl
  dsimp only [wp_M_isUnit] at hw
  refine lv_iload_n hx hb dM_isUnit_0 rfl (lv_at hl 1 rfl) ?_
  refine lv_iconst (v := (0 : Int32)) hx hb dM_isUnit_1 (by decide) ?_
  refine lv_aload_n hx hb dM_isUnit_2 rfl (lv_at hl 0 rfl) ?_
  refine gGet X K (o := 0) (k := 1) (v := .int (f 1)) (by decide) kM_o0 rfl inM_o0 (by decide) (tm3 (i := 104) rfl rfl) rfl dM_isUnit_3 ?_
  refine lv_iconst (v := (1 : Int32)) hx hb dM_isUnit_6 (by decide) ?_
  refine lv_isub hx hb dM_isUnit_7 ?_
  refine gcSI X K (n0 := 3) (As := [.int x1, .int (0 : Int32), .int ((f 1) - (1 : Int32))]) (rest := []) (hM := (met_M_in hl9 D ad ca sa _ x1 (0 : Int32) ((f 1) - (1 : Int32)) f a b _ hw)) (hg := wl_good) (w1 := (tm3 (i := 170) rfl rfl)) (w2 := (tm3 (i := 171) rfl rfl)) (w4 := (tm1 (i := 4) rfl rfl)) (w5 := (tm3 (i := 172) rfl rfl)) (hd := ⟨by decide, by decide, by decide +kernel⟩) (hrc := rfl) (hrs := rfl) (hR := ⟨Nat.le_of_ble_eq_true rfl, Nat.le_of_ble_eq_true rfl⟩) (hn := rfl) (hsz := hl.1) (hst := rfl) (hW := Nat.le_of_ble_eq_true rfl) (hdg := dM_isUnit_8) (hf := ⟨Nat.le_of_ble_eq_true rfl, Nat.le_of_ble_eq_true rfl⟩) (fun _ _ _ _ _ _ _ _ hw => hw.elim) (fun r8 f8 a8 b8 H locs hw K => ?_)
  exact endI X K hr hw.1 hw.2 (by decide) (by decide) dM_isUnit_11
set_option maxHeartbeats 4000000 in
set_option maxRecDepth 100000 in
theorem met_M_isIncident {l : Launch} (hl9 : l.stackTraces = false) (D : va_G) (ad : Nat → Nat) (ca : Nat → ClassId) (sa : Nat → Nat) (sz : Nat) (x1 : Int32) (f : wF) (a : wA) (b : wB) (po : Int32 → wF → wA → wB → Prop) (hw : wp_M_isIncident po x1 f a b) : mI nM kM (tyS ca) txS D vwCl l yM_isIncident (Cond.code yM_isIncident cM_isIncident 2 (some .boolean) :: Wl) ({ frames := 1, cells := 0, slots := 0, locals := 22 }) [.ref (ad 0), .int x1] ad ca sa sz f a b po (fun _ _ _ _ => False) 0 0 := by
  refine ofI (by decide) hl9 (Nat.le_of_ble_eq_true rfl) ?_
  intro p e s m below meth c ls X hex hr K hl
  obtain ⟨hx, hb, hml, hown, hts, hK, hA, hth, hlk, hl9⟩ := id X
  have hl : lv_has ls 2 [(0, .ref (ad 0)), (1, .int x1)] := hl
  dsimp only [wp_M_isIncident] at hw
  refine lv_iload_n hx hb dM_isIncident_0 rfl (lv_at hl 1 rfl) ?_
  refine lv_iconst (v := (0 : Int32)) hx hb dM_isIncident_1 (by decide) ?_
  refine lv_aload_n hx hb dM_isIncident_2 rfl (lv_at hl 0 rfl) ?_
  refine gGet X K (o := 0) (k := 5) (v := .int (f 2)) (by decide) kM_o0 rfl inM_o0 (by decide) (tm3 (i := 108) rfl rfl) rfl dM_isIncident_3 ?_
  refine lv_iconst (v := (1 : Int32)) hx hb dM_isIncident_6 (by decide) ?_
  refine lv_isub hx hb dM_isIncident_7 ?_
  refine gcSI X K (n0 := 3) (As := [.int x1, .int (0 : Int32), .int ((f 2) - (1 : Int32))]) (rest := []) (hM := (met_M_in hl9 D ad ca sa _ x1 (0 : Int32) ((f 2) - (1 : Int32)) f a b _ hw)) (hg := wl_good) (w1 := (tm3 (i := 170) rfl rfl)) (w2 := (tm3 (i := 171) rfl rfl)) (w4 := (tm1 (i := 4) rfl rfl)) (w5 := (tm3 (i := 172) rfl rfl)) (hd := ⟨by decide, by decide, by decide +kernel⟩) (hrc := rfl) (hrs := rfl) (hR := ⟨Nat.le_of_ble_eq_true rfl, Nat.le_of_ble_eq_true rfl⟩) (hn := rfl) (hsz := hl.1) (hst := rfl) (hW := Nat.le_of_ble_eq_true rfl) (hdg := dM_isIncident_8) (hf := ⟨Nat.le_of_ble_eq_true rfl, Nat.le_of_ble_eq_true rfl⟩) (fun _ _ _ _ _ _ _ _ hw => hw.elim) (fun r8 f8 a8 b8 H locs hw K => ?_)
  exact endI X K hr hw.1 hw.2 (by decide) (by decide) dM_isIncident_11
set_option maxHeartbeats 4000000 in
set_option maxRecDepth 100000 in
theorem LM_unit_30 {p : Program} {l : Launch} {e : Env} {s : State} {m : MethodId} {below : List Frame} {meth : Method} {c : Code} {D : va_G} {sa : Nat → Nat} {ad : Nat → Nat} {ca : Nat → ClassId} {A : Nat → Prop} {y1 : Int32} {po : Int32 → wF → wA → wB → Prop} (X : cx Wl (tyS ca) txS D vwCl sa A p l s m ([.ref (ad 0), .int y1] : List Value).toArray meth c cM_unit 2 "SendBestModel") (hex : ∀ x ∈ c.exceptionTable.toList, False) (hr : meth.sig.returnType = (some .int)) : ∀ (k0 : Int32) (k1 : Int32) (x1 : Int32) (f : wF) (a : wA) (b : wB), wp_M_unit_30 po k0 k1 x1 f a b → ∀ (H : Heap) (locs : List Loc), wd nM kM D vwCl ad ca A s H locs f a b → ∀ (ls : Array Slot), lv_has ls 2 [(0, .ref (ad 0)), (1, .int x1)] → W p l e ({ frames := 1, cells := 0, slots := 0, locals := 24 }) s m ([.ref (ad 0), .int y1] : List Value).toArray below meth c H locs 0 0 (vx_MQ below (va_Qi (fun r (u : wF × wA × wB) => po r u.1 u.2.1 u.2.2) (sPost nM kM D vwCl ad ca A) A) (sX nM kM D vwCl ad ca A (fun _ _ _ _ => False)) ([.ref (ad 0), .int y1] : List Value).toArray s 0 0 A) (F0 m 30 ls [.int k0, .int k1, .ref (ad 0)]) := by
  obtain ⟨hx, hb, hml, hown, hts, hK, hA, hth, hlk, hl9⟩ := id X
  intro k0 k1 x1 f a b hw H locs K ls hl
  dsimp only [wp_M_unit_30] at hw
  refine lv_iconst (v := (0 : Int32)) hx hb dM_unit_30 (by decide) ?_
  refine lv_iconst (v := (0 : Int32)) hx hb dM_unit_31 (by decide) ?_
  refine gcI X K (n0 := 4) (As := [.int k1, .int k0, .int (0 : Int32), .int (0 : Int32)]) (rest := []) (hM := (met_M_throwing hl9 D ad ca sa _ k1 k0 (0 : Int32) (0 : Int32) f a b _ hw)) (o := 0) (ho := by decide) (hko := kM_o0) (hci := rfl) (hg := wl_good) (w1 := (tm3 (i := 173) rfl rfl)) (w2 := (tm3 (i := 175) rfl rfl)) (w3 := (tm0 (i := 30) rfl rfl)) (w4 := (tm1 (i := 4) rfl rfl)) (w5 := (tm3 (i := 176) rfl rfl)) (hd := ⟨rfl, by decide, by decide, by decide +kernel⟩) (hrc := rfl) (hrs := rfl) (hR := ⟨Nat.le_of_ble_eq_true rfl, Nat.le_of_ble_eq_true rfl⟩) (hn := rfl) (hsz := hl.1) (hst := rfl) (hW := Nat.le_of_ble_eq_true rfl) (hdg := dM_unit_32) (hf := ⟨Nat.le_of_ble_eq_true rfl, Nat.le_of_ble_eq_true rfl⟩) (fun _ _ _ _ _ _ _ _ hw => hw.elim) (fun r32 f32 a32 b32 H locs hw K => ?_)
  refine lv_if_eq (tgt := 40) hx hb dM_unit_35 (by decide) (fun hc => ?_) (fun hc => ?_)
  · replace hw := hw.1 hc
    refine lv_aload_n hx hb dM_unit_40 rfl (lv_at hl 0 rfl) ?_
    refine gGet X K (o := 0) (k := 2) (v := .ref (ad 1)) (by decide) kM_o0 rfl inM_o0 (by decide) (tm3 (i := 105) rfl rfl) rfl dM_unit_41 ?_
    refine lv_aload_n hx hb dM_unit_44 rfl (lv_at hl 0 rfl) ?_
    refine gGet X K (o := 0) (k := 1) (v := .int (f32 1)) (by decide) kM_o0 rfl inM_o0 (by decide) (tm3 (i := 104) rfl rfl) rfl dM_unit_45 ?_
    refine lv_iload_n hx hb dM_unit_48 rfl (lv_at hl 1 rfl) ?_
    obtain ⟨hi, hw⟩ := hw
    refine gist X K (o := 1) (t0 := 0) (by decide) kM_c1 rfl hi dM_unit_49 kM_p1 (fun H locs K => ?_)
    refine lv_aload_n hx hb dM_unit_50 rfl (lv_at hl 0 rfl) ?_
    refine lv_dup hx hb dM_unit_51 rfl ?_
    refine gGet X K (o := 0) (k := 1) (v := .int (f32 1)) (by decide) kM_o0 rfl inM_o0 (by decide) (tm3 (i := 104) rfl rfl) rfl dM_unit_52 ?_
    refine lv_iconst (v := (1 : Int32)) hx hb dM_unit_55 (by decide) ?_
    refine lv_iadd hx hb dM_unit_56 ?_
    refine gPut X K (o := 0) (k := 1) (v := .int ((f32 1) + (1 : Int32))) (ty := .int) tM_o0 tM_o0_ok nM_o0 (by decide) kM_o0 rfl inM_o0 (by decide) (tm3 (i := 104) rfl rfl) rfl rfl rfl rfl (by simp [flM_o0]) dM_unit_57 kM_u0_1 (fun H locs K => ?_)
    refine lv_aload_n hx hb dM_unit_60 rfl (lv_at hl 0 rfl) ?_
    refine gGet X K (o := 0) (k := 1) (v := .int ((va_up f32 1 ((f32 1) + (1 : Int32))) 1)) (by decide) kM_o0 rfl inM_o0 (by decide) (tm3 (i := 104) rfl rfl) rfl dM_unit_61 ?_
    refine lv_iconst (v := (1 : Int32)) hx hb dM_unit_64 (by decide) ?_
    refine lv_isub hx hb dM_unit_65 ?_
    exact endI X K hr rfl hw (by decide) (by decide) dM_unit_66
  · replace hw := hw.2 hc
    refine lv_iconst (v := (0 : Int32)) hx hb dM_unit_38 (by decide) ?_
    exact endI X K hr rfl hw (by decide) (by decide) dM_unit_39
set_option maxHeartbeats 4000000 in
set_option maxRecDepth 100000 in
theorem LM_unit_16 {p : Program} {l : Launch} {e : Env} {s : State} {m : MethodId} {below : List Frame} {meth : Method} {c : Code} {D : va_G} {sa : Nat → Nat} {ad : Nat → Nat} {ca : Nat → ClassId} {A : Nat → Prop} {y1 : Int32} {po : Int32 → wF → wA → wB → Prop} (X : cx Wl (tyS ca) txS D vwCl sa A p l s m ([.ref (ad 0), .int y1] : List Value).toArray meth c cM_unit 2 "SendBestModel") (hex : ∀ x ∈ c.exceptionTable.toList, False) (hr : meth.sig.returnType = (some .int)) : ∀ (k0 : Int32) (x1 : Int32) (f : wF) (a : wA) (b : wB), wp_M_unit_16 po k0 x1 f a b → ∀ (H : Heap) (locs : List Loc), wd nM kM D vwCl ad ca A s H locs f a b → ∀ (ls : Array Slot), lv_has ls 2 [(0, .ref (ad 0)), (1, .int x1)] → W p l e ({ frames := 1, cells := 0, slots := 0, locals := 24 }) s m ([.ref (ad 0), .int y1] : List Value).toArray below meth c H locs 0 0 (vx_MQ below (va_Qi (fun r (u : wF × wA × wB) => po r u.1 u.2.1 u.2.2) (sPost nM kM D vwCl ad ca A) A) (sX nM kM D vwCl ad ca A (fun _ _ _ _ => False)) ([.ref (ad 0), .int y1] : List Value).toArray s 0 0 A) (F0 m 16 ls [.int k0, .ref (ad 0)]) := by
  obtain ⟨hx, hb, hml, hown, hts, hK, hA, hth, hlk, hl9⟩ := id X
  intro k0 x1 f a b hw H locs K ls hl
  dsimp only [wp_M_unit_16] at hw
  refine lv_aload_n hx hb dM_unit_16 rfl (lv_at hl 0 rfl) ?_
  refine gGet X K (o := 0) (k := 1) (v := .int (f 1)) (by decide) kM_o0 rfl inM_o0 (by decide) (tm3 (i := 104) rfl rfl) rfl dM_unit_17 ?_
  refine lv_bipush (v := (12 : Int32)) hx hb dM_unit_20 (by decide) ?_
  refine lv_icmp_ne (tgt := 29) hx hb dM_unit_22 (by decide) (fun hc => ?_) (fun hc => ?_)
  · replace hw := hw.1 hc
    refine lv_iconst (v := (0 : Int32)) hx hb dM_unit_29 (by decide) ?_
    exact LM_unit_30 X hex hr (0 : Int32) k0 x1 f a b hw _ _ K _ (lv_sub hl [0, 1] rfl)
  · replace hw := hw.2 hc
    refine lv_iconst (v := (1 : Int32)) hx hb dM_unit_25 (by decide) ?_
    refine lv_goto (tgt := 30) hx hb dM_unit_26 (by decide) ?_
    exact LM_unit_30 X hex hr (1 : Int32) k0 x1 f a b hw _ _ K _ (lv_sub hl [0, 1] rfl)
set_option maxHeartbeats 4000000 in
set_option maxRecDepth 100000 in
theorem met_M_unit {l : Launch} (hl9 : l.stackTraces = false) (D : va_G) (ad : Nat → Nat) (ca : Nat → ClassId) (sa : Nat → Nat) (sz : Nat) (x1 : Int32) (f : wF) (a : wA) (b : wB) (po : Int32 → wF → wA → wB → Prop) (hw : wp_M_unit po x1 f a b) : mI nM kM (tyS ca) txS D vwCl l yM_unit (Cond.code yM_unit cM_unit 2 (some .int) :: Wl) ({ frames := 1, cells := 0, slots := 0, locals := 24 }) [.ref (ad 0), .int x1] ad ca sa sz f a b po (fun _ _ _ _ => False) 0 0 := by
  refine ofI (by decide) hl9 (Nat.le_of_ble_eq_true rfl) ?_
  intro p e s m below meth c ls X hex hr K hl
  obtain ⟨hx, hb, hml, hown, hts, hK, hA, hth, hlk, hl9⟩ := id X
  have hl : lv_has ls 2 [(0, .ref (ad 0)), (1, .int x1)] := hl
  dsimp only [wp_M_unit] at hw
  refine lv_aload_n hx hb dM_unit_0 rfl (lv_at hl 0 rfl) ?_
  refine lv_iload_n hx hb dM_unit_1 rfl (lv_at hl 1 rfl) ?_
  refine lv_iconst (v := (0 : Int32)) hx hb dM_unit_2 (by decide) ?_
  refine lv_ldc (v := (65535 : Int32)) hx hb hown (hts _ (tm3 (i := 169) rfl rfl)) dM_unit_3 ?_
  refine gcSI X K (n0 := 3) (As := [.int x1, .int (0 : Int32), .int (65535 : Int32)]) (rest := [.ref (ad 0)]) (hM := (met_M_in hl9 D ad ca sa _ x1 (0 : Int32) (65535 : Int32) f a b _ hw)) (hg := wl_good) (w1 := (tm3 (i := 170) rfl rfl)) (w2 := (tm3 (i := 171) rfl rfl)) (w4 := (tm1 (i := 4) rfl rfl)) (w5 := (tm3 (i := 172) rfl rfl)) (hd := ⟨by decide, by decide, by decide +kernel⟩) (hrc := rfl) (hrs := rfl) (hR := ⟨Nat.le_of_ble_eq_true rfl, Nat.le_of_ble_eq_true rfl⟩) (hn := rfl) (hsz := hl.1) (hst := rfl) (hW := Nat.le_of_ble_eq_true rfl) (hdg := dM_unit_5) (hf := ⟨Nat.le_of_ble_eq_true rfl, Nat.le_of_ble_eq_true rfl⟩) (fun _ _ _ _ _ _ _ _ hw => hw.elim) (fun r5 f5 a5 b5 H locs hw K => ?_)
  refine lv_if_ne (tgt := 15) hx hb dM_unit_8 (by decide) (fun hc => ?_) (fun hc => ?_)
  · replace hw := hw.1 hc
    refine lv_iconst (v := (0 : Int32)) hx hb dM_unit_15 (by decide) ?_
    exact LM_unit_16 X hex hr (0 : Int32) x1 f5 a5 b5 hw _ _ K _ (lv_sub hl [0, 1] rfl)
  · replace hw := hw.2 hc
    refine lv_iconst (v := (1 : Int32)) hx hb dM_unit_11 (by decide) ?_
    refine lv_goto (tgt := 16) hx hb dM_unit_12 (by decide) ?_
    exact LM_unit_16 X hex hr (1 : Int32) x1 f5 a5 b5 hw _ _ K _ (lv_sub hl [0, 1] rfl)
set_option maxHeartbeats 4000000 in
set_option maxRecDepth 100000 in
theorem LM_incident_30 {p : Program} {l : Launch} {e : Env} {s : State} {m : MethodId} {below : List Frame} {meth : Method} {c : Code} {D : va_G} {sa : Nat → Nat} {ad : Nat → Nat} {ca : Nat → ClassId} {A : Nat → Prop} {y1 : Int32} {po : Int32 → wF → wA → wB → Prop} (X : cx Wl (tyS ca) txS D vwCl sa A p l s m ([.ref (ad 0), .int y1] : List Value).toArray meth c cM_incident 2 "SendBestModel") (hex : ∀ x ∈ c.exceptionTable.toList, False) (hr : meth.sig.returnType = (some .int)) : ∀ (k0 : Int32) (k1 : Int32) (x1 : Int32) (f : wF) (a : wA) (b : wB), wp_M_incident_30 po k0 k1 x1 f a b → ∀ (H : Heap) (locs : List Loc), wd nM kM D vwCl ad ca A s H locs f a b → ∀ (ls : Array Slot), lv_has ls 2 [(0, .ref (ad 0)), (1, .int x1)] → W p l e ({ frames := 1, cells := 0, slots := 0, locals := 24 }) s m ([.ref (ad 0), .int y1] : List Value).toArray below meth c H locs 0 0 (vx_MQ below (va_Qi (fun r (u : wF × wA × wB) => po r u.1 u.2.1 u.2.2) (sPost nM kM D vwCl ad ca A) A) (sX nM kM D vwCl ad ca A (fun _ _ _ _ => False)) ([.ref (ad 0), .int y1] : List Value).toArray s 0 0 A) (F0 m 30 ls [.int k0, .int k1, .ref (ad 0)]) := by
  obtain ⟨hx, hb, hml, hown, hts, hK, hA, hth, hlk, hl9⟩ := id X
  intro k0 k1 x1 f a b hw H locs K ls hl
  dsimp only [wp_M_incident_30] at hw
  refine lv_iconst (v := (0 : Int32)) hx hb dM_incident_30 (by decide) ?_
  refine lv_iconst (v := (0 : Int32)) hx hb dM_incident_31 (by decide) ?_
  refine gcI X K (n0 := 4) (As := [.int k1, .int k0, .int (0 : Int32), .int (0 : Int32)]) (rest := []) (hM := (met_M_throwing hl9 D ad ca sa _ k1 k0 (0 : Int32) (0 : Int32) f a b _ hw)) (o := 0) (ho := by decide) (hko := kM_o0) (hci := rfl) (hg := wl_good) (w1 := (tm3 (i := 173) rfl rfl)) (w2 := (tm3 (i := 175) rfl rfl)) (w3 := (tm0 (i := 30) rfl rfl)) (w4 := (tm1 (i := 4) rfl rfl)) (w5 := (tm3 (i := 176) rfl rfl)) (hd := ⟨rfl, by decide, by decide, by decide +kernel⟩) (hrc := rfl) (hrs := rfl) (hR := ⟨Nat.le_of_ble_eq_true rfl, Nat.le_of_ble_eq_true rfl⟩) (hn := rfl) (hsz := hl.1) (hst := rfl) (hW := Nat.le_of_ble_eq_true rfl) (hdg := dM_incident_32) (hf := ⟨Nat.le_of_ble_eq_true rfl, Nat.le_of_ble_eq_true rfl⟩) (fun _ _ _ _ _ _ _ _ hw => hw.elim) (fun r32 f32 a32 b32 H locs hw K => ?_)
  refine lv_if_eq (tgt := 40) hx hb dM_incident_35 (by decide) (fun hc => ?_) (fun hc => ?_)
  · replace hw := hw.1 hc
    refine lv_aload_n hx hb dM_incident_40 rfl (lv_at hl 0 rfl) ?_
    refine gGet X K (o := 0) (k := 6) (v := .ref (ad 4)) (by decide) kM_o0 rfl inM_o0 (by decide) (tm3 (i := 109) rfl rfl) rfl dM_incident_41 ?_
    refine lv_aload_n hx hb dM_incident_44 rfl (lv_at hl 0 rfl) ?_
    refine gGet X K (o := 0) (k := 5) (v := .int (f32 2)) (by decide) kM_o0 rfl inM_o0 (by decide) (tm3 (i := 108) rfl rfl) rfl dM_incident_45 ?_
    refine lv_iload_n hx hb dM_incident_48 rfl (lv_at hl 1 rfl) ?_
    obtain ⟨hi, hw⟩ := hw
    refine gist X K (o := 4) (t0 := 0) (by decide) kM_c4 rfl hi dM_incident_49 kM_p4 (fun H locs K => ?_)
    refine lv_aload_n hx hb dM_incident_50 rfl (lv_at hl 0 rfl) ?_
    refine lv_dup hx hb dM_incident_51 rfl ?_
    refine gGet X K (o := 0) (k := 5) (v := .int (f32 2)) (by decide) kM_o0 rfl inM_o0 (by decide) (tm3 (i := 108) rfl rfl) rfl dM_incident_52 ?_
    refine lv_iconst (v := (1 : Int32)) hx hb dM_incident_55 (by decide) ?_
    refine lv_iadd hx hb dM_incident_56 ?_
    refine gPut X K (o := 0) (k := 5) (v := .int ((f32 2) + (1 : Int32))) (ty := .int) tM_o0 tM_o0_ok nM_o0 (by decide) kM_o0 rfl inM_o0 (by decide) (tm3 (i := 108) rfl rfl) rfl rfl rfl rfl (by simp [flM_o0]) dM_incident_57 kM_u0_5 (fun H locs K => ?_)
    refine lv_aload_n hx hb dM_incident_60 rfl (lv_at hl 0 rfl) ?_
    refine gGet X K (o := 0) (k := 5) (v := .int ((va_up f32 2 ((f32 2) + (1 : Int32))) 2)) (by decide) kM_o0 rfl inM_o0 (by decide) (tm3 (i := 108) rfl rfl) rfl dM_incident_61 ?_
    refine lv_iconst (v := (1 : Int32)) hx hb dM_incident_64 (by decide) ?_
    refine lv_isub hx hb dM_incident_65 ?_
    exact endI X K hr rfl hw (by decide) (by decide) dM_incident_66
  · replace hw := hw.2 hc
    refine lv_iconst (v := (0 : Int32)) hx hb dM_incident_38 (by decide) ?_
    exact endI X K hr rfl hw (by decide) (by decide) dM_incident_39
set_option maxHeartbeats 4000000 in
set_option maxRecDepth 100000 in
theorem LM_incident_16 {p : Program} {l : Launch} {e : Env} {s : State} {m : MethodId} {below : List Frame} {meth : Method} {c : Code} {D : va_G} {sa : Nat → Nat} {ad : Nat → Nat} {ca : Nat → ClassId} {A : Nat → Prop} {y1 : Int32} {po : Int32 → wF → wA → wB → Prop} (X : cx Wl (tyS ca) txS D vwCl sa A p l s m ([.ref (ad 0), .int y1] : List Value).toArray meth c cM_incident 2 "SendBestModel") (hex : ∀ x ∈ c.exceptionTable.toList, False) (hr : meth.sig.returnType = (some .int)) : ∀ (k0 : Int32) (x1 : Int32) (f : wF) (a : wA) (b : wB), wp_M_incident_16 po k0 x1 f a b → ∀ (H : Heap) (locs : List Loc), wd nM kM D vwCl ad ca A s H locs f a b → ∀ (ls : Array Slot), lv_has ls 2 [(0, .ref (ad 0)), (1, .int x1)] → W p l e ({ frames := 1, cells := 0, slots := 0, locals := 24 }) s m ([.ref (ad 0), .int y1] : List Value).toArray below meth c H locs 0 0 (vx_MQ below (va_Qi (fun r (u : wF × wA × wB) => po r u.1 u.2.1 u.2.2) (sPost nM kM D vwCl ad ca A) A) (sX nM kM D vwCl ad ca A (fun _ _ _ _ => False)) ([.ref (ad 0), .int y1] : List Value).toArray s 0 0 A) (F0 m 16 ls [.int k0, .ref (ad 0)]) := by
  obtain ⟨hx, hb, hml, hown, hts, hK, hA, hth, hlk, hl9⟩ := id X
  intro k0 x1 f a b hw H locs K ls hl
  dsimp only [wp_M_incident_16] at hw
  refine lv_aload_n hx hb dM_incident_16 rfl (lv_at hl 0 rfl) ?_
  refine gGet X K (o := 0) (k := 5) (v := .int (f 2)) (by decide) kM_o0 rfl inM_o0 (by decide) (tm3 (i := 108) rfl rfl) rfl dM_incident_17 ?_
  refine lv_bipush (v := (6 : Int32)) hx hb dM_incident_20 (by decide) ?_
  refine lv_icmp_ne (tgt := 29) hx hb dM_incident_22 (by decide) (fun hc => ?_) (fun hc => ?_)
  · replace hw := hw.1 hc
    refine lv_iconst (v := (0 : Int32)) hx hb dM_incident_29 (by decide) ?_
    exact LM_incident_30 X hex hr (0 : Int32) k0 x1 f a b hw _ _ K _ (lv_sub hl [0, 1] rfl)
  · replace hw := hw.2 hc
    refine lv_iconst (v := (1 : Int32)) hx hb dM_incident_25 (by decide) ?_
    refine lv_goto (tgt := 30) hx hb dM_incident_26 (by decide) ?_
    exact LM_incident_30 X hex hr (1 : Int32) k0 x1 f a b hw _ _ K _ (lv_sub hl [0, 1] rfl)
set_option maxHeartbeats 4000000 in
set_option maxRecDepth 100000 in
theorem met_M_incident {l : Launch} (hl9 : l.stackTraces = false) (D : va_G) (ad : Nat → Nat) (ca : Nat → ClassId) (sa : Nat → Nat) (sz : Nat) (x1 : Int32) (f : wF) (a : wA) (b : wB) (po : Int32 → wF → wA → wB → Prop) (hw : wp_M_incident po x1 f a b) : mI nM kM (tyS ca) txS D vwCl l yM_incident (Cond.code yM_incident cM_incident 2 (some .int) :: Wl) ({ frames := 1, cells := 0, slots := 0, locals := 24 }) [.ref (ad 0), .int x1] ad ca sa sz f a b po (fun _ _ _ _ => False) 0 0 := by
  refine ofI (by decide) hl9 (Nat.le_of_ble_eq_true rfl) ?_
  intro p e s m below meth c ls X hex hr K hl
  obtain ⟨hx, hb, hml, hown, hts, hK, hA, hth, hlk, hl9⟩ := id X
  have hl : lv_has ls 2 [(0, .ref (ad 0)), (1, .int x1)] := hl
  dsimp only [wp_M_incident] at hw
  refine lv_aload_n hx hb dM_incident_0 rfl (lv_at hl 0 rfl) ?_
  refine lv_iload_n hx hb dM_incident_1 rfl (lv_at hl 1 rfl) ?_
  refine lv_iconst (v := (1 : Int32)) hx hb dM_incident_2 (by decide) ?_
  refine lv_bipush (v := (9 : Int32)) hx hb dM_incident_3 (by decide) ?_
  refine gcSI X K (n0 := 3) (As := [.int x1, .int (1 : Int32), .int (9 : Int32)]) (rest := [.ref (ad 0)]) (hM := (met_M_in hl9 D ad ca sa _ x1 (1 : Int32) (9 : Int32) f a b _ hw)) (hg := wl_good) (w1 := (tm3 (i := 170) rfl rfl)) (w2 := (tm3 (i := 171) rfl rfl)) (w4 := (tm1 (i := 4) rfl rfl)) (w5 := (tm3 (i := 172) rfl rfl)) (hd := ⟨by decide, by decide, by decide +kernel⟩) (hrc := rfl) (hrs := rfl) (hR := ⟨Nat.le_of_ble_eq_true rfl, Nat.le_of_ble_eq_true rfl⟩) (hn := rfl) (hsz := hl.1) (hst := rfl) (hW := Nat.le_of_ble_eq_true rfl) (hdg := dM_incident_5) (hf := ⟨Nat.le_of_ble_eq_true rfl, Nat.le_of_ble_eq_true rfl⟩) (fun _ _ _ _ _ _ _ _ hw => hw.elim) (fun r5 f5 a5 b5 H locs hw K => ?_)
  refine lv_if_ne (tgt := 15) hx hb dM_incident_8 (by decide) (fun hc => ?_) (fun hc => ?_)
  · replace hw := hw.1 hc
    refine lv_iconst (v := (0 : Int32)) hx hb dM_incident_15 (by decide) ?_
    exact LM_incident_16 X hex hr (0 : Int32) x1 f5 a5 b5 hw _ _ K _ (lv_sub hl [0, 1] rfl)
  · replace hw := hw.2 hc
    refine lv_iconst (v := (1 : Int32)) hx hb dM_incident_11 (by decide) ?_
    refine lv_goto (tgt := 16) hx hb dM_incident_12 (by decide) ?_
    exact LM_incident_16 X hex hr (1 : Int32) x1 f5 a5 b5 hw _ _ K _ (lv_sub hl [0, 1] rfl)
set_option maxHeartbeats 4000000 in
set_option maxRecDepth 100000 in
theorem LM_rank_49 {p : Program} {l : Launch} {e : Env} {s : State} {m : MethodId} {below : List Frame} {meth : Method} {c : Code} {D : va_G} {sa : Nat → Nat} {ad : Nat → Nat} {ca : Nat → ClassId} {A : Nat → Prop} {y1 : Int32} {y2 : Int32} {po : wF → wA → wB → Prop} (X : cx Wl (tyS ca) txS D vwCl sa A p l s m ([.ref (ad 0), .int y1, .int y2] : List Value).toArray meth c cM_rank 4 "SendBestModel") (hex : ∀ x ∈ c.exceptionTable.toList, False) (hr : meth.sig.returnType = none) : ∀ (k0 : Int32) (k1 : Int32) (k2 : Int32) (x1 : Int32) (x2 : Int32) (f : wF) (a : wA) (b : wB), wp_M_rank_49 po k0 k1 k2 x1 x2 f a b → ∀ (H : Heap) (locs : List Loc), wd nM kM D vwCl ad ca A s H locs f a b → ∀ (ls : Array Slot), lv_has ls 4 [(0, .ref (ad 0)), (1, .int x1), (2, .int x2)] → W p l e ({ frames := 2, cells := 0, slots := 0, locals := 43 }) s m ([.ref (ad 0), .int y1, .int y2] : List Value).toArray below meth c H locs 0 0 (vx_MQ below (va_Qv (fun (u : wF × wA × wB) => po u.1 u.2.1 u.2.2) (sPost nM kM D vwCl ad ca A) A) (sX nM kM D vwCl ad ca A (fun _ _ _ _ => False)) ([.ref (ad 0), .int y1, .int y2] : List Value).toArray s 0 0 A) (F0 m 49 ls [.int k0, .int k1, .int k2, .ref (ad 0)]) := by
  obtain ⟨hx, hb, hml, hown, hts, hK, hA, hth, hlk, hl9⟩ := id X
  intro k0 k1 k2 x1 x2 f a b hw H locs K ls hl
  dsimp only [wp_M_rank_49] at hw
  refine lv_iconst (v := (0 : Int32)) hx hb dM_rank_49 (by decide) ?_
  refine gcI X K (n0 := 4) (As := [.int k2, .int k1, .int k0, .int (0 : Int32)]) (rest := []) (hM := (met_M_throwing hl9 D ad ca sa _ k2 k1 k0 (0 : Int32) f a b _ hw)) (o := 0) (ho := by decide) (hko := kM_o0) (hci := rfl) (hg := wl_good) (w1 := (tm3 (i := 173) rfl rfl)) (w2 := (tm3 (i := 175) rfl rfl)) (w3 := (tm0 (i := 30) rfl rfl)) (w4 := (tm1 (i := 4) rfl rfl)) (w5 := (tm3 (i := 176) rfl rfl)) (hd := ⟨rfl, by decide, by decide, by decide +kernel⟩) (hrc := rfl) (hrs := rfl) (hR := ⟨Nat.le_of_ble_eq_true rfl, Nat.le_of_ble_eq_true rfl⟩) (hn := rfl) (hsz := hl.1) (hst := rfl) (hW := Nat.le_of_ble_eq_true rfl) (hdg := dM_rank_50) (hf := ⟨Nat.le_of_ble_eq_true rfl, Nat.le_of_ble_eq_true rfl⟩) (fun _ _ _ _ _ _ _ _ hw => hw.elim) (fun r50 f50 a50 b50 H locs hw K => ?_)
  refine lv_if_eq (tgt := 57) hx hb dM_rank_53 (by decide) (fun hc => ?_) (fun hc => ?_)
  · replace hw := hw.1 hc
    refine lv_aload_n hx hb dM_rank_57 rfl (lv_at hl 0 rfl) ?_
    refine gGet X K (o := 0) (k := 6) (v := .ref (ad 4)) (by decide) kM_o0 rfl inM_o0 (by decide) (tm3 (i := 109) rfl rfl) rfl dM_rank_58 ?_
    refine lv_iload_n hx hb dM_rank_61 rfl (lv_at hl 1 rfl) ?_
    refine lv_iload_n hx hb dM_rank_62 rfl (lv_at hl 2 rfl) ?_
    obtain ⟨hi, hw⟩ := hw
    refine gist X K (o := 4) (t0 := 0) (by decide) kM_c4 rfl hi dM_rank_63 kM_p4 (fun H locs K => ?_)
    exact endV X K hr hw (by decide) (by decide) dM_rank_64
  · replace hw := hw.2 hc
    exact endV X K hr hw (by decide) (by decide) dM_rank_56
set_option maxHeartbeats 4000000 in
set_option maxRecDepth 100000 in
theorem LM_rank_48 {p : Program} {l : Launch} {e : Env} {s : State} {m : MethodId} {below : List Frame} {meth : Method} {c : Code} {D : va_G} {sa : Nat → Nat} {ad : Nat → Nat} {ca : Nat → ClassId} {A : Nat → Prop} {y1 : Int32} {y2 : Int32} {po : wF → wA → wB → Prop} (X : cx Wl (tyS ca) txS D vwCl sa A p l s m ([.ref (ad 0), .int y1, .int y2] : List Value).toArray meth c cM_rank 4 "SendBestModel") (hex : ∀ x ∈ c.exceptionTable.toList, False) (hr : meth.sig.returnType = none) : ∀ (k0 : Int32) (k1 : Int32) (x1 : Int32) (x2 : Int32) (f : wF) (a : wA) (b : wB), wp_M_rank_48 po k0 k1 x1 x2 f a b → ∀ (H : Heap) (locs : List Loc), wd nM kM D vwCl ad ca A s H locs f a b → ∀ (ls : Array Slot), lv_has ls 4 [(0, .ref (ad 0)), (1, .int x1), (2, .int x2)] → W p l e ({ frames := 2, cells := 0, slots := 0, locals := 43 }) s m ([.ref (ad 0), .int y1, .int y2] : List Value).toArray below meth c H locs 0 0 (vx_MQ below (va_Qv (fun (u : wF × wA × wB) => po u.1 u.2.1 u.2.2) (sPost nM kM D vwCl ad ca A) A) (sX nM kM D vwCl ad ca A (fun _ _ _ _ => False)) ([.ref (ad 0), .int y1, .int y2] : List Value).toArray s 0 0 A) (F0 m 48 ls [.int k0, .int k1, .ref (ad 0)]) := by
  obtain ⟨hx, hb, hml, hown, hts, hK, hA, hth, hlk, hl9⟩ := id X
  intro k0 k1 x1 x2 f a b hw H locs K ls hl
  dsimp only [wp_M_rank_48] at hw
  refine lv_iconst (v := (0 : Int32)) hx hb dM_rank_48 (by decide) ?_
  exact LM_rank_49 X hex hr (0 : Int32) k0 k1 x1 x2 f a b hw _ _ K _ (lv_sub hl [0, 1, 2] rfl)
set_option maxHeartbeats 4000000 in
set_option maxRecDepth 100000 in
theorem LM_rank_31 {p : Program} {l : Launch} {e : Env} {s : State} {m : MethodId} {below : List Frame} {meth : Method} {c : Code} {D : va_G} {sa : Nat → Nat} {ad : Nat → Nat} {ca : Nat → ClassId} {A : Nat → Prop} {y1 : Int32} {y2 : Int32} {po : wF → wA → wB → Prop} (X : cx Wl (tyS ca) txS D vwCl sa A p l s m ([.ref (ad 0), .int y1, .int y2] : List Value).toArray meth c cM_rank 4 "SendBestModel") (hex : ∀ x ∈ c.exceptionTable.toList, False) (hr : meth.sig.returnType = none) : ∀ (k0 : Int32) (k1 : Int32) (x1 : Int32) (x2 : Int32) (x3 : Int32) (f : wF) (a : wA) (b : wB), wp_M_rank_31 po k0 k1 x1 x2 x3 f a b → ∀ (H : Heap) (locs : List Loc), wd nM kM D vwCl ad ca A s H locs f a b → ∀ (ls : Array Slot), lv_has ls 4 [(0, .ref (ad 0)), (1, .int x1), (2, .int x2), (3, .int x3)] → W p l e ({ frames := 2, cells := 0, slots := 0, locals := 43 }) s m ([.ref (ad 0), .int y1, .int y2] : List Value).toArray below meth c H locs 0 0 (vx_MQ below (va_Qv (fun (u : wF × wA × wB) => po u.1 u.2.1 u.2.2) (sPost nM kM D vwCl ad ca A) A) (sX nM kM D vwCl ad ca A (fun _ _ _ _ => False)) ([.ref (ad 0), .int y1, .int y2] : List Value).toArray s 0 0 A) (F0 m 31 ls [.int k0, .int k1, .ref (ad 0)]) := by
  obtain ⟨hx, hb, hml, hown, hts, hK, hA, hth, hlk, hl9⟩ := id X
  intro k0 k1 x1 x2 x3 f a b hw H locs K ls hl
  dsimp only [wp_M_rank_31] at hw
  refine lv_iload_n hx hb dM_rank_31 rfl (lv_at hl 3 rfl) ?_
  refine lv_if_ne (tgt := 48) hx hb dM_rank_32 (by decide) (fun hc => ?_) (fun hc => ?_)
  · replace hw := hw.1 hc
    exact LM_rank_48 X hex hr k0 k1 x1 x2 f a b hw _ _ K _ (lv_sub hl [0, 1, 2] rfl)
  · replace hw := hw.2 hc
    refine lv_aload_n hx hb dM_rank_35 rfl (lv_at hl 0 rfl) ?_
    refine gGet X K (o := 0) (k := 7) (v := .ref (ad 5)) (by decide) kM_o0 rfl inM_o0 (by decide) (tm3 (i := 110) rfl rfl) rfl dM_rank_36 ?_
    refine lv_iload_n hx hb dM_rank_39 rfl (lv_at hl 1 rfl) ?_
    obtain ⟨hi, hw⟩ := hw
    refine gzld X K (o := 5) (t0 := 1) (by decide) kM_c5 rfl hi dM_rank_40 ?_
    refine lv_if_eq (tgt := 48) hx hb dM_rank_41 (by decide) (fun hc => ?_) (fun hc => ?_)
    · replace hw := hw.1 hc
      exact LM_rank_48 X hex hr k0 k1 x1 x2 f a b hw _ _ K _ (lv_sub hl [0, 1, 2] rfl)
    · replace hw := hw.2 hc
      refine lv_iconst (v := (1 : Int32)) hx hb dM_rank_44 (by decide) ?_
      refine lv_goto (tgt := 49) hx hb dM_rank_45 (by decide) ?_
      exact LM_rank_49 X hex hr (1 : Int32) k0 k1 x1 x2 f a b hw _ _ K _ (lv_sub hl [0, 1, 2] rfl)
set_option maxHeartbeats 4000000 in
set_option maxRecDepth 100000 in
theorem LM_rank_13 {p : Program} {l : Launch} {e : Env} {s : State} {m : MethodId} {below : List Frame} {meth : Method} {c : Code} {D : va_G} {sa : Nat → Nat} {ad : Nat → Nat} {ca : Nat → ClassId} {A : Nat → Prop} {y1 : Int32} {y2 : Int32} {po : wF → wA → wB → Prop} (X : cx Wl (tyS ca) txS D vwCl sa A p l s m ([.ref (ad 0), .int y1, .int y2] : List Value).toArray meth c cM_rank 4 "SendBestModel") (hex : ∀ x ∈ c.exceptionTable.toList, False) (hr : meth.sig.returnType = none) : ∀ (k0 : Int32) (x1 : Int32) (x2 : Int32) (f : wF) (a : wA) (b : wB), wp_M_rank_13 po k0 x1 x2 f a b → ∀ (H : Heap) (locs : List Loc), wd nM kM D vwCl ad ca A s H locs f a b → ∀ (ls : Array Slot), lv_has ls 4 [(0, .ref (ad 0)), (1, .int x1), (2, .int x2)] → W p l e ({ frames := 2, cells := 0, slots := 0, locals := 43 }) s m ([.ref (ad 0), .int y1, .int y2] : List Value).toArray below meth c H locs 0 0 (vx_MQ below (va_Qv (fun (u : wF × wA × wB) => po u.1 u.2.1 u.2.2) (sPost nM kM D vwCl ad ca A) A) (sX nM kM D vwCl ad ca A (fun _ _ _ _ => False)) ([.ref (ad 0), .int y1, .int y2] : List Value).toArray s 0 0 A) (F0 m 13 ls [.int k0]) := by
  obtain ⟨hx, hb, hml, hown, hts, hK, hA, hth, hlk, hl9⟩ := id X
  intro k0 x1 x2 f a b hw H locs K ls hl
  dsimp only [wp_M_rank_13] at hw
  refine lv_istore_n (lv' := [(3, .int k0), (0, .ref (ad 0)), (1, .int x1), (2, .int x2)]) hx hb dM_rank_13 rfl hl (by decide) rfl (fun ls hl => ?_)
  refine lv_aload_n hx hb dM_rank_14 rfl (lv_at hl 1 rfl) ?_
  refine lv_iload_n hx hb dM_rank_15 rfl (lv_at hl 0 rfl) ?_
  refine lv_iload_n hx hb dM_rank_16 rfl (lv_at hl 3 rfl) ?_
  refine lv_iconst (v := (1 : Int32)) hx hb dM_rank_17 (by decide) ?_
  refine lv_bipush (v := (9 : Int32)) hx hb dM_rank_18 (by decide) ?_
  refine gcSI X K (n0 := 3) (As := [.int x2, .int (1 : Int32), .int (9 : Int32)]) (rest := [.int k0, .ref (ad 0)]) (hM := (met_M_in hl9 D ad ca sa _ x2 (1 : Int32) (9 : Int32) f a b _ hw)) (hg := wl_good) (w1 := (tm3 (i := 170) rfl rfl)) (w2 := (tm3 (i := 171) rfl rfl)) (w4 := (tm1 (i := 4) rfl rfl)) (w5 := (tm3 (i := 172) rfl rfl)) (hd := ⟨by decide, by decide, by decide +kernel⟩) (hrc := rfl) (hrs := rfl) (hR := ⟨Nat.le_of_ble_eq_true rfl, Nat.le_of_ble_eq_true rfl⟩) (hn := rfl) (hsz := hl.1) (hst := rfl) (hW := Nat.le_of_ble_eq_true rfl) (hdg := dM_rank_20) (hf := ⟨Nat.le_of_ble_eq_true rfl, Nat.le_of_ble_eq_true rfl⟩) (fun _ _ _ _ _ _ _ _ hw => hw.elim) (fun r20 f20 a20 b20 H locs hw K => ?_)
  refine lv_if_ne (tgt := 30) hx hb dM_rank_23 (by decide) (fun hc => ?_) (fun hc => ?_)
  · replace hw := hw.1 hc
    refine lv_iconst (v := (0 : Int32)) hx hb dM_rank_30 (by decide) ?_
    exact LM_rank_31 X hex hr (0 : Int32) k0 x1 x2 k0 f20 a20 b20 hw _ _ K _ (lv_sub hl [1, 2, 3, 0] rfl)
  · replace hw := hw.2 hc
    refine lv_iconst (v := (1 : Int32)) hx hb dM_rank_26 (by decide) ?_
    refine lv_goto (tgt := 31) hx hb dM_rank_27 (by decide) ?_
    exact LM_rank_31 X hex hr (1 : Int32) k0 x1 x2 k0 f20 a20 b20 hw _ _ K _ (lv_sub hl [1, 2, 3, 0] rfl)
set_option maxHeartbeats 4000000 in
set_option maxRecDepth 100000 in
theorem met_M_rank {l : Launch} (hl9 : l.stackTraces = false) (D : va_G) (ad : Nat → Nat) (ca : Nat → ClassId) (sa : Nat → Nat) (sz : Nat) (x1 : Int32) (x2 : Int32) (f : wF) (a : wA) (b : wB) (po : wF → wA → wB → Prop) (hw : wp_M_rank po x1 x2 f a b) : mV nM kM (tyS ca) txS D vwCl l yM_rank (Cond.code yM_rank cM_rank 4 none :: Wl) ({ frames := 2, cells := 0, slots := 0, locals := 43 }) [.ref (ad 0), .int x1, .int x2] ad ca sa sz f a b po (fun _ _ _ _ => False) 0 0 := by
  refine ofV (by decide) hl9 (Nat.le_of_ble_eq_true rfl) ?_
  intro p e s m below meth c ls X hex hr K hl
  obtain ⟨hx, hb, hml, hown, hts, hK, hA, hth, hlk, hl9⟩ := id X
  have hl : lv_has ls 4 [(0, .ref (ad 0)), (1, .int x1), (2, .int x2)] := hl
  dsimp only [wp_M_rank] at hw
  refine lv_aload_n hx hb dM_rank_0 rfl (lv_at hl 0 rfl) ?_
  refine lv_iload_n hx hb dM_rank_1 rfl (lv_at hl 1 rfl) ?_
  refine gcI X K (n0 := 1) (As := [.int x1]) (rest := []) (hM := (met_M_isIncident hl9 D ad ca sa _ x1 f a b _ hw)) (o := 0) (ho := by decide) (hko := kM_o0) (hci := rfl) (hg := wl_good) (w1 := (tm3 (i := 185) rfl rfl)) (w2 := (tm3 (i := 187) rfl rfl)) (w3 := (tm0 (i := 31) rfl rfl)) (w4 := (tm1 (i := 4) rfl rfl)) (w5 := (tm3 (i := 188) rfl rfl)) (hd := ⟨rfl, by decide, by decide, by decide +kernel⟩) (hrc := rfl) (hrs := rfl) (hR := ⟨Nat.le_of_ble_eq_true rfl, Nat.le_of_ble_eq_true rfl⟩) (hn := rfl) (hsz := hl.1) (hst := rfl) (hW := Nat.le_of_ble_eq_true rfl) (hdg := dM_rank_2) (hf := ⟨Nat.le_of_ble_eq_true rfl, Nat.le_of_ble_eq_true rfl⟩) (fun _ _ _ _ _ _ _ _ hw => hw.elim) (fun r2 f2 a2 b2 H locs hw K => ?_)
  refine lv_if_ne (tgt := 12) hx hb dM_rank_5 (by decide) (fun hc => ?_) (fun hc => ?_)
  · replace hw := hw.1 hc
    refine lv_iconst (v := (0 : Int32)) hx hb dM_rank_12 (by decide) ?_
    exact LM_rank_13 X hex hr (0 : Int32) x1 x2 f2 a2 b2 hw _ _ K _ (lv_sub hl [0, 1, 2] rfl)
  · replace hw := hw.2 hc
    refine lv_iconst (v := (1 : Int32)) hx hb dM_rank_8 (by decide) ?_
    refine lv_goto (tgt := 13) hx hb dM_rank_9 (by decide) ?_
    exact LM_rank_13 X hex hr (1 : Int32) x1 x2 f2 a2 b2 hw _ _ K _ (lv_sub hl [0, 1, 2] rfl)
set_option maxHeartbeats 4000000 in
set_option maxRecDepth 100000 in
theorem LM_need_98 {p : Program} {l : Launch} {e : Env} {s : State} {m : MethodId} {below : List Frame} {meth : Method} {c : Code} {D : va_G} {sa : Nat → Nat} {ad : Nat → Nat} {ca : Nat → ClassId} {A : Nat → Prop} {y1 : Int32} {y2 : Int32} {y3 : Int32} {po : Int32 → wF → wA → wB → Prop} (X : cx Wl (tyS ca) txS D vwCl sa A p l s m ([.ref (ad 0), .int y1, .int y2, .int y3] : List Value).toArray meth c cM_need 7 "SendBestModel") (hex : ∀ x ∈ c.exceptionTable.toList, False) (hr : meth.sig.returnType = (some .int)) : ∀ n : Nat, ∀ (x1 : Int32) (x2 : Int32) (x3 : Int32) (x6 : Int32) (f : wF) (a : wA) (b : wB), wp_M_need_98 po n x1 x2 x3 x6 f a b → ∀ (H : Heap) (locs : List Loc), wd nM kM D vwCl ad ca A s H locs f a b → ∀ (ls : Array Slot), lv_has ls 7 [(0, .ref (ad 0)), (1, .int x1), (2, .int x2), (3, .int x3), (6, .int x6)] → W p l e ({ frames := 2, cells := 0, slots := 0, locals := 43 }) s m ([.ref (ad 0), .int y1, .int y2, .int y3] : List Value).toArray below meth c H locs 0 0 (vx_MQ below (va_Qi (fun r (u : wF × wA × wB) => po r u.1 u.2.1 u.2.2) (sPost nM kM D vwCl ad ca A) A) (sX nM kM D vwCl ad ca A (fun _ _ _ _ => False)) ([.ref (ad 0), .int y1, .int y2, .int y3] : List Value).toArray s 0 0 A) (F0 m 98 ls []) := by
  obtain ⟨hx, hb, hml, hown, hts, hK, hA, hth, hlk, hl9⟩ := id X
  intro n
  induction n with
  | zero => intro x1 x2 x3 x6 f a b hw; exact hw.elim
  | succ n ih =>
    intro x1 x2 x3 x6 f a b hw H locs K ls hl
    dsimp only [wp_M_need_98] at hw
    refine lv_iload hx hb dM_need_98 (lv_at hl 4 rfl) ?_
    refine lv_iload_n hx hb dM_need_100 rfl (lv_at hl 3 rfl) ?_
    refine lv_icmp_ge (tgt := 160) hx hb dM_need_101 (by decide) (fun hc => ?_) (fun hc => ?_)
    · replace hw := hw.1 hc
      refine lv_aload_n hx hb dM_need_160 rfl (lv_at hl 0 rfl) ?_
      refine gGet X K (o := 0) (k := 8) (v := .int (f 3)) (by decide) kM_o0 rfl inM_o0 (by decide) (tm3 (i := 111) rfl rfl) rfl dM_need_161 ?_
      exact endI X K hr rfl hw (by decide) (by decide) dM_need_164
    · replace hw := hw.2 hc
      refine lv_aload_n hx hb dM_need_104 rfl (lv_at hl 0 rfl) ?_
      refine gGet X K (o := 0) (k := 9) (v := .ref (ad 6)) (by decide) kM_o0 rfl inM_o0 (by decide) (tm3 (i := 112) rfl rfl) rfl dM_need_105 ?_
      refine lv_aload_n hx hb dM_need_108 rfl (lv_at hl 0 rfl) ?_
      refine gGet X K (o := 0) (k := 8) (v := .int (f 3)) (by decide) kM_o0 rfl inM_o0 (by decide) (tm3 (i := 111) rfl rfl) rfl dM_need_109 ?_
      refine lv_iload_n hx hb dM_need_112 rfl (lv_at hl 1 rfl) ?_
      obtain ⟨hi, hw⟩ := hw
      refine gist X K (o := 6) (t0 := 0) (by decide) kM_c6 rfl hi dM_need_113 kM_p6 (fun H locs K => ?_)
      refine lv_aload_n hx hb dM_need_114 rfl (lv_at hl 0 rfl) ?_
      refine gGet X K (o := 0) (k := 10) (v := .ref (ad 7)) (by decide) kM_o0 rfl inM_o0 (by decide) (tm3 (i := 113) rfl rfl) rfl dM_need_115 ?_
      refine lv_aload_n hx hb dM_need_118 rfl (lv_at hl 0 rfl) ?_
      refine gGet X K (o := 0) (k := 8) (v := .int (f 3)) (by decide) kM_o0 rfl inM_o0 (by decide) (tm3 (i := 111) rfl rfl) rfl dM_need_119 ?_
      refine lv_iload_n hx hb dM_need_122 rfl (lv_at hl 2 rfl) ?_
      obtain ⟨hi, hw⟩ := hw
      refine gist X K (o := 7) (t0 := 0) (by decide) kM_c7 rfl hi dM_need_123 kM_p7 (fun H locs K => ?_)
      refine lv_aload_n hx hb dM_need_124 rfl (lv_at hl 0 rfl) ?_
      refine gGet X K (o := 0) (k := 11) (v := .ref (ad 8)) (by decide) kM_o0 rfl inM_o0 (by decide) (tm3 (i := 114) rfl rfl) rfl dM_need_125 ?_
      refine lv_aload_n hx hb dM_need_128 rfl (lv_at hl 0 rfl) ?_
      refine gGet X K (o := 0) (k := 8) (v := .int (f 3)) (by decide) kM_o0 rfl inM_o0 (by decide) (tm3 (i := 111) rfl rfl) rfl dM_need_129 ?_
      refine lv_iconst (v := (-1 : Int32)) hx hb dM_need_132 (by decide) ?_
      obtain ⟨hi, hw⟩ := hw
      refine gist X K (o := 8) (t0 := 0) (by decide) kM_c8 rfl hi dM_need_133 kM_p8 (fun H locs K => ?_)
      refine lv_aload_n hx hb dM_need_134 rfl (lv_at hl 0 rfl) ?_
      refine gGet X K (o := 0) (k := 12) (v := .ref (ad 9)) (by decide) kM_o0 rfl inM_o0 (by decide) (tm3 (i := 115) rfl rfl) rfl dM_need_135 ?_
      refine lv_aload_n hx hb dM_need_138 rfl (lv_at hl 0 rfl) ?_
      refine gGet X K (o := 0) (k := 8) (v := .int (f 3)) (by decide) kM_o0 rfl inM_o0 (by decide) (tm3 (i := 111) rfl rfl) rfl dM_need_139 ?_
      refine lv_iconst (v := (0 : Int32)) hx hb dM_need_142 (by decide) ?_
      obtain ⟨hi, hw⟩ := hw
      refine gzst X K (o := 9) (t0 := 1) (by decide) kM_c9 rfl hi dM_need_143 kM_p9 (fun H locs K => ?_)
      refine lv_aload_n hx hb dM_need_144 rfl (lv_at hl 0 rfl) ?_
      refine lv_dup hx hb dM_need_145 rfl ?_
      refine gGet X K (o := 0) (k := 8) (v := .int (f 3)) (by decide) kM_o0 rfl inM_o0 (by decide) (tm3 (i := 111) rfl rfl) rfl dM_need_146 ?_
      refine lv_iconst (v := (1 : Int32)) hx hb dM_need_149 (by decide) ?_
      refine lv_iadd hx hb dM_need_150 ?_
      refine gPut X K (o := 0) (k := 8) (v := .int ((f 3) + (1 : Int32))) (ty := .int) tM_o0 tM_o0_ok nM_o0 (by decide) kM_o0 rfl inM_o0 (by decide) (tm3 (i := 111) rfl rfl) rfl rfl rfl rfl (by simp [flM_o0]) dM_need_151 kM_u0_8 (fun H locs K => ?_)
      refine lv_iinc (v := (x6 + (1 : Int32))) (lv' := [(6, .int (x6 + (1 : Int32))), (0, .ref (ad 0)), (1, .int x1), (2, .int x2), (3, .int x3)]) hx hb dM_need_154 hl (k := 4) rfl rfl (by decide) rfl (fun ls hl => ?_)
      refine lv_goto (tgt := 98) hx hb dM_need_157 (by decide) ?_
      exact ih x1 x2 x3 (x6 + (1 : Int32)) (va_up f 3 ((f 3) + (1 : Int32))) (va_up (va_up (va_up (va_up a 6 (upd (a 6) (f 3).toNatClampNeg x1)) 7 (upd ((va_up a 6 (upd (a 6) (f 3).toNatClampNeg x1)) 7) (f 3).toNatClampNeg x2)) 8 (upd ((va_up (va_up a 6 (upd (a 6) (f 3).toNatClampNeg x1)) 7 (upd ((va_up a 6 (upd (a 6) (f 3).toNatClampNeg x1)) 7) (f 3).toNatClampNeg x2)) 8) (f 3).toNatClampNeg (-1 : Int32))) 9 (upd ((va_up (va_up (va_up a 6 (upd (a 6) (f 3).toNatClampNeg x1)) 7 (upd ((va_up a 6 (upd (a 6) (f 3).toNatClampNeg x1)) 7) (f 3).toNatClampNeg x2)) 8 (upd ((va_up (va_up a 6 (upd (a 6) (f 3).toNatClampNeg x1)) 7 (upd ((va_up a 6 (upd (a 6) (f 3).toNatClampNeg x1)) 7) (f 3).toNatClampNeg x2)) 8) (f 3).toNatClampNeg (-1 : Int32))) 9) (f 3).toNatClampNeg (vp_nar .boolean (0 : Int32)))) b hw _ _ K _ (lv_sub hl [1, 2, 3, 4, 0] rfl)
set_option maxHeartbeats 4000000 in
set_option maxRecDepth 100000 in
theorem LM_need_87 {p : Program} {l : Launch} {e : Env} {s : State} {m : MethodId} {below : List Frame} {meth : Method} {c : Code} {D : va_G} {sa : Nat → Nat} {ad : Nat → Nat} {ca : Nat → ClassId} {A : Nat → Prop} {y1 : Int32} {y2 : Int32} {y3 : Int32} {po : Int32 → wF → wA → wB → Prop} (X : cx Wl (tyS ca) txS D vwCl sa A p l s m ([.ref (ad 0), .int y1, .int y2, .int y3] : List Value).toArray meth c cM_need 7 "SendBestModel") (hex : ∀ x ∈ c.exceptionTable.toList, False) (hr : meth.sig.returnType = (some .int)) : ∀ (k0 : Int32) (k1 : Int32) (k2 : Int32) (k3 : Int32) (x1 : Int32) (x2 : Int32) (x3 : Int32) (f : wF) (a : wA) (b : wB), wp_M_need_87 po k0 k1 k2 k3 x1 x2 x3 f a b → ∀ (H : Heap) (locs : List Loc), wd nM kM D vwCl ad ca A s H locs f a b → ∀ (ls : Array Slot), lv_has ls 7 [(0, .ref (ad 0)), (1, .int x1), (2, .int x2), (3, .int x3)] → W p l e ({ frames := 2, cells := 0, slots := 0, locals := 43 }) s m ([.ref (ad 0), .int y1, .int y2, .int y3] : List Value).toArray below meth c H locs 0 0 (vx_MQ below (va_Qi (fun r (u : wF × wA × wB) => po r u.1 u.2.1 u.2.2) (sPost nM kM D vwCl ad ca A) A) (sX nM kM D vwCl ad ca A (fun _ _ _ _ => False)) ([.ref (ad 0), .int y1, .int y2, .int y3] : List Value).toArray s 0 0 A) (F0 m 87 ls [.int k0, .int k1, .int k2, .int k3, .ref (ad 0)]) := by
  obtain ⟨hx, hb, hml, hown, hts, hK, hA, hth, hlk, hl9⟩ := id X
  intro k0 k1 k2 k3 x1 x2 x3 f a b hw H locs K ls hl
  dsimp only [wp_M_need_87] at hw
  refine gcI X K (n0 := 4) (As := [.int k3, .int k2, .int k1, .int k0]) (rest := []) (hM := (met_M_throwing hl9 D ad ca sa _ k3 k2 k1 k0 f a b _ hw)) (o := 0) (ho := by decide) (hko := kM_o0) (hci := rfl) (hg := wl_good) (w1 := (tm3 (i := 173) rfl rfl)) (w2 := (tm3 (i := 175) rfl rfl)) (w3 := (tm0 (i := 30) rfl rfl)) (w4 := (tm1 (i := 4) rfl rfl)) (w5 := (tm3 (i := 176) rfl rfl)) (hd := ⟨rfl, by decide, by decide, by decide +kernel⟩) (hrc := rfl) (hrs := rfl) (hR := ⟨Nat.le_of_ble_eq_true rfl, Nat.le_of_ble_eq_true rfl⟩) (hn := rfl) (hsz := hl.1) (hst := rfl) (hW := Nat.le_of_ble_eq_true rfl) (hdg := dM_need_87) (hf := ⟨Nat.le_of_ble_eq_true rfl, Nat.le_of_ble_eq_true rfl⟩) (fun _ _ _ _ _ _ _ _ hw => hw.elim) (fun r87 f87 a87 b87 H locs hw K => ?_)
  refine lv_if_eq (tgt := 95) hx hb dM_need_90 (by decide) (fun hc => ?_) (fun hc => ?_)
  · replace hw := hw.1 hc
    refine lv_iconst (v := (0 : Int32)) hx hb dM_need_95 (by decide) ?_
    refine lv_istore (lv' := [(6, .int (0 : Int32)), (0, .ref (ad 0)), (1, .int x1), (2, .int x2), (3, .int x3)]) hx hb dM_need_96 hl (by decide) rfl (fun ls hl => ?_)
    obtain ⟨n9, hw⟩ := hw
    exact LM_need_98 X hex hr n9 x1 x2 x3 (0 : Int32) f87 a87 b87 hw _ _ K _ (lv_sub hl [1, 2, 3, 4, 0] rfl)
  · replace hw := hw.2 hc
    refine lv_iconst (v := (0 : Int32)) hx hb dM_need_93 (by decide) ?_
    exact endI X K hr rfl hw (by decide) (by decide) dM_need_94
set_option maxHeartbeats 4000000 in
set_option maxRecDepth 100000 in
theorem LM_need_86 {p : Program} {l : Launch} {e : Env} {s : State} {m : MethodId} {below : List Frame} {meth : Method} {c : Code} {D : va_G} {sa : Nat → Nat} {ad : Nat → Nat} {ca : Nat → ClassId} {A : Nat → Prop} {y1 : Int32} {y2 : Int32} {y3 : Int32} {po : Int32 → wF → wA → wB → Prop} (X : cx Wl (tyS ca) txS D vwCl sa A p l s m ([.ref (ad 0), .int y1, .int y2, .int y3] : List Value).toArray meth c cM_need 7 "SendBestModel") (hex : ∀ x ∈ c.exceptionTable.toList, False) (hr : meth.sig.returnType = (some .int)) : ∀ (k0 : Int32) (k1 : Int32) (k2 : Int32) (x1 : Int32) (x2 : Int32) (x3 : Int32) (f : wF) (a : wA) (b : wB), wp_M_need_86 po k0 k1 k2 x1 x2 x3 f a b → ∀ (H : Heap) (locs : List Loc), wd nM kM D vwCl ad ca A s H locs f a b → ∀ (ls : Array Slot), lv_has ls 7 [(0, .ref (ad 0)), (1, .int x1), (2, .int x2), (3, .int x3)] → W p l e ({ frames := 2, cells := 0, slots := 0, locals := 43 }) s m ([.ref (ad 0), .int y1, .int y2, .int y3] : List Value).toArray below meth c H locs 0 0 (vx_MQ below (va_Qi (fun r (u : wF × wA × wB) => po r u.1 u.2.1 u.2.2) (sPost nM kM D vwCl ad ca A) A) (sX nM kM D vwCl ad ca A (fun _ _ _ _ => False)) ([.ref (ad 0), .int y1, .int y2, .int y3] : List Value).toArray s 0 0 A) (F0 m 86 ls [.int k0, .int k1, .int k2, .ref (ad 0)]) := by
  obtain ⟨hx, hb, hml, hown, hts, hK, hA, hth, hlk, hl9⟩ := id X
  intro k0 k1 k2 x1 x2 x3 f a b hw H locs K ls hl
  dsimp only [wp_M_need_86] at hw
  refine lv_iconst (v := (0 : Int32)) hx hb dM_need_86 (by decide) ?_
  exact LM_need_87 X hex hr (0 : Int32) k0 k1 k2 x1 x2 x3 f a b hw _ _ K _ (lv_sub hl [0, 1, 2, 3] rfl)
set_option maxHeartbeats 4000000 in
set_option maxRecDepth 100000 in
theorem LM_need_66 {p : Program} {l : Launch} {e : Env} {s : State} {m : MethodId} {below : List Frame} {meth : Method} {c : Code} {D : va_G} {sa : Nat → Nat} {ad : Nat → Nat} {ca : Nat → ClassId} {A : Nat → Prop} {y1 : Int32} {y2 : Int32} {y3 : Int32} {po : Int32 → wF → wA → wB → Prop} (X : cx Wl (tyS ca) txS D vwCl sa A p l s m ([.ref (ad 0), .int y1, .int y2, .int y3] : List Value).toArray meth c cM_need 7 "SendBestModel") (hex : ∀ x ∈ c.exceptionTable.toList, False) (hr : meth.sig.returnType = (some .int)) : ∀ (k0 : Int32) (k1 : Int32) (k2 : Int32) (x1 : Int32) (x2 : Int32) (x3 : Int32) (x5 : Int32) (f : wF) (a : wA) (b : wB), wp_M_need_66 po k0 k1 k2 x1 x2 x3 x5 f a b → ∀ (H : Heap) (locs : List Loc), wd nM kM D vwCl ad ca A s H locs f a b → ∀ (ls : Array Slot), lv_has ls 7 [(0, .ref (ad 0)), (1, .int x1), (2, .int x2), (3, .int x3), (5, .int x5)] → W p l e ({ frames := 2, cells := 0, slots := 0, locals := 43 }) s m ([.ref (ad 0), .int y1, .int y2, .int y3] : List Value).toArray below meth c H locs 0 0 (vx_MQ below (va_Qi (fun r (u : wF × wA × wB) => po r u.1 u.2.1 u.2.2) (sPost nM kM D vwCl ad ca A) A) (sX nM kM D vwCl ad ca A (fun _ _ _ _ => False)) ([.ref (ad 0), .int y1, .int y2, .int y3] : List Value).toArray s 0 0 A) (F0 m 66 ls [.int k0, .int k1, .int k2, .ref (ad 0)]) := by
  obtain ⟨hx, hb, hml, hown, hts, hK, hA, hth, hlk, hl9⟩ := id X
  intro k0 k1 k2 x1 x2 x3 x5 f a b hw H locs K ls hl
  dsimp only [wp_M_need_66] at hw
  refine lv_iload hx hb dM_need_66 (lv_at hl 4 rfl) ?_
  refine lv_if_ne (tgt := 86) hx hb dM_need_68 (by decide) (fun hc => ?_) (fun hc => ?_)
  · replace hw := hw.1 hc
    exact LM_need_86 X hex hr k0 k1 k2 x1 x2 x3 f a b hw _ _ K _ (lv_sub hl [0, 1, 2, 3] rfl)
  · replace hw := hw.2 hc
    refine lv_aload_n hx hb dM_need_71 rfl (lv_at hl 0 rfl) ?_
    refine gGet X K (o := 0) (k := 8) (v := .int (f 3)) (by decide) kM_o0 rfl inM_o0 (by decide) (tm3 (i := 111) rfl rfl) rfl dM_need_72 ?_
    refine lv_iload_n hx hb dM_need_75 rfl (lv_at hl 3 rfl) ?_
    refine lv_iadd hx hb dM_need_76 ?_
    refine lv_bipush (v := (10 : Int32)) hx hb dM_need_77 (by decide) ?_
    refine lv_icmp_le (tgt := 86) hx hb dM_need_79 (by decide) (fun hc => ?_) (fun hc => ?_)
    · replace hw := hw.1 hc
      exact LM_need_86 X hex hr k0 k1 k2 x1 x2 x3 f a b hw _ _ K _ (lv_sub hl [0, 1, 2, 3] rfl)
    · replace hw := hw.2 hc
      refine lv_iconst (v := (1 : Int32)) hx hb dM_need_82 (by decide) ?_
      refine lv_goto (tgt := 87) hx hb dM_need_83 (by decide) ?_
      exact LM_need_87 X hex hr (1 : Int32) k0 k1 k2 x1 x2 x3 f a b hw _ _ K _ (lv_sub hl [0, 1, 2, 3] rfl)
set_option maxHeartbeats 4000000 in
set_option maxRecDepth 100000 in
theorem LM_need_65 {p : Program} {l : Launch} {e : Env} {s : State} {m : MethodId} {below : List Frame} {meth : Method} {c : Code} {D : va_G} {sa : Nat → Nat} {ad : Nat → Nat} {ca : Nat → ClassId} {A : Nat → Prop} {y1 : Int32} {y2 : Int32} {y3 : Int32} {po : Int32 → wF → wA → wB → Prop} (X : cx Wl (tyS ca) txS D vwCl sa A p l s m ([.ref (ad 0), .int y1, .int y2, .int y3] : List Value).toArray meth c cM_need 7 "SendBestModel") (hex : ∀ x ∈ c.exceptionTable.toList, False) (hr : meth.sig.returnType = (some .int)) : ∀ (k0 : Int32) (k1 : Int32) (x1 : Int32) (x2 : Int32) (x3 : Int32) (x5 : Int32) (f : wF) (a : wA) (b : wB), wp_M_need_65 po k0 k1 x1 x2 x3 x5 f a b → ∀ (H : Heap) (locs : List Loc), wd nM kM D vwCl ad ca A s H locs f a b → ∀ (ls : Array Slot), lv_has ls 7 [(0, .ref (ad 0)), (1, .int x1), (2, .int x2), (3, .int x3), (5, .int x5)] → W p l e ({ frames := 2, cells := 0, slots := 0, locals := 43 }) s m ([.ref (ad 0), .int y1, .int y2, .int y3] : List Value).toArray below meth c H locs 0 0 (vx_MQ below (va_Qi (fun r (u : wF × wA × wB) => po r u.1 u.2.1 u.2.2) (sPost nM kM D vwCl ad ca A) A) (sX nM kM D vwCl ad ca A (fun _ _ _ _ => False)) ([.ref (ad 0), .int y1, .int y2, .int y3] : List Value).toArray s 0 0 A) (F0 m 65 ls [.int k0, .int k1, .ref (ad 0)]) := by
  obtain ⟨hx, hb, hml, hown, hts, hK, hA, hth, hlk, hl9⟩ := id X
  intro k0 k1 x1 x2 x3 x5 f a b hw H locs K ls hl
  dsimp only [wp_M_need_65] at hw
  refine lv_iconst (v := (0 : Int32)) hx hb dM_need_65 (by decide) ?_
  exact LM_need_66 X hex hr (0 : Int32) k0 k1 x1 x2 x3 x5 f a b hw _ _ K _ (lv_sub hl [0, 1, 2, 3, 4] rfl)
set_option maxHeartbeats 4000000 in
set_option maxRecDepth 100000 in
theorem LM_need_40 {p : Program} {l : Launch} {e : Env} {s : State} {m : MethodId} {below : List Frame} {meth : Method} {c : Code} {D : va_G} {sa : Nat → Nat} {ad : Nat → Nat} {ca : Nat → ClassId} {A : Nat → Prop} {y1 : Int32} {y2 : Int32} {y3 : Int32} {po : Int32 → wF → wA → wB → Prop} (X : cx Wl (tyS ca) txS D vwCl sa A p l s m ([.ref (ad 0), .int y1, .int y2, .int y3] : List Value).toArray meth c cM_need 7 "SendBestModel") (hex : ∀ x ∈ c.exceptionTable.toList, False) (hr : meth.sig.returnType = (some .int)) : ∀ (k0 : Int32) (x1 : Int32) (x2 : Int32) (x3 : Int32) (x4 : Int32) (f : wF) (a : wA) (b : wB), wp_M_need_40 po k0 x1 x2 x3 x4 f a b → ∀ (H : Heap) (locs : List Loc), wd nM kM D vwCl ad ca A s H locs f a b → ∀ (ls : Array Slot), lv_has ls 7 [(0, .ref (ad 0)), (1, .int x1), (2, .int x2), (3, .int x3), (4, .int x4)] → W p l e ({ frames := 2, cells := 0, slots := 0, locals := 43 }) s m ([.ref (ad 0), .int y1, .int y2, .int y3] : List Value).toArray below meth c H locs 0 0 (vx_MQ below (va_Qi (fun r (u : wF × wA × wB) => po r u.1 u.2.1 u.2.2) (sPost nM kM D vwCl ad ca A) A) (sX nM kM D vwCl ad ca A (fun _ _ _ _ => False)) ([.ref (ad 0), .int y1, .int y2, .int y3] : List Value).toArray s 0 0 A) (F0 m 40 ls [.int k0]) := by
  obtain ⟨hx, hb, hml, hown, hts, hK, hA, hth, hlk, hl9⟩ := id X
  intro k0 x1 x2 x3 x4 f a b hw H locs K ls hl
  dsimp only [wp_M_need_40] at hw
  refine lv_istore (lv' := [(5, .int k0), (0, .ref (ad 0)), (1, .int x1), (2, .int x2), (3, .int x3), (4, .int x4)]) hx hb dM_need_40 hl (by decide) rfl (fun ls hl => ?_)
  refine lv_aload_n hx hb dM_need_42 rfl (lv_at hl 1 rfl) ?_
  refine lv_iload hx hb dM_need_43 (lv_at hl 5 rfl) ?_
  refine lv_iload hx hb dM_need_45 (lv_at hl 0 rfl) ?_
  refine lv_iload hx hb dM_need_47 (lv_at hl 5 rfl) ?_
  refine lv_if_ne (tgt := 65) hx hb dM_need_49 (by decide) (fun hc => ?_) (fun hc => ?_)
  · replace hw := hw.1 hc
    exact LM_need_65 X hex hr k0 x4 x1 x2 x3 k0 f a b hw _ _ K _ (lv_sub hl [1, 2, 3, 4, 0] rfl)
  · replace hw := hw.2 hc
    refine lv_aload_n hx hb dM_need_52 rfl (lv_at hl 1 rfl) ?_
    refine gGet X K (o := 0) (k := 7) (v := .ref (ad 5)) (by decide) kM_o0 rfl inM_o0 (by decide) (tm3 (i := 110) rfl rfl) rfl dM_need_53 ?_
    refine lv_iload_n hx hb dM_need_56 rfl (lv_at hl 2 rfl) ?_
    obtain ⟨hi, hw⟩ := hw
    refine gzld X K (o := 5) (t0 := 1) (by decide) kM_c5 rfl hi dM_need_57 ?_
    refine lv_if_eq (tgt := 65) hx hb dM_need_58 (by decide) (fun hc => ?_) (fun hc => ?_)
    · replace hw := hw.1 hc
      exact LM_need_65 X hex hr k0 x4 x1 x2 x3 k0 f a b hw _ _ K _ (lv_sub hl [1, 2, 3, 4, 0] rfl)
    · replace hw := hw.2 hc
      refine lv_iconst (v := (1 : Int32)) hx hb dM_need_61 (by decide) ?_
      refine lv_goto (tgt := 66) hx hb dM_need_62 (by decide) ?_
      exact LM_need_66 X hex hr (1 : Int32) k0 x4 x1 x2 x3 k0 f a b hw _ _ K _ (lv_sub hl [1, 2, 3, 4, 0] rfl)
set_option maxHeartbeats 4000000 in
set_option maxRecDepth 100000 in
theorem LM_need_23 {p : Program} {l : Launch} {e : Env} {s : State} {m : MethodId} {below : List Frame} {meth : Method} {c : Code} {D : va_G} {sa : Nat → Nat} {ad : Nat → Nat} {ca : Nat → ClassId} {A : Nat → Prop} {y1 : Int32} {y2 : Int32} {y3 : Int32} {po : Int32 → wF → wA → wB → Prop} (X : cx Wl (tyS ca) txS D vwCl sa A p l s m ([.ref (ad 0), .int y1, .int y2, .int y3] : List Value).toArray meth c cM_need 7 "SendBestModel") (hex : ∀ x ∈ c.exceptionTable.toList, False) (hr : meth.sig.returnType = (some .int)) : ∀ (k0 : Int32) (x1 : Int32) (x2 : Int32) (x3 : Int32) (f : wF) (a : wA) (b : wB), wp_M_need_23 po k0 x1 x2 x3 f a b → ∀ (H : Heap) (locs : List Loc), wd nM kM D vwCl ad ca A s H locs f a b → ∀ (ls : Array Slot), lv_has ls 7 [(0, .ref (ad 0)), (1, .int x1), (2, .int x2), (3, .int x3)] → W p l e ({ frames := 2, cells := 0, slots := 0, locals := 43 }) s m ([.ref (ad 0), .int y1, .int y2, .int y3] : List Value).toArray below meth c H locs 0 0 (vx_MQ below (va_Qi (fun r (u : wF × wA × wB) => po r u.1 u.2.1 u.2.2) (sPost nM kM D vwCl ad ca A) A) (sX nM kM D vwCl ad ca A (fun _ _ _ _ => False)) ([.ref (ad 0), .int y1, .int y2, .int y3] : List Value).toArray s 0 0 A) (F0 m 23 ls [.int k0]) := by
  obtain ⟨hx, hb, hml, hown, hts, hK, hA, hth, hlk, hl9⟩ := id X
  intro k0 x1 x2 x3 f a b hw H locs K ls hl
  dsimp only [wp_M_need_23] at hw
  refine lv_istore (lv' := [(4, .int k0), (0, .ref (ad 0)), (1, .int x1), (2, .int x2), (3, .int x3)]) hx hb dM_need_23 hl (by decide) rfl (fun ls hl => ?_)
  refine lv_iload_n hx hb dM_need_25 rfl (lv_at hl 4 rfl) ?_
  refine lv_iconst (v := (0 : Int32)) hx hb dM_need_26 (by decide) ?_
  refine lv_bipush (v := (10 : Int32)) hx hb dM_need_27 (by decide) ?_
  refine gcSI X K (n0 := 3) (As := [.int x3, .int (0 : Int32), .int (10 : Int32)]) (rest := []) (hM := (met_M_in hl9 D ad ca sa _ x3 (0 : Int32) (10 : Int32) f a b _ hw)) (hg := wl_good) (w1 := (tm3 (i := 170) rfl rfl)) (w2 := (tm3 (i := 171) rfl rfl)) (w4 := (tm1 (i := 4) rfl rfl)) (w5 := (tm3 (i := 172) rfl rfl)) (hd := ⟨by decide, by decide, by decide +kernel⟩) (hrc := rfl) (hrs := rfl) (hR := ⟨Nat.le_of_ble_eq_true rfl, Nat.le_of_ble_eq_true rfl⟩) (hn := rfl) (hsz := hl.1) (hst := rfl) (hW := Nat.le_of_ble_eq_true rfl) (hdg := dM_need_29) (hf := ⟨Nat.le_of_ble_eq_true rfl, Nat.le_of_ble_eq_true rfl⟩) (fun _ _ _ _ _ _ _ _ hw => hw.elim) (fun r29 f29 a29 b29 H locs hw K => ?_)
  refine lv_if_ne (tgt := 39) hx hb dM_need_32 (by decide) (fun hc => ?_) (fun hc => ?_)
  · replace hw := hw.1 hc
    refine lv_iconst (v := (0 : Int32)) hx hb dM_need_39 (by decide) ?_
    exact LM_need_40 X hex hr (0 : Int32) x1 x2 x3 k0 f29 a29 b29 hw _ _ K _ (lv_sub hl [1, 2, 3, 4, 0] rfl)
  · replace hw := hw.2 hc
    refine lv_iconst (v := (1 : Int32)) hx hb dM_need_35 (by decide) ?_
    refine lv_goto (tgt := 40) hx hb dM_need_36 (by decide) ?_
    exact LM_need_40 X hex hr (1 : Int32) x1 x2 x3 k0 f29 a29 b29 hw _ _ K _ (lv_sub hl [1, 2, 3, 4, 0] rfl)
set_option maxHeartbeats 4000000 in
set_option maxRecDepth 100000 in
theorem LM_need_18 {p : Program} {l : Launch} {e : Env} {s : State} {m : MethodId} {below : List Frame} {meth : Method} {c : Code} {D : va_G} {sa : Nat → Nat} {ad : Nat → Nat} {ca : Nat → ClassId} {A : Nat → Prop} {y1 : Int32} {y2 : Int32} {y3 : Int32} {po : Int32 → wF → wA → wB → Prop} (X : cx Wl (tyS ca) txS D vwCl sa A p l s m ([.ref (ad 0), .int y1, .int y2, .int y3] : List Value).toArray meth c cM_need 7 "SendBestModel") (hex : ∀ x ∈ c.exceptionTable.toList, False) (hr : meth.sig.returnType = (some .int)) : ∀ (x1 : Int32) (x2 : Int32) (x3 : Int32) (f : wF) (a : wA) (b : wB), wp_M_need_18 po x1 x2 x3 f a b → ∀ (H : Heap) (locs : List Loc), wd nM kM D vwCl ad ca A s H locs f a b → ∀ (ls : Array Slot), lv_has ls 7 [(0, .ref (ad 0)), (1, .int x1), (2, .int x2), (3, .int x3)] → W p l e ({ frames := 2, cells := 0, slots := 0, locals := 43 }) s m ([.ref (ad 0), .int y1, .int y2, .int y3] : List Value).toArray below meth c H locs 0 0 (vx_MQ below (va_Qi (fun r (u : wF × wA × wB) => po r u.1 u.2.1 u.2.2) (sPost nM kM D vwCl ad ca A) A) (sX nM kM D vwCl ad ca A (fun _ _ _ _ => False)) ([.ref (ad 0), .int y1, .int y2, .int y3] : List Value).toArray s 0 0 A) (F0 m 18 ls []) := by
  obtain ⟨hx, hb, hml, hown, hts, hK, hA, hth, hlk, hl9⟩ := id X
  intro x1 x2 x3 f a b hw H locs K ls hl
  dsimp only [wp_M_need_18] at hw
  refine lv_iconst (v := (1 : Int32)) hx hb dM_need_18 (by decide) ?_
  refine lv_goto (tgt := 23) hx hb dM_need_19 (by decide) ?_
  exact LM_need_23 X hex hr (1 : Int32) x1 x2 x3 f a b hw _ _ K _ (lv_sub hl [0, 1, 2, 3] rfl)
set_option maxHeartbeats 4000000 in
set_option maxRecDepth 100000 in
theorem met_M_need {l : Launch} (hl9 : l.stackTraces = false) (D : va_G) (ad : Nat → Nat) (ca : Nat → ClassId) (sa : Nat → Nat) (sz : Nat) (x1 : Int32) (x2 : Int32) (x3 : Int32) (f : wF) (a : wA) (b : wB) (po : Int32 → wF → wA → wB → Prop) (hw : wp_M_need po x1 x2 x3 f a b) : mI nM kM (tyS ca) txS D vwCl l yM_need (Cond.code yM_need cM_need 7 (some .int) :: Wl) ({ frames := 2, cells := 0, slots := 0, locals := 43 }) [.ref (ad 0), .int x1, .int x2, .int x3] ad ca sa sz f a b po (fun _ _ _ _ => False) 0 0 := by
  refine ofI (by decide) hl9 (Nat.le_of_ble_eq_true rfl) ?_
  intro p e s m below meth c ls X hex hr K hl
  obtain ⟨hx, hb, hml, hown, hts, hK, hA, hth, hlk, hl9⟩ := id X
  have hl : lv_has ls 7 [(0, .ref (ad 0)), (1, .int x1), (2, .int x2), (3, .int x3)] := hl
  dsimp only [wp_M_need] at hw
  refine lv_aload_n hx hb dM_need_0 rfl (lv_at hl 0 rfl) ?_
  refine lv_iload_n hx hb dM_need_1 rfl (lv_at hl 1 rfl) ?_
  refine gcI X K (n0 := 1) (As := [.int x1]) (rest := []) (hM := (met_M_isIncident hl9 D ad ca sa _ x1 f a b _ hw)) (o := 0) (ho := by decide) (hko := kM_o0) (hci := rfl) (hg := wl_good) (w1 := (tm3 (i := 185) rfl rfl)) (w2 := (tm3 (i := 187) rfl rfl)) (w3 := (tm0 (i := 31) rfl rfl)) (w4 := (tm1 (i := 4) rfl rfl)) (w5 := (tm3 (i := 188) rfl rfl)) (hd := ⟨rfl, by decide, by decide, by decide +kernel⟩) (hrc := rfl) (hrs := rfl) (hR := ⟨Nat.le_of_ble_eq_true rfl, Nat.le_of_ble_eq_true rfl⟩) (hn := rfl) (hsz := hl.1) (hst := rfl) (hW := Nat.le_of_ble_eq_true rfl) (hdg := dM_need_2) (hf := ⟨Nat.le_of_ble_eq_true rfl, Nat.le_of_ble_eq_true rfl⟩) (fun _ _ _ _ _ _ _ _ hw => hw.elim) (fun r2 f2 a2 b2 H locs hw K => ?_)
  refine lv_if_eq (tgt := 18) hx hb dM_need_5 (by decide) (fun hc => ?_) (fun hc => ?_)
  · replace hw := hw.1 hc
    exact LM_need_18 X hex hr x1 x2 x3 f2 a2 b2 hw _ _ K _ (lv_sub hl [0, 1, 2, 3] rfl)
  · replace hw := hw.2 hc
    refine lv_iload_n hx hb dM_need_8 rfl (lv_at hl 2 rfl) ?_
    refine lv_iconst (v := (0 : Int32)) hx hb dM_need_9 (by decide) ?_
    refine lv_bipush (v := (15 : Int32)) hx hb dM_need_10 (by decide) ?_
    refine gcSI X K (n0 := 3) (As := [.int x2, .int (0 : Int32), .int (15 : Int32)]) (rest := []) (hM := (met_M_in hl9 D ad ca sa _ x2 (0 : Int32) (15 : Int32) f2 a2 b2 _ hw)) (hg := wl_good) (w1 := (tm3 (i := 170) rfl rfl)) (w2 := (tm3 (i := 171) rfl rfl)) (w4 := (tm1 (i := 4) rfl rfl)) (w5 := (tm3 (i := 172) rfl rfl)) (hd := ⟨by decide, by decide, by decide +kernel⟩) (hrc := rfl) (hrs := rfl) (hR := ⟨Nat.le_of_ble_eq_true rfl, Nat.le_of_ble_eq_true rfl⟩) (hn := rfl) (hsz := hl.1) (hst := rfl) (hW := Nat.le_of_ble_eq_true rfl) (hdg := dM_need_12) (hf := ⟨Nat.le_of_ble_eq_true rfl, Nat.le_of_ble_eq_true rfl⟩) (fun _ _ _ _ _ _ _ _ hw => hw.elim) (fun r12 f12 a12 b12 H locs hw K => ?_)
    refine lv_if_ne (tgt := 22) hx hb dM_need_15 (by decide) (fun hc => ?_) (fun hc => ?_)
    · replace hw := hw.1 hc
      refine lv_iconst (v := (0 : Int32)) hx hb dM_need_22 (by decide) ?_
      exact LM_need_23 X hex hr (0 : Int32) x1 x2 x3 f12 a12 b12 hw _ _ K _ (lv_sub hl [0, 1, 2, 3] rfl)
    · replace hw := hw.2 hc
      exact LM_need_18 X hex hr x1 x2 x3 f12 a12 b12 hw _ _ K _ (lv_sub hl [0, 1, 2, 3] rfl)
set_option maxHeartbeats 4000000 in
set_option maxRecDepth 100000 in
theorem LM_seconds_37 {p : Program} {l : Launch} {e : Env} {s : State} {m : MethodId} {below : List Frame} {meth : Method} {c : Code} {D : va_G} {sa : Nat → Nat} {ad : Nat → Nat} {ca : Nat → ClassId} {A : Nat → Prop} {y1 : Int32} {y2 : Int32} {y3 : Int32} {po : wF → wA → wB → Prop} (X : cx Wl (tyS ca) txS D vwCl sa A p l s m ([.ref (ad 0), .int y1, .int y2, .int y3] : List Value).toArray meth c cM_seconds 4 "SendBestModel") (hex : ∀ x ∈ c.exceptionTable.toList, False) (hr : meth.sig.returnType = none) : ∀ (k0 : Int32) (k1 : Int32) (x1 : Int32) (x2 : Int32) (x3 : Int32) (f : wF) (a : wA) (b : wB), wp_M_seconds_37 po k0 k1 x1 x2 x3 f a b → ∀ (H : Heap) (locs : List Loc), wd nM kM D vwCl ad ca A s H locs f a b → ∀ (ls : Array Slot), lv_has ls 4 [(0, .ref (ad 0)), (1, .int x1), (2, .int x2), (3, .int x3)] → W p l e ({ frames := 2, cells := 0, slots := 0, locals := 43 }) s m ([.ref (ad 0), .int y1, .int y2, .int y3] : List Value).toArray below meth c H locs 0 0 (vx_MQ below (va_Qv (fun (u : wF × wA × wB) => po u.1 u.2.1 u.2.2) (sPost nM kM D vwCl ad ca A) A) (sX nM kM D vwCl ad ca A (fun _ _ _ _ => False)) ([.ref (ad 0), .int y1, .int y2, .int y3] : List Value).toArray s 0 0 A) (F0 m 37 ls [.int k0, .int k1, .ref (ad 0)]) := by
  obtain ⟨hx, hb, hml, hown, hts, hK, hA, hth, hlk, hl9⟩ := id X
  intro k0 k1 x1 x2 x3 f a b hw H locs K ls hl
  dsimp only [wp_M_seconds_37] at hw
  refine lv_iconst (v := (0 : Int32)) hx hb dM_seconds_37 (by decide) ?_
  refine lv_iconst (v := (0 : Int32)) hx hb dM_seconds_38 (by decide) ?_
  refine gcI X K (n0 := 4) (As := [.int k1, .int k0, .int (0 : Int32), .int (0 : Int32)]) (rest := []) (hM := (met_M_throwing hl9 D ad ca sa _ k1 k0 (0 : Int32) (0 : Int32) f a b _ hw)) (o := 0) (ho := by decide) (hko := kM_o0) (hci := rfl) (hg := wl_good) (w1 := (tm3 (i := 173) rfl rfl)) (w2 := (tm3 (i := 175) rfl rfl)) (w3 := (tm0 (i := 30) rfl rfl)) (w4 := (tm1 (i := 4) rfl rfl)) (w5 := (tm3 (i := 176) rfl rfl)) (hd := ⟨rfl, by decide, by decide, by decide +kernel⟩) (hrc := rfl) (hrs := rfl) (hR := ⟨Nat.le_of_ble_eq_true rfl, Nat.le_of_ble_eq_true rfl⟩) (hn := rfl) (hsz := hl.1) (hst := rfl) (hW := Nat.le_of_ble_eq_true rfl) (hdg := dM_seconds_39) (hf := ⟨Nat.le_of_ble_eq_true rfl, Nat.le_of_ble_eq_true rfl⟩) (fun _ _ _ _ _ _ _ _ hw => hw.elim) (fun r39 f39 a39 b39 H locs hw K => ?_)
  refine lv_if_eq (tgt := 46) hx hb dM_seconds_42 (by decide) (fun hc => ?_) (fun hc => ?_)
  · replace hw := hw.1 hc
    refine lv_aload_n hx hb dM_seconds_46 rfl (lv_at hl 0 rfl) ?_
    refine gGet X K (o := 0) (k := 4) (v := .ref (ad 3)) (by decide) kM_o0 rfl inM_o0 (by decide) (tm3 (i := 107) rfl rfl) rfl dM_seconds_47 ?_
    refine lv_bipush (v := (6 : Int32)) hx hb dM_seconds_50 (by decide) ?_
    refine lv_iload_n hx hb dM_seconds_52 rfl (lv_at hl 1 rfl) ?_
    refine lv_imul hx hb dM_seconds_53 ?_
    refine lv_iload_n hx hb dM_seconds_54 rfl (lv_at hl 2 rfl) ?_
    refine lv_iadd hx hb dM_seconds_55 ?_
    refine lv_iload_n hx hb dM_seconds_56 rfl (lv_at hl 3 rfl) ?_
    obtain ⟨hi, hw⟩ := hw
    refine gist X K (o := 3) (t0 := 0) (by decide) kM_c3 rfl hi dM_seconds_57 kM_p3 (fun H locs K => ?_)
    exact endV X K hr hw (by decide) (by decide) dM_seconds_58
  · replace hw := hw.2 hc
    exact endV X K hr hw (by decide) (by decide) dM_seconds_45
set_option maxHeartbeats 4000000 in
set_option maxRecDepth 100000 in
theorem LM_seconds_22 {p : Program} {l : Launch} {e : Env} {s : State} {m : MethodId} {below : List Frame} {meth : Method} {c : Code} {D : va_G} {sa : Nat → Nat} {ad : Nat → Nat} {ca : Nat → ClassId} {A : Nat → Prop} {y1 : Int32} {y2 : Int32} {y3 : Int32} {po : wF → wA → wB → Prop} (X : cx Wl (tyS ca) txS D vwCl sa A p l s m ([.ref (ad 0), .int y1, .int y2, .int y3] : List Value).toArray meth c cM_seconds 4 "SendBestModel") (hex : ∀ x ∈ c.exceptionTable.toList, False) (hr : meth.sig.returnType = none) : ∀ (k0 : Int32) (x1 : Int32) (x2 : Int32) (x3 : Int32) (f : wF) (a : wA) (b : wB), wp_M_seconds_22 po k0 x1 x2 x3 f a b → ∀ (H : Heap) (locs : List Loc), wd nM kM D vwCl ad ca A s H locs f a b → ∀ (ls : Array Slot), lv_has ls 4 [(0, .ref (ad 0)), (1, .int x1), (2, .int x2), (3, .int x3)] → W p l e ({ frames := 2, cells := 0, slots := 0, locals := 43 }) s m ([.ref (ad 0), .int y1, .int y2, .int y3] : List Value).toArray below meth c H locs 0 0 (vx_MQ below (va_Qv (fun (u : wF × wA × wB) => po u.1 u.2.1 u.2.2) (sPost nM kM D vwCl ad ca A) A) (sX nM kM D vwCl ad ca A (fun _ _ _ _ => False)) ([.ref (ad 0), .int y1, .int y2, .int y3] : List Value).toArray s 0 0 A) (F0 m 22 ls [.int k0, .ref (ad 0)]) := by
  obtain ⟨hx, hb, hml, hown, hts, hK, hA, hth, hlk, hl9⟩ := id X
  intro k0 x1 x2 x3 f a b hw H locs K ls hl
  dsimp only [wp_M_seconds_22] at hw
  refine lv_iload_n hx hb dM_seconds_22 rfl (lv_at hl 3 rfl) ?_
  refine lv_iconst (v := (-1 : Int32)) hx hb dM_seconds_23 (by decide) ?_
  refine lv_ldc (v := (99999 : Int32)) hx hb hown (hts _ (tm3 (i := 201) rfl rfl)) dM_seconds_24 ?_
  refine gcSI X K (n0 := 3) (As := [.int x3, .int (-1 : Int32), .int (99999 : Int32)]) (rest := [.int k0, .ref (ad 0)]) (hM := (met_M_in hl9 D ad ca sa _ x3 (-1 : Int32) (99999 : Int32) f a b _ hw)) (hg := wl_good) (w1 := (tm3 (i := 170) rfl rfl)) (w2 := (tm3 (i := 171) rfl rfl)) (w4 := (tm1 (i := 4) rfl rfl)) (w5 := (tm3 (i := 172) rfl rfl)) (hd := ⟨by decide, by decide, by decide +kernel⟩) (hrc := rfl) (hrs := rfl) (hR := ⟨Nat.le_of_ble_eq_true rfl, Nat.le_of_ble_eq_true rfl⟩) (hn := rfl) (hsz := hl.1) (hst := rfl) (hW := Nat.le_of_ble_eq_true rfl) (hdg := dM_seconds_26) (hf := ⟨Nat.le_of_ble_eq_true rfl, Nat.le_of_ble_eq_true rfl⟩) (fun _ _ _ _ _ _ _ _ hw => hw.elim) (fun r26 f26 a26 b26 H locs hw K => ?_)
  refine lv_if_ne (tgt := 36) hx hb dM_seconds_29 (by decide) (fun hc => ?_) (fun hc => ?_)
  · replace hw := hw.1 hc
    refine lv_iconst (v := (0 : Int32)) hx hb dM_seconds_36 (by decide) ?_
    exact LM_seconds_37 X hex hr (0 : Int32) k0 x1 x2 x3 f26 a26 b26 hw _ _ K _ (lv_sub hl [0, 1, 2, 3] rfl)
  · replace hw := hw.2 hc
    refine lv_iconst (v := (1 : Int32)) hx hb dM_seconds_32 (by decide) ?_
    refine lv_goto (tgt := 37) hx hb dM_seconds_33 (by decide) ?_
    exact LM_seconds_37 X hex hr (1 : Int32) k0 x1 x2 x3 f26 a26 b26 hw _ _ K _ (lv_sub hl [0, 1, 2, 3] rfl)
set_option maxHeartbeats 4000000 in
set_option maxRecDepth 100000 in
theorem LM_seconds_17 {p : Program} {l : Launch} {e : Env} {s : State} {m : MethodId} {below : List Frame} {meth : Method} {c : Code} {D : va_G} {sa : Nat → Nat} {ad : Nat → Nat} {ca : Nat → ClassId} {A : Nat → Prop} {y1 : Int32} {y2 : Int32} {y3 : Int32} {po : wF → wA → wB → Prop} (X : cx Wl (tyS ca) txS D vwCl sa A p l s m ([.ref (ad 0), .int y1, .int y2, .int y3] : List Value).toArray meth c cM_seconds 4 "SendBestModel") (hex : ∀ x ∈ c.exceptionTable.toList, False) (hr : meth.sig.returnType = none) : ∀ (x1 : Int32) (x2 : Int32) (x3 : Int32) (f : wF) (a : wA) (b : wB), wp_M_seconds_17 po x1 x2 x3 f a b → ∀ (H : Heap) (locs : List Loc), wd nM kM D vwCl ad ca A s H locs f a b → ∀ (ls : Array Slot), lv_has ls 4 [(0, .ref (ad 0)), (1, .int x1), (2, .int x2), (3, .int x3)] → W p l e ({ frames := 2, cells := 0, slots := 0, locals := 43 }) s m ([.ref (ad 0), .int y1, .int y2, .int y3] : List Value).toArray below meth c H locs 0 0 (vx_MQ below (va_Qv (fun (u : wF × wA × wB) => po u.1 u.2.1 u.2.2) (sPost nM kM D vwCl ad ca A) A) (sX nM kM D vwCl ad ca A (fun _ _ _ _ => False)) ([.ref (ad 0), .int y1, .int y2, .int y3] : List Value).toArray s 0 0 A) (F0 m 17 ls [.ref (ad 0)]) := by
  obtain ⟨hx, hb, hml, hown, hts, hK, hA, hth, hlk, hl9⟩ := id X
  intro x1 x2 x3 f a b hw H locs K ls hl
  dsimp only [wp_M_seconds_17] at hw
  refine lv_iconst (v := (1 : Int32)) hx hb dM_seconds_17 (by decide) ?_
  refine lv_goto (tgt := 22) hx hb dM_seconds_18 (by decide) ?_
  exact LM_seconds_22 X hex hr (1 : Int32) x1 x2 x3 f a b hw _ _ K _ (lv_sub hl [0, 1, 2, 3] rfl)
set_option maxHeartbeats 4000000 in
set_option maxRecDepth 100000 in
theorem met_M_seconds {l : Launch} (hl9 : l.stackTraces = false) (D : va_G) (ad : Nat → Nat) (ca : Nat → ClassId) (sa : Nat → Nat) (sz : Nat) (x1 : Int32) (x2 : Int32) (x3 : Int32) (f : wF) (a : wA) (b : wB) (po : wF → wA → wB → Prop) (hw : wp_M_seconds po x1 x2 x3 f a b) : mV nM kM (tyS ca) txS D vwCl l yM_seconds (Cond.code yM_seconds cM_seconds 4 none :: Wl) ({ frames := 2, cells := 0, slots := 0, locals := 43 }) [.ref (ad 0), .int x1, .int x2, .int x3] ad ca sa sz f a b po (fun _ _ _ _ => False) 0 0 := by
  refine ofV (by decide) hl9 (Nat.le_of_ble_eq_true rfl) ?_
  intro p e s m below meth c ls X hex hr K hl
  obtain ⟨hx, hb, hml, hown, hts, hK, hA, hth, hlk, hl9⟩ := id X
  have hl : lv_has ls 4 [(0, .ref (ad 0)), (1, .int x1), (2, .int x2), (3, .int x3)] := hl
  dsimp only [wp_M_seconds] at hw
  refine lv_aload_n hx hb dM_seconds_0 rfl (lv_at hl 0 rfl) ?_
  refine lv_aload_n hx hb dM_seconds_1 rfl (lv_at hl 0 rfl) ?_
  refine lv_iload_n hx hb dM_seconds_2 rfl (lv_at hl 1 rfl) ?_
  refine gcI X K (n0 := 1) (As := [.int x1]) (rest := [.ref (ad 0)]) (hM := (met_M_isUnit hl9 D ad ca sa _ x1 f a b _ hw)) (o := 0) (ho := by decide) (hko := kM_o0) (hci := rfl) (hg := wl_good) (w1 := (tm3 (i := 197) rfl rfl)) (w2 := (tm3 (i := 199) rfl rfl)) (w3 := (tm0 (i := 32) rfl rfl)) (w4 := (tm1 (i := 4) rfl rfl)) (w5 := (tm3 (i := 200) rfl rfl)) (hd := ⟨rfl, by decide, by decide, by decide +kernel⟩) (hrc := rfl) (hrs := rfl) (hR := ⟨Nat.le_of_ble_eq_true rfl, Nat.le_of_ble_eq_true rfl⟩) (hn := rfl) (hsz := hl.1) (hst := rfl) (hW := Nat.le_of_ble_eq_true rfl) (hdg := dM_seconds_3) (hf := ⟨Nat.le_of_ble_eq_true rfl, Nat.le_of_ble_eq_true rfl⟩) (fun _ _ _ _ _ _ _ _ hw => hw.elim) (fun r3 f3 a3 b3 H locs hw K => ?_)
  refine lv_if_eq (tgt := 17) hx hb dM_seconds_6 (by decide) (fun hc => ?_) (fun hc => ?_)
  · replace hw := hw.1 hc
    exact LM_seconds_17 X hex hr x1 x2 x3 f3 a3 b3 hw _ _ K _ (lv_sub hl [0, 1, 2, 3] rfl)
  · replace hw := hw.2 hc
    refine lv_aload_n hx hb dM_seconds_9 rfl (lv_at hl 0 rfl) ?_
    refine lv_iload_n hx hb dM_seconds_10 rfl (lv_at hl 2 rfl) ?_
    refine gcI X K (n0 := 1) (As := [.int x2]) (rest := [.ref (ad 0)]) (hM := (met_M_isIncident hl9 D ad ca sa _ x2 f3 a3 b3 _ hw)) (o := 0) (ho := by decide) (hko := kM_o0) (hci := rfl) (hg := wl_good) (w1 := (tm3 (i := 185) rfl rfl)) (w2 := (tm3 (i := 187) rfl rfl)) (w3 := (tm0 (i := 31) rfl rfl)) (w4 := (tm1 (i := 4) rfl rfl)) (w5 := (tm3 (i := 188) rfl rfl)) (hd := ⟨rfl, by decide, by decide, by decide +kernel⟩) (hrc := rfl) (hrs := rfl) (hR := ⟨Nat.le_of_ble_eq_true rfl, Nat.le_of_ble_eq_true rfl⟩) (hn := rfl) (hsz := hl.1) (hst := rfl) (hW := Nat.le_of_ble_eq_true rfl) (hdg := dM_seconds_11) (hf := ⟨Nat.le_of_ble_eq_true rfl, Nat.le_of_ble_eq_true rfl⟩) (fun _ _ _ _ _ _ _ _ hw => hw.elim) (fun r11 f11 a11 b11 H locs hw K => ?_)
    refine lv_if_ne (tgt := 21) hx hb dM_seconds_14 (by decide) (fun hc => ?_) (fun hc => ?_)
    · replace hw := hw.1 hc
      refine lv_iconst (v := (0 : Int32)) hx hb dM_seconds_21 (by decide) ?_
      exact LM_seconds_22 X hex hr (0 : Int32) x1 x2 x3 f11 a11 b11 hw _ _ K _ (lv_sub hl [0, 1, 2, 3] rfl)
    · replace hw := hw.2 hc
      exact LM_seconds_17 X hex hr x1 x2 x3 f11 a11 b11 hw _ _ K _ (lv_sub hl [0, 1, 2, 3] rfl)
set_option maxHeartbeats 4000000 in
set_option maxRecDepth 100000 in
theorem LM_limit_31 {p : Program} {l : Launch} {e : Env} {s : State} {m : MethodId} {below : List Frame} {meth : Method} {c : Code} {D : va_G} {sa : Nat → Nat} {ad : Nat → Nat} {ca : Nat → ClassId} {A : Nat → Prop} {y1 : Int32} {y2 : Int32} {po : wF → wA → wB → Prop} (X : cx Wl (tyS ca) txS D vwCl sa A p l s m ([.ref (ad 0), .int y1, .int y2] : List Value).toArray meth c cM_limit 3 "SendBestModel") (hex : ∀ x ∈ c.exceptionTable.toList, False) (hr : meth.sig.returnType = none) : ∀ (k0 : Int32) (k1 : Int32) (x1 : Int32) (x2 : Int32) (f : wF) (a : wA) (b : wB), wp_M_limit_31 po k0 k1 x1 x2 f a b → ∀ (H : Heap) (locs : List Loc), wd nM kM D vwCl ad ca A s H locs f a b → ∀ (ls : Array Slot), lv_has ls 3 [(0, .ref (ad 0)), (1, .int x1), (2, .int x2)] → W p l e ({ frames := 1, cells := 0, slots := 0, locals := 24 }) s m ([.ref (ad 0), .int y1, .int y2] : List Value).toArray below meth c H locs 0 0 (vx_MQ below (va_Qv (fun (u : wF × wA × wB) => po u.1 u.2.1 u.2.2) (sPost nM kM D vwCl ad ca A) A) (sX nM kM D vwCl ad ca A (fun _ _ _ _ => False)) ([.ref (ad 0), .int y1, .int y2] : List Value).toArray s 0 0 A) (F0 m 31 ls [.int k0, .int k1, .ref (ad 0)]) := by
  obtain ⟨hx, hb, hml, hown, hts, hK, hA, hth, hlk, hl9⟩ := id X
  intro k0 k1 x1 x2 f a b hw H locs K ls hl
  dsimp only [wp_M_limit_31] at hw
  refine lv_iconst (v := (0 : Int32)) hx hb dM_limit_31 (by decide) ?_
  refine lv_iconst (v := (0 : Int32)) hx hb dM_limit_32 (by decide) ?_
  refine gcI X K (n0 := 4) (As := [.int k1, .int k0, .int (0 : Int32), .int (0 : Int32)]) (rest := []) (hM := (met_M_throwing hl9 D ad ca sa _ k1 k0 (0 : Int32) (0 : Int32) f a b _ hw)) (o := 0) (ho := by decide) (hko := kM_o0) (hci := rfl) (hg := wl_good) (w1 := (tm3 (i := 173) rfl rfl)) (w2 := (tm3 (i := 175) rfl rfl)) (w3 := (tm0 (i := 30) rfl rfl)) (w4 := (tm1 (i := 4) rfl rfl)) (w5 := (tm3 (i := 176) rfl rfl)) (hd := ⟨rfl, by decide, by decide, by decide +kernel⟩) (hrc := rfl) (hrs := rfl) (hR := ⟨Nat.le_of_ble_eq_true rfl, Nat.le_of_ble_eq_true rfl⟩) (hn := rfl) (hsz := hl.1) (hst := rfl) (hW := Nat.le_of_ble_eq_true rfl) (hdg := dM_limit_33) (hf := ⟨Nat.le_of_ble_eq_true rfl, Nat.le_of_ble_eq_true rfl⟩) (fun _ _ _ _ _ _ _ _ hw => hw.elim) (fun r33 f33 a33 b33 H locs hw K => ?_)
  refine lv_if_eq (tgt := 40) hx hb dM_limit_36 (by decide) (fun hc => ?_) (fun hc => ?_)
  · replace hw := hw.1 hc
    refine lv_aload_n hx hb dM_limit_40 rfl (lv_at hl 0 rfl) ?_
    refine gGet X K (o := 0) (k := 13) (v := .ref (ad 10)) (by decide) kM_o0 rfl inM_o0 (by decide) (tm3 (i := 116) rfl rfl) rfl dM_limit_41 ?_
    refine lv_iload_n hx hb dM_limit_44 rfl (lv_at hl 1 rfl) ?_
    refine lv_iload_n hx hb dM_limit_45 rfl (lv_at hl 2 rfl) ?_
    obtain ⟨hi, hw⟩ := hw
    refine gist X K (o := 10) (t0 := 0) (by decide) kM_c10 rfl hi dM_limit_46 kM_p10 (fun H locs K => ?_)
    exact endV X K hr hw (by decide) (by decide) dM_limit_47
  · replace hw := hw.2 hc
    exact endV X K hr hw (by decide) (by decide) dM_limit_39
set_option maxHeartbeats 4000000 in
set_option maxRecDepth 100000 in
theorem LM_limit_16 {p : Program} {l : Launch} {e : Env} {s : State} {m : MethodId} {below : List Frame} {meth : Method} {c : Code} {D : va_G} {sa : Nat → Nat} {ad : Nat → Nat} {ca : Nat → ClassId} {A : Nat → Prop} {y1 : Int32} {y2 : Int32} {po : wF → wA → wB → Prop} (X : cx Wl (tyS ca) txS D vwCl sa A p l s m ([.ref (ad 0), .int y1, .int y2] : List Value).toArray meth c cM_limit 3 "SendBestModel") (hex : ∀ x ∈ c.exceptionTable.toList, False) (hr : meth.sig.returnType = none) : ∀ (k0 : Int32) (x1 : Int32) (x2 : Int32) (f : wF) (a : wA) (b : wB), wp_M_limit_16 po k0 x1 x2 f a b → ∀ (H : Heap) (locs : List Loc), wd nM kM D vwCl ad ca A s H locs f a b → ∀ (ls : Array Slot), lv_has ls 3 [(0, .ref (ad 0)), (1, .int x1), (2, .int x2)] → W p l e ({ frames := 1, cells := 0, slots := 0, locals := 24 }) s m ([.ref (ad 0), .int y1, .int y2] : List Value).toArray below meth c H locs 0 0 (vx_MQ below (va_Qv (fun (u : wF × wA × wB) => po u.1 u.2.1 u.2.2) (sPost nM kM D vwCl ad ca A) A) (sX nM kM D vwCl ad ca A (fun _ _ _ _ => False)) ([.ref (ad 0), .int y1, .int y2] : List Value).toArray s 0 0 A) (F0 m 16 ls [.int k0, .ref (ad 0)]) := by
  obtain ⟨hx, hb, hml, hown, hts, hK, hA, hth, hlk, hl9⟩ := id X
  intro k0 x1 x2 f a b hw H locs K ls hl
  dsimp only [wp_M_limit_16] at hw
  refine lv_iload_n hx hb dM_limit_16 rfl (lv_at hl 2 rfl) ?_
  refine lv_iconst (v := (-1 : Int32)) hx hb dM_limit_17 (by decide) ?_
  refine lv_ldc (v := (99999 : Int32)) hx hb hown (hts _ (tm3 (i := 201) rfl rfl)) dM_limit_18 ?_
  refine gcSI X K (n0 := 3) (As := [.int x2, .int (-1 : Int32), .int (99999 : Int32)]) (rest := [.int k0, .ref (ad 0)]) (hM := (met_M_in hl9 D ad ca sa _ x2 (-1 : Int32) (99999 : Int32) f a b _ hw)) (hg := wl_good) (w1 := (tm3 (i := 170) rfl rfl)) (w2 := (tm3 (i := 171) rfl rfl)) (w4 := (tm1 (i := 4) rfl rfl)) (w5 := (tm3 (i := 172) rfl rfl)) (hd := ⟨by decide, by decide, by decide +kernel⟩) (hrc := rfl) (hrs := rfl) (hR := ⟨Nat.le_of_ble_eq_true rfl, Nat.le_of_ble_eq_true rfl⟩) (hn := rfl) (hsz := hl.1) (hst := rfl) (hW := Nat.le_of_ble_eq_true rfl) (hdg := dM_limit_20) (hf := ⟨Nat.le_of_ble_eq_true rfl, Nat.le_of_ble_eq_true rfl⟩) (fun _ _ _ _ _ _ _ _ hw => hw.elim) (fun r20 f20 a20 b20 H locs hw K => ?_)
  refine lv_if_ne (tgt := 30) hx hb dM_limit_23 (by decide) (fun hc => ?_) (fun hc => ?_)
  · replace hw := hw.1 hc
    refine lv_iconst (v := (0 : Int32)) hx hb dM_limit_30 (by decide) ?_
    exact LM_limit_31 X hex hr (0 : Int32) k0 x1 x2 f20 a20 b20 hw _ _ K _ (lv_sub hl [0, 1, 2] rfl)
  · replace hw := hw.2 hc
    refine lv_iconst (v := (1 : Int32)) hx hb dM_limit_26 (by decide) ?_
    refine lv_goto (tgt := 31) hx hb dM_limit_27 (by decide) ?_
    exact LM_limit_31 X hex hr (1 : Int32) k0 x1 x2 f20 a20 b20 hw _ _ K _ (lv_sub hl [0, 1, 2] rfl)
set_option maxHeartbeats 4000000 in
set_option maxRecDepth 100000 in
theorem met_M_limit {l : Launch} (hl9 : l.stackTraces = false) (D : va_G) (ad : Nat → Nat) (ca : Nat → ClassId) (sa : Nat → Nat) (sz : Nat) (x1 : Int32) (x2 : Int32) (f : wF) (a : wA) (b : wB) (po : wF → wA → wB → Prop) (hw : wp_M_limit po x1 x2 f a b) : mV nM kM (tyS ca) txS D vwCl l yM_limit (Cond.code yM_limit cM_limit 3 none :: Wl) ({ frames := 1, cells := 0, slots := 0, locals := 24 }) [.ref (ad 0), .int x1, .int x2] ad ca sa sz f a b po (fun _ _ _ _ => False) 0 0 := by
  refine ofV (by decide) hl9 (Nat.le_of_ble_eq_true rfl) ?_
  intro p e s m below meth c ls X hex hr K hl
  obtain ⟨hx, hb, hml, hown, hts, hK, hA, hth, hlk, hl9⟩ := id X
  have hl : lv_has ls 3 [(0, .ref (ad 0)), (1, .int x1), (2, .int x2)] := hl
  dsimp only [wp_M_limit] at hw
  refine lv_aload_n hx hb dM_limit_0 rfl (lv_at hl 0 rfl) ?_
  refine lv_iload_n hx hb dM_limit_1 rfl (lv_at hl 1 rfl) ?_
  refine lv_iconst (v := (0 : Int32)) hx hb dM_limit_2 (by decide) ?_
  refine lv_bipush (v := (15 : Int32)) hx hb dM_limit_3 (by decide) ?_
  refine gcSI X K (n0 := 3) (As := [.int x1, .int (0 : Int32), .int (15 : Int32)]) (rest := [.ref (ad 0)]) (hM := (met_M_in hl9 D ad ca sa _ x1 (0 : Int32) (15 : Int32) f a b _ hw)) (hg := wl_good) (w1 := (tm3 (i := 170) rfl rfl)) (w2 := (tm3 (i := 171) rfl rfl)) (w4 := (tm1 (i := 4) rfl rfl)) (w5 := (tm3 (i := 172) rfl rfl)) (hd := ⟨by decide, by decide, by decide +kernel⟩) (hrc := rfl) (hrs := rfl) (hR := ⟨Nat.le_of_ble_eq_true rfl, Nat.le_of_ble_eq_true rfl⟩) (hn := rfl) (hsz := hl.1) (hst := rfl) (hW := Nat.le_of_ble_eq_true rfl) (hdg := dM_limit_5) (hf := ⟨Nat.le_of_ble_eq_true rfl, Nat.le_of_ble_eq_true rfl⟩) (fun _ _ _ _ _ _ _ _ hw => hw.elim) (fun r5 f5 a5 b5 H locs hw K => ?_)
  refine lv_if_ne (tgt := 15) hx hb dM_limit_8 (by decide) (fun hc => ?_) (fun hc => ?_)
  · replace hw := hw.1 hc
    refine lv_iconst (v := (0 : Int32)) hx hb dM_limit_15 (by decide) ?_
    exact LM_limit_16 X hex hr (0 : Int32) x1 x2 f5 a5 b5 hw _ _ K _ (lv_sub hl [0, 1, 2] rfl)
  · replace hw := hw.2 hc
    refine lv_iconst (v := (1 : Int32)) hx hb dM_limit_11 (by decide) ?_
    refine lv_goto (tgt := 16) hx hb dM_limit_12 (by decide) ?_
    exact LM_limit_16 X hex hr (1 : Int32) x1 x2 f5 a5 b5 hw _ _ K _ (lv_sub hl [0, 1, 2] rfl)
set_option maxHeartbeats 4000000 in
set_option maxRecDepth 100000 in
theorem LM_reserve_26 {p : Program} {l : Launch} {e : Env} {s : State} {m : MethodId} {below : List Frame} {meth : Method} {c : Code} {D : va_G} {sa : Nat → Nat} {ad : Nat → Nat} {ca : Nat → ClassId} {A : Nat → Prop} {y1 : Int32} {y2 : Int32} {po : wF → wA → wB → Prop} (X : cx Wl (tyS ca) txS D vwCl sa A p l s m ([.ref (ad 0), .int y1, .int y2] : List Value).toArray meth c cM_reserve 3 "SendBestModel") (hex : ∀ x ∈ c.exceptionTable.toList, False) (hr : meth.sig.returnType = none) : ∀ (k0 : Int32) (x1 : Int32) (x2 : Int32) (f : wF) (a : wA) (b : wB), wp_M_reserve_26 po k0 x1 x2 f a b → ∀ (H : Heap) (locs : List Loc), wd nM kM D vwCl ad ca A s H locs f a b → ∀ (ls : Array Slot), lv_has ls 3 [(0, .ref (ad 0)), (1, .int x1), (2, .int x2)] → W p l e ({ frames := 1, cells := 0, slots := 0, locals := 24 }) s m ([.ref (ad 0), .int y1, .int y2] : List Value).toArray below meth c H locs 0 0 (vx_MQ below (va_Qv (fun (u : wF × wA × wB) => po u.1 u.2.1 u.2.2) (sPost nM kM D vwCl ad ca A) A) (sX nM kM D vwCl ad ca A (fun _ _ _ _ => False)) ([.ref (ad 0), .int y1, .int y2] : List Value).toArray s 0 0 A) (F0 m 26 ls [.int k0, .ref (ad 0)]) := by
  obtain ⟨hx, hb, hml, hown, hts, hK, hA, hth, hlk, hl9⟩ := id X
  intro k0 x1 x2 f a b hw H locs K ls hl
  dsimp only [wp_M_reserve_26] at hw
  refine lv_iconst (v := (0 : Int32)) hx hb dM_reserve_26 (by decide) ?_
  refine lv_iconst (v := (0 : Int32)) hx hb dM_reserve_27 (by decide) ?_
  refine lv_iconst (v := (0 : Int32)) hx hb dM_reserve_28 (by decide) ?_
  refine gcI X K (n0 := 4) (As := [.int k0, .int (0 : Int32), .int (0 : Int32), .int (0 : Int32)]) (rest := []) (hM := (met_M_throwing hl9 D ad ca sa _ k0 (0 : Int32) (0 : Int32) (0 : Int32) f a b _ hw)) (o := 0) (ho := by decide) (hko := kM_o0) (hci := rfl) (hg := wl_good) (w1 := (tm3 (i := 173) rfl rfl)) (w2 := (tm3 (i := 175) rfl rfl)) (w3 := (tm0 (i := 30) rfl rfl)) (w4 := (tm1 (i := 4) rfl rfl)) (w5 := (tm3 (i := 176) rfl rfl)) (hd := ⟨rfl, by decide, by decide, by decide +kernel⟩) (hrc := rfl) (hrs := rfl) (hR := ⟨Nat.le_of_ble_eq_true rfl, Nat.le_of_ble_eq_true rfl⟩) (hn := rfl) (hsz := hl.1) (hst := rfl) (hW := Nat.le_of_ble_eq_true rfl) (hdg := dM_reserve_29) (hf := ⟨Nat.le_of_ble_eq_true rfl, Nat.le_of_ble_eq_true rfl⟩) (fun _ _ _ _ _ _ _ _ hw => hw.elim) (fun r29 f29 a29 b29 H locs hw K => ?_)
  refine lv_if_eq (tgt := 36) hx hb dM_reserve_32 (by decide) (fun hc => ?_) (fun hc => ?_)
  · replace hw := hw.1 hc
    refine lv_aload_n hx hb dM_reserve_36 rfl (lv_at hl 0 rfl) ?_
    refine lv_iload_n hx hb dM_reserve_37 rfl (lv_at hl 1 rfl) ?_
    refine gPut X K (o := 0) (k := 14) (v := .int x1) (ty := .int) tM_o0 tM_o0_ok nM_o0 (by decide) kM_o0 rfl inM_o0 (by decide) (tm3 (i := 117) rfl rfl) rfl rfl rfl rfl (by simp [flM_o0]) dM_reserve_38 kM_u0_14 (fun H locs K => ?_)
    refine lv_aload_n hx hb dM_reserve_41 rfl (lv_at hl 0 rfl) ?_
    refine lv_iload_n hx hb dM_reserve_42 rfl (lv_at hl 2 rfl) ?_
    refine gPut X K (o := 0) (k := 15) (v := .int x2) (ty := .int) tM_o0 tM_o0_ok nM_o0 (by decide) kM_o0 rfl inM_o0 (by decide) (tm3 (i := 118) rfl rfl) rfl rfl rfl rfl (by simp [flM_o0]) dM_reserve_43 kM_u0_15 (fun H locs K => ?_)
    exact endV X K hr hw (by decide) (by decide) dM_reserve_46
  · replace hw := hw.2 hc
    exact endV X K hr hw (by decide) (by decide) dM_reserve_35
set_option maxHeartbeats 4000000 in
set_option maxRecDepth 100000 in
theorem LM_reserve_21 {p : Program} {l : Launch} {e : Env} {s : State} {m : MethodId} {below : List Frame} {meth : Method} {c : Code} {D : va_G} {sa : Nat → Nat} {ad : Nat → Nat} {ca : Nat → ClassId} {A : Nat → Prop} {y1 : Int32} {y2 : Int32} {po : wF → wA → wB → Prop} (X : cx Wl (tyS ca) txS D vwCl sa A p l s m ([.ref (ad 0), .int y1, .int y2] : List Value).toArray meth c cM_reserve 3 "SendBestModel") (hex : ∀ x ∈ c.exceptionTable.toList, False) (hr : meth.sig.returnType = none) : ∀ (x1 : Int32) (x2 : Int32) (f : wF) (a : wA) (b : wB), wp_M_reserve_21 po x1 x2 f a b → ∀ (H : Heap) (locs : List Loc), wd nM kM D vwCl ad ca A s H locs f a b → ∀ (ls : Array Slot), lv_has ls 3 [(0, .ref (ad 0)), (1, .int x1), (2, .int x2)] → W p l e ({ frames := 1, cells := 0, slots := 0, locals := 24 }) s m ([.ref (ad 0), .int y1, .int y2] : List Value).toArray below meth c H locs 0 0 (vx_MQ below (va_Qv (fun (u : wF × wA × wB) => po u.1 u.2.1 u.2.2) (sPost nM kM D vwCl ad ca A) A) (sX nM kM D vwCl ad ca A (fun _ _ _ _ => False)) ([.ref (ad 0), .int y1, .int y2] : List Value).toArray s 0 0 A) (F0 m 21 ls [.ref (ad 0)]) := by
  obtain ⟨hx, hb, hml, hown, hts, hK, hA, hth, hlk, hl9⟩ := id X
  intro x1 x2 f a b hw H locs K ls hl
  dsimp only [wp_M_reserve_21] at hw
  refine lv_iconst (v := (1 : Int32)) hx hb dM_reserve_21 (by decide) ?_
  refine lv_goto (tgt := 26) hx hb dM_reserve_22 (by decide) ?_
  exact LM_reserve_26 X hex hr (1 : Int32) x1 x2 f a b hw _ _ K _ (lv_sub hl [0, 1, 2] rfl)
set_option maxHeartbeats 4000000 in
set_option maxRecDepth 100000 in
theorem met_M_reserve {l : Launch} (hl9 : l.stackTraces = false) (D : va_G) (ad : Nat → Nat) (ca : Nat → ClassId) (sa : Nat → Nat) (sz : Nat) (x1 : Int32) (x2 : Int32) (f : wF) (a : wA) (b : wB) (po : wF → wA → wB → Prop) (hw : wp_M_reserve po x1 x2 f a b) : mV nM kM (tyS ca) txS D vwCl l yM_reserve (Cond.code yM_reserve cM_reserve 3 none :: Wl) ({ frames := 1, cells := 0, slots := 0, locals := 24 }) [.ref (ad 0), .int x1, .int x2] ad ca sa sz f a b po (fun _ _ _ _ => False) 0 0 := by
  refine ofV (by decide) hl9 (Nat.le_of_ble_eq_true rfl) ?_
  intro p e s m below meth c ls X hex hr K hl
  obtain ⟨hx, hb, hml, hown, hts, hK, hA, hth, hlk, hl9⟩ := id X
  have hl : lv_has ls 3 [(0, .ref (ad 0)), (1, .int x1), (2, .int x2)] := hl
  dsimp only [wp_M_reserve] at hw
  refine lv_aload_n hx hb dM_reserve_0 rfl (lv_at hl 0 rfl) ?_
  refine lv_iload_n hx hb dM_reserve_1 rfl (lv_at hl 1 rfl) ?_
  refine lv_iconst (v := (0 : Int32)) hx hb dM_reserve_2 (by decide) ?_
  refine lv_bipush (v := (12 : Int32)) hx hb dM_reserve_3 (by decide) ?_
  refine gcSI X K (n0 := 3) (As := [.int x1, .int (0 : Int32), .int (12 : Int32)]) (rest := [.ref (ad 0)]) (hM := (met_M_in hl9 D ad ca sa _ x1 (0 : Int32) (12 : Int32) f a b _ hw)) (hg := wl_good) (w1 := (tm3 (i := 170) rfl rfl)) (w2 := (tm3 (i := 171) rfl rfl)) (w4 := (tm1 (i := 4) rfl rfl)) (w5 := (tm3 (i := 172) rfl rfl)) (hd := ⟨by decide, by decide, by decide +kernel⟩) (hrc := rfl) (hrs := rfl) (hR := ⟨Nat.le_of_ble_eq_true rfl, Nat.le_of_ble_eq_true rfl⟩) (hn := rfl) (hsz := hl.1) (hst := rfl) (hW := Nat.le_of_ble_eq_true rfl) (hdg := dM_reserve_5) (hf := ⟨Nat.le_of_ble_eq_true rfl, Nat.le_of_ble_eq_true rfl⟩) (fun _ _ _ _ _ _ _ _ hw => hw.elim) (fun r5 f5 a5 b5 H locs hw K => ?_)
  refine lv_if_eq (tgt := 21) hx hb dM_reserve_8 (by decide) (fun hc => ?_) (fun hc => ?_)
  · replace hw := hw.1 hc
    exact LM_reserve_21 X hex hr x1 x2 f5 a5 b5 hw _ _ K _ (lv_sub hl [0, 1, 2] rfl)
  · replace hw := hw.2 hc
    refine lv_iload_n hx hb dM_reserve_11 rfl (lv_at hl 2 rfl) ?_
    refine lv_iconst (v := (1 : Int32)) hx hb dM_reserve_12 (by decide) ?_
    refine lv_bipush (v := (10 : Int32)) hx hb dM_reserve_13 (by decide) ?_
    refine gcSI X K (n0 := 3) (As := [.int x2, .int (1 : Int32), .int (10 : Int32)]) (rest := [.ref (ad 0)]) (hM := (met_M_in hl9 D ad ca sa _ x2 (1 : Int32) (10 : Int32) f5 a5 b5 _ hw)) (hg := wl_good) (w1 := (tm3 (i := 170) rfl rfl)) (w2 := (tm3 (i := 171) rfl rfl)) (w4 := (tm1 (i := 4) rfl rfl)) (w5 := (tm3 (i := 172) rfl rfl)) (hd := ⟨by decide, by decide, by decide +kernel⟩) (hrc := rfl) (hrs := rfl) (hR := ⟨Nat.le_of_ble_eq_true rfl, Nat.le_of_ble_eq_true rfl⟩) (hn := rfl) (hsz := hl.1) (hst := rfl) (hW := Nat.le_of_ble_eq_true rfl) (hdg := dM_reserve_15) (hf := ⟨Nat.le_of_ble_eq_true rfl, Nat.le_of_ble_eq_true rfl⟩) (fun _ _ _ _ _ _ _ _ hw => hw.elim) (fun r15 f15 a15 b15 H locs hw K => ?_)
    refine lv_if_ne (tgt := 25) hx hb dM_reserve_18 (by decide) (fun hc => ?_) (fun hc => ?_)
    · replace hw := hw.1 hc
      refine lv_iconst (v := (0 : Int32)) hx hb dM_reserve_25 (by decide) ?_
      exact LM_reserve_26 X hex hr (0 : Int32) x1 x2 f15 a15 b15 hw _ _ K _ (lv_sub hl [0, 1, 2] rfl)
    · replace hw := hw.2 hc
      exact LM_reserve_21 X hex hr x1 x2 f15 a15 b15 hw _ _ K _ (lv_sub hl [0, 1, 2] rfl)
set_option maxHeartbeats 4000000 in
set_option maxRecDepth 100000 in
theorem LM_needOf_27 {p : Program} {l : Launch} {e : Env} {s : State} {m : MethodId} {below : List Frame} {meth : Method} {c : Code} {D : va_G} {sa : Nat → Nat} {ad : Nat → Nat} {ca : Nat → ClassId} {A : Nat → Prop} {y1 : Int32} {po : Int32 → wF → wA → wB → Prop} (X : cx Wl (tyS ca) txS D vwCl sa A p l s m ([.ref (ad 0), .int y1] : List Value).toArray meth c cM_needOf 4 "SendBestModel") (hex : ∀ x ∈ c.exceptionTable.toList, False) (hr : meth.sig.returnType = (some .int)) (J4 : Int32 → Int32 → Int32 → wF → wA → wB → Prop) (hJ4 : ∀ (x1 : Int32) (x2 : Int32) (x3 : Int32) (f : wF) (a : wA) (b : wB), J4 x1 x2 x3 f a b → ∀ (H : Heap) (locs : List Loc), wd nM kM D vwCl ad ca A s H locs f a b → ∀ (ls : Array Slot), lv_has ls 4 [(0, .ref (ad 0)), (1, .int x1), (2, .int x2), (3, .int x3)] → W p l e ({ frames := 0, cells := 0, slots := 0, locals := 0 }) s m ([.ref (ad 0), .int y1] : List Value).toArray below meth c H locs 0 0 (vx_MQ below (va_Qi (fun r (u : wF × wA × wB) => po r u.1 u.2.1 u.2.2) (sPost nM kM D vwCl ad ca A) A) (sX nM kM D vwCl ad ca A (fun _ _ _ _ => False)) ([.ref (ad 0), .int y1] : List Value).toArray s 0 0 A) (F0 m 4 ls [])) : ∀ (k0 : Int32) (x1 : Int32) (x3 : Int32) (f : wF) (a : wA) (b : wB), wp_M_needOf_27 po J4 k0 x1 x3 f a b → ∀ (H : Heap) (locs : List Loc), wd nM kM D vwCl ad ca A s H locs f a b → ∀ (ls : Array Slot), lv_has ls 4 [(0, .ref (ad 0)), (1, .int x1), (3, .int x3)] → W p l e ({ frames := 0, cells := 0, slots := 0, locals := 0 }) s m ([.ref (ad 0), .int y1] : List Value).toArray below meth c H locs 0 0 (vx_MQ below (va_Qi (fun r (u : wF × wA × wB) => po r u.1 u.2.1 u.2.2) (sPost nM kM D vwCl ad ca A) A) (sX nM kM D vwCl ad ca A (fun _ _ _ _ => False)) ([.ref (ad 0), .int y1] : List Value).toArray s 0 0 A) (F0 m 27 ls [.int k0]) := by
  obtain ⟨hx, hb, hml, hown, hts, hK, hA, hth, hlk, hl9⟩ := id X
  intro k0 x1 x3 f a b hw H locs K ls hl
  dsimp only [wp_M_needOf_27] at hw
  refine lv_istore_n (lv' := [(2, .int k0), (0, .ref (ad 0)), (1, .int x1), (3, .int x3)]) hx hb dM_needOf_27 rfl hl (by decide) rfl (fun ls hl => ?_)
  refine lv_iinc (v := (x3 + (1 : Int32))) (lv' := [(3, .int (x3 + (1 : Int32))), (2, .int k0), (0, .ref (ad 0)), (1, .int x1)]) hx hb dM_needOf_28 hl (k := 3) rfl rfl (by decide) rfl (fun ls hl => ?_)
  refine lv_goto (tgt := 4) hx hb dM_needOf_31 (by decide) ?_
  exact hJ4 x1 k0 (x3 + (1 : Int32)) f a b hw _ _ K _ (lv_sub hl [2, 3, 1, 0] rfl)
set_option maxHeartbeats 4000000 in
set_option maxRecDepth 100000 in
theorem LM_needOf_4 {p : Program} {l : Launch} {e : Env} {s : State} {m : MethodId} {below : List Frame} {meth : Method} {c : Code} {D : va_G} {sa : Nat → Nat} {ad : Nat → Nat} {ca : Nat → ClassId} {A : Nat → Prop} {y1 : Int32} {po : Int32 → wF → wA → wB → Prop} (X : cx Wl (tyS ca) txS D vwCl sa A p l s m ([.ref (ad 0), .int y1] : List Value).toArray meth c cM_needOf 4 "SendBestModel") (hex : ∀ x ∈ c.exceptionTable.toList, False) (hr : meth.sig.returnType = (some .int)) : ∀ n : Nat, ∀ (x1 : Int32) (x2 : Int32) (x3 : Int32) (f : wF) (a : wA) (b : wB), wp_M_needOf_4 po n x1 x2 x3 f a b → ∀ (H : Heap) (locs : List Loc), wd nM kM D vwCl ad ca A s H locs f a b → ∀ (ls : Array Slot), lv_has ls 4 [(0, .ref (ad 0)), (1, .int x1), (2, .int x2), (3, .int x3)] → W p l e ({ frames := 0, cells := 0, slots := 0, locals := 0 }) s m ([.ref (ad 0), .int y1] : List Value).toArray below meth c H locs 0 0 (vx_MQ below (va_Qi (fun r (u : wF × wA × wB) => po r u.1 u.2.1 u.2.2) (sPost nM kM D vwCl ad ca A) A) (sX nM kM D vwCl ad ca A (fun _ _ _ _ => False)) ([.ref (ad 0), .int y1] : List Value).toArray s 0 0 A) (F0 m 4 ls []) := by
  obtain ⟨hx, hb, hml, hown, hts, hK, hA, hth, hlk, hl9⟩ := id X
  intro n
  induction n with
  | zero => intro x1 x2 x3 f a b hw; exact hw.elim
  | succ n ih =>
    intro x1 x2 x3 f a b hw H locs K ls hl
    dsimp only [wp_M_needOf_4] at hw
    refine lv_iload_n hx hb dM_needOf_4 rfl (lv_at hl 3 rfl) ?_
    refine lv_aload_n hx hb dM_needOf_5 rfl (lv_at hl 0 rfl) ?_
    refine gGet X K (o := 0) (k := 8) (v := .int (f 3)) (by decide) kM_o0 rfl inM_o0 (by decide) (tm3 (i := 111) rfl rfl) rfl dM_needOf_6 ?_
    refine lv_icmp_ge (tgt := 34) hx hb dM_needOf_9 (by decide) (fun hc => ?_) (fun hc => ?_)
    · replace hw := hw.1 hc
      refine lv_iload_n hx hb dM_needOf_34 rfl (lv_at hl 2 rfl) ?_
      exact endI X K hr rfl hw (by decide) (by decide) dM_needOf_35
    · replace hw := hw.2 hc
      refine lv_aload_n hx hb dM_needOf_12 rfl (lv_at hl 0 rfl) ?_
      refine gGet X K (o := 0) (k := 11) (v := .ref (ad 8)) (by decide) kM_o0 rfl inM_o0 (by decide) (tm3 (i := 114) rfl rfl) rfl dM_needOf_13 ?_
      refine lv_iload_n hx hb dM_needOf_16 rfl (lv_at hl 3 rfl) ?_
      obtain ⟨hi, hw⟩ := hw
      refine gild X K (o := 8) (t0 := 0) (by decide) kM_c8 rfl hi dM_needOf_17 ?_
      refine lv_iload_n hx hb dM_needOf_18 rfl (lv_at hl 1 rfl) ?_
      refine lv_icmp_ne (tgt := 26) hx hb dM_needOf_19 (by decide) (fun hc => ?_) (fun hc => ?_)
      · replace hw := hw.1 hc
        refine lv_iload_n hx hb dM_needOf_26 rfl (lv_at hl 2 rfl) ?_
        exact LM_needOf_27 X hex hr (wp_M_needOf_4 po n) ih x2 x1 x3 f a b hw _ _ K _ (lv_sub hl [0, 1, 3] rfl)
      · replace hw := hw.2 hc
        refine lv_iload_n hx hb dM_needOf_22 rfl (lv_at hl 3 rfl) ?_
        refine lv_goto (tgt := 27) hx hb dM_needOf_23 (by decide) ?_
        exact LM_needOf_27 X hex hr (wp_M_needOf_4 po n) ih x3 x1 x3 f a b hw _ _ K _ (lv_sub hl [0, 1, 3] rfl)
set_option maxHeartbeats 4000000 in
set_option maxRecDepth 100000 in
theorem met_M_needOf {l : Launch} (hl9 : l.stackTraces = false) (D : va_G) (ad : Nat → Nat) (ca : Nat → ClassId) (sa : Nat → Nat) (sz : Nat) (x1 : Int32) (f : wF) (a : wA) (b : wB) (po : Int32 → wF → wA → wB → Prop) (hw : wp_M_needOf po x1 f a b) : mI nM kM (tyS ca) txS D vwCl l yM_needOf (Cond.code yM_needOf cM_needOf 4 (some .int) :: Wl) ({ frames := 0, cells := 0, slots := 0, locals := 0 }) [.ref (ad 0), .int x1] ad ca sa sz f a b po (fun _ _ _ _ => False) 0 0 := by
  refine ofI (by decide) hl9 (Nat.le_of_ble_eq_true rfl) ?_
  intro p e s m below meth c ls X hex hr K hl
  obtain ⟨hx, hb, hml, hown, hts, hK, hA, hth, hlk, hl9⟩ := id X
  have hl : lv_has ls 4 [(0, .ref (ad 0)), (1, .int x1)] := hl
  dsimp only [wp_M_needOf] at hw
  refine lv_iconst (v := (-1 : Int32)) hx hb dM_needOf_0 (by decide) ?_
  refine lv_istore_n (lv' := [(2, .int (-1 : Int32)), (0, .ref (ad 0)), (1, .int x1)]) hx hb dM_needOf_1 rfl hl (by decide) rfl (fun ls hl => ?_)
  refine lv_iconst (v := (0 : Int32)) hx hb dM_needOf_2 (by decide) ?_
  refine lv_istore_n (lv' := [(3, .int (0 : Int32)), (2, .int (-1 : Int32)), (0, .ref (ad 0)), (1, .int x1)]) hx hb dM_needOf_3 rfl hl (by decide) rfl (fun ls hl => ?_)
  obtain ⟨n9, hw⟩ := hw
  exact LM_needOf_4 X hex hr n9 x1 (-1 : Int32) (0 : Int32) f a b hw _ _ K _ (lv_sub hl [2, 3, 1, 0] rfl)
set_option maxHeartbeats 4000000 in
set_option maxRecDepth 100000 in
theorem met_M_leave {l : Launch} (hl9 : l.stackTraces = false) (D : va_G) (ad : Nat → Nat) (ca : Nat → ClassId) (sa : Nat → Nat) (sz : Nat) (x1 : Int32) (f : wF) (a : wA) (b : wB) (po : wF → wA → wB → Prop) (hw : wp_M_leave po x1 f a b) : mV nM kM (tyS ca) txS D vwCl l yM_leave (Cond.code yM_leave cM_leave 2 none :: Wl) ({ frames := 0, cells := 0, slots := 0, locals := 0 }) [.ref (ad 0), .int x1] ad ca sa sz f a b po (fun _ _ _ _ => False) 0 0 := by
  refine ofV (by decide) hl9 (Nat.le_of_ble_eq_true rfl) ?_
  intro p e s m below meth c ls X hex hr K hl
  obtain ⟨hx, hb, hml, hown, hts, hK, hA, hth, hlk, hl9⟩ := id X
  have hl : lv_has ls 2 [(0, .ref (ad 0)), (1, .int x1)] := hl
  dsimp only [wp_M_leave] at hw
  refine lv_aload_n hx hb dM_leave_0 rfl (lv_at hl 0 rfl) ?_
  refine gGet X K (o := 0) (k := 11) (v := .ref (ad 8)) (by decide) kM_o0 rfl inM_o0 (by decide) (tm3 (i := 114) rfl rfl) rfl dM_leave_1 ?_
  refine lv_iload_n hx hb dM_leave_4 rfl (lv_at hl 1 rfl) ?_
  refine lv_iconst (v := (-1 : Int32)) hx hb dM_leave_5 (by decide) ?_
  obtain ⟨hi, hw⟩ := hw
  refine gist X K (o := 8) (t0 := 0) (by decide) kM_c8 rfl hi dM_leave_6 kM_p8 (fun H locs K => ?_)
  refine lv_aload_n hx hb dM_leave_7 rfl (lv_at hl 0 rfl) ?_
  refine gGet X K (o := 0) (k := 12) (v := .ref (ad 9)) (by decide) kM_o0 rfl inM_o0 (by decide) (tm3 (i := 115) rfl rfl) rfl dM_leave_8 ?_
  refine lv_iload_n hx hb dM_leave_11 rfl (lv_at hl 1 rfl) ?_
  refine lv_iconst (v := (0 : Int32)) hx hb dM_leave_12 (by decide) ?_
  obtain ⟨hi, hw⟩ := hw
  refine gzst X K (o := 9) (t0 := 1) (by decide) kM_c9 rfl hi dM_leave_13 kM_p9 (fun H locs K => ?_)
  exact endV X K hr hw (by decide) (by decide) dM_leave_14
set_option maxHeartbeats 4000000 in
set_option maxRecDepth 100000 in
theorem LM_broken_76 {p : Program} {l : Launch} {e : Env} {s : State} {m : MethodId} {below : List Frame} {meth : Method} {c : Code} {D : va_G} {sa : Nat → Nat} {ad : Nat → Nat} {ca : Nat → ClassId} {A : Nat → Prop} {y1 : Int32} {y2 : Int32} {po : wF → wA → wB → Prop} (X : cx Wl (tyS ca) txS D vwCl sa A p l s m ([.ref (ad 0), .int y1, .int y2] : List Value).toArray meth c cM_broken 4 "SendBestModel") (hex : ∀ x ∈ c.exceptionTable.toList, False) (hr : meth.sig.returnType = none) : ∀ (f : wF) (a : wA) (b : wB), wp_M_broken_76 po f a b → ∀ (H : Heap) (locs : List Loc), wd nM kM D vwCl ad ca A s H locs f a b → ∀ (ls : Array Slot), lv_has ls 4 [] → W p l e ({ frames := 2, cells := 0, slots := 0, locals := 43 }) s m ([.ref (ad 0), .int y1, .int y2] : List Value).toArray below meth c H locs 0 0 (vx_MQ below (va_Qv (fun (u : wF × wA × wB) => po u.1 u.2.1 u.2.2) (sPost nM kM D vwCl ad ca A) A) (sX nM kM D vwCl ad ca A (fun _ _ _ _ => False)) ([.ref (ad 0), .int y1, .int y2] : List Value).toArray s 0 0 A) (F0 m 76 ls []) := by
  obtain ⟨hx, hb, hml, hown, hts, hK, hA, hth, hlk, hl9⟩ := id X
  intro  f a b hw H locs K ls hl
  dsimp only [wp_M_broken_76] at hw
  exact endV X K hr hw (by decide) (by decide) dM_broken_76
set_option maxHeartbeats 4000000 in
set_option maxRecDepth 100000 in
theorem LM_broken_43 {p : Program} {l : Launch} {e : Env} {s : State} {m : MethodId} {below : List Frame} {meth : Method} {c : Code} {D : va_G} {sa : Nat → Nat} {ad : Nat → Nat} {ca : Nat → ClassId} {A : Nat → Prop} {y1 : Int32} {y2 : Int32} {po : wF → wA → wB → Prop} (X : cx Wl (tyS ca) txS D vwCl sa A p l s m ([.ref (ad 0), .int y1, .int y2] : List Value).toArray meth c cM_broken 4 "SendBestModel") (hex : ∀ x ∈ c.exceptionTable.toList, False) (hr : meth.sig.returnType = none) : ∀ (k0 : Int32) (k1 : Int32) (x1 : Int32) (x2 : Int32) (f : wF) (a : wA) (b : wB), wp_M_broken_43 po k0 k1 x1 x2 f a b → ∀ (H : Heap) (locs : List Loc), wd nM kM D vwCl ad ca A s H locs f a b → ∀ (ls : Array Slot), lv_has ls 4 [(0, .ref (ad 0)), (1, .int x1), (2, .int x2)] → W p l e ({ frames := 2, cells := 0, slots := 0, locals := 43 }) s m ([.ref (ad 0), .int y1, .int y2] : List Value).toArray below meth c H locs 0 0 (vx_MQ below (va_Qv (fun (u : wF × wA × wB) => po u.1 u.2.1 u.2.2) (sPost nM kM D vwCl ad ca A) A) (sX nM kM D vwCl ad ca A (fun _ _ _ _ => False)) ([.ref (ad 0), .int y1, .int y2] : List Value).toArray s 0 0 A) (F0 m 43 ls [.int k0, .int k1, .ref (ad 0)]) := by
  obtain ⟨hx, hb, hml, hown, hts, hK, hA, hth, hlk, hl9⟩ := id X
  intro k0 k1 x1 x2 f a b hw H locs K ls hl
  dsimp only [wp_M_broken_43] at hw
  refine lv_iconst (v := (0 : Int32)) hx hb dM_broken_43 (by decide) ?_
  refine lv_iconst (v := (0 : Int32)) hx hb dM_broken_44 (by decide) ?_
  refine gcI X K (n0 := 4) (As := [.int k1, .int k0, .int (0 : Int32), .int (0 : Int32)]) (rest := []) (hM := (met_M_throwing hl9 D ad ca sa _ k1 k0 (0 : Int32) (0 : Int32) f a b _ hw)) (o := 0) (ho := by decide) (hko := kM_o0) (hci := rfl) (hg := wl_good) (w1 := (tm3 (i := 173) rfl rfl)) (w2 := (tm3 (i := 175) rfl rfl)) (w3 := (tm0 (i := 30) rfl rfl)) (w4 := (tm1 (i := 4) rfl rfl)) (w5 := (tm3 (i := 176) rfl rfl)) (hd := ⟨rfl, by decide, by decide, by decide +kernel⟩) (hrc := rfl) (hrs := rfl) (hR := ⟨Nat.le_of_ble_eq_true rfl, Nat.le_of_ble_eq_true rfl⟩) (hn := rfl) (hsz := hl.1) (hst := rfl) (hW := Nat.le_of_ble_eq_true rfl) (hdg := dM_broken_45) (hf := ⟨Nat.le_of_ble_eq_true rfl, Nat.le_of_ble_eq_true rfl⟩) (fun _ _ _ _ _ _ _ _ hw => hw.elim) (fun r45 f45 a45 b45 H locs hw K => ?_)
  refine lv_if_eq (tgt := 52) hx hb dM_broken_48 (by decide) (fun hc => ?_) (fun hc => ?_)
  · replace hw := hw.1 hc
    refine lv_aload_n hx hb dM_broken_52 rfl (lv_at hl 0 rfl) ?_
    refine gGet X K (o := 0) (k := 3) (v := .ref (ad 2)) (by decide) kM_o0 rfl inM_o0 (by decide) (tm3 (i := 106) rfl rfl) rfl dM_broken_53 ?_
    refine lv_iload_n hx hb dM_broken_56 rfl (lv_at hl 1 rfl) ?_
    refine lv_iload_n hx hb dM_broken_57 rfl (lv_at hl 2 rfl) ?_
    obtain ⟨hi, hw⟩ := hw
    refine gzst X K (o := 2) (t0 := 1) (by decide) kM_c2 rfl hi dM_broken_58 kM_p2 (fun H locs K => ?_)
    refine lv_aload_n hx hb dM_broken_59 rfl (lv_at hl 0 rfl) ?_
    refine lv_iload_n hx hb dM_broken_60 rfl (lv_at hl 1 rfl) ?_
    refine gcI X K (n0 := 1) (As := [.int x1]) (rest := []) (hM := (met_M_needOf hl9 D ad ca sa _ x1 f45 (va_up a45 2 (upd (a45 2) x1.toNatClampNeg (vp_nar .boolean x2))) b45 _ hw)) (o := 0) (ho := by decide) (hko := kM_o0) (hci := rfl) (hg := wl_good) (w1 := (tm3 (i := 214) rfl rfl)) (w2 := (tm3 (i := 216) rfl rfl)) (w3 := (tm0 (i := 33) rfl rfl)) (w4 := (tm1 (i := 4) rfl rfl)) (w5 := (tm3 (i := 217) rfl rfl)) (hd := ⟨rfl, by decide, by decide, by decide +kernel⟩) (hrc := rfl) (hrs := rfl) (hR := ⟨Nat.le_of_ble_eq_true rfl, Nat.le_of_ble_eq_true rfl⟩) (hn := rfl) (hsz := hl.1) (hst := rfl) (hW := Nat.le_of_ble_eq_true rfl) (hdg := dM_broken_61) (hf := ⟨Nat.le_of_ble_eq_true rfl, Nat.le_of_ble_eq_true rfl⟩) (fun _ _ _ _ _ _ _ _ hw => hw.elim) (fun r61 f61 a61 b61 H locs hw K => ?_)
    refine lv_if_lt (tgt := 76) hx hb dM_broken_64 (by decide) (fun hc => ?_) (fun hc => ?_)
    · replace hw := hw.1 hc
      exact LM_broken_76 X hex hr f61 a61 b61 hw _ _ K _ (lv_sub hl [] rfl)
    · replace hw := hw.2 hc
      refine lv_aload_n hx hb dM_broken_67 rfl (lv_at hl 0 rfl) ?_
      refine lv_aload_n hx hb dM_broken_68 rfl (lv_at hl 0 rfl) ?_
      refine lv_iload_n hx hb dM_broken_69 rfl (lv_at hl 1 rfl) ?_
      refine gcI X K (n0 := 1) (As := [.int x1]) (rest := [.ref (ad 0)]) (hM := (met_M_needOf hl9 D ad ca sa _ x1 f61 a61 b61 _ hw)) (o := 0) (ho := by decide) (hko := kM_o0) (hci := rfl) (hg := wl_good) (w1 := (tm3 (i := 214) rfl rfl)) (w2 := (tm3 (i := 216) rfl rfl)) (w3 := (tm0 (i := 33) rfl rfl)) (w4 := (tm1 (i := 4) rfl rfl)) (w5 := (tm3 (i := 217) rfl rfl)) (hd := ⟨rfl, by decide, by decide, by decide +kernel⟩) (hrc := rfl) (hrs := rfl) (hR := ⟨Nat.le_of_ble_eq_true rfl, Nat.le_of_ble_eq_true rfl⟩) (hn := rfl) (hsz := hl.1) (hst := rfl) (hW := Nat.le_of_ble_eq_true rfl) (hdg := dM_broken_70) (hf := ⟨Nat.le_of_ble_eq_true rfl, Nat.le_of_ble_eq_true rfl⟩) (fun _ _ _ _ _ _ _ _ hw => hw.elim) (fun r70 f70 a70 b70 H locs hw K => ?_)
      refine gcV X K (n0 := 1) (As := [.int r70]) (rest := []) (hM := (met_M_leave hl9 D ad ca sa _ r70 f70 a70 b70 _ hw)) (o := 0) (ho := by decide) (hko := kM_o0) (hci := rfl) (hg := wl_good) (w1 := (tm3 (i := 218) rfl rfl)) (w2 := (tm3 (i := 220) rfl rfl)) (w3 := (tm0 (i := 34) rfl rfl)) (w4 := (tm1 (i := 4) rfl rfl)) (w5 := (tm3 (i := 221) rfl rfl)) (hd := ⟨rfl, by decide, by decide, by decide +kernel⟩) (hrc := rfl) (hrs := rfl) (hR := ⟨Nat.le_of_ble_eq_true rfl, Nat.le_of_ble_eq_true rfl⟩) (hn := rfl) (hsz := hl.1) (hst := rfl) (hW := Nat.le_of_ble_eq_true rfl) (hdg := dM_broken_73) (hf := ⟨Nat.le_of_ble_eq_true rfl, Nat.le_of_ble_eq_true rfl⟩) (fun _ _ _ _ _ _ _ _ hw => hw.elim) (fun f73 a73 b73 H locs hw K => ?_)
      exact LM_broken_76 X hex hr f73 a73 b73 hw _ _ K _ (lv_sub hl [] rfl)
  · replace hw := hw.2 hc
    exact endV X K hr hw (by decide) (by decide) dM_broken_51
set_option maxHeartbeats 4000000 in
set_option maxRecDepth 100000 in
theorem LM_broken_42 {p : Program} {l : Launch} {e : Env} {s : State} {m : MethodId} {below : List Frame} {meth : Method} {c : Code} {D : va_G} {sa : Nat → Nat} {ad : Nat → Nat} {ca : Nat → ClassId} {A : Nat → Prop} {y1 : Int32} {y2 : Int32} {po : wF → wA → wB → Prop} (X : cx Wl (tyS ca) txS D vwCl sa A p l s m ([.ref (ad 0), .int y1, .int y2] : List Value).toArray meth c cM_broken 4 "SendBestModel") (hex : ∀ x ∈ c.exceptionTable.toList, False) (hr : meth.sig.returnType = none) : ∀ (k0 : Int32) (x1 : Int32) (x2 : Int32) (f : wF) (a : wA) (b : wB), wp_M_broken_42 po k0 x1 x2 f a b → ∀ (H : Heap) (locs : List Loc), wd nM kM D vwCl ad ca A s H locs f a b → ∀ (ls : Array Slot), lv_has ls 4 [(0, .ref (ad 0)), (1, .int x1), (2, .int x2)] → W p l e ({ frames := 2, cells := 0, slots := 0, locals := 43 }) s m ([.ref (ad 0), .int y1, .int y2] : List Value).toArray below meth c H locs 0 0 (vx_MQ below (va_Qv (fun (u : wF × wA × wB) => po u.1 u.2.1 u.2.2) (sPost nM kM D vwCl ad ca A) A) (sX nM kM D vwCl ad ca A (fun _ _ _ _ => False)) ([.ref (ad 0), .int y1, .int y2] : List Value).toArray s 0 0 A) (F0 m 42 ls [.int k0, .ref (ad 0)]) := by
  obtain ⟨hx, hb, hml, hown, hts, hK, hA, hth, hlk, hl9⟩ := id X
  intro k0 x1 x2 f a b hw H locs K ls hl
  dsimp only [wp_M_broken_42] at hw
  refine lv_iconst (v := (0 : Int32)) hx hb dM_broken_42 (by decide) ?_
  exact LM_broken_43 X hex hr (0 : Int32) k0 x1 x2 f a b hw _ _ K _ (lv_sub hl [0, 1, 2] rfl)
set_option maxHeartbeats 4000000 in
set_option maxRecDepth 100000 in
theorem LM_broken_33 {p : Program} {l : Launch} {e : Env} {s : State} {m : MethodId} {below : List Frame} {meth : Method} {c : Code} {D : va_G} {sa : Nat → Nat} {ad : Nat → Nat} {ca : Nat → ClassId} {A : Nat → Prop} {y1 : Int32} {y2 : Int32} {po : wF → wA → wB → Prop} (X : cx Wl (tyS ca) txS D vwCl sa A p l s m ([.ref (ad 0), .int y1, .int y2] : List Value).toArray meth c cM_broken 4 "SendBestModel") (hex : ∀ x ∈ c.exceptionTable.toList, False) (hr : meth.sig.returnType = none) : ∀ (k0 : Int32) (k2 : Int32) (x1 : Int32) (x2 : Int32) (f : wF) (a : wA) (b : wB), wp_M_broken_33 po k0 k2 x1 x2 f a b → ∀ (H : Heap) (locs : List Loc), wd nM kM D vwCl ad ca A s H locs f a b → ∀ (ls : Array Slot), lv_has ls 4 [(0, .ref (ad 0)), (1, .int x1), (2, .int x2)] → W p l e ({ frames := 2, cells := 0, slots := 0, locals := 43 }) s m ([.ref (ad 0), .int y1, .int y2] : List Value).toArray below meth c H locs 0 0 (vx_MQ below (va_Qv (fun (u : wF × wA × wB) => po u.1 u.2.1 u.2.2) (sPost nM kM D vwCl ad ca A) A) (sX nM kM D vwCl ad ca A (fun _ _ _ _ => False)) ([.ref (ad 0), .int y1, .int y2] : List Value).toArray s 0 0 A) (F0 m 33 ls [.int k0, .ref (ad 2), .int k2, .ref (ad 0)]) := by
  obtain ⟨hx, hb, hml, hown, hts, hK, hA, hth, hlk, hl9⟩ := id X
  intro k0 k2 x1 x2 f a b hw H locs K ls hl
  dsimp only [wp_M_broken_33] at hw
  obtain ⟨hi, hw⟩ := hw
  refine gzld X K (o := 2) (t0 := 1) (by decide) kM_c2 rfl hi dM_broken_33 ?_
  refine lv_iload_n hx hb dM_broken_34 rfl (lv_at hl 2 rfl) ?_
  refine lv_icmp_ne (tgt := 42) hx hb dM_broken_35 (by decide) (fun hc => ?_) (fun hc => ?_)
  · replace hw := hw.1 hc
    exact LM_broken_42 X hex hr k2 x1 x2 f a b hw _ _ K _ (lv_sub hl [0, 1, 2] rfl)
  · replace hw := hw.2 hc
    refine lv_iconst (v := (1 : Int32)) hx hb dM_broken_38 (by decide) ?_
    refine lv_goto (tgt := 43) hx hb dM_broken_39 (by decide) ?_
    exact LM_broken_43 X hex hr (1 : Int32) k2 x1 x2 f a b hw _ _ K _ (lv_sub hl [0, 1, 2] rfl)
set_option maxHeartbeats 4000000 in
set_option maxRecDepth 100000 in
theorem LM_broken_13 {p : Program} {l : Launch} {e : Env} {s : State} {m : MethodId} {below : List Frame} {meth : Method} {c : Code} {D : va_G} {sa : Nat → Nat} {ad : Nat → Nat} {ca : Nat → ClassId} {A : Nat → Prop} {y1 : Int32} {y2 : Int32} {po : wF → wA → wB → Prop} (X : cx Wl (tyS ca) txS D vwCl sa A p l s m ([.ref (ad 0), .int y1, .int y2] : List Value).toArray meth c cM_broken 4 "SendBestModel") (hex : ∀ x ∈ c.exceptionTable.toList, False) (hr : meth.sig.returnType = none) : ∀ (k0 : Int32) (x1 : Int32) (x2 : Int32) (f : wF) (a : wA) (b : wB), wp_M_broken_13 po k0 x1 x2 f a b → ∀ (H : Heap) (locs : List Loc), wd nM kM D vwCl ad ca A s H locs f a b → ∀ (ls : Array Slot), lv_has ls 4 [(0, .ref (ad 0)), (1, .int x1), (2, .int x2)] → W p l e ({ frames := 2, cells := 0, slots := 0, locals := 43 }) s m ([.ref (ad 0), .int y1, .int y2] : List Value).toArray below meth c H locs 0 0 (vx_MQ below (va_Qv (fun (u : wF × wA × wB) => po u.1 u.2.1 u.2.2) (sPost nM kM D vwCl ad ca A) A) (sX nM kM D vwCl ad ca A (fun _ _ _ _ => False)) ([.ref (ad 0), .int y1, .int y2] : List Value).toArray s 0 0 A) (F0 m 13 ls [.int k0]) := by
  obtain ⟨hx, hb, hml, hown, hts, hK, hA, hth, hlk, hl9⟩ := id X
  intro k0 x1 x2 f a b hw H locs K ls hl
  dsimp only [wp_M_broken_13] at hw
  refine lv_istore_n (lv' := [(3, .int k0), (0, .ref (ad 0)), (1, .int x1), (2, .int x2)]) hx hb dM_broken_13 rfl hl (by decide) rfl (fun ls hl => ?_)
  refine lv_aload_n hx hb dM_broken_14 rfl (lv_at hl 1 rfl) ?_
  refine lv_iload_n hx hb dM_broken_15 rfl (lv_at hl 0 rfl) ?_
  refine lv_iload_n hx hb dM_broken_16 rfl (lv_at hl 0 rfl) ?_
  refine lv_if_ne (tgt := 42) hx hb dM_broken_17 (by decide) (fun hc => ?_) (fun hc => ?_)
  · replace hw := hw.1 hc
    exact LM_broken_42 X hex hr k0 x1 x2 f a b hw _ _ K _ (lv_sub hl [1, 2, 3] rfl)
  · replace hw := hw.2 hc
    refine lv_aload_n hx hb dM_broken_20 rfl (lv_at hl 1 rfl) ?_
    refine gGet X K (o := 0) (k := 3) (v := .ref (ad 2)) (by decide) kM_o0 rfl inM_o0 (by decide) (tm3 (i := 106) rfl rfl) rfl dM_broken_21 ?_
    refine lv_iload_n hx hb dM_broken_24 rfl (lv_at hl 0 rfl) ?_
    refine lv_if_eq (tgt := 32) hx hb dM_broken_25 (by decide) (fun hc => ?_) (fun hc => ?_)
    · replace hw := hw.1 hc
      refine lv_iload_n hx hb dM_broken_32 rfl (lv_at hl 2 rfl) ?_
      exact LM_broken_33 X hex hr x1 k0 x1 x2 f a b hw _ _ K _ (lv_sub hl [1, 2, 3] rfl)
    · replace hw := hw.2 hc
      refine lv_iconst (v := (0 : Int32)) hx hb dM_broken_28 (by decide) ?_
      refine lv_goto (tgt := 33) hx hb dM_broken_29 (by decide) ?_
      exact LM_broken_33 X hex hr (0 : Int32) k0 x1 x2 f a b hw _ _ K _ (lv_sub hl [1, 2, 3] rfl)
set_option maxHeartbeats 4000000 in
set_option maxRecDepth 100000 in
theorem met_M_broken {l : Launch} (hl9 : l.stackTraces = false) (D : va_G) (ad : Nat → Nat) (ca : Nat → ClassId) (sa : Nat → Nat) (sz : Nat) (x1 : Int32) (x2 : Int32) (f : wF) (a : wA) (b : wB) (po : wF → wA → wB → Prop) (hw : wp_M_broken po x1 x2 f a b) : mV nM kM (tyS ca) txS D vwCl l yM_broken (Cond.code yM_broken cM_broken 4 none :: Wl) ({ frames := 2, cells := 0, slots := 0, locals := 43 }) [.ref (ad 0), .int x1, .int x2] ad ca sa sz f a b po (fun _ _ _ _ => False) 0 0 := by
  refine ofV (by decide) hl9 (Nat.le_of_ble_eq_true rfl) ?_
  intro p e s m below meth c ls X hex hr K hl
  obtain ⟨hx, hb, hml, hown, hts, hK, hA, hth, hlk, hl9⟩ := id X
  have hl : lv_has ls 4 [(0, .ref (ad 0)), (1, .int x1), (2, .int x2)] := hl
  dsimp only [wp_M_broken] at hw
  refine lv_aload_n hx hb dM_broken_0 rfl (lv_at hl 0 rfl) ?_
  refine lv_iload_n hx hb dM_broken_1 rfl (lv_at hl 1 rfl) ?_
  refine gcI X K (n0 := 1) (As := [.int x1]) (rest := []) (hM := (met_M_isUnit hl9 D ad ca sa _ x1 f a b _ hw)) (o := 0) (ho := by decide) (hko := kM_o0) (hci := rfl) (hg := wl_good) (w1 := (tm3 (i := 197) rfl rfl)) (w2 := (tm3 (i := 199) rfl rfl)) (w3 := (tm0 (i := 32) rfl rfl)) (w4 := (tm1 (i := 4) rfl rfl)) (w5 := (tm3 (i := 200) rfl rfl)) (hd := ⟨rfl, by decide, by decide, by decide +kernel⟩) (hrc := rfl) (hrs := rfl) (hR := ⟨Nat.le_of_ble_eq_true rfl, Nat.le_of_ble_eq_true rfl⟩) (hn := rfl) (hsz := hl.1) (hst := rfl) (hW := Nat.le_of_ble_eq_true rfl) (hdg := dM_broken_2) (hf := ⟨Nat.le_of_ble_eq_true rfl, Nat.le_of_ble_eq_true rfl⟩) (fun _ _ _ _ _ _ _ _ hw => hw.elim) (fun r2 f2 a2 b2 H locs hw K => ?_)
  refine lv_if_ne (tgt := 12) hx hb dM_broken_5 (by decide) (fun hc => ?_) (fun hc => ?_)
  · replace hw := hw.1 hc
    refine lv_iconst (v := (0 : Int32)) hx hb dM_broken_12 (by decide) ?_
    exact LM_broken_13 X hex hr (0 : Int32) x1 x2 f2 a2 b2 hw _ _ K _ (lv_sub hl [0, 1, 2] rfl)
  · replace hw := hw.2 hc
    refine lv_iconst (v := (1 : Int32)) hx hb dM_broken_8 (by decide) ?_
    refine lv_goto (tgt := 13) hx hb dM_broken_9 (by decide) ?_
    exact LM_broken_13 X hex hr (1 : Int32) x1 x2 f2 a2 b2 hw _ _ K _ (lv_sub hl [0, 1, 2] rfl)
