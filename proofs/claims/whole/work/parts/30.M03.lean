set_option maxHeartbeats 4000000 in
set_option maxRecDepth 100000 in
theorem LM_send_293 {p : Program} {l : Launch} {e : Env} {s : State} {m : MethodId} {below : List Frame} {meth : Method} {c : Code} {D : va_G} {sa : Nat → Nat} {ad : Nat → Nat} {ca : Nat → ClassId} {A : Nat → Prop} {y1 : Int32} {po : Int32 → wF → wA → wB → Prop} (X : cx Wl (tyS ca) txS D vwCl sa A p l s m ([.ref (ad 0), .int y1] : List Value).toArray meth c cM_send 12 "SendBestModel") (hex : ∀ x ∈ c.exceptionTable.toList, False) (hr : meth.sig.returnType = (some .int)) (J258 : Int32 → Int32 → wF → wA → wB → Prop) (hJ258 : ∀ (x8 : Int32) (x9 : Int32) (f : wF) (a : wA) (b : wB), J258 x8 x9 f a b → ∀ (H : Heap) (locs : List Loc), wd nM kM D vwCl ad ca A s H locs f a b → ∀ (ls : Array Slot), lv_has ls 12 [(0, .ref (ad 0)), (8, .int x8), (9, .int x9)] → W p l e ({ frames := 4, cells := 0, slots := 0, locals := 95 }) s m ([.ref (ad 0), .int y1] : List Value).toArray below meth c H locs 0 0 (vx_MQ below (va_Qi (fun r (u : wF × wA × wB) => po r u.1 u.2.1 u.2.2) (sPost nM kM D vwCl ad ca A) A) (sX nM kM D vwCl ad ca A (fun _ _ _ _ => False)) ([.ref (ad 0), .int y1] : List Value).toArray s 0 0 A) (F0 m 258 ls [])) : ∀ (k0 : Int32) (k1 : Int32) (x9 : Int32) (f : wF) (a : wA) (b : wB), wp_M_send_293 po J258 k0 k1 x9 f a b → ∀ (H : Heap) (locs : List Loc), wd nM kM D vwCl ad ca A s H locs f a b → ∀ (ls : Array Slot), lv_has ls 12 [(0, .ref (ad 0)), (9, .int x9)] → W p l e ({ frames := 4, cells := 0, slots := 0, locals := 95 }) s m ([.ref (ad 0), .int y1] : List Value).toArray below meth c H locs 0 0 (vx_MQ below (va_Qi (fun r (u : wF × wA × wB) => po r u.1 u.2.1 u.2.2) (sPost nM kM D vwCl ad ca A) A) (sX nM kM D vwCl ad ca A (fun _ _ _ _ => False)) ([.ref (ad 0), .int y1] : List Value).toArray s 0 0 A) (F0 m 293 ls [.int k0, .int k1]) := by
  obtain ⟨hx, hb, hml, hown, hts, hK, hA, hth, hlk, hl9⟩ := id X
  intro k0 k1 x9 f a b hw H locs K ls hl
  dsimp only [wp_M_send_293] at hw
  refine lv_iadd hx hb dM_send_293 ?_
  refine lv_istore (lv' := [(8, .int (k1 + k0)), (0, .ref (ad 0)), (9, .int x9)]) hx hb dM_send_294 hl (by decide) rfl (fun ls hl => ?_)
  refine lv_iinc (v := (x9 + (1 : Int32))) (lv' := [(9, .int (x9 + (1 : Int32))), (8, .int (k1 + k0)), (0, .ref (ad 0))]) hx hb dM_send_296 hl (k := 2) rfl rfl (by decide) rfl (fun ls hl => ?_)
  refine lv_goto (tgt := 258) hx hb dM_send_299 (by decide) ?_
  exact hJ258 (k1 + k0) (x9 + (1 : Int32)) f a b hw _ _ K _ (lv_sub hl [2, 1, 0] rfl)
set_option maxHeartbeats 4000000 in
set_option maxRecDepth 100000 in
theorem LM_send_292 {p : Program} {l : Launch} {e : Env} {s : State} {m : MethodId} {below : List Frame} {meth : Method} {c : Code} {D : va_G} {sa : Nat → Nat} {ad : Nat → Nat} {ca : Nat → ClassId} {A : Nat → Prop} {y1 : Int32} {po : Int32 → wF → wA → wB → Prop} (X : cx Wl (tyS ca) txS D vwCl sa A p l s m ([.ref (ad 0), .int y1] : List Value).toArray meth c cM_send 12 "SendBestModel") (hex : ∀ x ∈ c.exceptionTable.toList, False) (hr : meth.sig.returnType = (some .int)) (J258 : Int32 → Int32 → wF → wA → wB → Prop) (hJ258 : ∀ (x8 : Int32) (x9 : Int32) (f : wF) (a : wA) (b : wB), J258 x8 x9 f a b → ∀ (H : Heap) (locs : List Loc), wd nM kM D vwCl ad ca A s H locs f a b → ∀ (ls : Array Slot), lv_has ls 12 [(0, .ref (ad 0)), (8, .int x8), (9, .int x9)] → W p l e ({ frames := 4, cells := 0, slots := 0, locals := 95 }) s m ([.ref (ad 0), .int y1] : List Value).toArray below meth c H locs 0 0 (vx_MQ below (va_Qi (fun r (u : wF × wA × wB) => po r u.1 u.2.1 u.2.2) (sPost nM kM D vwCl ad ca A) A) (sX nM kM D vwCl ad ca A (fun _ _ _ _ => False)) ([.ref (ad 0), .int y1] : List Value).toArray s 0 0 A) (F0 m 258 ls [])) : ∀ (k0 : Int32) (x9 : Int32) (f : wF) (a : wA) (b : wB), wp_M_send_292 po J258 k0 x9 f a b → ∀ (H : Heap) (locs : List Loc), wd nM kM D vwCl ad ca A s H locs f a b → ∀ (ls : Array Slot), lv_has ls 12 [(0, .ref (ad 0)), (9, .int x9)] → W p l e ({ frames := 4, cells := 0, slots := 0, locals := 95 }) s m ([.ref (ad 0), .int y1] : List Value).toArray below meth c H locs 0 0 (vx_MQ below (va_Qi (fun r (u : wF × wA × wB) => po r u.1 u.2.1 u.2.2) (sPost nM kM D vwCl ad ca A) A) (sX nM kM D vwCl ad ca A (fun _ _ _ _ => False)) ([.ref (ad 0), .int y1] : List Value).toArray s 0 0 A) (F0 m 292 ls [.int k0]) := by
  obtain ⟨hx, hb, hml, hown, hts, hK, hA, hth, hlk, hl9⟩ := id X
  intro k0 x9 f a b hw H locs K ls hl
  dsimp only [wp_M_send_292] at hw
  refine lv_iconst (v := (0 : Int32)) hx hb dM_send_292 (by decide) ?_
  exact LM_send_293 X hex hr J258 hJ258 (0 : Int32) k0 x9 f a b hw _ _ K _ (lv_sub hl [0, 1] rfl)
set_option maxHeartbeats 4000000 in
set_option maxRecDepth 100000 in
theorem LM_send_258 {p : Program} {l : Launch} {e : Env} {s : State} {m : MethodId} {below : List Frame} {meth : Method} {c : Code} {D : va_G} {sa : Nat → Nat} {ad : Nat → Nat} {ca : Nat → ClassId} {A : Nat → Prop} {y1 : Int32} {po : Int32 → wF → wA → wB → Prop} (X : cx Wl (tyS ca) txS D vwCl sa A p l s m ([.ref (ad 0), .int y1] : List Value).toArray meth c cM_send 12 "SendBestModel") (hex : ∀ x ∈ c.exceptionTable.toList, False) (hr : meth.sig.returnType = (some .int)) : ∀ n : Nat, ∀ (x8 : Int32) (x9 : Int32) (f : wF) (a : wA) (b : wB), wp_M_send_258 po n x8 x9 f a b → ∀ (H : Heap) (locs : List Loc), wd nM kM D vwCl ad ca A s H locs f a b → ∀ (ls : Array Slot), lv_has ls 12 [(0, .ref (ad 0)), (8, .int x8), (9, .int x9)] → W p l e ({ frames := 4, cells := 0, slots := 0, locals := 95 }) s m ([.ref (ad 0), .int y1] : List Value).toArray below meth c H locs 0 0 (vx_MQ below (va_Qi (fun r (u : wF × wA × wB) => po r u.1 u.2.1 u.2.2) (sPost nM kM D vwCl ad ca A) A) (sX nM kM D vwCl ad ca A (fun _ _ _ _ => False)) ([.ref (ad 0), .int y1] : List Value).toArray s 0 0 A) (F0 m 258 ls []) := by
  obtain ⟨hx, hb, hml, hown, hts, hK, hA, hth, hlk, hl9⟩ := id X
  intro n
  induction n with
  | zero => intro x8 x9 f a b hw; exact hw.elim
  | succ n ih =>
    intro x8 x9 f a b hw H locs K ls hl
    dsimp only [wp_M_send_258] at hw
    refine lv_iload hx hb dM_send_258 (lv_at hl 2 rfl) ?_
    refine lv_aload_n hx hb dM_send_260 rfl (lv_at hl 0 rfl) ?_
    refine gGet X K (o := 0) (k := 8) (v := .int (f 3)) (by decide) kM_o0 rfl inM_o0 (by decide) (tm3 (i := 111) rfl rfl) rfl dM_send_261 ?_
    refine lv_icmp_ge (tgt := 302) hx hb dM_send_264 (by decide) (fun hc => ?_) (fun hc => ?_)
    · replace hw := hw.1 hc
      refine lv_iload hx hb dM_send_302 (lv_at hl 1 rfl) ?_
      exact endI X K hr rfl hw (by decide) (by decide) dM_send_304
    · replace hw := hw.2 hc
      refine lv_iload hx hb dM_send_267 (lv_at hl 1 rfl) ?_
      refine lv_aload_n hx hb dM_send_269 rfl (lv_at hl 0 rfl) ?_
      refine lv_iload hx hb dM_send_270 (lv_at hl 2 rfl) ?_
      refine gcI X K (n0 := 1) (As := [.int x9]) (rest := [.int x8]) (hM := (met_M_isOpen hl9 D ad ca sa _ x9 f a b _ hw)) (o := 0) (ho := by decide) (hko := kM_o0) (hci := rfl) (hg := wl_good) (w1 := (tm3 (i := 239) rfl rfl)) (w2 := (tm4 (i := 1) rfl rfl)) (w3 := (tm0 (i := 38) rfl rfl)) (w4 := (tm1 (i := 4) rfl rfl)) (w5 := (tm4 (i := 2) rfl rfl)) (hd := ⟨rfl, by decide, by decide, by decide +kernel⟩) (hrc := rfl) (hrs := rfl) (hR := ⟨Nat.le_of_ble_eq_true rfl, Nat.le_of_ble_eq_true rfl⟩) (hn := rfl) (hsz := hl.1) (hst := rfl) (hW := Nat.le_of_ble_eq_true rfl) (hdg := dM_send_272) (hf := ⟨Nat.le_of_ble_eq_true rfl, Nat.le_of_ble_eq_true rfl⟩) (fun _ _ _ _ _ _ _ _ hw => hw.elim) (fun r272 f272 a272 b272 H locs hw K => ?_)
      refine lv_if_eq (tgt := 292) hx hb dM_send_275 (by decide) (fun hc => ?_) (fun hc => ?_)
      · replace hw := hw.1 hc
        exact LM_send_292 X hex hr (wp_M_send_258 po n) ih x8 x9 f272 a272 b272 hw _ _ K _ (lv_sub hl [0, 2] rfl)
      · replace hw := hw.2 hc
        refine lv_aload_n hx hb dM_send_278 rfl (lv_at hl 0 rfl) ?_
        refine gGet X K (o := 0) (k := 11) (v := .ref (ad 8)) (by decide) kM_o0 rfl inM_o0 (by decide) (tm3 (i := 114) rfl rfl) rfl dM_send_279 ?_
        refine lv_iload hx hb dM_send_282 (lv_at hl 2 rfl) ?_
        obtain ⟨hi, hw⟩ := hw
        refine gild X K (o := 8) (t0 := 0) (by decide) kM_c8 rfl hi dM_send_284 ?_
        refine lv_if_lt (tgt := 292) hx hb dM_send_285 (by decide) (fun hc => ?_) (fun hc => ?_)
        · replace hw := hw.1 hc
          exact LM_send_292 X hex hr (wp_M_send_258 po n) ih x8 x9 f272 a272 b272 hw _ _ K _ (lv_sub hl [0, 2] rfl)
        · replace hw := hw.2 hc
          refine lv_iconst (v := (1 : Int32)) hx hb dM_send_288 (by decide) ?_
          refine lv_goto (tgt := 293) hx hb dM_send_289 (by decide) ?_
          exact LM_send_293 X hex hr (wp_M_send_258 po n) ih (1 : Int32) x8 x9 f272 a272 b272 hw _ _ K _ (lv_sub hl [0, 2] rfl)
set_option maxHeartbeats 4000000 in
set_option maxRecDepth 100000 in
theorem LM_send_252 {p : Program} {l : Launch} {e : Env} {s : State} {m : MethodId} {below : List Frame} {meth : Method} {c : Code} {D : va_G} {sa : Nat → Nat} {ad : Nat → Nat} {ca : Nat → ClassId} {A : Nat → Prop} {y1 : Int32} {po : Int32 → wF → wA → wB → Prop} (X : cx Wl (tyS ca) txS D vwCl sa A p l s m ([.ref (ad 0), .int y1] : List Value).toArray meth c cM_send 12 "SendBestModel") (hex : ∀ x ∈ c.exceptionTable.toList, False) (hr : meth.sig.returnType = (some .int)) : ∀ (f : wF) (a : wA) (b : wB), wp_M_send_252 po f a b → ∀ (H : Heap) (locs : List Loc), wd nM kM D vwCl ad ca A s H locs f a b → ∀ (ls : Array Slot), lv_has ls 12 [(0, .ref (ad 0))] → W p l e ({ frames := 4, cells := 0, slots := 0, locals := 95 }) s m ([.ref (ad 0), .int y1] : List Value).toArray below meth c H locs 0 0 (vx_MQ below (va_Qi (fun r (u : wF × wA × wB) => po r u.1 u.2.1 u.2.2) (sPost nM kM D vwCl ad ca A) A) (sX nM kM D vwCl ad ca A (fun _ _ _ _ => False)) ([.ref (ad 0), .int y1] : List Value).toArray s 0 0 A) (F0 m 252 ls []) := by
  obtain ⟨hx, hb, hml, hown, hts, hK, hA, hth, hlk, hl9⟩ := id X
  intro  f a b hw H locs K ls hl
  dsimp only [wp_M_send_252] at hw
  refine lv_iconst (v := (0 : Int32)) hx hb dM_send_252 (by decide) ?_
  refine lv_istore (lv' := [(8, .int (0 : Int32)), (0, .ref (ad 0))]) hx hb dM_send_253 hl (by decide) rfl (fun ls hl => ?_)
  refine lv_iconst (v := (0 : Int32)) hx hb dM_send_255 (by decide) ?_
  refine lv_istore (lv' := [(9, .int (0 : Int32)), (8, .int (0 : Int32)), (0, .ref (ad 0))]) hx hb dM_send_256 hl (by decide) rfl (fun ls hl => ?_)
  obtain ⟨n9, hw⟩ := hw
  exact LM_send_258 X hex hr n9 (0 : Int32) (0 : Int32) f a b hw _ _ K _ (lv_sub hl [2, 1, 0] rfl)
set_option maxHeartbeats 4000000 in
set_option maxRecDepth 100000 in
theorem LM_send_244 {p : Program} {l : Launch} {e : Env} {s : State} {m : MethodId} {below : List Frame} {meth : Method} {c : Code} {D : va_G} {sa : Nat → Nat} {ad : Nat → Nat} {ca : Nat → ClassId} {A : Nat → Prop} {y1 : Int32} {po : Int32 → wF → wA → wB → Prop} (X : cx Wl (tyS ca) txS D vwCl sa A p l s m ([.ref (ad 0), .int y1] : List Value).toArray meth c cM_send 12 "SendBestModel") (hex : ∀ x ∈ c.exceptionTable.toList, False) (hr : meth.sig.returnType = (some .int)) (J100 : Int32 → Int32 → Int32 → wF → wA → wB → Prop) (hJ100 : ∀ (x2 : Int32) (x7 : Int32) (x8 : Int32) (f : wF) (a : wA) (b : wB), J100 x2 x7 x8 f a b → ∀ (H : Heap) (locs : List Loc), wd nM kM D vwCl ad ca A s H locs f a b → ∀ (ls : Array Slot), lv_has ls 12 [(0, .ref (ad 0)), (2, .int x2), (7, .int x7), (8, .int x8)] → W p l e ({ frames := 4, cells := 0, slots := 0, locals := 95 }) s m ([.ref (ad 0), .int y1] : List Value).toArray below meth c H locs 0 0 (vx_MQ below (va_Qi (fun r (u : wF × wA × wB) => po r u.1 u.2.1 u.2.2) (sPost nM kM D vwCl ad ca A) A) (sX nM kM D vwCl ad ca A (fun _ _ _ _ => False)) ([.ref (ad 0), .int y1] : List Value).toArray s 0 0 A) (F0 m 100 ls [])) : ∀ (k0 : Int32) (k1 : Int32) (x7 : Int32) (x8 : Int32) (f : wF) (a : wA) (b : wB), wp_M_send_244 po J100 k0 k1 x7 x8 f a b → ∀ (H : Heap) (locs : List Loc), wd nM kM D vwCl ad ca A s H locs f a b → ∀ (ls : Array Slot), lv_has ls 12 [(0, .ref (ad 0)), (7, .int x7), (8, .int x8)] → W p l e ({ frames := 4, cells := 0, slots := 0, locals := 95 }) s m ([.ref (ad 0), .int y1] : List Value).toArray below meth c H locs 0 0 (vx_MQ below (va_Qi (fun r (u : wF × wA × wB) => po r u.1 u.2.1 u.2.2) (sPost nM kM D vwCl ad ca A) A) (sX nM kM D vwCl ad ca A (fun _ _ _ _ => False)) ([.ref (ad 0), .int y1] : List Value).toArray s 0 0 A) (F0 m 244 ls [.int k0, .int k1]) := by
  obtain ⟨hx, hb, hml, hown, hts, hK, hA, hth, hlk, hl9⟩ := id X
  intro k0 k1 x7 x8 f a b hw H locs K ls hl
  dsimp only [wp_M_send_244] at hw
  refine lv_ior hx hb dM_send_244 ?_
  refine lv_istore_n (lv' := [(2, .int (k1 ||| k0)), (0, .ref (ad 0)), (7, .int x7), (8, .int x8)]) hx hb dM_send_245 rfl hl (by decide) rfl (fun ls hl => ?_)
  refine lv_iinc (v := (x8 + (1 : Int32))) (lv' := [(8, .int (x8 + (1 : Int32))), (2, .int (k1 ||| k0)), (0, .ref (ad 0)), (7, .int x7)]) hx hb dM_send_246 hl (k := 3) rfl rfl (by decide) rfl (fun ls hl => ?_)
  refine lv_goto (tgt := 100) hx hb dM_send_249 (by decide) ?_
  exact hJ100 (k1 ||| k0) x7 (x8 + (1 : Int32)) f a b hw _ _ K _ (lv_sub hl [2, 1, 3, 0] rfl)
set_option maxHeartbeats 4000000 in
set_option maxRecDepth 100000 in
theorem LM_send_220 {p : Program} {l : Launch} {e : Env} {s : State} {m : MethodId} {below : List Frame} {meth : Method} {c : Code} {D : va_G} {sa : Nat → Nat} {ad : Nat → Nat} {ca : Nat → ClassId} {A : Nat → Prop} {y1 : Int32} {po : Int32 → wF → wA → wB → Prop} (X : cx Wl (tyS ca) txS D vwCl sa A p l s m ([.ref (ad 0), .int y1] : List Value).toArray meth c cM_send 12 "SendBestModel") (hex : ∀ x ∈ c.exceptionTable.toList, False) (hr : meth.sig.returnType = (some .int)) (J100 : Int32 → Int32 → Int32 → wF → wA → wB → Prop) (hJ100 : ∀ (x2 : Int32) (x7 : Int32) (x8 : Int32) (f : wF) (a : wA) (b : wB), J100 x2 x7 x8 f a b → ∀ (H : Heap) (locs : List Loc), wd nM kM D vwCl ad ca A s H locs f a b → ∀ (ls : Array Slot), lv_has ls 12 [(0, .ref (ad 0)), (2, .int x2), (7, .int x7), (8, .int x8)] → W p l e ({ frames := 4, cells := 0, slots := 0, locals := 95 }) s m ([.ref (ad 0), .int y1] : List Value).toArray below meth c H locs 0 0 (vx_MQ below (va_Qi (fun r (u : wF × wA × wB) => po r u.1 u.2.1 u.2.2) (sPost nM kM D vwCl ad ca A) A) (sX nM kM D vwCl ad ca A (fun _ _ _ _ => False)) ([.ref (ad 0), .int y1] : List Value).toArray s 0 0 A) (F0 m 100 ls [])) : ∀ (k0 : Int32) (k1 : Int32) (x2 : Int32) (x7 : Int32) (x8 : Int32) (x9 : Int32) (x10 : Int32) (f : wF) (a : wA) (b : wB), wp_M_send_220 po J100 k0 k1 x2 x7 x8 x9 x10 f a b → ∀ (H : Heap) (locs : List Loc), wd nM kM D vwCl ad ca A s H locs f a b → ∀ (ls : Array Slot), lv_has ls 12 [(0, .ref (ad 0)), (2, .int x2), (7, .int x7), (8, .int x8), (9, .int x9), (10, .int x10)] → W p l e ({ frames := 4, cells := 0, slots := 0, locals := 95 }) s m ([.ref (ad 0), .int y1] : List Value).toArray below meth c H locs 0 0 (vx_MQ below (va_Qi (fun r (u : wF × wA × wB) => po r u.1 u.2.1 u.2.2) (sPost nM kM D vwCl ad ca A) A) (sX nM kM D vwCl ad ca A (fun _ _ _ _ => False)) ([.ref (ad 0), .int y1] : List Value).toArray s 0 0 A) (F0 m 220 ls [.int k0, .int k1, .ref (ad 9)]) := by
  obtain ⟨hx, hb, hml, hown, hts, hK, hA, hth, hlk, hl9⟩ := id X
  intro k0 k1 x2 x7 x8 x9 x10 f a b hw H locs K ls hl
  dsimp only [wp_M_send_220] at hw
  obtain ⟨hi, hw⟩ := hw
  refine gzst X K (o := 9) (t0 := 1) (by decide) kM_c9 rfl hi dM_send_220 kM_p9 (fun H locs K => ?_)
  refine lv_aload_n hx hb dM_send_221 rfl (lv_at hl 0 rfl) ?_
  refine gGet X K (o := 0) (k := 11) (v := .ref (ad 8)) (by decide) kM_o0 rfl inM_o0 (by decide) (tm3 (i := 114) rfl rfl) rfl dM_send_222 ?_
  refine lv_iload hx hb dM_send_225 (lv_at hl 4 rfl) ?_
  refine lv_iload hx hb dM_send_227 (lv_at hl 5 rfl) ?_
  obtain ⟨hi, hw⟩ := hw
  refine gist X K (o := 8) (t0 := 0) (by decide) kM_c8 rfl hi dM_send_229 kM_p8 (fun H locs K => ?_)
  refine lv_iload_n hx hb dM_send_230 rfl (lv_at hl 1 rfl) ?_
  refine lv_iload hx hb dM_send_231 (lv_at hl 5 rfl) ?_
  refine lv_if_lt (tgt := 243) hx hb dM_send_233 (by decide) (fun hc => ?_) (fun hc => ?_)
  · replace hw := hw.1 hc
    refine lv_iconst (v := (0 : Int32)) hx hb dM_send_243 (by decide) ?_
    exact LM_send_244 X hex hr J100 hJ100 (0 : Int32) x2 x7 x8 f (va_up (va_up a 9 (upd (a 9) k1.toNatClampNeg (vp_nar .boolean k0))) 8 (upd ((va_up a 9 (upd (a 9) k1.toNatClampNeg (vp_nar .boolean k0))) 8) x9.toNatClampNeg x10)) b hw _ _ K _ (lv_sub hl [0, 2, 3] rfl)
  · replace hw := hw.2 hc
    refine lv_iconst (v := (1 : Int32)) hx hb dM_send_236 (by decide) ?_
    refine lv_iload hx hb dM_send_237 (lv_at hl 5 rfl) ?_
    refine lv_ishl hx hb dM_send_239 ?_
    refine lv_goto (tgt := 244) hx hb dM_send_240 (by decide) ?_
    exact LM_send_244 X hex hr J100 hJ100 ((1 : Int32) <<< (x10 &&& 31)) x2 x7 x8 f (va_up (va_up a 9 (upd (a 9) k1.toNatClampNeg (vp_nar .boolean k0))) 8 (upd ((va_up a 9 (upd (a 9) k1.toNatClampNeg (vp_nar .boolean k0))) 8) x9.toNatClampNeg x10)) b hw _ _ K _ (lv_sub hl [0, 2, 3] rfl)
set_option maxHeartbeats 4000000 in
set_option maxRecDepth 100000 in
theorem LM_send_219 {p : Program} {l : Launch} {e : Env} {s : State} {m : MethodId} {below : List Frame} {meth : Method} {c : Code} {D : va_G} {sa : Nat → Nat} {ad : Nat → Nat} {ca : Nat → ClassId} {A : Nat → Prop} {y1 : Int32} {po : Int32 → wF → wA → wB → Prop} (X : cx Wl (tyS ca) txS D vwCl sa A p l s m ([.ref (ad 0), .int y1] : List Value).toArray meth c cM_send 12 "SendBestModel") (hex : ∀ x ∈ c.exceptionTable.toList, False) (hr : meth.sig.returnType = (some .int)) (J100 : Int32 → Int32 → Int32 → wF → wA → wB → Prop) (hJ100 : ∀ (x2 : Int32) (x7 : Int32) (x8 : Int32) (f : wF) (a : wA) (b : wB), J100 x2 x7 x8 f a b → ∀ (H : Heap) (locs : List Loc), wd nM kM D vwCl ad ca A s H locs f a b → ∀ (ls : Array Slot), lv_has ls 12 [(0, .ref (ad 0)), (2, .int x2), (7, .int x7), (8, .int x8)] → W p l e ({ frames := 4, cells := 0, slots := 0, locals := 95 }) s m ([.ref (ad 0), .int y1] : List Value).toArray below meth c H locs 0 0 (vx_MQ below (va_Qi (fun r (u : wF × wA × wB) => po r u.1 u.2.1 u.2.2) (sPost nM kM D vwCl ad ca A) A) (sX nM kM D vwCl ad ca A (fun _ _ _ _ => False)) ([.ref (ad 0), .int y1] : List Value).toArray s 0 0 A) (F0 m 100 ls [])) : ∀ (k0 : Int32) (x2 : Int32) (x7 : Int32) (x8 : Int32) (x9 : Int32) (x10 : Int32) (f : wF) (a : wA) (b : wB), wp_M_send_219 po J100 k0 x2 x7 x8 x9 x10 f a b → ∀ (H : Heap) (locs : List Loc), wd nM kM D vwCl ad ca A s H locs f a b → ∀ (ls : Array Slot), lv_has ls 12 [(0, .ref (ad 0)), (2, .int x2), (7, .int x7), (8, .int x8), (9, .int x9), (10, .int x10)] → W p l e ({ frames := 4, cells := 0, slots := 0, locals := 95 }) s m ([.ref (ad 0), .int y1] : List Value).toArray below meth c H locs 0 0 (vx_MQ below (va_Qi (fun r (u : wF × wA × wB) => po r u.1 u.2.1 u.2.2) (sPost nM kM D vwCl ad ca A) A) (sX nM kM D vwCl ad ca A (fun _ _ _ _ => False)) ([.ref (ad 0), .int y1] : List Value).toArray s 0 0 A) (F0 m 219 ls [.int k0, .ref (ad 9)]) := by
  obtain ⟨hx, hb, hml, hown, hts, hK, hA, hth, hlk, hl9⟩ := id X
  intro k0 x2 x7 x8 x9 x10 f a b hw H locs K ls hl
  dsimp only [wp_M_send_219] at hw
  refine lv_iconst (v := (0 : Int32)) hx hb dM_send_219 (by decide) ?_
  exact LM_send_220 X hex hr J100 hJ100 (0 : Int32) k0 x2 x7 x8 x9 x10 f a b hw _ _ K _ (lv_sub hl [0, 1, 2, 3, 4, 5] rfl)
set_option maxHeartbeats 4000000 in
set_option maxRecDepth 100000 in
theorem LM_send_181 {p : Program} {l : Launch} {e : Env} {s : State} {m : MethodId} {below : List Frame} {meth : Method} {c : Code} {D : va_G} {sa : Nat → Nat} {ad : Nat → Nat} {ca : Nat → ClassId} {A : Nat → Prop} {y1 : Int32} {po : Int32 → wF → wA → wB → Prop} (X : cx Wl (tyS ca) txS D vwCl sa A p l s m ([.ref (ad 0), .int y1] : List Value).toArray meth c cM_send 12 "SendBestModel") (hex : ∀ x ∈ c.exceptionTable.toList, False) (hr : meth.sig.returnType = (some .int)) (J100 : Int32 → Int32 → Int32 → wF → wA → wB → Prop) (J134 : Int32 → Int32 → Int32 → Int32 → Int32 → Int32 → wF → wA → wB → Prop) (hJ100 : ∀ (x2 : Int32) (x7 : Int32) (x8 : Int32) (f : wF) (a : wA) (b : wB), J100 x2 x7 x8 f a b → ∀ (H : Heap) (locs : List Loc), wd nM kM D vwCl ad ca A s H locs f a b → ∀ (ls : Array Slot), lv_has ls 12 [(0, .ref (ad 0)), (2, .int x2), (7, .int x7), (8, .int x8)] → W p l e ({ frames := 4, cells := 0, slots := 0, locals := 95 }) s m ([.ref (ad 0), .int y1] : List Value).toArray below meth c H locs 0 0 (vx_MQ below (va_Qi (fun r (u : wF × wA × wB) => po r u.1 u.2.1 u.2.2) (sPost nM kM D vwCl ad ca A) A) (sX nM kM D vwCl ad ca A (fun _ _ _ _ => False)) ([.ref (ad 0), .int y1] : List Value).toArray s 0 0 A) (F0 m 100 ls [])) (hJ134 : ∀ (x2 : Int32) (x7 : Int32) (x8 : Int32) (x9 : Int32) (x10 : Int32) (x11 : Int32) (f : wF) (a : wA) (b : wB), J134 x2 x7 x8 x9 x10 x11 f a b → ∀ (H : Heap) (locs : List Loc), wd nM kM D vwCl ad ca A s H locs f a b → ∀ (ls : Array Slot), lv_has ls 12 [(0, .ref (ad 0)), (2, .int x2), (7, .int x7), (8, .int x8), (9, .int x9), (10, .int x10), (11, .int x11)] → W p l e ({ frames := 4, cells := 0, slots := 0, locals := 95 }) s m ([.ref (ad 0), .int y1] : List Value).toArray below meth c H locs 0 0 (vx_MQ below (va_Qi (fun r (u : wF × wA × wB) => po r u.1 u.2.1 u.2.2) (sPost nM kM D vwCl ad ca A) A) (sX nM kM D vwCl ad ca A (fun _ _ _ _ => False)) ([.ref (ad 0), .int y1] : List Value).toArray s 0 0 A) (F0 m 134 ls [])) : ∀ (x2 : Int32) (x7 : Int32) (x8 : Int32) (x9 : Int32) (x10 : Int32) (x11 : Int32) (f : wF) (a : wA) (b : wB), wp_M_send_181 po J100 J134 x2 x7 x8 x9 x10 x11 f a b → ∀ (H : Heap) (locs : List Loc), wd nM kM D vwCl ad ca A s H locs f a b → ∀ (ls : Array Slot), lv_has ls 12 [(0, .ref (ad 0)), (2, .int x2), (7, .int x7), (8, .int x8), (9, .int x9), (10, .int x10), (11, .int x11)] → W p l e ({ frames := 4, cells := 0, slots := 0, locals := 95 }) s m ([.ref (ad 0), .int y1] : List Value).toArray below meth c H locs 0 0 (vx_MQ below (va_Qi (fun r (u : wF × wA × wB) => po r u.1 u.2.1 u.2.2) (sPost nM kM D vwCl ad ca A) A) (sX nM kM D vwCl ad ca A (fun _ _ _ _ => False)) ([.ref (ad 0), .int y1] : List Value).toArray s 0 0 A) (F0 m 181 ls []) := by
  obtain ⟨hx, hb, hml, hown, hts, hK, hA, hth, hlk, hl9⟩ := id X
  intro x2 x7 x8 x9 x10 x11 f a b hw H locs K ls hl
  dsimp only [wp_M_send_181] at hw
  refine lv_iinc (v := (x11 + (-1 : Int32))) (lv' := [(11, .int (x11 + (-1 : Int32))), (0, .ref (ad 0)), (2, .int x2), (7, .int x7), (8, .int x8), (9, .int x9), (10, .int x10)]) hx hb dM_send_181 hl (k := 6) rfl rfl (by decide) rfl (fun ls hl => ?_)
  refine lv_goto (tgt := 134) hx hb dM_send_184 (by decide) ?_
  exact hJ134 x2 x7 x8 x9 x10 (x11 + (-1 : Int32)) f a b hw _ _ K _ (lv_sub hl [1, 2, 3, 4, 5, 6, 0] rfl)
set_option maxHeartbeats 4000000 in
set_option maxRecDepth 100000 in
theorem LM_send_134 {p : Program} {l : Launch} {e : Env} {s : State} {m : MethodId} {below : List Frame} {meth : Method} {c : Code} {D : va_G} {sa : Nat → Nat} {ad : Nat → Nat} {ca : Nat → ClassId} {A : Nat → Prop} {y1 : Int32} {po : Int32 → wF → wA → wB → Prop} (X : cx Wl (tyS ca) txS D vwCl sa A p l s m ([.ref (ad 0), .int y1] : List Value).toArray meth c cM_send 12 "SendBestModel") (hex : ∀ x ∈ c.exceptionTable.toList, False) (hr : meth.sig.returnType = (some .int)) (J100 : Int32 → Int32 → Int32 → wF → wA → wB → Prop) (hJ100 : ∀ (x2 : Int32) (x7 : Int32) (x8 : Int32) (f : wF) (a : wA) (b : wB), J100 x2 x7 x8 f a b → ∀ (H : Heap) (locs : List Loc), wd nM kM D vwCl ad ca A s H locs f a b → ∀ (ls : Array Slot), lv_has ls 12 [(0, .ref (ad 0)), (2, .int x2), (7, .int x7), (8, .int x8)] → W p l e ({ frames := 4, cells := 0, slots := 0, locals := 95 }) s m ([.ref (ad 0), .int y1] : List Value).toArray below meth c H locs 0 0 (vx_MQ below (va_Qi (fun r (u : wF × wA × wB) => po r u.1 u.2.1 u.2.2) (sPost nM kM D vwCl ad ca A) A) (sX nM kM D vwCl ad ca A (fun _ _ _ _ => False)) ([.ref (ad 0), .int y1] : List Value).toArray s 0 0 A) (F0 m 100 ls [])) : ∀ n : Nat, ∀ (x2 : Int32) (x7 : Int32) (x8 : Int32) (x9 : Int32) (x10 : Int32) (x11 : Int32) (f : wF) (a : wA) (b : wB), wp_M_send_134 po J100 n x2 x7 x8 x9 x10 x11 f a b → ∀ (H : Heap) (locs : List Loc), wd nM kM D vwCl ad ca A s H locs f a b → ∀ (ls : Array Slot), lv_has ls 12 [(0, .ref (ad 0)), (2, .int x2), (7, .int x7), (8, .int x8), (9, .int x9), (10, .int x10), (11, .int x11)] → W p l e ({ frames := 4, cells := 0, slots := 0, locals := 95 }) s m ([.ref (ad 0), .int y1] : List Value).toArray below meth c H locs 0 0 (vx_MQ below (va_Qi (fun r (u : wF × wA × wB) => po r u.1 u.2.1 u.2.2) (sPost nM kM D vwCl ad ca A) A) (sX nM kM D vwCl ad ca A (fun _ _ _ _ => False)) ([.ref (ad 0), .int y1] : List Value).toArray s 0 0 A) (F0 m 134 ls []) := by
  obtain ⟨hx, hb, hml, hown, hts, hK, hA, hth, hlk, hl9⟩ := id X
  intro n
  induction n with
  | zero => intro x2 x7 x8 x9 x10 x11 f a b hw; exact hw.elim
  | succ n ih =>
    intro x2 x7 x8 x9 x10 x11 f a b hw H locs K ls hl
    dsimp only [wp_M_send_134] at hw
    refine lv_iload hx hb dM_send_134 (lv_at hl 6 rfl) ?_
    refine lv_if_lt (tgt := 187) hx hb dM_send_136 (by decide) (fun hc => ?_) (fun hc => ?_)
    · replace hw := hw.1 hc
      refine lv_aload_n hx hb dM_send_187 rfl (lv_at hl 0 rfl) ?_
      refine gGet X K (o := 0) (k := 12) (v := .ref (ad 9)) (by decide) kM_o0 rfl inM_o0 (by decide) (tm3 (i := 115) rfl rfl) rfl dM_send_188 ?_
      refine lv_iload hx hb dM_send_191 (lv_at hl 4 rfl) ?_
      refine lv_aload_n hx hb dM_send_193 rfl (lv_at hl 0 rfl) ?_
      refine gGet X K (o := 0) (k := 12) (v := .ref (ad 9)) (by decide) kM_o0 rfl inM_o0 (by decide) (tm3 (i := 115) rfl rfl) rfl dM_send_194 ?_
      refine lv_iload hx hb dM_send_197 (lv_at hl 4 rfl) ?_
      obtain ⟨hi, hw⟩ := hw
      refine gzld X K (o := 9) (t0 := 1) (by decide) kM_c9 rfl hi dM_send_199 ?_
      refine lv_if_eq (tgt := 219) hx hb dM_send_200 (by decide) (fun hc => ?_) (fun hc => ?_)
      · replace hw := hw.1 hc
        exact LM_send_219 X hex hr J100 hJ100 x9 x2 x7 x8 x9 x10 f a b hw _ _ K _ (lv_sub hl [0, 1, 2, 3, 4, 5] rfl)
      · replace hw := hw.2 hc
        refine lv_aload_n hx hb dM_send_203 rfl (lv_at hl 0 rfl) ?_
        refine gGet X K (o := 0) (k := 11) (v := .ref (ad 8)) (by decide) kM_o0 rfl inM_o0 (by decide) (tm3 (i := 114) rfl rfl) rfl dM_send_204 ?_
        refine lv_iload hx hb dM_send_207 (lv_at hl 4 rfl) ?_
        obtain ⟨hi, hw⟩ := hw
        refine gild X K (o := 8) (t0 := 0) (by decide) kM_c8 rfl hi dM_send_209 ?_
        refine lv_iload hx hb dM_send_210 (lv_at hl 5 rfl) ?_
        refine lv_icmp_ne (tgt := 219) hx hb dM_send_212 (by decide) (fun hc => ?_) (fun hc => ?_)
        · replace hw := hw.1 hc
          exact LM_send_219 X hex hr J100 hJ100 x9 x2 x7 x8 x9 x10 f a b hw _ _ K _ (lv_sub hl [0, 1, 2, 3, 4, 5] rfl)
        · replace hw := hw.2 hc
          refine lv_iconst (v := (1 : Int32)) hx hb dM_send_215 (by decide) ?_
          refine lv_goto (tgt := 220) hx hb dM_send_216 (by decide) ?_
          exact LM_send_220 X hex hr J100 hJ100 (1 : Int32) x9 x2 x7 x8 x9 x10 f a b hw _ _ K _ (lv_sub hl [0, 1, 2, 3, 4, 5] rfl)
    · replace hw := hw.2 hc
      refine lv_aload_n hx hb dM_send_139 rfl (lv_at hl 0 rfl) ?_
      refine lv_iload hx hb dM_send_140 (lv_at hl 4 rfl) ?_
      refine lv_iload hx hb dM_send_142 (lv_at hl 6 rfl) ?_
      refine lv_iload_n hx hb dM_send_144 rfl (lv_at hl 1 rfl) ?_
      refine gcI X K (n0 := 3) (As := [.int x9, .int x11, .int x2]) (rest := []) (hM := (met_M_may hl9 D ad ca sa _ x9 x11 x2 f a b _ hw)) (o := 0) (ho := by decide) (hko := kM_o0) (hci := rfl) (hg := wl_good) (w1 := (tm4 (i := 16) rfl rfl)) (w2 := (tm4 (i := 18) rfl rfl)) (w3 := (tm0 (i := 42) rfl rfl)) (w4 := (tm1 (i := 4) rfl rfl)) (w5 := (tm4 (i := 19) rfl rfl)) (hd := ⟨rfl, by decide, by decide, by decide +kernel⟩) (hrc := rfl) (hrs := rfl) (hR := ⟨Nat.le_of_ble_eq_true rfl, Nat.le_of_ble_eq_true rfl⟩) (hn := rfl) (hsz := hl.1) (hst := rfl) (hW := Nat.le_of_ble_eq_true rfl) (hdg := dM_send_145) (hf := ⟨Nat.le_of_ble_eq_true rfl, Nat.le_of_ble_eq_true rfl⟩) (fun _ _ _ _ _ _ _ _ hw => hw.elim) (fun r145 f145 a145 b145 H locs hw K => ?_)
      refine lv_if_eq (tgt := 181) hx hb dM_send_148 (by decide) (fun hc => ?_) (fun hc => ?_)
      · replace hw := hw.1 hc
        exact LM_send_181 X hex hr J100 (wp_M_send_134 po J100 n) hJ100 ih x2 x7 x8 x9 x10 x11 f145 a145 b145 hw _ _ K _ (lv_sub hl [0, 1, 2, 3, 4, 5, 6] rfl)
      · replace hw := hw.2 hc
        refine lv_aload_n hx hb dM_send_151 rfl (lv_at hl 0 rfl) ?_
        refine lv_iload hx hb dM_send_152 (lv_at hl 3 rfl) ?_
        refine lv_iload hx hb dM_send_154 (lv_at hl 6 rfl) ?_
        refine lv_iload_n hx hb dM_send_156 rfl (lv_at hl 1 rfl) ?_
        refine gcL X K (n0 := 3) (As := [.int x8, .int x11, .int x2]) (rest := []) (hM := (met_M_with hl9 D ad ca sa _ x8 x11 x2 f145 a145 b145 _ hw)) (o := 0) (ho := by decide) (hko := kM_o0) (hci := rfl) (hg := wl_good) (w1 := (tm4 (i := 27) rfl rfl)) (w2 := (tm4 (i := 29) rfl rfl)) (w3 := (tm0 (i := 44) rfl rfl)) (w4 := (tm1 (i := 4) rfl rfl)) (w5 := (tm4 (i := 30) rfl rfl)) (hd := ⟨rfl, by decide, by decide, by decide +kernel⟩) (hrc := rfl) (hrs := rfl) (hR := ⟨Nat.le_of_ble_eq_true rfl, Nat.le_of_ble_eq_true rfl⟩) (hn := rfl) (hsz := hl.1) (hst := rfl) (hW := Nat.le_of_ble_eq_true rfl) (hdg := dM_send_157) (hf := ⟨Nat.le_of_ble_eq_true rfl, Nat.le_of_ble_eq_true rfl⟩) (fun _ _ _ _ _ _ _ _ hw => hw.elim) (fun r157 f157 a157 b157 H locs hw K => ?_)
        refine lv_aload_n hx hb dM_send_160 rfl (lv_at hl 0 rfl) ?_
        refine gGet X K (o := 0) (k := 18) (v := .ref (ad 12)) (by decide) kM_o0 rfl inM_o0 (by decide) (tm3 (i := 121) rfl rfl) rfl dM_send_161 ?_
        refine lv_sipush (v := (4096 : Int32)) hx hb dM_send_164 (by decide) ?_
        refine lv_iload hx hb dM_send_167 (lv_at hl 3 rfl) ?_
        refine lv_imul hx hb dM_send_169 ?_
        refine lv_iload_n hx hb dM_send_170 rfl (lv_at hl 1 rfl) ?_
        refine lv_iadd hx hb dM_send_171 ?_
        obtain ⟨hi, hw⟩ := hw
        refine glld X K (o := 12) (t0 := 2) (by decide) kM_c12 rfl hi dM_send_172 ?_
        refine W.lcmp hx hb dM_send_173 ?_
        refine lv_if_ne (tgt := 181) hx hb dM_send_174 (by decide) (fun hc => ?_) (fun hc => ?_)
        · replace hw := hw.1 hc
          exact LM_send_181 X hex hr J100 (wp_M_send_134 po J100 n) hJ100 ih x2 x7 x8 x9 x10 x11 f157 a157 b157 hw _ _ K _ (lv_sub hl [0, 1, 2, 3, 4, 5, 6] rfl)
        · replace hw := hw.2 hc
          refine lv_iload hx hb dM_send_177 (lv_at hl 6 rfl) ?_
          refine lv_istore (lv' := [(10, .int x11), (0, .ref (ad 0)), (2, .int x2), (7, .int x7), (8, .int x8), (9, .int x9), (11, .int x11)]) hx hb dM_send_179 hl (by decide) rfl (fun ls hl => ?_)
          exact LM_send_181 X hex hr J100 (wp_M_send_134 po J100 n) hJ100 ih x2 x7 x8 x9 x11 x11 f157 a157 b157 hw _ _ K _ (lv_sub hl [1, 2, 3, 4, 5, 0, 6] rfl)
set_option maxHeartbeats 4000000 in
set_option maxRecDepth 100000 in
theorem LM_send_100 {p : Program} {l : Launch} {e : Env} {s : State} {m : MethodId} {below : List Frame} {meth : Method} {c : Code} {D : va_G} {sa : Nat → Nat} {ad : Nat → Nat} {ca : Nat → ClassId} {A : Nat → Prop} {y1 : Int32} {po : Int32 → wF → wA → wB → Prop} (X : cx Wl (tyS ca) txS D vwCl sa A p l s m ([.ref (ad 0), .int y1] : List Value).toArray meth c cM_send 12 "SendBestModel") (hex : ∀ x ∈ c.exceptionTable.toList, False) (hr : meth.sig.returnType = (some .int)) : ∀ n : Nat, ∀ (x2 : Int32) (x7 : Int32) (x8 : Int32) (f : wF) (a : wA) (b : wB), wp_M_send_100 po n x2 x7 x8 f a b → ∀ (H : Heap) (locs : List Loc), wd nM kM D vwCl ad ca A s H locs f a b → ∀ (ls : Array Slot), lv_has ls 12 [(0, .ref (ad 0)), (2, .int x2), (7, .int x7), (8, .int x8)] → W p l e ({ frames := 4, cells := 0, slots := 0, locals := 95 }) s m ([.ref (ad 0), .int y1] : List Value).toArray below meth c H locs 0 0 (vx_MQ below (va_Qi (fun r (u : wF × wA × wB) => po r u.1 u.2.1 u.2.2) (sPost nM kM D vwCl ad ca A) A) (sX nM kM D vwCl ad ca A (fun _ _ _ _ => False)) ([.ref (ad 0), .int y1] : List Value).toArray s 0 0 A) (F0 m 100 ls []) := by
  obtain ⟨hx, hb, hml, hown, hts, hK, hA, hth, hlk, hl9⟩ := id X
  intro n
  induction n with
  | zero => intro x2 x7 x8 f a b hw; exact hw.elim
  | succ n ih =>
    intro x2 x7 x8 f a b hw H locs K ls hl
    dsimp only [wp_M_send_100] at hw
    refine lv_iload hx hb dM_send_100 (lv_at hl 3 rfl) ?_
    refine lv_aload_n hx hb dM_send_102 rfl (lv_at hl 0 rfl) ?_
    refine gGet X K (o := 0) (k := 17) (v := .int (f 6)) (by decide) kM_o0 rfl inM_o0 (by decide) (tm3 (i := 120) rfl rfl) rfl dM_send_103 ?_
    refine lv_icmp_ge (tgt := 252) hx hb dM_send_106 (by decide) (fun hc => ?_) (fun hc => ?_)
    · replace hw := hw.1 hc
      exact LM_send_252 X hex hr f a b hw _ _ K _ (lv_sub hl [0] rfl)
    · replace hw := hw.2 hc
      refine lv_iload hx hb dM_send_109 (lv_at hl 2 rfl) ?_
      refine lv_if_ne (tgt := 252) hx hb dM_send_111 (by decide) (fun hc => ?_) (fun hc => ?_)
      · replace hw := hw.1 hc
        exact LM_send_252 X hex hr f a b hw _ _ K _ (lv_sub hl [0] rfl)
      · replace hw := hw.2 hc
        refine lv_aload_n hx hb dM_send_114 rfl (lv_at hl 0 rfl) ?_
        refine gGet X K (o := 0) (k := 16) (v := .ref (ad 11)) (by decide) kM_o0 rfl inM_o0 (by decide) (tm3 (i := 119) rfl rfl) rfl dM_send_115 ?_
        refine lv_iload hx hb dM_send_118 (lv_at hl 3 rfl) ?_
        obtain ⟨hi, hw⟩ := hw
        refine gild X K (o := 11) (t0 := 0) (by decide) kM_c11 rfl hi dM_send_120 ?_
        refine lv_istore (lv' := [(9, .int (a 11 x8.toNatClampNeg)), (0, .ref (ad 0)), (2, .int x2), (7, .int x7), (8, .int x8)]) hx hb dM_send_121 hl (by decide) rfl (fun ls hl => ?_)
        refine lv_iconst (v := (-1 : Int32)) hx hb dM_send_123 (by decide) ?_
        refine lv_istore (lv' := [(10, .int (-1 : Int32)), (9, .int (a 11 x8.toNatClampNeg)), (0, .ref (ad 0)), (2, .int x2), (7, .int x7), (8, .int x8)]) hx hb dM_send_124 hl (by decide) rfl (fun ls hl => ?_)
        refine lv_aload_n hx hb dM_send_126 rfl (lv_at hl 2 rfl) ?_
        refine gGet X K (o := 0) (k := 1) (v := .int (f 1)) (by decide) kM_o0 rfl inM_o0 (by decide) (tm3 (i := 104) rfl rfl) rfl dM_send_127 ?_
        refine lv_iconst (v := (1 : Int32)) hx hb dM_send_130 (by decide) ?_
        refine lv_isub hx hb dM_send_131 ?_
        refine lv_istore (lv' := [(11, .int ((f 1) - (1 : Int32))), (10, .int (-1 : Int32)), (9, .int (a 11 x8.toNatClampNeg)), (0, .ref (ad 0)), (2, .int x2), (7, .int x7), (8, .int x8)]) hx hb dM_send_132 hl (by decide) rfl (fun ls hl => ?_)
        obtain ⟨n9, hw⟩ := hw
        exact LM_send_134 X hex hr (wp_M_send_100 po n) ih n9 x2 x7 x8 (a 11 x8.toNatClampNeg) (-1 : Int32) ((f 1) - (1 : Int32)) f a b hw _ _ K _ (lv_sub hl [3, 4, 5, 6, 2, 1, 0] rfl)
set_option maxHeartbeats 4000000 in
set_option maxRecDepth 100000 in
theorem LM_send_95 {p : Program} {l : Launch} {e : Env} {s : State} {m : MethodId} {below : List Frame} {meth : Method} {c : Code} {D : va_G} {sa : Nat → Nat} {ad : Nat → Nat} {ca : Nat → ClassId} {A : Nat → Prop} {y1 : Int32} {po : Int32 → wF → wA → wB → Prop} (X : cx Wl (tyS ca) txS D vwCl sa A p l s m ([.ref (ad 0), .int y1] : List Value).toArray meth c cM_send 12 "SendBestModel") (hex : ∀ x ∈ c.exceptionTable.toList, False) (hr : meth.sig.returnType = (some .int)) : ∀ (k0 : Int32) (x2 : Int32) (f : wF) (a : wA) (b : wB), wp_M_send_95 po k0 x2 f a b → ∀ (H : Heap) (locs : List Loc), wd nM kM D vwCl ad ca A s H locs f a b → ∀ (ls : Array Slot), lv_has ls 12 [(0, .ref (ad 0)), (2, .int x2)] → W p l e ({ frames := 4, cells := 0, slots := 0, locals := 95 }) s m ([.ref (ad 0), .int y1] : List Value).toArray below meth c H locs 0 0 (vx_MQ below (va_Qi (fun r (u : wF × wA × wB) => po r u.1 u.2.1 u.2.2) (sPost nM kM D vwCl ad ca A) A) (sX nM kM D vwCl ad ca A (fun _ _ _ _ => False)) ([.ref (ad 0), .int y1] : List Value).toArray s 0 0 A) (F0 m 95 ls [.int k0]) := by
  obtain ⟨hx, hb, hml, hown, hts, hK, hA, hth, hlk, hl9⟩ := id X
  intro k0 x2 f a b hw H locs K ls hl
  dsimp only [wp_M_send_95] at hw
  refine lv_istore (lv' := [(7, .int k0), (0, .ref (ad 0)), (2, .int x2)]) hx hb dM_send_95 hl (by decide) rfl (fun ls hl => ?_)
  refine lv_iconst (v := (0 : Int32)) hx hb dM_send_97 (by decide) ?_
  refine lv_istore (lv' := [(8, .int (0 : Int32)), (7, .int k0), (0, .ref (ad 0)), (2, .int x2)]) hx hb dM_send_98 hl (by decide) rfl (fun ls hl => ?_)
  obtain ⟨n9, hw⟩ := hw
  exact LM_send_100 X hex hr n9 x2 k0 (0 : Int32) f a b hw _ _ K _ (lv_sub hl [2, 3, 1, 0] rfl)
set_option maxHeartbeats 4000000 in
set_option maxRecDepth 100000 in
theorem LM_send_94 {p : Program} {l : Launch} {e : Env} {s : State} {m : MethodId} {below : List Frame} {meth : Method} {c : Code} {D : va_G} {sa : Nat → Nat} {ad : Nat → Nat} {ca : Nat → ClassId} {A : Nat → Prop} {y1 : Int32} {po : Int32 → wF → wA → wB → Prop} (X : cx Wl (tyS ca) txS D vwCl sa A p l s m ([.ref (ad 0), .int y1] : List Value).toArray meth c cM_send 12 "SendBestModel") (hex : ∀ x ∈ c.exceptionTable.toList, False) (hr : meth.sig.returnType = (some .int)) : ∀ (x2 : Int32) (f : wF) (a : wA) (b : wB), wp_M_send_94 po x2 f a b → ∀ (H : Heap) (locs : List Loc), wd nM kM D vwCl ad ca A s H locs f a b → ∀ (ls : Array Slot), lv_has ls 12 [(0, .ref (ad 0)), (2, .int x2)] → W p l e ({ frames := 4, cells := 0, slots := 0, locals := 95 }) s m ([.ref (ad 0), .int y1] : List Value).toArray below meth c H locs 0 0 (vx_MQ below (va_Qi (fun r (u : wF × wA × wB) => po r u.1 u.2.1 u.2.2) (sPost nM kM D vwCl ad ca A) A) (sX nM kM D vwCl ad ca A (fun _ _ _ _ => False)) ([.ref (ad 0), .int y1] : List Value).toArray s 0 0 A) (F0 m 94 ls []) := by
  obtain ⟨hx, hb, hml, hown, hts, hK, hA, hth, hlk, hl9⟩ := id X
  intro x2 f a b hw H locs K ls hl
  dsimp only [wp_M_send_94] at hw
  refine lv_iconst (v := (0 : Int32)) hx hb dM_send_94 (by decide) ?_
  exact LM_send_95 X hex hr (0 : Int32) x2 f a b hw _ _ K _ (lv_sub hl [0, 1] rfl)
set_option maxHeartbeats 4000000 in
set_option maxRecDepth 100000 in
theorem LM_send_85 {p : Program} {l : Launch} {e : Env} {s : State} {m : MethodId} {below : List Frame} {meth : Method} {c : Code} {D : va_G} {sa : Nat → Nat} {ad : Nat → Nat} {ca : Nat → ClassId} {A : Nat → Prop} {y1 : Int32} {po : Int32 → wF → wA → wB → Prop} (X : cx Wl (tyS ca) txS D vwCl sa A p l s m ([.ref (ad 0), .int y1] : List Value).toArray meth c cM_send 12 "SendBestModel") (hex : ∀ x ∈ c.exceptionTable.toList, False) (hr : meth.sig.returnType = (some .int)) : ∀ (k0 : Int32) (k1 : Int64) (x2 : Int32) (f : wF) (a : wA) (b : wB), wp_M_send_85 po k0 k1 x2 f a b → ∀ (H : Heap) (locs : List Loc), wd nM kM D vwCl ad ca A s H locs f a b → ∀ (ls : Array Slot), lv_has ls 12 [(0, .ref (ad 0)), (2, .int x2)] → W p l e ({ frames := 4, cells := 0, slots := 0, locals := 95 }) s m ([.ref (ad 0), .int y1] : List Value).toArray below meth c H locs 0 0 (vx_MQ below (va_Qi (fun r (u : wF × wA × wB) => po r u.1 u.2.1 u.2.2) (sPost nM kM D vwCl ad ca A) A) (sX nM kM D vwCl ad ca A (fun _ _ _ _ => False)) ([.ref (ad 0), .int y1] : List Value).toArray s 0 0 A) (F0 m 85 ls [.int k0, .long k1]) := by
  obtain ⟨hx, hb, hml, hown, hts, hK, hA, hth, hlk, hl9⟩ := id X
  intro k0 k1 x2 f a b hw H locs K ls hl
  dsimp only [wp_M_send_85] at hw
  refine lv_i2l (v := k0.toInt64) hx hb dM_send_85 rfl ?_
  refine W.lcmp hx hb dM_send_86 ?_
  refine lv_if_ge (tgt := 94) hx hb dM_send_87 (by decide) (fun hc => ?_) (fun hc => ?_)
  · replace hw := hw.1 hc
    exact LM_send_94 X hex hr x2 f a b hw _ _ K _ (lv_sub hl [0, 1] rfl)
  · replace hw := hw.2 hc
    refine lv_iconst (v := (1 : Int32)) hx hb dM_send_90 (by decide) ?_
    refine lv_goto (tgt := 95) hx hb dM_send_91 (by decide) ?_
    exact LM_send_95 X hex hr (1 : Int32) x2 f a b hw _ _ K _ (lv_sub hl [0, 1] rfl)
set_option maxHeartbeats 4000000 in
set_option maxRecDepth 100000 in
theorem LM_send_16 {p : Program} {l : Launch} {e : Env} {s : State} {m : MethodId} {below : List Frame} {meth : Method} {c : Code} {D : va_G} {sa : Nat → Nat} {ad : Nat → Nat} {ca : Nat → ClassId} {A : Nat → Prop} {y1 : Int32} {po : Int32 → wF → wA → wB → Prop} (X : cx Wl (tyS ca) txS D vwCl sa A p l s m ([.ref (ad 0), .int y1] : List Value).toArray meth c cM_send 12 "SendBestModel") (hex : ∀ x ∈ c.exceptionTable.toList, False) (hr : meth.sig.returnType = (some .int)) : ∀ (k0 : Int32) (x1 : Int32) (f : wF) (a : wA) (b : wB), wp_M_send_16 po k0 x1 f a b → ∀ (H : Heap) (locs : List Loc), wd nM kM D vwCl ad ca A s H locs f a b → ∀ (ls : Array Slot), lv_has ls 12 [(0, .ref (ad 0)), (1, .int x1)] → W p l e ({ frames := 4, cells := 0, slots := 0, locals := 95 }) s m ([.ref (ad 0), .int y1] : List Value).toArray below meth c H locs 0 0 (vx_MQ below (va_Qi (fun r (u : wF × wA × wB) => po r u.1 u.2.1 u.2.2) (sPost nM kM D vwCl ad ca A) A) (sX nM kM D vwCl ad ca A (fun _ _ _ _ => False)) ([.ref (ad 0), .int y1] : List Value).toArray s 0 0 A) (F0 m 16 ls [.int k0, .ref (ad 0)]) := by
  obtain ⟨hx, hb, hml, hown, hts, hK, hA, hth, hlk, hl9⟩ := id X
  intro k0 x1 f a b hw H locs K ls hl
  dsimp only [wp_M_send_16] at hw
  refine lv_iconst (v := (0 : Int32)) hx hb dM_send_16 (by decide) ?_
  refine lv_iconst (v := (0 : Int32)) hx hb dM_send_17 (by decide) ?_
  refine lv_iconst (v := (0 : Int32)) hx hb dM_send_18 (by decide) ?_
  refine gcI X K (n0 := 4) (As := [.int k0, .int (0 : Int32), .int (0 : Int32), .int (0 : Int32)]) (rest := []) (hM := (met_M_throwing hl9 D ad ca sa _ k0 (0 : Int32) (0 : Int32) (0 : Int32) f a b _ hw)) (o := 0) (ho := by decide) (hko := kM_o0) (hci := rfl) (hg := wl_good) (w1 := (tm3 (i := 173) rfl rfl)) (w2 := (tm3 (i := 175) rfl rfl)) (w3 := (tm0 (i := 30) rfl rfl)) (w4 := (tm1 (i := 4) rfl rfl)) (w5 := (tm3 (i := 176) rfl rfl)) (hd := ⟨rfl, by decide, by decide, by decide +kernel⟩) (hrc := rfl) (hrs := rfl) (hR := ⟨Nat.le_of_ble_eq_true rfl, Nat.le_of_ble_eq_true rfl⟩) (hn := rfl) (hsz := hl.1) (hst := rfl) (hW := Nat.le_of_ble_eq_true rfl) (hdg := dM_send_19) (hf := ⟨Nat.le_of_ble_eq_true rfl, Nat.le_of_ble_eq_true rfl⟩) (fun _ _ _ _ _ _ _ _ hw => hw.elim) (fun r19 f19 a19 b19 H locs hw K => ?_)
  refine lv_if_eq (tgt := 27) hx hb dM_send_22 (by decide) (fun hc => ?_) (fun hc => ?_)
  · replace hw := hw.1 hc
    refine lv_aload_n hx hb dM_send_27 rfl (lv_at hl 0 rfl) ?_
    refine gcV X K (n0 := 0) (As := []) (rest := []) (hM := (met_M_reckon hl9 D ad ca sa _ f19 a19 b19 _ hw)) (o := 0) (ho := by decide) (hko := kM_o0) (hci := rfl) (hg := wl_good) (w1 := (tm3 (i := 227) rfl rfl)) (w2 := (tm3 (i := 229) rfl rfl)) (w3 := (tm0 (i := 35) rfl rfl)) (w4 := (tm1 (i := 4) rfl rfl)) (w5 := (tm3 (i := 230) rfl rfl)) (hd := ⟨rfl, by decide, by decide, by decide +kernel⟩) (hrc := rfl) (hrs := rfl) (hR := ⟨Nat.le_of_ble_eq_true rfl, Nat.le_of_ble_eq_true rfl⟩) (hn := rfl) (hsz := hl.1) (hst := rfl) (hW := Nat.le_of_ble_eq_true rfl) (hdg := dM_send_28) (hf := ⟨Nat.le_of_ble_eq_true rfl, Nat.le_of_ble_eq_true rfl⟩) (fun _ _ _ _ _ _ _ _ hw => hw.elim) (fun f28 a28 b28 H locs hw K => ?_)
    refine lv_aload_n hx hb dM_send_31 rfl (lv_at hl 0 rfl) ?_
    refine gcI X K (n0 := 0) (As := []) (rest := []) (hM := (met_M_fixedUnits hl9 D ad ca sa _ f28 a28 b28 _ hw)) (o := 0) (ho := by decide) (hko := kM_o0) (hci := rfl) (hg := wl_good) (w1 := (tm4 (i := 31) rfl rfl)) (w2 := (tm4 (i := 33) rfl rfl)) (w3 := (tm0 (i := 45) rfl rfl)) (w4 := (tm1 (i := 4) rfl rfl)) (w5 := (tm4 (i := 34) rfl rfl)) (hd := ⟨rfl, by decide, by decide, by decide +kernel⟩) (hrc := rfl) (hrs := rfl) (hR := ⟨Nat.le_of_ble_eq_true rfl, Nat.le_of_ble_eq_true rfl⟩) (hn := rfl) (hsz := hl.1) (hst := rfl) (hW := Nat.le_of_ble_eq_true rfl) (hdg := dM_send_32) (hf := ⟨Nat.le_of_ble_eq_true rfl, Nat.le_of_ble_eq_true rfl⟩) (fun _ _ _ _ _ _ _ _ hw => hw.elim) (fun r32 f32 a32 b32 H locs hw K => ?_)
    refine lv_istore_n (lv' := [(2, .int r32), (0, .ref (ad 0)), (1, .int x1)]) hx hb dM_send_35 rfl hl (by decide) rfl (fun ls hl => ?_)
    refine lv_aload_n hx hb dM_send_36 rfl (lv_at hl 1 rfl) ?_
    refine gGet X K (o := 0) (k := 18) (v := .ref (ad 12)) (by decide) kM_o0 rfl inM_o0 (by decide) (tm3 (i := 121) rfl rfl) rfl dM_send_37 ?_
    refine lv_iload_n hx hb dM_send_40 rfl (lv_at hl 0 rfl) ?_
    obtain ⟨hi, hw⟩ := hw
    refine glld X K (o := 12) (t0 := 2) (by decide) kM_c12 rfl hi dM_send_41 ?_
    refine lv_lstore_n (lv' := [(3, .long (b32 12 r32.toNatClampNeg)), (2, .int r32), (0, .ref (ad 0)), (1, .int x1)]) hx hb dM_send_42 rfl hl (by decide) rfl (fun ls hl => ?_)
    refine lv_aload_n hx hb dM_send_43 rfl (lv_at hl 2 rfl) ?_
    refine gcL X K (n0 := 0) (As := []) (rest := []) (hM := (met_M_present hl9 D ad ca sa _ f32 a32 b32 _ hw)) (o := 0) (ho := by decide) (hko := kM_o0) (hci := rfl) (hg := wl_good) (w1 := (tm4 (i := 35) rfl rfl)) (w2 := (tm4 (i := 37) rfl rfl)) (w3 := (tm0 (i := 46) rfl rfl)) (w4 := (tm1 (i := 4) rfl rfl)) (w5 := (tm4 (i := 38) rfl rfl)) (hd := ⟨rfl, by decide, by decide, by decide +kernel⟩) (hrc := rfl) (hrs := rfl) (hR := ⟨Nat.le_of_ble_eq_true rfl, Nat.le_of_ble_eq_true rfl⟩) (hn := rfl) (hsz := hl.1) (hst := rfl) (hW := Nat.le_of_ble_eq_true rfl) (hdg := dM_send_44) (hf := ⟨Nat.le_of_ble_eq_true rfl, Nat.le_of_ble_eq_true rfl⟩) (fun _ _ _ _ _ _ _ _ hw => hw.elim) (fun r44 f44 a44 b44 H locs hw K => ?_)
    refine lv_lstore (lv' := [(5, .long r44), (3, .long (b32 12 r32.toNatClampNeg)), (2, .int r32), (0, .ref (ad 0)), (1, .int x1)]) hx hb dM_send_47 hl (by decide) rfl (fun ls hl => ?_)
    refine lv_lload hx hb dM_send_49 (lv_at hl 0 rfl) ?_
    refine lv_lconst (v := (0 : Int64)) hx hb dM_send_51 (by decide) ?_
    refine W.lcmp hx hb dM_send_52 ?_
    refine lv_if_lt (tgt := 94) hx hb dM_send_53 (by decide) (fun hc => ?_) (fun hc => ?_)
    · replace hw := hw.1 hc
      exact LM_send_94 X hex hr r32 f44 a44 b44 hw _ _ K _ (lv_sub hl [3, 2] rfl)
    · replace hw := hw.2 hc
      refine lv_lload hx hb dM_send_56 (lv_at hl 0 rfl) ?_
      refine lv_ldc2 (v := (1000000000000 : Int64)) hx hb hown (hts _ (tm4 (i := 15) rfl rfl)) dM_send_58 ?_
      refine lv_ldiv hx hb dM_send_61 (by decide) ?_
      refine lv_lload_n hx hb dM_send_62 rfl (lv_at hl 1 rfl) ?_
      refine lv_ldc2 (v := (1000000000000 : Int64)) hx hb hown (hts _ (tm4 (i := 15) rfl rfl)) dM_send_63 ?_
      refine lv_ldiv hx hb dM_send_66 (by decide) ?_
      refine W.lcmp hx hb dM_send_67 ?_
      refine lv_if_ne (tgt := 94) hx hb dM_send_68 (by decide) (fun hc => ?_) (fun hc => ?_)
      · replace hw := hw.1 hc
        exact LM_send_94 X hex hr r32 f44 a44 b44 hw _ _ K _ (lv_sub hl [3, 2] rfl)
      · replace hw := hw.2 hc
        refine lv_lload hx hb dM_send_71 (lv_at hl 0 rfl) ?_
        refine lv_lload_n hx hb dM_send_73 rfl (lv_at hl 1 rfl) ?_
        refine lv_lsub hx hb dM_send_74 ?_
        refine lv_iload_n hx hb dM_send_75 rfl (lv_at hl 4 rfl) ?_
        refine lv_iconst (v := (1 : Int32)) hx hb dM_send_76 (by decide) ?_
        refine lv_icmp_ge (tgt := 84) hx hb dM_send_77 (by decide) (fun hc => ?_) (fun hc => ?_)
        · replace hw := hw.1 hc
          refine lv_iload_n hx hb dM_send_84 rfl (lv_at hl 4 rfl) ?_
          exact LM_send_85 X hex hr x1 (r44 - (b32 12 r32.toNatClampNeg)) r32 f44 a44 b44 hw _ _ K _ (lv_sub hl [3, 2] rfl)
        · replace hw := hw.2 hc
          refine lv_iconst (v := (1 : Int32)) hx hb dM_send_80 (by decide) ?_
          refine lv_goto (tgt := 85) hx hb dM_send_81 (by decide) ?_
          exact LM_send_85 X hex hr (1 : Int32) (r44 - (b32 12 r32.toNatClampNeg)) r32 f44 a44 b44 hw _ _ K _ (lv_sub hl [3, 2] rfl)
  · replace hw := hw.2 hc
    refine lv_iconst (v := (0 : Int32)) hx hb dM_send_25 (by decide) ?_
    exact endI X K hr rfl hw (by decide) (by decide) dM_send_26
set_option maxHeartbeats 4000000 in
set_option maxRecDepth 100000 in
theorem met_M_send {l : Launch} (hl9 : l.stackTraces = false) (D : va_G) (ad : Nat → Nat) (ca : Nat → ClassId) (sa : Nat → Nat) (sz : Nat) (x1 : Int32) (f : wF) (a : wA) (b : wB) (po : Int32 → wF → wA → wB → Prop) (hw : wp_M_send po x1 f a b) : mI nM kM (tyS ca) txS D vwCl l yM_send (Cond.code yM_send cM_send 12 (some .int) :: Wl) ({ frames := 4, cells := 0, slots := 0, locals := 95 }) [.ref (ad 0), .int x1] ad ca sa sz f a b po (fun _ _ _ _ => False) 0 0 := by
  refine ofI (by decide) hl9 (Nat.le_of_ble_eq_true rfl) ?_
  intro p e s m below meth c ls X hex hr K hl
  obtain ⟨hx, hb, hml, hown, hts, hK, hA, hth, hlk, hl9⟩ := id X
  have hl : lv_has ls 12 [(0, .ref (ad 0)), (1, .int x1)] := hl
  dsimp only [wp_M_send] at hw
  refine lv_aload_n hx hb dM_send_0 rfl (lv_at hl 0 rfl) ?_
  refine lv_iload_n hx hb dM_send_1 rfl (lv_at hl 1 rfl) ?_
  refine lv_iconst (v := (0 : Int32)) hx hb dM_send_2 (by decide) ?_
  refine lv_ldc (v := (1000000 : Int32)) hx hb hown (hts _ (tm3 (i := 226) rfl rfl)) dM_send_3 ?_
  refine gcSI X K (n0 := 3) (As := [.int x1, .int (0 : Int32), .int (1000000 : Int32)]) (rest := [.ref (ad 0)]) (hM := (met_M_in hl9 D ad ca sa _ x1 (0 : Int32) (1000000 : Int32) f a b _ hw)) (hg := wl_good) (w1 := (tm3 (i := 170) rfl rfl)) (w2 := (tm3 (i := 171) rfl rfl)) (w4 := (tm1 (i := 4) rfl rfl)) (w5 := (tm3 (i := 172) rfl rfl)) (hd := ⟨by decide, by decide, by decide +kernel⟩) (hrc := rfl) (hrs := rfl) (hR := ⟨Nat.le_of_ble_eq_true rfl, Nat.le_of_ble_eq_true rfl⟩) (hn := rfl) (hsz := hl.1) (hst := rfl) (hW := Nat.le_of_ble_eq_true rfl) (hdg := dM_send_5) (hf := ⟨Nat.le_of_ble_eq_true rfl, Nat.le_of_ble_eq_true rfl⟩) (fun _ _ _ _ _ _ _ _ hw => hw.elim) (fun r5 f5 a5 b5 H locs hw K => ?_)
  refine lv_if_ne (tgt := 15) hx hb dM_send_8 (by decide) (fun hc => ?_) (fun hc => ?_)
  · replace hw := hw.1 hc
    refine lv_iconst (v := (0 : Int32)) hx hb dM_send_15 (by decide) ?_
    exact LM_send_16 X hex hr (0 : Int32) x1 f5 a5 b5 hw _ _ K _ (lv_sub hl [0, 1] rfl)
  · replace hw := hw.2 hc
    refine lv_iconst (v := (1 : Int32)) hx hb dM_send_11 (by decide) ?_
    refine lv_goto (tgt := 16) hx hb dM_send_12 (by decide) ?_
    exact LM_send_16 X hex hr (1 : Int32) x1 f5 a5 b5 hw _ _ K _ (lv_sub hl [0, 1] rfl)
set_option maxHeartbeats 4000000 in
set_option maxRecDepth 100000 in
theorem LM_stay_65 {p : Program} {l : Launch} {e : Env} {s : State} {m : MethodId} {below : List Frame} {meth : Method} {c : Code} {D : va_G} {sa : Nat → Nat} {ad : Nat → Nat} {ca : Nat → ClassId} {A : Nat → Prop} {y1 : Int32} {y2 : Int32} {po : wF → wA → wB → Prop} (X : cx Wl (tyS ca) txS D vwCl sa A p l s m ([.ref (ad 0), .int y1, .int y2] : List Value).toArray meth c cM_stay 5 "SendBestModel") (hex : ∀ x ∈ c.exceptionTable.toList, False) (hr : meth.sig.returnType = none) : ∀ (k0 : Int32) (k1 : Int32) (x2 : Int32) (x4 : Int32) (f : wF) (a : wA) (b : wB), wp_M_stay_65 po k0 k1 x2 x4 f a b → ∀ (H : Heap) (locs : List Loc), wd nM kM D vwCl ad ca A s H locs f a b → ∀ (ls : Array Slot), lv_has ls 5 [(0, .ref (ad 0)), (2, .int x2), (4, .int x4)] → W p l e ({ frames := 2, cells := 0, slots := 0, locals := 43 }) s m ([.ref (ad 0), .int y1, .int y2] : List Value).toArray below meth c H locs 0 0 (vx_MQ below (va_Qv (fun (u : wF × wA × wB) => po u.1 u.2.1 u.2.2) (sPost nM kM D vwCl ad ca A) A) (sX nM kM D vwCl ad ca A (fun _ _ _ _ => False)) ([.ref (ad 0), .int y1, .int y2] : List Value).toArray s 0 0 A) (F0 m 65 ls [.int k0, .int k1, .ref (ad 0)]) := by
  obtain ⟨hx, hb, hml, hown, hts, hK, hA, hth, hlk, hl9⟩ := id X
  intro k0 k1 x2 x4 f a b hw H locs K ls hl
  dsimp only [wp_M_stay_65] at hw
  refine lv_iconst (v := (0 : Int32)) hx hb dM_stay_65 (by decide) ?_
  refine lv_iconst (v := (0 : Int32)) hx hb dM_stay_66 (by decide) ?_
  refine gcI X K (n0 := 4) (As := [.int k1, .int k0, .int (0 : Int32), .int (0 : Int32)]) (rest := []) (hM := (met_M_throwing hl9 D ad ca sa _ k1 k0 (0 : Int32) (0 : Int32) f a b _ hw)) (o := 0) (ho := by decide) (hko := kM_o0) (hci := rfl) (hg := wl_good) (w1 := (tm3 (i := 173) rfl rfl)) (w2 := (tm3 (i := 175) rfl rfl)) (w3 := (tm0 (i := 30) rfl rfl)) (w4 := (tm1 (i := 4) rfl rfl)) (w5 := (tm3 (i := 176) rfl rfl)) (hd := ⟨rfl, by decide, by decide, by decide +kernel⟩) (hrc := rfl) (hrs := rfl) (hR := ⟨Nat.le_of_ble_eq_true rfl, Nat.le_of_ble_eq_true rfl⟩) (hn := rfl) (hsz := hl.1) (hst := rfl) (hW := Nat.le_of_ble_eq_true rfl) (hdg := dM_stay_67) (hf := ⟨Nat.le_of_ble_eq_true rfl, Nat.le_of_ble_eq_true rfl⟩) (fun _ _ _ _ _ _ _ _ hw => hw.elim) (fun r67 f67 a67 b67 H locs hw K => ?_)
  refine lv_if_eq (tgt := 74) hx hb dM_stay_70 (by decide) (fun hc => ?_) (fun hc => ?_)
  · replace hw := hw.1 hc
    refine lv_aload_n hx hb dM_stay_74 rfl (lv_at hl 0 rfl) ?_
    refine gGet X K (o := 0) (k := 12) (v := .ref (ad 9)) (by decide) kM_o0 rfl inM_o0 (by decide) (tm3 (i := 115) rfl rfl) rfl dM_stay_75 ?_
    refine lv_iload hx hb dM_stay_78 (lv_at hl 2 rfl) ?_
    refine lv_iload_n hx hb dM_stay_80 rfl (lv_at hl 1 rfl) ?_
    obtain ⟨hi, hw⟩ := hw
    refine gzst X K (o := 9) (t0 := 1) (by decide) kM_c9 rfl hi dM_stay_81 kM_p9 (fun H locs K => ?_)
    exact endV X K hr hw (by decide) (by decide) dM_stay_82
  · replace hw := hw.2 hc
    exact endV X K hr hw (by decide) (by decide) dM_stay_73
set_option maxHeartbeats 4000000 in
set_option maxRecDepth 100000 in
theorem LM_stay_64 {p : Program} {l : Launch} {e : Env} {s : State} {m : MethodId} {below : List Frame} {meth : Method} {c : Code} {D : va_G} {sa : Nat → Nat} {ad : Nat → Nat} {ca : Nat → ClassId} {A : Nat → Prop} {y1 : Int32} {y2 : Int32} {po : wF → wA → wB → Prop} (X : cx Wl (tyS ca) txS D vwCl sa A p l s m ([.ref (ad 0), .int y1, .int y2] : List Value).toArray meth c cM_stay 5 "SendBestModel") (hex : ∀ x ∈ c.exceptionTable.toList, False) (hr : meth.sig.returnType = none) : ∀ (k0 : Int32) (x2 : Int32) (x4 : Int32) (f : wF) (a : wA) (b : wB), wp_M_stay_64 po k0 x2 x4 f a b → ∀ (H : Heap) (locs : List Loc), wd nM kM D vwCl ad ca A s H locs f a b → ∀ (ls : Array Slot), lv_has ls 5 [(0, .ref (ad 0)), (2, .int x2), (4, .int x4)] → W p l e ({ frames := 2, cells := 0, slots := 0, locals := 43 }) s m ([.ref (ad 0), .int y1, .int y2] : List Value).toArray below meth c H locs 0 0 (vx_MQ below (va_Qv (fun (u : wF × wA × wB) => po u.1 u.2.1 u.2.2) (sPost nM kM D vwCl ad ca A) A) (sX nM kM D vwCl ad ca A (fun _ _ _ _ => False)) ([.ref (ad 0), .int y1, .int y2] : List Value).toArray s 0 0 A) (F0 m 64 ls [.int k0, .ref (ad 0)]) := by
  obtain ⟨hx, hb, hml, hown, hts, hK, hA, hth, hlk, hl9⟩ := id X
  intro k0 x2 x4 f a b hw H locs K ls hl
  dsimp only [wp_M_stay_64] at hw
  refine lv_iconst (v := (0 : Int32)) hx hb dM_stay_64 (by decide) ?_
  exact LM_stay_65 X hex hr (0 : Int32) k0 x2 x4 f a b hw _ _ K _ (lv_sub hl [0, 1, 2] rfl)
set_option maxHeartbeats 4000000 in
set_option maxRecDepth 100000 in
theorem LM_stay_60 {p : Program} {l : Launch} {e : Env} {s : State} {m : MethodId} {below : List Frame} {meth : Method} {c : Code} {D : va_G} {sa : Nat → Nat} {ad : Nat → Nat} {ca : Nat → ClassId} {A : Nat → Prop} {y1 : Int32} {y2 : Int32} {po : wF → wA → wB → Prop} (X : cx Wl (tyS ca) txS D vwCl sa A p l s m ([.ref (ad 0), .int y1, .int y2] : List Value).toArray meth c cM_stay 5 "SendBestModel") (hex : ∀ x ∈ c.exceptionTable.toList, False) (hr : meth.sig.returnType = none) : ∀ (k0 : Int32) (x2 : Int32) (x4 : Int32) (f : wF) (a : wA) (b : wB), wp_M_stay_60 po k0 x2 x4 f a b → ∀ (H : Heap) (locs : List Loc), wd nM kM D vwCl ad ca A s H locs f a b → ∀ (ls : Array Slot), lv_has ls 5 [(0, .ref (ad 0)), (2, .int x2), (4, .int x4)] → W p l e ({ frames := 2, cells := 0, slots := 0, locals := 43 }) s m ([.ref (ad 0), .int y1, .int y2] : List Value).toArray below meth c H locs 0 0 (vx_MQ below (va_Qv (fun (u : wF × wA × wB) => po u.1 u.2.1 u.2.2) (sPost nM kM D vwCl ad ca A) A) (sX nM kM D vwCl ad ca A (fun _ _ _ _ => False)) ([.ref (ad 0), .int y1, .int y2] : List Value).toArray s 0 0 A) (F0 m 60 ls [.int k0, .ref (ad 0)]) := by
  obtain ⟨hx, hb, hml, hown, hts, hK, hA, hth, hlk, hl9⟩ := id X
  intro k0 x2 x4 f a b hw H locs K ls hl
  dsimp only [wp_M_stay_60] at hw
  refine lv_iconst (v := (1 : Int32)) hx hb dM_stay_60 (by decide) ?_
  refine lv_goto (tgt := 65) hx hb dM_stay_61 (by decide) ?_
  exact LM_stay_65 X hex hr (1 : Int32) k0 x2 x4 f a b hw _ _ K _ (lv_sub hl [0, 1, 2] rfl)
set_option maxHeartbeats 4000000 in
set_option maxRecDepth 100000 in
theorem LM_stay_55 {p : Program} {l : Launch} {e : Env} {s : State} {m : MethodId} {below : List Frame} {meth : Method} {c : Code} {D : va_G} {sa : Nat → Nat} {ad : Nat → Nat} {ca : Nat → ClassId} {A : Nat → Prop} {y1 : Int32} {y2 : Int32} {po : wF → wA → wB → Prop} (X : cx Wl (tyS ca) txS D vwCl sa A p l s m ([.ref (ad 0), .int y1, .int y2] : List Value).toArray meth c cM_stay 5 "SendBestModel") (hex : ∀ x ∈ c.exceptionTable.toList, False) (hr : meth.sig.returnType = none) : ∀ (k0 : Int32) (k2 : Int32) (x2 : Int32) (x4 : Int32) (f : wF) (a : wA) (b : wB), wp_M_stay_55 po k0 k2 x2 x4 f a b → ∀ (H : Heap) (locs : List Loc), wd nM kM D vwCl ad ca A s H locs f a b → ∀ (ls : Array Slot), lv_has ls 5 [(0, .ref (ad 0)), (2, .int x2), (4, .int x4)] → W p l e ({ frames := 2, cells := 0, slots := 0, locals := 43 }) s m ([.ref (ad 0), .int y1, .int y2] : List Value).toArray below meth c H locs 0 0 (vx_MQ below (va_Qv (fun (u : wF × wA × wB) => po u.1 u.2.1 u.2.2) (sPost nM kM D vwCl ad ca A) A) (sX nM kM D vwCl ad ca A (fun _ _ _ _ => False)) ([.ref (ad 0), .int y1, .int y2] : List Value).toArray s 0 0 A) (F0 m 55 ls [.int k0, .ref (ad 9), .int k2, .ref (ad 0)]) := by
  obtain ⟨hx, hb, hml, hown, hts, hK, hA, hth, hlk, hl9⟩ := id X
  intro k0 k2 x2 x4 f a b hw H locs K ls hl
  dsimp only [wp_M_stay_55] at hw
  obtain ⟨hi, hw⟩ := hw
  refine gzld X K (o := 9) (t0 := 1) (by decide) kM_c9 rfl hi dM_stay_55 ?_
  refine lv_iload_n hx hb dM_stay_56 rfl (lv_at hl 1 rfl) ?_
  refine lv_icmp_ne (tgt := 64) hx hb dM_stay_57 (by decide) (fun hc => ?_) (fun hc => ?_)
  · replace hw := hw.1 hc
    exact LM_stay_64 X hex hr k2 x2 x4 f a b hw _ _ K _ (lv_sub hl [0, 1, 2] rfl)
  · replace hw := hw.2 hc
    exact LM_stay_60 X hex hr k2 x2 x4 f a b hw _ _ K _ (lv_sub hl [0, 1, 2] rfl)
set_option maxHeartbeats 4000000 in
set_option maxRecDepth 100000 in
theorem LM_stay_27 {p : Program} {l : Launch} {e : Env} {s : State} {m : MethodId} {below : List Frame} {meth : Method} {c : Code} {D : va_G} {sa : Nat → Nat} {ad : Nat → Nat} {ca : Nat → ClassId} {A : Nat → Prop} {y1 : Int32} {y2 : Int32} {po : wF → wA → wB → Prop} (X : cx Wl (tyS ca) txS D vwCl sa A p l s m ([.ref (ad 0), .int y1, .int y2] : List Value).toArray meth c cM_stay 5 "SendBestModel") (hex : ∀ x ∈ c.exceptionTable.toList, False) (hr : meth.sig.returnType = none) : ∀ (k0 : Int32) (x2 : Int32) (x3 : Int32) (f : wF) (a : wA) (b : wB), wp_M_stay_27 po k0 x2 x3 f a b → ∀ (H : Heap) (locs : List Loc), wd nM kM D vwCl ad ca A s H locs f a b → ∀ (ls : Array Slot), lv_has ls 5 [(0, .ref (ad 0)), (2, .int x2), (3, .int x3)] → W p l e ({ frames := 2, cells := 0, slots := 0, locals := 43 }) s m ([.ref (ad 0), .int y1, .int y2] : List Value).toArray below meth c H locs 0 0 (vx_MQ below (va_Qv (fun (u : wF × wA × wB) => po u.1 u.2.1 u.2.2) (sPost nM kM D vwCl ad ca A) A) (sX nM kM D vwCl ad ca A (fun _ _ _ _ => False)) ([.ref (ad 0), .int y1, .int y2] : List Value).toArray s 0 0 A) (F0 m 27 ls [.int k0]) := by
  obtain ⟨hx, hb, hml, hown, hts, hK, hA, hth, hlk, hl9⟩ := id X
  intro k0 x2 x3 f a b hw H locs K ls hl
  dsimp only [wp_M_stay_27] at hw
  refine lv_istore (lv' := [(4, .int k0), (0, .ref (ad 0)), (2, .int x2), (3, .int x3)]) hx hb dM_stay_27 hl (by decide) rfl (fun ls hl => ?_)
  refine lv_aload_n hx hb dM_stay_29 rfl (lv_at hl 1 rfl) ?_
  refine lv_iload_n hx hb dM_stay_30 rfl (lv_at hl 3 rfl) ?_
  refine lv_iload_n hx hb dM_stay_31 rfl (lv_at hl 3 rfl) ?_
  refine lv_if_ne (tgt := 64) hx hb dM_stay_32 (by decide) (fun hc => ?_) (fun hc => ?_)
  · replace hw := hw.1 hc
    exact LM_stay_64 X hex hr x3 x2 k0 f a b hw _ _ K _ (lv_sub hl [1, 2, 0] rfl)
  · replace hw := hw.2 hc
    refine lv_iload hx hb dM_stay_35 (lv_at hl 0 rfl) ?_
    refine lv_if_lt (tgt := 60) hx hb dM_stay_37 (by decide) (fun hc => ?_) (fun hc => ?_)
    · replace hw := hw.1 hc
      exact LM_stay_60 X hex hr x3 x2 k0 f a b hw _ _ K _ (lv_sub hl [1, 2, 0] rfl)
    · replace hw := hw.2 hc
      refine lv_aload_n hx hb dM_stay_40 rfl (lv_at hl 1 rfl) ?_
      refine gGet X K (o := 0) (k := 12) (v := .ref (ad 9)) (by decide) kM_o0 rfl inM_o0 (by decide) (tm3 (i := 115) rfl rfl) rfl dM_stay_41 ?_
      refine lv_iload hx hb dM_stay_44 (lv_at hl 0 rfl) ?_
      refine lv_if_ge (tgt := 53) hx hb dM_stay_46 (by decide) (fun hc => ?_) (fun hc => ?_)
      · replace hw := hw.1 hc
        refine lv_iload hx hb dM_stay_53 (lv_at hl 0 rfl) ?_
        exact LM_stay_55 X hex hr k0 x3 x2 k0 f a b hw _ _ K _ (lv_sub hl [1, 2, 0] rfl)
      · replace hw := hw.2 hc
        refine lv_iconst (v := (0 : Int32)) hx hb dM_stay_49 (by decide) ?_
        refine lv_goto (tgt := 55) hx hb dM_stay_50 (by decide) ?_
        exact LM_stay_55 X hex hr (0 : Int32) x3 x2 k0 f a b hw _ _ K _ (lv_sub hl [1, 2, 0] rfl)
set_option maxHeartbeats 4000000 in
set_option maxRecDepth 100000 in
theorem LM_stay_13 {p : Program} {l : Launch} {e : Env} {s : State} {m : MethodId} {below : List Frame} {meth : Method} {c : Code} {D : va_G} {sa : Nat → Nat} {ad : Nat → Nat} {ca : Nat → ClassId} {A : Nat → Prop} {y1 : Int32} {y2 : Int32} {po : wF → wA → wB → Prop} (X : cx Wl (tyS ca) txS D vwCl sa A p l s m ([.ref (ad 0), .int y1, .int y2] : List Value).toArray meth c cM_stay 5 "SendBestModel") (hex : ∀ x ∈ c.exceptionTable.toList, False) (hr : meth.sig.returnType = none) : ∀ (k0 : Int32) (x1 : Int32) (x2 : Int32) (f : wF) (a : wA) (b : wB), wp_M_stay_13 po k0 x1 x2 f a b → ∀ (H : Heap) (locs : List Loc), wd nM kM D vwCl ad ca A s H locs f a b → ∀ (ls : Array Slot), lv_has ls 5 [(0, .ref (ad 0)), (1, .int x1), (2, .int x2)] → W p l e ({ frames := 2, cells := 0, slots := 0, locals := 43 }) s m ([.ref (ad 0), .int y1, .int y2] : List Value).toArray below meth c H locs 0 0 (vx_MQ below (va_Qv (fun (u : wF × wA × wB) => po u.1 u.2.1 u.2.2) (sPost nM kM D vwCl ad ca A) A) (sX nM kM D vwCl ad ca A (fun _ _ _ _ => False)) ([.ref (ad 0), .int y1, .int y2] : List Value).toArray s 0 0 A) (F0 m 13 ls [.int k0]) := by
  obtain ⟨hx, hb, hml, hown, hts, hK, hA, hth, hlk, hl9⟩ := id X
  intro k0 x1 x2 f a b hw H locs K ls hl
  dsimp only [wp_M_stay_13] at hw
  refine lv_istore_n (lv' := [(3, .int k0), (0, .ref (ad 0)), (1, .int x1), (2, .int x2)]) hx hb dM_stay_13 rfl hl (by decide) rfl (fun ls hl => ?_)
  refine lv_iload_n hx hb dM_stay_14 rfl (lv_at hl 0 rfl) ?_
  refine lv_if_eq (tgt := 22) hx hb dM_stay_15 (by decide) (fun hc => ?_) (fun hc => ?_)
  · replace hw := hw.1 hc
    refine lv_aload_n hx hb dM_stay_22 rfl (lv_at hl 1 rfl) ?_
    refine lv_iload_n hx hb dM_stay_23 rfl (lv_at hl 2 rfl) ?_
    refine gcI X K (n0 := 1) (As := [.int x1]) (rest := []) (hM := (met_M_needOf hl9 D ad ca sa _ x1 f a b _ hw)) (o := 0) (ho := by decide) (hko := kM_o0) (hci := rfl) (hg := wl_good) (w1 := (tm3 (i := 214) rfl rfl)) (w2 := (tm3 (i := 216) rfl rfl)) (w3 := (tm0 (i := 33) rfl rfl)) (w4 := (tm1 (i := 4) rfl rfl)) (w5 := (tm3 (i := 217) rfl rfl)) (hd := ⟨rfl, by decide, by decide, by decide +kernel⟩) (hrc := rfl) (hrs := rfl) (hR := ⟨Nat.le_of_ble_eq_true rfl, Nat.le_of_ble_eq_true rfl⟩) (hn := rfl) (hsz := hl.1) (hst := rfl) (hW := Nat.le_of_ble_eq_true rfl) (hdg := dM_stay_24) (hf := ⟨Nat.le_of_ble_eq_true rfl, Nat.le_of_ble_eq_true rfl⟩) (fun _ _ _ _ _ _ _ _ hw => hw.elim) (fun r24 f24 a24 b24 H locs hw K => ?_)
    exact LM_stay_27 X hex hr r24 x2 k0 f24 a24 b24 hw _ _ K _ (lv_sub hl [1, 3, 0] rfl)
  · replace hw := hw.2 hc
    refine lv_iconst (v := (-1 : Int32)) hx hb dM_stay_18 (by decide) ?_
    refine lv_goto (tgt := 27) hx hb dM_stay_19 (by decide) ?_
    exact LM_stay_27 X hex hr (-1 : Int32) x2 k0 f a b hw _ _ K _ (lv_sub hl [1, 3, 0] rfl)
set_option maxHeartbeats 4000000 in
set_option maxRecDepth 100000 in
theorem met_M_stay {l : Launch} (hl9 : l.stackTraces = false) (D : va_G) (ad : Nat → Nat) (ca : Nat → ClassId) (sa : Nat → Nat) (sz : Nat) (x1 : Int32) (x2 : Int32) (f : wF) (a : wA) (b : wB) (po : wF → wA → wB → Prop) (hw : wp_M_stay po x1 x2 f a b) : mV nM kM (tyS ca) txS D vwCl l yM_stay (Cond.code yM_stay cM_stay 5 none :: Wl) ({ frames := 2, cells := 0, slots := 0, locals := 43 }) [.ref (ad 0), .int x1, .int x2] ad ca sa sz f a b po (fun _ _ _ _ => False) 0 0 := by
  refine ofV (by decide) hl9 (Nat.le_of_ble_eq_true rfl) ?_
  intro p e s m below meth c ls X hex hr K hl
  obtain ⟨hx, hb, hml, hown, hts, hK, hA, hth, hlk, hl9⟩ := id X
  have hl : lv_has ls 5 [(0, .ref (ad 0)), (1, .int x1), (2, .int x2)] := hl
  dsimp only [wp_M_stay] at hw
  refine lv_aload_n hx hb dM_stay_0 rfl (lv_at hl 0 rfl) ?_
  refine lv_iload_n hx hb dM_stay_1 rfl (lv_at hl 1 rfl) ?_
  refine gcI X K (n0 := 1) (As := [.int x1]) (rest := []) (hM := (met_M_isUnit hl9 D ad ca sa _ x1 f a b _ hw)) (o := 0) (ho := by decide) (hko := kM_o0) (hci := rfl) (hg := wl_good) (w1 := (tm3 (i := 197) rfl rfl)) (w2 := (tm3 (i := 199) rfl rfl)) (w3 := (tm0 (i := 32) rfl rfl)) (w4 := (tm1 (i := 4) rfl rfl)) (w5 := (tm3 (i := 200) rfl rfl)) (hd := ⟨rfl, by decide, by decide, by decide +kernel⟩) (hrc := rfl) (hrs := rfl) (hR := ⟨Nat.le_of_ble_eq_true rfl, Nat.le_of_ble_eq_true rfl⟩) (hn := rfl) (hsz := hl.1) (hst := rfl) (hW := Nat.le_of_ble_eq_true rfl) (hdg := dM_stay_2) (hf := ⟨Nat.le_of_ble_eq_true rfl, Nat.le_of_ble_eq_true rfl⟩) (fun _ _ _ _ _ _ _ _ hw => hw.elim) (fun r2 f2 a2 b2 H locs hw K => ?_)
  refine lv_if_ne (tgt := 12) hx hb dM_stay_5 (by decide) (fun hc => ?_) (fun hc => ?_)
  · replace hw := hw.1 hc
    refine lv_iconst (v := (0 : Int32)) hx hb dM_stay_12 (by decide) ?_
    exact LM_stay_13 X hex hr (0 : Int32) x1 x2 f2 a2 b2 hw _ _ K _ (lv_sub hl [0, 1, 2] rfl)
  · replace hw := hw.2 hc
    refine lv_iconst (v := (1 : Int32)) hx hb dM_stay_8 (by decide) ?_
    refine lv_goto (tgt := 13) hx hb dM_stay_9 (by decide) ?_
    exact LM_stay_13 X hex hr (1 : Int32) x1 x2 f2 a2 b2 hw _ _ K _ (lv_sub hl [0, 1, 2] rfl)
set_option maxHeartbeats 4000000 in
set_option maxRecDepth 100000 in
theorem LM_recall_43 {p : Program} {l : Launch} {e : Env} {s : State} {m : MethodId} {below : List Frame} {meth : Method} {c : Code} {D : va_G} {sa : Nat → Nat} {ad : Nat → Nat} {ca : Nat → ClassId} {A : Nat → Prop} {y1 : Int32} {po : wF → wA → wB → Prop} (X : cx Wl (tyS ca) txS D vwCl sa A p l s m ([.ref (ad 0), .int y1] : List Value).toArray meth c cM_recall 4 "SendBestModel") (hex : ∀ x ∈ c.exceptionTable.toList, False) (hr : meth.sig.returnType = none) : ∀ (k0 : Int32) (k1 : Int32) (x3 : Int32) (f : wF) (a : wA) (b : wB), wp_M_recall_43 po k0 k1 x3 f a b → ∀ (H : Heap) (locs : List Loc), wd nM kM D vwCl ad ca A s H locs f a b → ∀ (ls : Array Slot), lv_has ls 4 [(0, .ref (ad 0)), (3, .int x3)] → W p l e ({ frames := 2, cells := 0, slots := 0, locals := 43 }) s m ([.ref (ad 0), .int y1] : List Value).toArray below meth c H locs 0 0 (vx_MQ below (va_Qv (fun (u : wF × wA × wB) => po u.1 u.2.1 u.2.2) (sPost nM kM D vwCl ad ca A) A) (sX nM kM D vwCl ad ca A (fun _ _ _ _ => False)) ([.ref (ad 0), .int y1] : List Value).toArray s 0 0 A) (F0 m 43 ls [.int k0, .int k1, .ref (ad 0)]) := by
  obtain ⟨hx, hb, hml, hown, hts, hK, hA, hth, hlk, hl9⟩ := id X
  intro k0 k1 x3 f a b hw H locs K ls hl
  dsimp only [wp_M_recall_43] at hw
  refine lv_iconst (v := (0 : Int32)) hx hb dM_recall_43 (by decide) ?_
  refine lv_iconst (v := (0 : Int32)) hx hb dM_recall_44 (by decide) ?_
  refine gcI X K (n0 := 4) (As := [.int k1, .int k0, .int (0 : Int32), .int (0 : Int32)]) (rest := []) (hM := (met_M_throwing hl9 D ad ca sa _ k1 k0 (0 : Int32) (0 : Int32) f a b _ hw)) (o := 0) (ho := by decide) (hko := kM_o0) (hci := rfl) (hg := wl_good) (w1 := (tm3 (i := 173) rfl rfl)) (w2 := (tm3 (i := 175) rfl rfl)) (w3 := (tm0 (i := 30) rfl rfl)) (w4 := (tm1 (i := 4) rfl rfl)) (w5 := (tm3 (i := 176) rfl rfl)) (hd := ⟨rfl, by decide, by decide, by decide +kernel⟩) (hrc := rfl) (hrs := rfl) (hR := ⟨Nat.le_of_ble_eq_true rfl, Nat.le_of_ble_eq_true rfl⟩) (hn := rfl) (hsz := hl.1) (hst := rfl) (hW := Nat.le_of_ble_eq_true rfl) (hdg := dM_recall_45) (hf := ⟨Nat.le_of_ble_eq_true rfl, Nat.le_of_ble_eq_true rfl⟩) (fun _ _ _ _ _ _ _ _ hw => hw.elim) (fun r45 f45 a45 b45 H locs hw K => ?_)
  refine lv_if_eq (tgt := 52) hx hb dM_recall_48 (by decide) (fun hc => ?_) (fun hc => ?_)
  · replace hw := hw.1 hc
    refine lv_aload_n hx hb dM_recall_52 rfl (lv_at hl 0 rfl) ?_
    refine lv_iload_n hx hb dM_recall_53 rfl (lv_at hl 1 rfl) ?_
    refine gcV X K (n0 := 1) (As := [.int x3]) (rest := []) (hM := (met_M_leave hl9 D ad ca sa _ x3 f45 a45 b45 _ hw)) (o := 0) (ho := by decide) (hko := kM_o0) (hci := rfl) (hg := wl_good) (w1 := (tm3 (i := 218) rfl rfl)) (w2 := (tm3 (i := 220) rfl rfl)) (w3 := (tm0 (i := 34) rfl rfl)) (w4 := (tm1 (i := 4) rfl rfl)) (w5 := (tm3 (i := 221) rfl rfl)) (hd := ⟨rfl, by decide, by decide, by decide +kernel⟩) (hrc := rfl) (hrs := rfl) (hR := ⟨Nat.le_of_ble_eq_true rfl, Nat.le_of_ble_eq_true rfl⟩) (hn := rfl) (hsz := hl.1) (hst := rfl) (hW := Nat.le_of_ble_eq_true rfl) (hdg := dM_recall_54) (hf := ⟨Nat.le_of_ble_eq_true rfl, Nat.le_of_ble_eq_true rfl⟩) (fun _ _ _ _ _ _ _ _ hw => hw.elim) (fun f54 a54 b54 H locs hw K => ?_)
    exact endV X K hr hw (by decide) (by decide) dM_recall_57
  · replace hw := hw.2 hc
    exact endV X K hr hw (by decide) (by decide) dM_recall_51
set_option maxHeartbeats 4000000 in
set_option maxRecDepth 100000 in
theorem LM_recall_42 {p : Program} {l : Launch} {e : Env} {s : State} {m : MethodId} {below : List Frame} {meth : Method} {c : Code} {D : va_G} {sa : Nat → Nat} {ad : Nat → Nat} {ca : Nat → ClassId} {A : Nat → Prop} {y1 : Int32} {po : wF → wA → wB → Prop} (X : cx Wl (tyS ca) txS D vwCl sa A p l s m ([.ref (ad 0), .int y1] : List Value).toArray meth c cM_recall 4 "SendBestModel") (hex : ∀ x ∈ c.exceptionTable.toList, False) (hr : meth.sig.returnType = none) : ∀ (k0 : Int32) (x3 : Int32) (f : wF) (a : wA) (b : wB), wp_M_recall_42 po k0 x3 f a b → ∀ (H : Heap) (locs : List Loc), wd nM kM D vwCl ad ca A s H locs f a b → ∀ (ls : Array Slot), lv_has ls 4 [(0, .ref (ad 0)), (3, .int x3)] → W p l e ({ frames := 2, cells := 0, slots := 0, locals := 43 }) s m ([.ref (ad 0), .int y1] : List Value).toArray below meth c H locs 0 0 (vx_MQ below (va_Qv (fun (u : wF × wA × wB) => po u.1 u.2.1 u.2.2) (sPost nM kM D vwCl ad ca A) A) (sX nM kM D vwCl ad ca A (fun _ _ _ _ => False)) ([.ref (ad 0), .int y1] : List Value).toArray s 0 0 A) (F0 m 42 ls [.int k0, .ref (ad 0)]) := by
  obtain ⟨hx, hb, hml, hown, hts, hK, hA, hth, hlk, hl9⟩ := id X
  intro k0 x3 f a b hw H locs K ls hl
  dsimp only [wp_M_recall_42] at hw
  refine lv_iconst (v := (0 : Int32)) hx hb dM_recall_42 (by decide) ?_
  exact LM_recall_43 X hex hr (0 : Int32) k0 x3 f a b hw _ _ K _ (lv_sub hl [0, 1] rfl)
set_option maxHeartbeats 4000000 in
set_option maxRecDepth 100000 in
theorem LM_recall_27 {p : Program} {l : Launch} {e : Env} {s : State} {m : MethodId} {below : List Frame} {meth : Method} {c : Code} {D : va_G} {sa : Nat → Nat} {ad : Nat → Nat} {ca : Nat → ClassId} {A : Nat → Prop} {y1 : Int32} {po : wF → wA → wB → Prop} (X : cx Wl (tyS ca) txS D vwCl sa A p l s m ([.ref (ad 0), .int y1] : List Value).toArray meth c cM_recall 4 "SendBestModel") (hex : ∀ x ∈ c.exceptionTable.toList, False) (hr : meth.sig.returnType = none) : ∀ (k0 : Int32) (x2 : Int32) (f : wF) (a : wA) (b : wB), wp_M_recall_27 po k0 x2 f a b → ∀ (H : Heap) (locs : List Loc), wd nM kM D vwCl ad ca A s H locs f a b → ∀ (ls : Array Slot), lv_has ls 4 [(0, .ref (ad 0)), (2, .int x2)] → W p l e ({ frames := 2, cells := 0, slots := 0, locals := 43 }) s m ([.ref (ad 0), .int y1] : List Value).toArray below meth c H locs 0 0 (vx_MQ below (va_Qv (fun (u : wF × wA × wB) => po u.1 u.2.1 u.2.2) (sPost nM kM D vwCl ad ca A) A) (sX nM kM D vwCl ad ca A (fun _ _ _ _ => False)) ([.ref (ad 0), .int y1] : List Value).toArray s 0 0 A) (F0 m 27 ls [.int k0]) := by
  obtain ⟨hx, hb, hml, hown, hts, hK, hA, hth, hlk, hl9⟩ := id X
  intro k0 x2 f a b hw H locs K ls hl
  dsimp only [wp_M_recall_27] at hw
  refine lv_istore_n (lv' := [(3, .int k0), (0, .ref (ad 0)), (2, .int x2)]) hx hb dM_recall_27 rfl hl (by decide) rfl (fun ls hl => ?_)
  refine lv_aload_n hx hb dM_recall_28 rfl (lv_at hl 1 rfl) ?_
  refine lv_iload_n hx hb dM_recall_29 rfl (lv_at hl 2 rfl) ?_
  refine lv_iload_n hx hb dM_recall_30 rfl (lv_at hl 2 rfl) ?_
  refine lv_if_ne (tgt := 42) hx hb dM_recall_31 (by decide) (fun hc => ?_) (fun hc => ?_)
  · replace hw := hw.1 hc
    exact LM_recall_42 X hex hr x2 k0 f a b hw _ _ K _ (lv_sub hl [1, 0] rfl)
  · replace hw := hw.2 hc
    refine lv_iload_n hx hb dM_recall_34 rfl (lv_at hl 0 rfl) ?_
    refine lv_if_ge (tgt := 42) hx hb dM_recall_35 (by decide) (fun hc => ?_) (fun hc => ?_)
    · replace hw := hw.1 hc
      exact LM_recall_42 X hex hr x2 k0 f a b hw _ _ K _ (lv_sub hl [1, 0] rfl)
    · replace hw := hw.2 hc
      refine lv_iconst (v := (1 : Int32)) hx hb dM_recall_38 (by decide) ?_
      refine lv_goto (tgt := 43) hx hb dM_recall_39 (by decide) ?_
      exact LM_recall_43 X hex hr (1 : Int32) x2 k0 f a b hw _ _ K _ (lv_sub hl [1, 0] rfl)
set_option maxHeartbeats 4000000 in
set_option maxRecDepth 100000 in
theorem LM_recall_13 {p : Program} {l : Launch} {e : Env} {s : State} {m : MethodId} {below : List Frame} {meth : Method} {c : Code} {D : va_G} {sa : Nat → Nat} {ad : Nat → Nat} {ca : Nat → ClassId} {A : Nat → Prop} {y1 : Int32} {po : wF → wA → wB → Prop} (X : cx Wl (tyS ca) txS D vwCl sa A p l s m ([.ref (ad 0), .int y1] : List Value).toArray meth c cM_recall 4 "SendBestModel") (hex : ∀ x ∈ c.exceptionTable.toList, False) (hr : meth.sig.returnType = none) : ∀ (k0 : Int32) (x1 : Int32) (f : wF) (a : wA) (b : wB), wp_M_recall_13 po k0 x1 f a b → ∀ (H : Heap) (locs : List Loc), wd nM kM D vwCl ad ca A s H locs f a b → ∀ (ls : Array Slot), lv_has ls 4 [(0, .ref (ad 0)), (1, .int x1)] → W p l e ({ frames := 2, cells := 0, slots := 0, locals := 43 }) s m ([.ref (ad 0), .int y1] : List Value).toArray below meth c H locs 0 0 (vx_MQ below (va_Qv (fun (u : wF × wA × wB) => po u.1 u.2.1 u.2.2) (sPost nM kM D vwCl ad ca A) A) (sX nM kM D vwCl ad ca A (fun _ _ _ _ => False)) ([.ref (ad 0), .int y1] : List Value).toArray s 0 0 A) (F0 m 13 ls [.int k0]) := by
  obtain ⟨hx, hb, hml, hown, hts, hK, hA, hth, hlk, hl9⟩ := id X
  intro k0 x1 f a b hw H locs K ls hl
  dsimp only [wp_M_recall_13] at hw
  refine lv_istore_n (lv' := [(2, .int k0), (0, .ref (ad 0)), (1, .int x1)]) hx hb dM_recall_13 rfl hl (by decide) rfl (fun ls hl => ?_)
  refine lv_iload_n hx hb dM_recall_14 rfl (lv_at hl 0 rfl) ?_
  refine lv_if_eq (tgt := 22) hx hb dM_recall_15 (by decide) (fun hc => ?_) (fun hc => ?_)
  · replace hw := hw.1 hc
    refine lv_aload_n hx hb dM_recall_22 rfl (lv_at hl 1 rfl) ?_
    refine lv_iload_n hx hb dM_recall_23 rfl (lv_at hl 2 rfl) ?_
    refine gcI X K (n0 := 1) (As := [.int x1]) (rest := []) (hM := (met_M_needOf hl9 D ad ca sa _ x1 f a b _ hw)) (o := 0) (ho := by decide) (hko := kM_o0) (hci := rfl) (hg := wl_good) (w1 := (tm3 (i := 214) rfl rfl)) (w2 := (tm3 (i := 216) rfl rfl)) (w3 := (tm0 (i := 33) rfl rfl)) (w4 := (tm1 (i := 4) rfl rfl)) (w5 := (tm3 (i := 217) rfl rfl)) (hd := ⟨rfl, by decide, by decide, by decide +kernel⟩) (hrc := rfl) (hrs := rfl) (hR := ⟨Nat.le_of_ble_eq_true rfl, Nat.le_of_ble_eq_true rfl⟩) (hn := rfl) (hsz := hl.1) (hst := rfl) (hW := Nat.le_of_ble_eq_true rfl) (hdg := dM_recall_24) (hf := ⟨Nat.le_of_ble_eq_true rfl, Nat.le_of_ble_eq_true rfl⟩) (fun _ _ _ _ _ _ _ _ hw => hw.elim) (fun r24 f24 a24 b24 H locs hw K => ?_)
    exact LM_recall_27 X hex hr r24 k0 f24 a24 b24 hw _ _ K _ (lv_sub hl [1, 0] rfl)
  · replace hw := hw.2 hc
    refine lv_iconst (v := (-1 : Int32)) hx hb dM_recall_18 (by decide) ?_
    refine lv_goto (tgt := 27) hx hb dM_recall_19 (by decide) ?_
    exact LM_recall_27 X hex hr (-1 : Int32) k0 f a b hw _ _ K _ (lv_sub hl [1, 0] rfl)
set_option maxHeartbeats 4000000 in
set_option maxRecDepth 100000 in
theorem met_M_recall {l : Launch} (hl9 : l.stackTraces = false) (D : va_G) (ad : Nat → Nat) (ca : Nat → ClassId) (sa : Nat → Nat) (sz : Nat) (x1 : Int32) (f : wF) (a : wA) (b : wB) (po : wF → wA → wB → Prop) (hw : wp_M_recall po x1 f a b) : mV nM kM (tyS ca) txS D vwCl l yM_recall (Cond.code yM_recall cM_recall 4 none :: Wl) ({ frames := 2, cells := 0, slots := 0, locals := 43 }) [.ref (ad 0), .int x1] ad ca sa sz f a b po (fun _ _ _ _ => False) 0 0 := by
  refine ofV (by decide) hl9 (Nat.le_of_ble_eq_true rfl) ?_
  intro p e s m below meth c ls X hex hr K hl
  obtain ⟨hx, hb, hml, hown, hts, hK, hA, hth, hlk, hl9⟩ := id X
  have hl : lv_has ls 4 [(0, .ref (ad 0)), (1, .int x1)] := hl
  dsimp only [wp_M_recall] at hw
  refine lv_aload_n hx hb dM_recall_0 rfl (lv_at hl 0 rfl) ?_
  refine lv_iload_n hx hb dM_recall_1 rfl (lv_at hl 1 rfl) ?_
  refine gcI X K (n0 := 1) (As := [.int x1]) (rest := []) (hM := (met_M_isUnit hl9 D ad ca sa _ x1 f a b _ hw)) (o := 0) (ho := by decide) (hko := kM_o0) (hci := rfl) (hg := wl_good) (w1 := (tm3 (i := 197) rfl rfl)) (w2 := (tm3 (i := 199) rfl rfl)) (w3 := (tm0 (i := 32) rfl rfl)) (w4 := (tm1 (i := 4) rfl rfl)) (w5 := (tm3 (i := 200) rfl rfl)) (hd := ⟨rfl, by decide, by decide, by decide +kernel⟩) (hrc := rfl) (hrs := rfl) (hR := ⟨Nat.le_of_ble_eq_true rfl, Nat.le_of_ble_eq_true rfl⟩) (hn := rfl) (hsz := hl.1) (hst := rfl) (hW := Nat.le_of_ble_eq_true rfl) (hdg := dM_recall_2) (hf := ⟨Nat.le_of_ble_eq_true rfl, Nat.le_of_ble_eq_true rfl⟩) (fun _ _ _ _ _ _ _ _ hw => hw.elim) (fun r2 f2 a2 b2 H locs hw K => ?_)
  refine lv_if_ne (tgt := 12) hx hb dM_recall_5 (by decide) (fun hc => ?_) (fun hc => ?_)
  · replace hw := hw.1 hc
    refine lv_iconst (v := (0 : Int32)) hx hb dM_recall_12 (by decide) ?_
    exact LM_recall_13 X hex hr (0 : Int32) x1 f2 a2 b2 hw _ _ K _ (lv_sub hl [0, 1] rfl)
  · replace hw := hw.2 hc
    refine lv_iconst (v := (1 : Int32)) hx hb dM_recall_8 (by decide) ?_
    refine lv_goto (tgt := 13) hx hb dM_recall_9 (by decide) ?_
    exact LM_recall_13 X hex hr (1 : Int32) x1 f2 a2 b2 hw _ _ K _ (lv_sub hl [0, 1] rfl)
set_option maxHeartbeats 4000000 in
set_option maxRecDepth 100000 in
theorem LM_close_75 {p : Program} {l : Launch} {e : Env} {s : State} {m : MethodId} {below : List Frame} {meth : Method} {c : Code} {D : va_G} {sa : Nat → Nat} {ad : Nat → Nat} {ca : Nat → ClassId} {A : Nat → Prop} {y1 : Int32} {po : wF → wA → wB → Prop} (X : cx Wl (tyS ca) txS D vwCl sa A p l s m ([.ref (ad 0), .int y1] : List Value).toArray meth c cM_close 4 "SendBestModel") (hex : ∀ x ∈ c.exceptionTable.toList, False) (hr : meth.sig.returnType = none) (J52 : Int32 → Int32 → wF → wA → wB → Prop) (hJ52 : ∀ (x1 : Int32) (x3 : Int32) (f : wF) (a : wA) (b : wB), J52 x1 x3 f a b → ∀ (H : Heap) (locs : List Loc), wd nM kM D vwCl ad ca A s H locs f a b → ∀ (ls : Array Slot), lv_has ls 4 [(0, .ref (ad 0)), (1, .int x1), (3, .int x3)] → W p l e ({ frames := 2, cells := 0, slots := 0, locals := 43 }) s m ([.ref (ad 0), .int y1] : List Value).toArray below meth c H locs 0 0 (vx_MQ below (va_Qv (fun (u : wF × wA × wB) => po u.1 u.2.1 u.2.2) (sPost nM kM D vwCl ad ca A) A) (sX nM kM D vwCl ad ca A (fun _ _ _ _ => False)) ([.ref (ad 0), .int y1] : List Value).toArray s 0 0 A) (F0 m 52 ls [])) : ∀ (x1 : Int32) (x3 : Int32) (f : wF) (a : wA) (b : wB), wp_M_close_75 po J52 x1 x3 f a b → ∀ (H : Heap) (locs : List Loc), wd nM kM D vwCl ad ca A s H locs f a b → ∀ (ls : Array Slot), lv_has ls 4 [(0, .ref (ad 0)), (1, .int x1), (3, .int x3)] → W p l e ({ frames := 2, cells := 0, slots := 0, locals := 43 }) s m ([.ref (ad 0), .int y1] : List Value).toArray below meth c H locs 0 0 (vx_MQ below (va_Qv (fun (u : wF × wA × wB) => po u.1 u.2.1 u.2.2) (sPost nM kM D vwCl ad ca A) A) (sX nM kM D vwCl ad ca A (fun _ _ _ _ => False)) ([.ref (ad 0), .int y1] : List Value).toArray s 0 0 A) (F0 m 75 ls []) := by
  obtain ⟨hx, hb, hml, hown, hts, hK, hA, hth, hlk, hl9⟩ := id X
  intro x1 x3 f a b hw H locs K ls hl
  dsimp only [wp_M_close_75] at hw
  refine lv_iinc (v := (x3 + (1 : Int32))) (lv' := [(3, .int (x3 + (1 : Int32))), (0, .ref (ad 0)), (1, .int x1)]) hx hb dM_close_75 hl (k := 2) rfl rfl (by decide) rfl (fun ls hl => ?_)
  refine lv_goto (tgt := 52) hx hb dM_close_78 (by decide) ?_
  exact hJ52 x1 (x3 + (1 : Int32)) f a b hw _ _ K _ (lv_sub hl [1, 2, 0] rfl)
set_option maxHeartbeats 4000000 in
set_option maxRecDepth 100000 in
theorem LM_close_52 {p : Program} {l : Launch} {e : Env} {s : State} {m : MethodId} {below : List Frame} {meth : Method} {c : Code} {D : va_G} {sa : Nat → Nat} {ad : Nat → Nat} {ca : Nat → ClassId} {A : Nat → Prop} {y1 : Int32} {po : wF → wA → wB → Prop} (X : cx Wl (tyS ca) txS D vwCl sa A p l s m ([.ref (ad 0), .int y1] : List Value).toArray meth c cM_close 4 "SendBestModel") (hex : ∀ x ∈ c.exceptionTable.toList, False) (hr : meth.sig.returnType = none) : ∀ n : Nat, ∀ (x1 : Int32) (x3 : Int32) (f : wF) (a : wA) (b : wB), wp_M_close_52 po n x1 x3 f a b → ∀ (H : Heap) (locs : List Loc), wd nM kM D vwCl ad ca A s H locs f a b → ∀ (ls : Array Slot), lv_has ls 4 [(0, .ref (ad 0)), (1, .int x1), (3, .int x3)] → W p l e ({ frames := 2, cells := 0, slots := 0, locals := 43 }) s m ([.ref (ad 0), .int y1] : List Value).toArray below meth c H locs 0 0 (vx_MQ below (va_Qv (fun (u : wF × wA × wB) => po u.1 u.2.1 u.2.2) (sPost nM kM D vwCl ad ca A) A) (sX nM kM D vwCl ad ca A (fun _ _ _ _ => False)) ([.ref (ad 0), .int y1] : List Value).toArray s 0 0 A) (F0 m 52 ls []) := by
  obtain ⟨hx, hb, hml, hown, hts, hK, hA, hth, hlk, hl9⟩ := id X
  intro n
  induction n with
  | zero => intro x1 x3 f a b hw; exact hw.elim
  | succ n ih =>
    intro x1 x3 f a b hw H locs K ls hl
    dsimp only [wp_M_close_52] at hw
    refine lv_iload_n hx hb dM_close_52 rfl (lv_at hl 2 rfl) ?_
    refine lv_aload_n hx hb dM_close_53 rfl (lv_at hl 0 rfl) ?_
    refine gGet X K (o := 0) (k := 8) (v := .int (f 3)) (by decide) kM_o0 rfl inM_o0 (by decide) (tm3 (i := 111) rfl rfl) rfl dM_close_54 ?_
    refine lv_icmp_ge (tgt := 81) hx hb dM_close_57 (by decide) (fun hc => ?_) (fun hc => ?_)
    · replace hw := hw.1 hc
      exact endV X K hr hw (by decide) (by decide) dM_close_81
    · replace hw := hw.2 hc
      refine lv_aload_n hx hb dM_close_60 rfl (lv_at hl 0 rfl) ?_
      refine gGet X K (o := 0) (k := 9) (v := .ref (ad 6)) (by decide) kM_o0 rfl inM_o0 (by decide) (tm3 (i := 112) rfl rfl) rfl dM_close_61 ?_
      refine lv_iload_n hx hb dM_close_64 rfl (lv_at hl 2 rfl) ?_
      obtain ⟨hi, hw⟩ := hw
      refine gild X K (o := 6) (t0 := 0) (by decide) kM_c6 rfl hi dM_close_65 ?_
      refine lv_iload_n hx hb dM_close_66 rfl (lv_at hl 1 rfl) ?_
      refine lv_icmp_ne (tgt := 75) hx hb dM_close_67 (by decide) (fun hc => ?_) (fun hc => ?_)
      · replace hw := hw.1 hc
        exact LM_close_75 X hex hr (wp_M_close_52 po n) ih x1 x3 f a b hw _ _ K _ (lv_sub hl [0, 1, 2] rfl)
      · replace hw := hw.2 hc
        refine lv_aload_n hx hb dM_close_70 rfl (lv_at hl 0 rfl) ?_
        refine lv_iload_n hx hb dM_close_71 rfl (lv_at hl 2 rfl) ?_
        refine gcV X K (n0 := 1) (As := [.int x3]) (rest := []) (hM := (met_M_leave hl9 D ad ca sa _ x3 f a b _ hw)) (o := 0) (ho := by decide) (hko := kM_o0) (hci := rfl) (hg := wl_good) (w1 := (tm3 (i := 218) rfl rfl)) (w2 := (tm3 (i := 220) rfl rfl)) (w3 := (tm0 (i := 34) rfl rfl)) (w4 := (tm1 (i := 4) rfl rfl)) (w5 := (tm3 (i := 221) rfl rfl)) (hd := ⟨rfl, by decide, by decide, by decide +kernel⟩) (hrc := rfl) (hrs := rfl) (hR := ⟨Nat.le_of_ble_eq_true rfl, Nat.le_of_ble_eq_true rfl⟩) (hn := rfl) (hsz := hl.1) (hst := rfl) (hW := Nat.le_of_ble_eq_true rfl) (hdg := dM_close_72) (hf := ⟨Nat.le_of_ble_eq_true rfl, Nat.le_of_ble_eq_true rfl⟩) (fun _ _ _ _ _ _ _ _ hw => hw.elim) (fun f72 a72 b72 H locs hw K => ?_)
        exact LM_close_75 X hex hr (wp_M_close_52 po n) ih x1 x3 f72 a72 b72 hw _ _ K _ (lv_sub hl [0, 1, 2] rfl)
set_option maxHeartbeats 4000000 in
set_option maxRecDepth 100000 in
theorem LM_close_34 {p : Program} {l : Launch} {e : Env} {s : State} {m : MethodId} {below : List Frame} {meth : Method} {c : Code} {D : va_G} {sa : Nat → Nat} {ad : Nat → Nat} {ca : Nat → ClassId} {A : Nat → Prop} {y1 : Int32} {po : wF → wA → wB → Prop} (X : cx Wl (tyS ca) txS D vwCl sa A p l s m ([.ref (ad 0), .int y1] : List Value).toArray meth c cM_close 4 "SendBestModel") (hex : ∀ x ∈ c.exceptionTable.toList, False) (hr : meth.sig.returnType = none) : ∀ (k0 : Int32) (k1 : Int32) (x1 : Int32) (f : wF) (a : wA) (b : wB), wp_M_close_34 po k0 k1 x1 f a b → ∀ (H : Heap) (locs : List Loc), wd nM kM D vwCl ad ca A s H locs f a b → ∀ (ls : Array Slot), lv_has ls 4 [(0, .ref (ad 0)), (1, .int x1)] → W p l e ({ frames := 2, cells := 0, slots := 0, locals := 43 }) s m ([.ref (ad 0), .int y1] : List Value).toArray below meth c H locs 0 0 (vx_MQ below (va_Qv (fun (u : wF × wA × wB) => po u.1 u.2.1 u.2.2) (sPost nM kM D vwCl ad ca A) A) (sX nM kM D vwCl ad ca A (fun _ _ _ _ => False)) ([.ref (ad 0), .int y1] : List Value).toArray s 0 0 A) (F0 m 34 ls [.int k0, .int k1, .ref (ad 0)]) := by
  obtain ⟨hx, hb, hml, hown, hts, hK, hA, hth, hlk, hl9⟩ := id X
  intro k0 k1 x1 f a b hw H locs K ls hl
  dsimp only [wp_M_close_34] at hw
  refine lv_iconst (v := (0 : Int32)) hx hb dM_close_34 (by decide) ?_
  refine lv_iconst (v := (0 : Int32)) hx hb dM_close_35 (by decide) ?_
  refine gcI X K (n0 := 4) (As := [.int k1, .int k0, .int (0 : Int32), .int (0 : Int32)]) (rest := []) (hM := (met_M_throwing hl9 D ad ca sa _ k1 k0 (0 : Int32) (0 : Int32) f a b _ hw)) (o := 0) (ho := by decide) (hko := kM_o0) (hci := rfl) (hg := wl_good) (w1 := (tm3 (i := 173) rfl rfl)) (w2 := (tm3 (i := 175) rfl rfl)) (w3 := (tm0 (i := 30) rfl rfl)) (w4 := (tm1 (i := 4) rfl rfl)) (w5 := (tm3 (i := 176) rfl rfl)) (hd := ⟨rfl, by decide, by decide, by decide +kernel⟩) (hrc := rfl) (hrs := rfl) (hR := ⟨Nat.le_of_ble_eq_true rfl, Nat.le_of_ble_eq_true rfl⟩) (hn := rfl) (hsz := hl.1) (hst := rfl) (hW := Nat.le_of_ble_eq_true rfl) (hdg := dM_close_36) (hf := ⟨Nat.le_of_ble_eq_true rfl, Nat.le_of_ble_eq_true rfl⟩) (fun _ _ _ _ _ _ _ _ hw => hw.elim) (fun r36 f36 a36 b36 H locs hw K => ?_)
  refine lv_if_eq (tgt := 43) hx hb dM_close_39 (by decide) (fun hc => ?_) (fun hc => ?_)
  · replace hw := hw.1 hc
    refine lv_aload_n hx hb dM_close_43 rfl (lv_at hl 0 rfl) ?_
    refine gGet X K (o := 0) (k := 7) (v := .ref (ad 5)) (by decide) kM_o0 rfl inM_o0 (by decide) (tm3 (i := 110) rfl rfl) rfl dM_close_44 ?_
    refine lv_iload_n hx hb dM_close_47 rfl (lv_at hl 1 rfl) ?_
    refine lv_iconst (v := (1 : Int32)) hx hb dM_close_48 (by decide) ?_
    obtain ⟨hi, hw⟩ := hw
    refine gzst X K (o := 5) (t0 := 1) (by decide) kM_c5 rfl hi dM_close_49 kM_p5 (fun H locs K => ?_)
    refine lv_iconst (v := (0 : Int32)) hx hb dM_close_50 (by decide) ?_
    refine lv_istore_n (lv' := [(3, .int (0 : Int32)), (0, .ref (ad 0)), (1, .int x1)]) hx hb dM_close_51 rfl hl (by decide) rfl (fun ls hl => ?_)
    obtain ⟨n9, hw⟩ := hw
    exact LM_close_52 X hex hr n9 x1 (0 : Int32) f36 (va_up a36 5 (upd (a36 5) x1.toNatClampNeg (vp_nar .boolean (1 : Int32)))) b36 hw _ _ K _ (lv_sub hl [1, 2, 0] rfl)
  · replace hw := hw.2 hc
    exact endV X K hr hw (by decide) (by decide) dM_close_42
set_option maxHeartbeats 4000000 in
set_option maxRecDepth 100000 in
theorem LM_close_33 {p : Program} {l : Launch} {e : Env} {s : State} {m : MethodId} {below : List Frame} {meth : Method} {c : Code} {D : va_G} {sa : Nat → Nat} {ad : Nat → Nat} {ca : Nat → ClassId} {A : Nat → Prop} {y1 : Int32} {po : wF → wA → wB → Prop} (X : cx Wl (tyS ca) txS D vwCl sa A p l s m ([.ref (ad 0), .int y1] : List Value).toArray meth c cM_close 4 "SendBestModel") (hex : ∀ x ∈ c.exceptionTable.toList, False) (hr : meth.sig.returnType = none) : ∀ (k0 : Int32) (x1 : Int32) (f : wF) (a : wA) (b : wB), wp_M_close_33 po k0 x1 f a b → ∀ (H : Heap) (locs : List Loc), wd nM kM D vwCl ad ca A s H locs f a b → ∀ (ls : Array Slot), lv_has ls 4 [(0, .ref (ad 0)), (1, .int x1)] → W p l e ({ frames := 2, cells := 0, slots := 0, locals := 43 }) s m ([.ref (ad 0), .int y1] : List Value).toArray below meth c H locs 0 0 (vx_MQ below (va_Qv (fun (u : wF × wA × wB) => po u.1 u.2.1 u.2.2) (sPost nM kM D vwCl ad ca A) A) (sX nM kM D vwCl ad ca A (fun _ _ _ _ => False)) ([.ref (ad 0), .int y1] : List Value).toArray s 0 0 A) (F0 m 33 ls [.int k0, .ref (ad 0)]) := by
  obtain ⟨hx, hb, hml, hown, hts, hK, hA, hth, hlk, hl9⟩ := id X
  intro k0 x1 f a b hw H locs K ls hl
  dsimp only [wp_M_close_33] at hw
  refine lv_iconst (v := (0 : Int32)) hx hb dM_close_33 (by decide) ?_
  exact LM_close_34 X hex hr (0 : Int32) k0 x1 f a b hw _ _ K _ (lv_sub hl [0, 1] rfl)
set_option maxHeartbeats 4000000 in
set_option maxRecDepth 100000 in
theorem LM_close_13 {p : Program} {l : Launch} {e : Env} {s : State} {m : MethodId} {below : List Frame} {meth : Method} {c : Code} {D : va_G} {sa : Nat → Nat} {ad : Nat → Nat} {ca : Nat → ClassId} {A : Nat → Prop} {y1 : Int32} {po : wF → wA → wB → Prop} (X : cx Wl (tyS ca) txS D vwCl sa A p l s m ([.ref (ad 0), .int y1] : List Value).toArray meth c cM_close 4 "SendBestModel") (hex : ∀ x ∈ c.exceptionTable.toList, False) (hr : meth.sig.returnType = none) : ∀ (k0 : Int32) (x1 : Int32) (f : wF) (a : wA) (b : wB), wp_M_close_13 po k0 x1 f a b → ∀ (H : Heap) (locs : List Loc), wd nM kM D vwCl ad ca A s H locs f a b → ∀ (ls : Array Slot), lv_has ls 4 [(0, .ref (ad 0)), (1, .int x1)] → W p l e ({ frames := 2, cells := 0, slots := 0, locals := 43 }) s m ([.ref (ad 0), .int y1] : List Value).toArray below meth c H locs 0 0 (vx_MQ below (va_Qv (fun (u : wF × wA × wB) => po u.1 u.2.1 u.2.2) (sPost nM kM D vwCl ad ca A) A) (sX nM kM D vwCl ad ca A (fun _ _ _ _ => False)) ([.ref (ad 0), .int y1] : List Value).toArray s 0 0 A) (F0 m 13 ls [.int k0]) := by
  obtain ⟨hx, hb, hml, hown, hts, hK, hA, hth, hlk, hl9⟩ := id X
  intro k0 x1 f a b hw H locs K ls hl
  dsimp only [wp_M_close_13] at hw
  refine lv_istore_n (lv' := [(2, .int k0), (0, .ref (ad 0)), (1, .int x1)]) hx hb dM_close_13 rfl hl (by decide) rfl (fun ls hl => ?_)
  refine lv_aload_n hx hb dM_close_14 rfl (lv_at hl 1 rfl) ?_
  refine lv_iload_n hx hb dM_close_15 rfl (lv_at hl 0 rfl) ?_
  refine lv_iload_n hx hb dM_close_16 rfl (lv_at hl 0 rfl) ?_
  refine lv_if_ne (tgt := 33) hx hb dM_close_17 (by decide) (fun hc => ?_) (fun hc => ?_)
  · replace hw := hw.1 hc
    exact LM_close_33 X hex hr k0 x1 f a b hw _ _ K _ (lv_sub hl [1, 2] rfl)
  · replace hw := hw.2 hc
    refine lv_aload_n hx hb dM_close_20 rfl (lv_at hl 1 rfl) ?_
    refine gGet X K (o := 0) (k := 7) (v := .ref (ad 5)) (by decide) kM_o0 rfl inM_o0 (by decide) (tm3 (i := 110) rfl rfl) rfl dM_close_21 ?_
    refine lv_iload_n hx hb dM_close_24 rfl (lv_at hl 2 rfl) ?_
    obtain ⟨hi, hw⟩ := hw
    refine gzld X K (o := 5) (t0 := 1) (by decide) kM_c5 rfl hi dM_close_25 ?_
    refine lv_if_eq (tgt := 33) hx hb dM_close_26 (by decide) (fun hc => ?_) (fun hc => ?_)
    · replace hw := hw.1 hc
      exact LM_close_33 X hex hr k0 x1 f a b hw _ _ K _ (lv_sub hl [1, 2] rfl)
    · replace hw := hw.2 hc
      refine lv_iconst (v := (1 : Int32)) hx hb dM_close_29 (by decide) ?_
      refine lv_goto (tgt := 34) hx hb dM_close_30 (by decide) ?_
      exact LM_close_34 X hex hr (1 : Int32) k0 x1 f a b hw _ _ K _ (lv_sub hl [1, 2] rfl)
set_option maxHeartbeats 4000000 in
set_option maxRecDepth 100000 in
theorem met_M_close {l : Launch} (hl9 : l.stackTraces = false) (D : va_G) (ad : Nat → Nat) (ca : Nat → ClassId) (sa : Nat → Nat) (sz : Nat) (x1 : Int32) (f : wF) (a : wA) (b : wB) (po : wF → wA → wB → Prop) (hw : wp_M_close po x1 f a b) : mV nM kM (tyS ca) txS D vwCl l yM_close (Cond.code yM_close cM_close 4 none :: Wl) ({ frames := 2, cells := 0, slots := 0, locals := 43 }) [.ref (ad 0), .int x1] ad ca sa sz f a b po (fun _ _ _ _ => False) 0 0 := by
  refine ofV (by decide) hl9 (Nat.le_of_ble_eq_true rfl) ?_
  intro p e s m below meth c ls X hex hr K hl
  obtain ⟨hx, hb, hml, hown, hts, hK, hA, hth, hlk, hl9⟩ := id X
  have hl : lv_has ls 4 [(0, .ref (ad 0)), (1, .int x1)] := hl
  dsimp only [wp_M_close] at hw
  refine lv_aload_n hx hb dM_close_0 rfl (lv_at hl 0 rfl) ?_
  refine lv_iload_n hx hb dM_close_1 rfl (lv_at hl 1 rfl) ?_
  refine gcI X K (n0 := 1) (As := [.int x1]) (rest := []) (hM := (met_M_isIncident hl9 D ad ca sa _ x1 f a b _ hw)) (o := 0) (ho := by decide) (hko := kM_o0) (hci := rfl) (hg := wl_good) (w1 := (tm3 (i := 185) rfl rfl)) (w2 := (tm3 (i := 187) rfl rfl)) (w3 := (tm0 (i := 31) rfl rfl)) (w4 := (tm1 (i := 4) rfl rfl)) (w5 := (tm3 (i := 188) rfl rfl)) (hd := ⟨rfl, by decide, by decide, by decide +kernel⟩) (hrc := rfl) (hrs := rfl) (hR := ⟨Nat.le_of_ble_eq_true rfl, Nat.le_of_ble_eq_true rfl⟩) (hn := rfl) (hsz := hl.1) (hst := rfl) (hW := Nat.le_of_ble_eq_true rfl) (hdg := dM_close_2) (hf := ⟨Nat.le_of_ble_eq_true rfl, Nat.le_of_ble_eq_true rfl⟩) (fun _ _ _ _ _ _ _ _ hw => hw.elim) (fun r2 f2 a2 b2 H locs hw K => ?_)
  refine lv_if_ne (tgt := 12) hx hb dM_close_5 (by decide) (fun hc => ?_) (fun hc => ?_)
  · replace hw := hw.1 hc
    refine lv_iconst (v := (0 : Int32)) hx hb dM_close_12 (by decide) ?_
    exact LM_close_13 X hex hr (0 : Int32) x1 f2 a2 b2 hw _ _ K _ (lv_sub hl [0, 1] rfl)
  · replace hw := hw.2 hc
    refine lv_iconst (v := (1 : Int32)) hx hb dM_close_8 (by decide) ?_
    refine lv_goto (tgt := 13) hx hb dM_close_9 (by decide) ?_
    exact LM_close_13 X hex hr (1 : Int32) x1 f2 a2 b2 hw _ _ K _ (lv_sub hl [0, 1] rfl)
set_option maxHeartbeats 4000000 in
set_option maxRecDepth 100000 in
theorem LM_needAt_94 {p : Program} {l : Launch} {e : Env} {s : State} {m : MethodId} {below : List Frame} {meth : Method} {c : Code} {D : va_G} {sa : Nat → Nat} {ad : Nat → Nat} {ca : Nat → ClassId} {A : Nat → Prop} {y1 : Int32} {y2 : Int32} {po : Int32 → wF → wA → wB → Prop} (X : cx Wl (tyS ca) txS D vwCl sa A p l s m ([.ref (ad 0), .int y1, .int y2] : List Value).toArray meth c cM_needAt 3 "SendBestModel") (hex : ∀ x ∈ c.exceptionTable.toList, False) (hr : meth.sig.returnType = (some .int)) : ∀ (k0 : Int32) (f : wF) (a : wA) (b : wB), wp_M_needAt_94 po k0 f a b → ∀ (H : Heap) (locs : List Loc), wd nM kM D vwCl ad ca A s H locs f a b → ∀ (ls : Array Slot), lv_has ls 3 [] → W p l e ({ frames := 1, cells := 0, slots := 0, locals := 24 }) s m ([.ref (ad 0), .int y1, .int y2] : List Value).toArray below meth c H locs 0 0 (vx_MQ below (va_Qi (fun r (u : wF × wA × wB) => po r u.1 u.2.1 u.2.2) (sPost nM kM D vwCl ad ca A) A) (sX nM kM D vwCl ad ca A (fun _ _ _ _ => False)) ([.ref (ad 0), .int y1, .int y2] : List Value).toArray s 0 0 A) (F0 m 94 ls [.int k0]) := by
  obtain ⟨hx, hb, hml, hown, hts, hK, hA, hth, hlk, hl9⟩ := id X
  intro k0 f a b hw H locs K ls hl
  dsimp only [wp_M_needAt_94] at hw
  exact endI X K hr rfl hw (by decide) (by decide) dM_needAt_94
set_option maxHeartbeats 4000000 in
set_option maxRecDepth 100000 in
theorem LM_needAt_29 {p : Program} {l : Launch} {e : Env} {s : State} {m : MethodId} {below : List Frame} {meth : Method} {c : Code} {D : va_G} {sa : Nat → Nat} {ad : Nat → Nat} {ca : Nat → ClassId} {A : Nat → Prop} {y1 : Int32} {y2 : Int32} {po : Int32 → wF → wA → wB → Prop} (X : cx Wl (tyS ca) txS D vwCl sa A p l s m ([.ref (ad 0), .int y1, .int y2] : List Value).toArray meth c cM_needAt 3 "SendBestModel") (hex : ∀ x ∈ c.exceptionTable.toList, False) (hr : meth.sig.returnType = (some .int)) : ∀ (k0 : Int32) (x1 : Int32) (x2 : Int32) (f : wF) (a : wA) (b : wB), wp_M_needAt_29 po k0 x1 x2 f a b → ∀ (H : Heap) (locs : List Loc), wd nM kM D vwCl ad ca A s H locs f a b → ∀ (ls : Array Slot), lv_has ls 3 [(0, .ref (ad 0)), (1, .int x1), (2, .int x2)] → W p l e ({ frames := 1, cells := 0, slots := 0, locals := 24 }) s m ([.ref (ad 0), .int y1, .int y2] : List Value).toArray below meth c H locs 0 0 (vx_MQ below (va_Qi (fun r (u : wF × wA × wB) => po r u.1 u.2.1 u.2.2) (sPost nM kM D vwCl ad ca A) A) (sX nM kM D vwCl ad ca A (fun _ _ _ _ => False)) ([.ref (ad 0), .int y1, .int y2] : List Value).toArray s 0 0 A) (F0 m 29 ls [.int k0, .ref (ad 0)]) := by
  obtain ⟨hx, hb, hml, hown, hts, hK, hA, hth, hlk, hl9⟩ := id X
  intro k0 x1 x2 f a b hw H locs K ls hl
  dsimp only [wp_M_needAt_29] at hw
  refine lv_iconst (v := (0 : Int32)) hx hb dM_needAt_29 (by decide) ?_
  refine lv_iconst (v := (0 : Int32)) hx hb dM_needAt_30 (by decide) ?_
  refine lv_iconst (v := (0 : Int32)) hx hb dM_needAt_31 (by decide) ?_
  refine gcI X K (n0 := 4) (As := [.int k0, .int (0 : Int32), .int (0 : Int32), .int (0 : Int32)]) (rest := []) (hM := (met_M_throwing hl9 D ad ca sa _ k0 (0 : Int32) (0 : Int32) (0 : Int32) f a b _ hw)) (o := 0) (ho := by decide) (hko := kM_o0) (hci := rfl) (hg := wl_good) (w1 := (tm3 (i := 173) rfl rfl)) (w2 := (tm3 (i := 175) rfl rfl)) (w3 := (tm0 (i := 30) rfl rfl)) (w4 := (tm1 (i := 4) rfl rfl)) (w5 := (tm3 (i := 176) rfl rfl)) (hd := ⟨rfl, by decide, by decide, by decide +kernel⟩) (hrc := rfl) (hrs := rfl) (hR := ⟨Nat.le_of_ble_eq_true rfl, Nat.le_of_ble_eq_true rfl⟩) (hn := rfl) (hsz := hl.1) (hst := rfl) (hW := Nat.le_of_ble_eq_true rfl) (hdg := dM_needAt_32) (hf := ⟨Nat.le_of_ble_eq_true rfl, Nat.le_of_ble_eq_true rfl⟩) (fun _ _ _ _ _ _ _ _ hw => hw.elim) (fun r32 f32 a32 b32 H locs hw K => ?_)
  refine lv_if_eq (tgt := 40) hx hb dM_needAt_35 (by decide) (fun hc => ?_) (fun hc => ?_)
  · replace hw := hw.1 hc
    refine lv_iload_n hx hb dM_needAt_40 rfl (lv_at hl 2 rfl) ?_
    refine lv_if_ne (tgt := 53) hx hb dM_needAt_41 (by decide) (fun hc => ?_) (fun hc => ?_)
    · replace hw := hw.1 hc
      refine lv_iload_n hx hb dM_needAt_53 rfl (lv_at hl 2 rfl) ?_
      refine lv_iconst (v := (1 : Int32)) hx hb dM_needAt_54 (by decide) ?_
      refine lv_icmp_ne (tgt := 67) hx hb dM_needAt_55 (by decide) (fun hc => ?_) (fun hc => ?_)
      · replace hw := hw.1 hc
        refine lv_iload_n hx hb dM_needAt_67 rfl (lv_at hl 2 rfl) ?_
        refine lv_iconst (v := (2 : Int32)) hx hb dM_needAt_68 (by decide) ?_
        refine lv_icmp_ne (tgt := 81) hx hb dM_needAt_69 (by decide) (fun hc => ?_) (fun hc => ?_)
        · replace hw := hw.1 hc
          refine lv_aload_n hx hb dM_needAt_81 rfl (lv_at hl 0 rfl) ?_
          refine lv_iload_n hx hb dM_needAt_82 rfl (lv_at hl 1 rfl) ?_
          refine gcI X K (n0 := 1) (As := [.int x1]) (rest := []) (hM := (met_M_isOpen hl9 D ad ca sa _ x1 f32 a32 b32 _ hw)) (o := 0) (ho := by decide) (hko := kM_o0) (hci := rfl) (hg := wl_good) (w1 := (tm3 (i := 239) rfl rfl)) (w2 := (tm4 (i := 1) rfl rfl)) (w3 := (tm0 (i := 38) rfl rfl)) (w4 := (tm1 (i := 4) rfl rfl)) (w5 := (tm4 (i := 2) rfl rfl)) (hd := ⟨rfl, by decide, by decide, by decide +kernel⟩) (hrc := rfl) (hrs := rfl) (hR := ⟨Nat.le_of_ble_eq_true rfl, Nat.le_of_ble_eq_true rfl⟩) (hn := rfl) (hsz := hl.1) (hst := rfl) (hW := Nat.le_of_ble_eq_true rfl) (hdg := dM_needAt_83) (hf := ⟨Nat.le_of_ble_eq_true rfl, Nat.le_of_ble_eq_true rfl⟩) (fun _ _ _ _ _ _ _ _ hw => hw.elim) (fun r83 f83 a83 b83 H locs hw K => ?_)
          refine lv_if_eq (tgt := 93) hx hb dM_needAt_86 (by decide) (fun hc => ?_) (fun hc => ?_)
          · replace hw := hw.1 hc
            refine lv_iconst (v := (0 : Int32)) hx hb dM_needAt_93 (by decide) ?_
            exact LM_needAt_94 X hex hr (0 : Int32) f83 a83 b83 hw _ _ K _ (lv_sub hl [] rfl)
          · replace hw := hw.2 hc
            refine lv_iconst (v := (1 : Int32)) hx hb dM_needAt_89 (by decide) ?_
            refine lv_goto (tgt := 94) hx hb dM_needAt_90 (by decide) ?_
            exact LM_needAt_94 X hex hr (1 : Int32) f83 a83 b83 hw _ _ K _ (lv_sub hl [] rfl)
        · replace hw := hw.2 hc
          refine lv_aload_n hx hb dM_needAt_72 rfl (lv_at hl 0 rfl) ?_
          refine gGet X K (o := 0) (k := 11) (v := .ref (ad 8)) (by decide) kM_o0 rfl inM_o0 (by decide) (tm3 (i := 114) rfl rfl) rfl dM_needAt_73 ?_
          refine lv_iload_n hx hb dM_needAt_76 rfl (lv_at hl 1 rfl) ?_
          obtain ⟨hi, hw⟩ := hw
          refine gild X K (o := 8) (t0 := 0) (by decide) kM_c8 rfl hi dM_needAt_77 ?_
          refine lv_goto (tgt := 94) hx hb dM_needAt_78 (by decide) ?_
          exact LM_needAt_94 X hex hr (a32 8 x1.toNatClampNeg) f32 a32 b32 hw _ _ K _ (lv_sub hl [] rfl)
      · replace hw := hw.2 hc
        refine lv_aload_n hx hb dM_needAt_58 rfl (lv_at hl 0 rfl) ?_
        refine gGet X K (o := 0) (k := 10) (v := .ref (ad 7)) (by decide) kM_o0 rfl inM_o0 (by decide) (tm3 (i := 113) rfl rfl) rfl dM_needAt_59 ?_
        refine lv_iload_n hx hb dM_needAt_62 rfl (lv_at hl 1 rfl) ?_
        obtain ⟨hi, hw⟩ := hw
        refine gild X K (o := 7) (t0 := 0) (by decide) kM_c7 rfl hi dM_needAt_63 ?_
        refine lv_goto (tgt := 94) hx hb dM_needAt_64 (by decide) ?_
        exact LM_needAt_94 X hex hr (a32 7 x1.toNatClampNeg) f32 a32 b32 hw _ _ K _ (lv_sub hl [] rfl)
    · replace hw := hw.2 hc
      refine lv_aload_n hx hb dM_needAt_44 rfl (lv_at hl 0 rfl) ?_
      refine gGet X K (o := 0) (k := 9) (v := .ref (ad 6)) (by decide) kM_o0 rfl inM_o0 (by decide) (tm3 (i := 112) rfl rfl) rfl dM_needAt_45 ?_
      refine lv_iload_n hx hb dM_needAt_48 rfl (lv_at hl 1 rfl) ?_
      obtain ⟨hi, hw⟩ := hw
      refine gild X K (o := 6) (t0 := 0) (by decide) kM_c6 rfl hi dM_needAt_49 ?_
      refine lv_goto (tgt := 94) hx hb dM_needAt_50 (by decide) ?_
      exact LM_needAt_94 X hex hr (a32 6 x1.toNatClampNeg) f32 a32 b32 hw _ _ K _ (lv_sub hl [] rfl)
  · replace hw := hw.2 hc
    refine lv_iconst (v := (0 : Int32)) hx hb dM_needAt_38 (by decide) ?_
    exact endI X K hr rfl hw (by decide) (by decide) dM_needAt_39
set_option maxHeartbeats 4000000 in
set_option maxRecDepth 100000 in
theorem LM_needAt_24 {p : Program} {l : Launch} {e : Env} {s : State} {m : MethodId} {below : List Frame} {meth : Method} {c : Code} {D : va_G} {sa : Nat → Nat} {ad : Nat → Nat} {ca : Nat → ClassId} {A : Nat → Prop} {y1 : Int32} {y2 : Int32} {po : Int32 → wF → wA → wB → Prop} (X : cx Wl (tyS ca) txS D vwCl sa A p l s m ([.ref (ad 0), .int y1, .int y2] : List Value).toArray meth c cM_needAt 3 "SendBestModel") (hex : ∀ x ∈ c.exceptionTable.toList, False) (hr : meth.sig.returnType = (some .int)) : ∀ (x1 : Int32) (x2 : Int32) (f : wF) (a : wA) (b : wB), wp_M_needAt_24 po x1 x2 f a b → ∀ (H : Heap) (locs : List Loc), wd nM kM D vwCl ad ca A s H locs f a b → ∀ (ls : Array Slot), lv_has ls 3 [(0, .ref (ad 0)), (1, .int x1), (2, .int x2)] → W p l e ({ frames := 1, cells := 0, slots := 0, locals := 24 }) s m ([.ref (ad 0), .int y1, .int y2] : List Value).toArray below meth c H locs 0 0 (vx_MQ below (va_Qi (fun r (u : wF × wA × wB) => po r u.1 u.2.1 u.2.2) (sPost nM kM D vwCl ad ca A) A) (sX nM kM D vwCl ad ca A (fun _ _ _ _ => False)) ([.ref (ad 0), .int y1, .int y2] : List Value).toArray s 0 0 A) (F0 m 24 ls [.ref (ad 0)]) := by
  obtain ⟨hx, hb, hml, hown, hts, hK, hA, hth, hlk, hl9⟩ := id X
  intro x1 x2 f a b hw H locs K ls hl
  dsimp only [wp_M_needAt_24] at hw
  refine lv_iconst (v := (1 : Int32)) hx hb dM_needAt_24 (by decide) ?_
  refine lv_goto (tgt := 29) hx hb dM_needAt_25 (by decide) ?_
  exact LM_needAt_29 X hex hr (1 : Int32) x1 x2 f a b hw _ _ K _ (lv_sub hl [0, 1, 2] rfl)
set_option maxHeartbeats 4000000 in
set_option maxRecDepth 100000 in
theorem met_M_needAt {l : Launch} (hl9 : l.stackTraces = false) (D : va_G) (ad : Nat → Nat) (ca : Nat → ClassId) (sa : Nat → Nat) (sz : Nat) (x1 : Int32) (x2 : Int32) (f : wF) (a : wA) (b : wB) (po : Int32 → wF → wA → wB → Prop) (hw : wp_M_needAt po x1 x2 f a b) : mI nM kM (tyS ca) txS D vwCl l yM_needAt (Cond.code yM_needAt cM_needAt 3 (some .int) :: Wl) ({ frames := 1, cells := 0, slots := 0, locals := 24 }) [.ref (ad 0), .int x1, .int x2] ad ca sa sz f a b po (fun _ _ _ _ => False) 0 0 := by
  refine ofI (by decide) hl9 (Nat.le_of_ble_eq_true rfl) ?_
  intro p e s m below meth c ls X hex hr K hl
  obtain ⟨hx, hb, hml, hown, hts, hK, hA, hth, hlk, hl9⟩ := id X
  have hl : lv_has ls 3 [(0, .ref (ad 0)), (1, .int x1), (2, .int x2)] := hl
  dsimp only [wp_M_needAt] at hw
  refine lv_aload_n hx hb dM_needAt_0 rfl (lv_at hl 0 rfl) ?_
  refine lv_iload_n hx hb dM_needAt_1 rfl (lv_at hl 1 rfl) ?_
  refine lv_iconst (v := (0 : Int32)) hx hb dM_needAt_2 (by decide) ?_
  refine lv_aload_n hx hb dM_needAt_3 rfl (lv_at hl 0 rfl) ?_
  refine gGet X K (o := 0) (k := 8) (v := .int (f 3)) (by decide) kM_o0 rfl inM_o0 (by decide) (tm3 (i := 111) rfl rfl) rfl dM_needAt_4 ?_
  refine lv_iconst (v := (1 : Int32)) hx hb dM_needAt_7 (by decide) ?_
  refine lv_isub hx hb dM_needAt_8 ?_
  refine gcSI X K (n0 := 3) (As := [.int x1, .int (0 : Int32), .int ((f 3) - (1 : Int32))]) (rest := [.ref (ad 0)]) (hM := (met_M_in hl9 D ad ca sa _ x1 (0 : Int32) ((f 3) - (1 : Int32)) f a b _ hw)) (hg := wl_good) (w1 := (tm3 (i := 170) rfl rfl)) (w2 := (tm3 (i := 171) rfl rfl)) (w4 := (tm1 (i := 4) rfl rfl)) (w5 := (tm3 (i := 172) rfl rfl)) (hd := ⟨by decide, by decide, by decide +kernel⟩) (hrc := rfl) (hrs := rfl) (hR := ⟨Nat.le_of_ble_eq_true rfl, Nat.le_of_ble_eq_true rfl⟩) (hn := rfl) (hsz := hl.1) (hst := rfl) (hW := Nat.le_of_ble_eq_true rfl) (hdg := dM_needAt_9) (hf := ⟨Nat.le_of_ble_eq_true rfl, Nat.le_of_ble_eq_true rfl⟩) (fun _ _ _ _ _ _ _ _ hw => hw.elim) (fun r9 f9 a9 b9 H locs hw K => ?_)
  refine lv_if_eq (tgt := 24) hx hb dM_needAt_12 (by decide) (fun hc => ?_) (fun hc => ?_)
  · replace hw := hw.1 hc
    exact LM_needAt_24 X hex hr x1 x2 f9 a9 b9 hw _ _ K _ (lv_sub hl [0, 1, 2] rfl)
  · replace hw := hw.2 hc
    refine lv_iload_n hx hb dM_needAt_15 rfl (lv_at hl 2 rfl) ?_
    refine lv_iconst (v := (0 : Int32)) hx hb dM_needAt_16 (by decide) ?_
    refine lv_iconst (v := (3 : Int32)) hx hb dM_needAt_17 (by decide) ?_
    refine gcSI X K (n0 := 3) (As := [.int x2, .int (0 : Int32), .int (3 : Int32)]) (rest := [.ref (ad 0)]) (hM := (met_M_in hl9 D ad ca sa _ x2 (0 : Int32) (3 : Int32) f9 a9 b9 _ hw)) (hg := wl_good) (w1 := (tm3 (i := 170) rfl rfl)) (w2 := (tm3 (i := 171) rfl rfl)) (w4 := (tm1 (i := 4) rfl rfl)) (w5 := (tm3 (i := 172) rfl rfl)) (hd := ⟨by decide, by decide, by decide +kernel⟩) (hrc := rfl) (hrs := rfl) (hR := ⟨Nat.le_of_ble_eq_true rfl, Nat.le_of_ble_eq_true rfl⟩) (hn := rfl) (hsz := hl.1) (hst := rfl) (hW := Nat.le_of_ble_eq_true rfl) (hdg := dM_needAt_18) (hf := ⟨Nat.le_of_ble_eq_true rfl, Nat.le_of_ble_eq_true rfl⟩) (fun _ _ _ _ _ _ _ _ hw => hw.elim) (fun r18 f18 a18 b18 H locs hw K => ?_)
    refine lv_if_ne (tgt := 28) hx hb dM_needAt_21 (by decide) (fun hc => ?_) (fun hc => ?_)
    · replace hw := hw.1 hc
      refine lv_iconst (v := (0 : Int32)) hx hb dM_needAt_28 (by decide) ?_
      exact LM_needAt_29 X hex hr (0 : Int32) x1 x2 f18 a18 b18 hw _ _ K _ (lv_sub hl [0, 1, 2] rfl)
    · replace hw := hw.2 hc
      exact LM_needAt_24 X hex hr x1 x2 f18 a18 b18 hw _ _ K _ (lv_sub hl [0, 1, 2] rfl)
set_option maxHeartbeats 4000000 in
set_option maxRecDepth 100000 in
theorem LM_fills_14 {p : Program} {l : Launch} {e : Env} {s : State} {m : MethodId} {below : List Frame} {meth : Method} {c : Code} {D : va_G} {sa : Nat → Nat} {ad : Nat → Nat} {ca : Nat → ClassId} {A : Nat → Prop} {y1 : Int32} {po : Int32 → wF → wA → wB → Prop} (X : cx Wl (tyS ca) txS D vwCl sa A p l s m ([.ref (ad 0), .int y1] : List Value).toArray meth c cM_fills 2 "SendBestModel") (hex : ∀ x ∈ c.exceptionTable.toList, False) (hr : meth.sig.returnType = (some .int)) : ∀ (k0 : Int32) (x1 : Int32) (f : wF) (a : wA) (b : wB), wp_M_fills_14 po k0 x1 f a b → ∀ (H : Heap) (locs : List Loc), wd nM kM D vwCl ad ca A s H locs f a b → ∀ (ls : Array Slot), lv_has ls 2 [(0, .ref (ad 0)), (1, .int x1)] → W p l e ({ frames := 2, cells := 0, slots := 0, locals := 43 }) s m ([.ref (ad 0), .int y1] : List Value).toArray below meth c H locs 0 0 (vx_MQ below (va_Qi (fun r (u : wF × wA × wB) => po r u.1 u.2.1 u.2.2) (sPost nM kM D vwCl ad ca A) A) (sX nM kM D vwCl ad ca A (fun _ _ _ _ => False)) ([.ref (ad 0), .int y1] : List Value).toArray s 0 0 A) (F0 m 14 ls [.int k0, .ref (ad 0)]) := by
  obtain ⟨hx, hb, hml, hown, hts, hK, hA, hth, hlk, hl9⟩ := id X
  intro k0 x1 f a b hw H locs K ls hl
  dsimp only [wp_M_fills_14] at hw
  refine lv_iconst (v := (0 : Int32)) hx hb dM_fills_14 (by decide) ?_
  refine lv_iconst (v := (0 : Int32)) hx hb dM_fills_15 (by decide) ?_
  refine lv_iconst (v := (0 : Int32)) hx hb dM_fills_16 (by decide) ?_
  refine gcI X K (n0 := 4) (As := [.int k0, .int (0 : Int32), .int (0 : Int32), .int (0 : Int32)]) (rest := []) (hM := (met_M_throwing hl9 D ad ca sa _ k0 (0 : Int32) (0 : Int32) (0 : Int32) f a b _ hw)) (o := 0) (ho := by decide) (hko := kM_o0) (hci := rfl) (hg := wl_good) (w1 := (tm3 (i := 173) rfl rfl)) (w2 := (tm3 (i := 175) rfl rfl)) (w3 := (tm0 (i := 30) rfl rfl)) (w4 := (tm1 (i := 4) rfl rfl)) (w5 := (tm3 (i := 176) rfl rfl)) (hd := ⟨rfl, by decide, by decide, by decide +kernel⟩) (hrc := rfl) (hrs := rfl) (hR := ⟨Nat.le_of_ble_eq_true rfl, Nat.le_of_ble_eq_true rfl⟩) (hn := rfl) (hsz := hl.1) (hst := rfl) (hW := Nat.le_of_ble_eq_true rfl) (hdg := dM_fills_17) (hf := ⟨Nat.le_of_ble_eq_true rfl, Nat.le_of_ble_eq_true rfl⟩) (fun _ _ _ _ _ _ _ _ hw => hw.elim) (fun r17 f17 a17 b17 H locs hw K => ?_)
  refine lv_if_eq (tgt := 25) hx hb dM_fills_20 (by decide) (fun hc => ?_) (fun hc => ?_)
  · replace hw := hw.1 hc
    refine lv_aload_n hx hb dM_fills_25 rfl (lv_at hl 0 rfl) ?_
    refine lv_iload_n hx hb dM_fills_26 rfl (lv_at hl 1 rfl) ?_
    refine gcI X K (n0 := 1) (As := [.int x1]) (rest := []) (hM := (met_M_needOf hl9 D ad ca sa _ x1 f17 a17 b17 _ hw)) (o := 0) (ho := by decide) (hko := kM_o0) (hci := rfl) (hg := wl_good) (w1 := (tm3 (i := 214) rfl rfl)) (w2 := (tm3 (i := 216) rfl rfl)) (w3 := (tm0 (i := 33) rfl rfl)) (w4 := (tm1 (i := 4) rfl rfl)) (w5 := (tm3 (i := 217) rfl rfl)) (hd := ⟨rfl, by decide, by decide, by decide +kernel⟩) (hrc := rfl) (hrs := rfl) (hR := ⟨Nat.le_of_ble_eq_true rfl, Nat.le_of_ble_eq_true rfl⟩) (hn := rfl) (hsz := hl.1) (hst := rfl) (hW := Nat.le_of_ble_eq_true rfl) (hdg := dM_fills_27) (hf := ⟨Nat.le_of_ble_eq_true rfl, Nat.le_of_ble_eq_true rfl⟩) (fun _ _ _ _ _ _ _ _ hw => hw.elim) (fun r27 f27 a27 b27 H locs hw K => ?_)
    exact endI X K hr rfl hw (by decide) (by decide) dM_fills_30
  · replace hw := hw.2 hc
    refine lv_iconst (v := (0 : Int32)) hx hb dM_fills_23 (by decide) ?_
    exact endI X K hr rfl hw (by decide) (by decide) dM_fills_24
set_option maxHeartbeats 4000000 in
set_option maxRecDepth 100000 in
theorem met_M_fills {l : Launch} (hl9 : l.stackTraces = false) (D : va_G) (ad : Nat → Nat) (ca : Nat → ClassId) (sa : Nat → Nat) (sz : Nat) (x1 : Int32) (f : wF) (a : wA) (b : wB) (po : Int32 → wF → wA → wB → Prop) (hw : wp_M_fills po x1 f a b) : mI nM kM (tyS ca) txS D vwCl l yM_fills (Cond.code yM_fills cM_fills 2 (some .int) :: Wl) ({ frames := 2, cells := 0, slots := 0, locals := 43 }) [.ref (ad 0), .int x1] ad ca sa sz f a b po (fun _ _ _ _ => False) 0 0 := by
  refine ofI (by decide) hl9 (Nat.le_of_ble_eq_true rfl) ?_
  intro p e s m below meth c ls X hex hr K hl
  obtain ⟨hx, hb, hml, hown, hts, hK, hA, hth, hlk, hl9⟩ := id X
  have hl : lv_has ls 2 [(0, .ref (ad 0)), (1, .int x1)] := hl
  dsimp only [wp_M_fills] at hw
  refine lv_aload_n hx hb dM_fills_0 rfl (lv_at hl 0 rfl) ?_
  refine lv_aload_n hx hb dM_fills_1 rfl (lv_at hl 0 rfl) ?_
  refine lv_iload_n hx hb dM_fills_2 rfl (lv_at hl 1 rfl) ?_
  refine gcI X K (n0 := 1) (As := [.int x1]) (rest := [.ref (ad 0)]) (hM := (met_M_isUnit hl9 D ad ca sa _ x1 f a b _ hw)) (o := 0) (ho := by decide) (hko := kM_o0) (hci := rfl) (hg := wl_good) (w1 := (tm3 (i := 197) rfl rfl)) (w2 := (tm3 (i := 199) rfl rfl)) (w3 := (tm0 (i := 32) rfl rfl)) (w4 := (tm1 (i := 4) rfl rfl)) (w5 := (tm3 (i := 200) rfl rfl)) (hd := ⟨rfl, by decide, by decide, by decide +kernel⟩) (hrc := rfl) (hrs := rfl) (hR := ⟨Nat.le_of_ble_eq_true rfl, Nat.le_of_ble_eq_true rfl⟩) (hn := rfl) (hsz := hl.1) (hst := rfl) (hW := Nat.le_of_ble_eq_true rfl) (hdg := dM_fills_3) (hf := ⟨Nat.le_of_ble_eq_true rfl, Nat.le_of_ble_eq_true rfl⟩) (fun _ _ _ _ _ _ _ _ hw => hw.elim) (fun r3 f3 a3 b3 H locs hw K => ?_)
  refine lv_if_ne (tgt := 13) hx hb dM_fills_6 (by decide) (fun hc => ?_) (fun hc => ?_)
  · replace hw := hw.1 hc
    refine lv_iconst (v := (0 : Int32)) hx hb dM_fills_13 (by decide) ?_
    exact LM_fills_14 X hex hr (0 : Int32) x1 f3 a3 b3 hw _ _ K _ (lv_sub hl [0, 1] rfl)
  · replace hw := hw.2 hc
    refine lv_iconst (v := (1 : Int32)) hx hb dM_fills_9 (by decide) ?_
    refine lv_goto (tgt := 14) hx hb dM_fills_10 (by decide) ?_
    exact LM_fills_14 X hex hr (1 : Int32) x1 f3 a3 b3 hw _ _ K _ (lv_sub hl [0, 1] rfl)
