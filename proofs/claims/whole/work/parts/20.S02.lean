set_option maxHeartbeats 4000000 in
set_option maxRecDepth 100000 in
theorem LS_addNeeds_52 {p : Program} {l : Launch} {e : Env} {s : State} {m : MethodId} {below : List Frame} {meth : Method} {c : Code} {D : va_G} {sa : Nat → Nat} {ad : Nat → Nat} {ca : Nat → ClassId} {A : Nat → Prop} {y1 : Int32} {po : wF → wA → wB → Prop} (X : cx Wl (tyS ca) txS D vwCl sa A p l s m ([.ref (ad 0), .int y1] : List Value).toArray meth c cS_addNeeds 3 "SendBest") (hex : ∀ x ∈ c.exceptionTable.toList, False) (hr : meth.sig.returnType = none) (J2 : Int32 → Int32 → wF → wA → wB → Prop) (hJ2 : ∀ (x1 : Int32) (x2 : Int32) (f : wF) (a : wA) (b : wB), J2 x1 x2 f a b → ∀ (H : Heap) (locs : List Loc), wd nS kS D vwCl ad ca A s H locs f a b → ∀ (ls : Array Slot), lv_has ls 3 [(0, .ref (ad 0)), (1, .int x1), (2, .int x2)] → W p l e ({ frames := 4, cells := 0, slots := 0, locals := 90 }) s m ([.ref (ad 0), .int y1] : List Value).toArray below meth c H locs 0 0 (vx_MQ below (va_Qv (fun (u : wF × wA × wB) => po u.1 u.2.1 u.2.2) (sPost nS kS D vwCl ad ca A) A) (sX nS kS D vwCl ad ca A (fun _ _ _ _ => False)) ([.ref (ad 0), .int y1] : List Value).toArray s 0 0 A) (F0 m 2 ls [])) : ∀ (x1 : Int32) (x2 : Int32) (f : wF) (a : wA) (b : wB), wp_S_addNeeds_52 po J2 x1 x2 f a b → ∀ (H : Heap) (locs : List Loc), wd nS kS D vwCl ad ca A s H locs f a b → ∀ (ls : Array Slot), lv_has ls 3 [(0, .ref (ad 0)), (1, .int x1), (2, .int x2)] → W p l e ({ frames := 4, cells := 0, slots := 0, locals := 90 }) s m ([.ref (ad 0), .int y1] : List Value).toArray below meth c H locs 0 0 (vx_MQ below (va_Qv (fun (u : wF × wA × wB) => po u.1 u.2.1 u.2.2) (sPost nS kS D vwCl ad ca A) A) (sX nS kS D vwCl ad ca A (fun _ _ _ _ => False)) ([.ref (ad 0), .int y1] : List Value).toArray s 0 0 A) (F0 m 52 ls []) := by
  obtain ⟨hx, hb, hml, hown, hts, hK, hA, hth, hlk, hl9⟩ := id X
  intro x1 x2 f a b hw H locs K ls hl
  dsimp only [wp_S_addNeeds_52] at hw
  refine lv_iinc (v := (x2 + (1 : Int32))) (lv' := [(2, .int (x2 + (1 : Int32))), (0, .ref (ad 0)), (1, .int x1)]) hx hb dS_addNeeds_52 hl (k := 2) rfl rfl (by decide) rfl (fun ls hl => ?_)
  refine lv_goto (tgt := 2) hx hb dS_addNeeds_55 (by decide) ?_
  exact hJ2 x1 (x2 + (1 : Int32)) f a b hw _ _ K _ (lv_sub hl [1, 2, 0] rfl)
set_option maxHeartbeats 4000000 in
set_option maxRecDepth 100000 in
theorem LS_addNeeds_43 {p : Program} {l : Launch} {e : Env} {s : State} {m : MethodId} {below : List Frame} {meth : Method} {c : Code} {D : va_G} {sa : Nat → Nat} {ad : Nat → Nat} {ca : Nat → ClassId} {A : Nat → Prop} {y1 : Int32} {po : wF → wA → wB → Prop} (X : cx Wl (tyS ca) txS D vwCl sa A p l s m ([.ref (ad 0), .int y1] : List Value).toArray meth c cS_addNeeds 3 "SendBest") (hex : ∀ x ∈ c.exceptionTable.toList, False) (hr : meth.sig.returnType = none) (J2 : Int32 → Int32 → wF → wA → wB → Prop) (hJ2 : ∀ (x1 : Int32) (x2 : Int32) (f : wF) (a : wA) (b : wB), J2 x1 x2 f a b → ∀ (H : Heap) (locs : List Loc), wd nS kS D vwCl ad ca A s H locs f a b → ∀ (ls : Array Slot), lv_has ls 3 [(0, .ref (ad 0)), (1, .int x1), (2, .int x2)] → W p l e ({ frames := 4, cells := 0, slots := 0, locals := 90 }) s m ([.ref (ad 0), .int y1] : List Value).toArray below meth c H locs 0 0 (vx_MQ below (va_Qv (fun (u : wF × wA × wB) => po u.1 u.2.1 u.2.2) (sPost nS kS D vwCl ad ca A) A) (sX nS kS D vwCl ad ca A (fun _ _ _ _ => False)) ([.ref (ad 0), .int y1] : List Value).toArray s 0 0 A) (F0 m 2 ls [])) : ∀ (k0 : Int32) (x1 : Int32) (x2 : Int32) (f : wF) (a : wA) (b : wB), wp_S_addNeeds_43 po J2 k0 x1 x2 f a b → ∀ (H : Heap) (locs : List Loc), wd nS kS D vwCl ad ca A s H locs f a b → ∀ (ls : Array Slot), lv_has ls 3 [(0, .ref (ad 0)), (1, .int x1), (2, .int x2)] → W p l e ({ frames := 4, cells := 0, slots := 0, locals := 90 }) s m ([.ref (ad 0), .int y1] : List Value).toArray below meth c H locs 0 0 (vx_MQ below (va_Qv (fun (u : wF × wA × wB) => po u.1 u.2.1 u.2.2) (sPost nS kS D vwCl ad ca A) A) (sX nS kS D vwCl ad ca A (fun _ _ _ _ => False)) ([.ref (ad 0), .int y1] : List Value).toArray s 0 0 A) (F0 m 43 ls [.int k0]) := by
  obtain ⟨hx, hb, hml, hown, hts, hK, hA, hth, hlk, hl9⟩ := id X
  intro k0 x1 x2 f a b hw H locs K ls hl
  dsimp only [wp_S_addNeeds_43] at hw
  refine lv_iload_n hx hb dS_addNeeds_43 rfl (lv_at hl 1 rfl) ?_
  refine lv_icmp_ne (tgt := 52) hx hb dS_addNeeds_44 (by decide) (fun hc => ?_) (fun hc => ?_)
  · replace hw := hw.1 hc
    exact LS_addNeeds_52 X hex hr J2 hJ2 x1 x2 f a b hw _ _ K _ (lv_sub hl [0, 1, 2] rfl)
  · replace hw := hw.2 hc
    refine lv_aload_n hx hb dS_addNeeds_47 rfl (lv_at hl 0 rfl) ?_
    refine lv_iload_n hx hb dS_addNeeds_48 rfl (lv_at hl 2 rfl) ?_
    refine gcV X K (n0 := 1) (As := [.int x2]) (rest := []) (hM := (met_S_addNeed hl9 D ad ca sa _ x2 f a b _ hw)) (o := 0) (ho := by decide) (hko := kS_o0) (hci := rfl) (hg := wl_good) (w1 := (tm2 (i := 156) rfl rfl)) (w2 := (tm2 (i := 158) rfl rfl)) (w3 := (tm0 (i := 13) rfl rfl)) (w4 := (tm1 (i := 1) rfl rfl)) (w5 := (tm2 (i := 159) rfl rfl)) (hd := ⟨rfl, by decide, by decide, by decide +kernel⟩) (hrc := rfl) (hrs := rfl) (hR := ⟨Nat.le_of_ble_eq_true rfl, Nat.le_of_ble_eq_true rfl⟩) (hn := rfl) (hsz := hl.1) (hst := rfl) (hW := Nat.le_of_ble_eq_true rfl) (hdg := dS_addNeeds_49) (hf := ⟨Nat.le_of_ble_eq_true rfl, Nat.le_of_ble_eq_true rfl⟩) (fun _ _ _ _ _ _ _ _ hw => hw.elim) (fun f49 a49 b49 H locs hw K => ?_)
    exact LS_addNeeds_52 X hex hr J2 hJ2 x1 x2 f49 a49 b49 hw _ _ K _ (lv_sub hl [0, 1, 2] rfl)
set_option maxHeartbeats 4000000 in
set_option maxRecDepth 100000 in
theorem LS_addNeeds_2 {p : Program} {l : Launch} {e : Env} {s : State} {m : MethodId} {below : List Frame} {meth : Method} {c : Code} {D : va_G} {sa : Nat → Nat} {ad : Nat → Nat} {ca : Nat → ClassId} {A : Nat → Prop} {y1 : Int32} {po : wF → wA → wB → Prop} (X : cx Wl (tyS ca) txS D vwCl sa A p l s m ([.ref (ad 0), .int y1] : List Value).toArray meth c cS_addNeeds 3 "SendBest") (hex : ∀ x ∈ c.exceptionTable.toList, False) (hr : meth.sig.returnType = none) : ∀ n : Nat, ∀ (x1 : Int32) (x2 : Int32) (f : wF) (a : wA) (b : wB), wp_S_addNeeds_2 po n x1 x2 f a b → ∀ (H : Heap) (locs : List Loc), wd nS kS D vwCl ad ca A s H locs f a b → ∀ (ls : Array Slot), lv_has ls 3 [(0, .ref (ad 0)), (1, .int x1), (2, .int x2)] → W p l e ({ frames := 4, cells := 0, slots := 0, locals := 90 }) s m ([.ref (ad 0), .int y1] : List Value).toArray below meth c H locs 0 0 (vx_MQ below (va_Qv (fun (u : wF × wA × wB) => po u.1 u.2.1 u.2.2) (sPost nS kS D vwCl ad ca A) A) (sX nS kS D vwCl ad ca A (fun _ _ _ _ => False)) ([.ref (ad 0), .int y1] : List Value).toArray s 0 0 A) (F0 m 2 ls []) := by
  obtain ⟨hx, hb, hml, hown, hts, hK, hA, hth, hlk, hl9⟩ := id X
  intro n
  induction n with
  | zero => intro x1 x2 f a b hw; exact hw.elim
  | succ n ih =>
    intro x1 x2 f a b hw H locs K ls hl
    dsimp only [wp_S_addNeeds_2] at hw
    refine lv_iload_n hx hb dS_addNeeds_2 rfl (lv_at hl 2 rfl) ?_
    refine lv_aload_n hx hb dS_addNeeds_3 rfl (lv_at hl 0 rfl) ?_
    refine gGet X K (o := 0) (k := 9) (v := .int (f 2)) (by decide) kS_o0 rfl inS_o0 (by decide) (tm1 (i := 91) rfl rfl) rfl dS_addNeeds_4 ?_
    refine lv_icmp_ge (tgt := 58) hx hb dS_addNeeds_7 (by decide) (fun hc => ?_) (fun hc => ?_)
    · replace hw := hw.1 hc
      exact endV X K hr hw (by decide) (by decide) dS_addNeeds_58
    · replace hw := hw.2 hc
      refine lv_aload_n hx hb dS_addNeeds_10 rfl (lv_at hl 0 rfl) ?_
      refine lv_iload_n hx hb dS_addNeeds_11 rfl (lv_at hl 2 rfl) ?_
      refine gcI X K (n0 := 1) (As := [.int x2]) (rest := []) (hM := (met_S_isOpenNeed hl9 D ad ca sa _ x2 f a b _ hw)) (o := 0) (ho := by decide) (hko := kS_o0) (hci := rfl) (hg := wl_good) (w1 := (tm2 (i := 132) rfl rfl)) (w2 := (tm2 (i := 134) rfl rfl)) (w3 := (tm0 (i := 7) rfl rfl)) (w4 := (tm1 (i := 1) rfl rfl)) (w5 := (tm2 (i := 135) rfl rfl)) (hd := ⟨rfl, by decide, by decide, by decide +kernel⟩) (hrc := rfl) (hrs := rfl) (hR := ⟨Nat.le_of_ble_eq_true rfl, Nat.le_of_ble_eq_true rfl⟩) (hn := rfl) (hsz := hl.1) (hst := rfl) (hW := Nat.le_of_ble_eq_true rfl) (hdg := dS_addNeeds_12) (hf := ⟨Nat.le_of_ble_eq_true rfl, Nat.le_of_ble_eq_true rfl⟩) (fun _ _ _ _ _ _ _ _ hw => hw.elim) (fun r12 f12 a12 b12 H locs hw K => ?_)
      refine lv_if_eq (tgt := 52) hx hb dS_addNeeds_15 (by decide) (fun hc => ?_) (fun hc => ?_)
      · replace hw := hw.1 hc
        exact LS_addNeeds_52 X hex hr (wp_S_addNeeds_2 po n) ih x1 x2 f12 a12 b12 hw _ _ K _ (lv_sub hl [0, 1, 2] rfl)
      · replace hw := hw.2 hc
        refine lv_aload_n hx hb dS_addNeeds_18 rfl (lv_at hl 0 rfl) ?_
        refine lv_iload_n hx hb dS_addNeeds_19 rfl (lv_at hl 2 rfl) ?_
        refine gcI X K (n0 := 1) (As := [.int x2]) (rest := []) (hM := (met_S_hasFixedUnit hl9 D ad ca sa _ x2 f12 a12 b12 _ hw)) (o := 0) (ho := by decide) (hko := kS_o0) (hci := rfl) (hg := wl_good) (w1 := (tm2 (i := 136) rfl rfl)) (w2 := (tm2 (i := 138) rfl rfl)) (w3 := (tm0 (i := 8) rfl rfl)) (w4 := (tm1 (i := 1) rfl rfl)) (w5 := (tm2 (i := 139) rfl rfl)) (hd := ⟨rfl, by decide, by decide, by decide +kernel⟩) (hrc := rfl) (hrs := rfl) (hR := ⟨Nat.le_of_ble_eq_true rfl, Nat.le_of_ble_eq_true rfl⟩) (hn := rfl) (hsz := hl.1) (hst := rfl) (hW := Nat.le_of_ble_eq_true rfl) (hdg := dS_addNeeds_20) (hf := ⟨Nat.le_of_ble_eq_true rfl, Nat.le_of_ble_eq_true rfl⟩) (fun _ _ _ _ _ _ _ _ hw => hw.elim) (fun r20 f20 a20 b20 H locs hw K => ?_)
        refine lv_if_ne (tgt := 52) hx hb dS_addNeeds_23 (by decide) (fun hc => ?_) (fun hc => ?_)
        · replace hw := hw.1 hc
          exact LS_addNeeds_52 X hex hr (wp_S_addNeeds_2 po n) ih x1 x2 f20 a20 b20 hw _ _ K _ (lv_sub hl [0, 1, 2] rfl)
        · replace hw := hw.2 hc
          refine lv_aload_n hx hb dS_addNeeds_26 rfl (lv_at hl 0 rfl) ?_
          refine lv_iload_n hx hb dS_addNeeds_27 rfl (lv_at hl 2 rfl) ?_
          refine gcI X K (n0 := 1) (As := [.int x2]) (rest := []) (hM := (met_S_rankOfNeed hl9 D ad ca sa _ x2 f20 a20 b20 _ hw)) (o := 0) (ho := by decide) (hko := kS_o0) (hci := rfl) (hg := wl_good) (w1 := (tm2 (i := 152) rfl rfl)) (w2 := (tm2 (i := 154) rfl rfl)) (w3 := (tm0 (i := 12) rfl rfl)) (w4 := (tm1 (i := 1) rfl rfl)) (w5 := (tm2 (i := 155) rfl rfl)) (hd := ⟨rfl, by decide, by decide, by decide +kernel⟩) (hrc := rfl) (hrs := rfl) (hR := ⟨Nat.le_of_ble_eq_true rfl, Nat.le_of_ble_eq_true rfl⟩) (hn := rfl) (hsz := hl.1) (hst := rfl) (hW := Nat.le_of_ble_eq_true rfl) (hdg := dS_addNeeds_28) (hf := ⟨Nat.le_of_ble_eq_true rfl, Nat.le_of_ble_eq_true rfl⟩) (fun _ _ _ _ _ _ _ _ hw => hw.elim) (fun r28 f28 a28 b28 H locs hw K => ?_)
          refine lv_aload_n hx hb dS_addNeeds_31 rfl (lv_at hl 0 rfl) ?_
          refine gGet X K (o := 0) (k := 15) (v := .int (f28 4)) (by decide) kS_o0 rfl inS_o0 (by decide) (tm1 (i := 97) rfl rfl) rfl dS_addNeeds_32 ?_
          refine lv_icmp_lt (tgt := 42) hx hb dS_addNeeds_35 (by decide) (fun hc => ?_) (fun hc => ?_)
          · replace hw := hw.1 hc
            refine lv_iconst (v := (0 : Int32)) hx hb dS_addNeeds_42 (by decide) ?_
            exact LS_addNeeds_43 X hex hr (wp_S_addNeeds_2 po n) ih (0 : Int32) x1 x2 f28 a28 b28 hw _ _ K _ (lv_sub hl [0, 1, 2] rfl)
          · replace hw := hw.2 hc
            refine lv_iconst (v := (1 : Int32)) hx hb dS_addNeeds_38 (by decide) ?_
            refine lv_goto (tgt := 43) hx hb dS_addNeeds_39 (by decide) ?_
            exact LS_addNeeds_43 X hex hr (wp_S_addNeeds_2 po n) ih (1 : Int32) x1 x2 f28 a28 b28 hw _ _ K _ (lv_sub hl [0, 1, 2] rfl)
set_option maxHeartbeats 4000000 in
set_option maxRecDepth 100000 in
theorem met_S_addNeeds {l : Launch} (hl9 : l.stackTraces = false) (D : va_G) (ad : Nat → Nat) (ca : Nat → ClassId) (sa : Nat → Nat) (sz : Nat) (x1 : Int32) (f : wF) (a : wA) (b : wB) (po : wF → wA → wB → Prop) (hw : wp_S_addNeeds po x1 f a b) : mV nS kS (tyS ca) txS D vwCl l yS_addNeeds (Cond.code yS_addNeeds cS_addNeeds 3 none :: Wl) ({ frames := 4, cells := 0, slots := 0, locals := 90 }) [.ref (ad 0), .int x1] ad ca sa sz f a b po (fun _ _ _ _ => False) 0 0 := by
  refine ofV (by decide) hl9 (Nat.le_of_ble_eq_true rfl) ?_
  intro p e s m below meth c ls X hex hr K hl
  obtain ⟨hx, hb, hml, hown, hts, hK, hA, hth, hlk, hl9⟩ := id X
  have hl : lv_has ls 3 [(0, .ref (ad 0)), (1, .int x1)] := hl
  dsimp only [wp_S_addNeeds] at hw
  refine lv_iconst (v := (0 : Int32)) hx hb dS_addNeeds_0 (by decide) ?_
  refine lv_istore_n (lv' := [(2, .int (0 : Int32)), (0, .ref (ad 0)), (1, .int x1)]) hx hb dS_addNeeds_1 rfl hl (by decide) rfl (fun ls hl => ?_)
  obtain ⟨n9, hw⟩ := hw
  exact LS_addNeeds_2 X hex hr n9 x1 (0 : Int32) f a b hw _ _ K _ (lv_sub hl [1, 2, 0] rfl)
set_option maxHeartbeats 4000000 in
set_option maxRecDepth 100000 in
theorem met_P_endUnbound {l : Launch} (hl9 : l.stackTraces = false) (D : va_G) (ad : Nat → Nat) (ca : Nat → ClassId) (sa : Nat → Nat) (sz : Nat)  (f : wF) (a : wA) (b : wB) (po : wF → wA → wB → Prop) (hw : wp_P_endUnbound po f a b) : mV nS kS (tyS ca) txS D vwCl l yP_endUnbound (Cond.code yP_endUnbound cP_endUnbound 1 none :: Wl) ({ frames := 0, cells := 0, slots := 0, locals := 0 }) [.ref (ad 24)] ad ca sa sz f a b po (fun _ _ _ _ => False) 0 0 := by
  refine ofV (by decide) hl9 (Nat.le_of_ble_eq_true rfl) ?_
  intro p e s m below meth c ls X hex hr K hl
  obtain ⟨hx, hb, hml, hown, hts, hK, hA, hth, hlk, hl9⟩ := id X
  have hl : lv_has ls 1 [(0, .ref (ad 24))] := hl
  dsimp only [wp_P_endUnbound] at hw
  refine lv_aload_n hx hb dP_endUnbound_0 rfl (lv_at hl 0 rfl) ?_
  refine lv_aload_n hx hb dP_endUnbound_1 rfl (lv_at hl 0 rfl) ?_
  refine gGet X K (o := 24) (k := 0) (v := .int (f 5)) (by decide) kS_o24 rfl inS_o24 (by decide) (tm1 (i := 33) rfl rfl) rfl dP_endUnbound_2 ?_
  refine gPut X K (o := 24) (k := 1) (v := .int (f 5)) (ty := .int) tS_o24 tS_o24_ok nS_o24 (by decide) kS_o24 rfl inS_o24 (by decide) (tm1 (i := 34) rfl rfl) rfl rfl rfl rfl (by simp [flS_o24]) dP_endUnbound_5 kS_u24_1 (fun H locs K => ?_)
  exact endV X K hr hw (by decide) (by decide) dP_endUnbound_8
set_option maxHeartbeats 4000000 in
set_option maxRecDepth 100000 in
theorem met_S_layOutNeeds {l : Launch} (hl9 : l.stackTraces = false) (D : va_G) (ad : Nat → Nat) (ca : Nat → ClassId) (sa : Nat → Nat) (sz : Nat)  (f : wF) (a : wA) (b : wB) (po : wF → wA → wB → Prop) (hw : wp_S_layOutNeeds po f a b) : mV nS kS (tyS ca) txS D vwCl l yS_layOutNeeds (Cond.code yS_layOutNeeds cS_layOutNeeds 1 none :: Wl) ({ frames := 5, cells := 0, slots := 0, locals := 112 }) [.ref (ad 0)] ad ca sa sz f a b po (fun _ _ _ _ => False) 0 0 := by
  refine ofV (by decide) hl9 (Nat.le_of_ble_eq_true rfl) ?_
  intro p e s m below meth c ls X hex hr K hl
  obtain ⟨hx, hb, hml, hown, hts, hK, hA, hth, hlk, hl9⟩ := id X
  have hl : lv_has ls 1 [(0, .ref (ad 0))] := hl
  dsimp only [wp_S_layOutNeeds] at hw
  refine lv_aload_n hx hb dS_layOutNeeds_0 rfl (lv_at hl 0 rfl) ?_
  refine gGet X K (o := 0) (k := 16) (v := .ref (ad 24)) (by decide) kS_o0 rfl inS_o0 (by decide) (tm1 (i := 98) rfl rfl) rfl dS_layOutNeeds_1 ?_
  refine gcV X K (n0 := 0) (As := []) (rest := []) (hM := (met_P_clear hl9 D ad ca sa _ f a b _ hw)) (o := 24) (ho := by decide) (hko := kS_o24) (hci := rfl) (hg := wl_good) (w1 := (tm2 (i := 121) rfl rfl)) (w2 := (tm2 (i := 122) rfl rfl)) (w3 := (tm2 (i := 123) rfl rfl)) (w4 := (tm1 (i := 2) rfl rfl)) (w5 := (tm2 (i := 124) rfl rfl)) (hd := ⟨rfl, by decide, by decide, by decide +kernel⟩) (hrc := rfl) (hrs := rfl) (hR := ⟨Nat.le_of_ble_eq_true rfl, Nat.le_of_ble_eq_true rfl⟩) (hn := rfl) (hsz := hl.1) (hst := rfl) (hW := Nat.le_of_ble_eq_true rfl) (hdg := dS_layOutNeeds_4) (hf := ⟨Nat.le_of_ble_eq_true rfl, Nat.le_of_ble_eq_true rfl⟩) (fun _ _ _ _ _ _ _ _ hw => hw.elim) (fun f4 a4 b4 H locs hw K => ?_)
  refine lv_aload_n hx hb dS_layOutNeeds_7 rfl (lv_at hl 0 rfl) ?_
  refine lv_iconst (v := (1 : Int32)) hx hb dS_layOutNeeds_8 (by decide) ?_
  refine gcV X K (n0 := 1) (As := [.int (1 : Int32)]) (rest := []) (hM := (met_S_addNeeds hl9 D ad ca sa _ (1 : Int32) f4 a4 b4 _ hw)) (o := 0) (ho := by decide) (hko := kS_o0) (hci := rfl) (hg := wl_good) (w1 := (tm2 (i := 128) rfl rfl)) (w2 := (tm2 (i := 130) rfl rfl)) (w3 := (tm0 (i := 6) rfl rfl)) (w4 := (tm1 (i := 1) rfl rfl)) (w5 := (tm2 (i := 131) rfl rfl)) (hd := ⟨rfl, by decide, by decide, by decide +kernel⟩) (hrc := rfl) (hrs := rfl) (hR := ⟨Nat.le_of_ble_eq_true rfl, Nat.le_of_ble_eq_true rfl⟩) (hn := rfl) (hsz := hl.1) (hst := rfl) (hW := Nat.le_of_ble_eq_true rfl) (hdg := dS_layOutNeeds_9) (hf := ⟨Nat.le_of_ble_eq_true rfl, Nat.le_of_ble_eq_true rfl⟩) (fun _ _ _ _ _ _ _ _ hw => hw.elim) (fun f9 a9 b9 H locs hw K => ?_)
  refine lv_aload_n hx hb dS_layOutNeeds_12 rfl (lv_at hl 0 rfl) ?_
  refine gGet X K (o := 0) (k := 16) (v := .ref (ad 24)) (by decide) kS_o0 rfl inS_o0 (by decide) (tm1 (i := 98) rfl rfl) rfl dS_layOutNeeds_13 ?_
  refine gcV X K (n0 := 0) (As := []) (rest := []) (hM := (met_P_endUnbound hl9 D ad ca sa _ f9 a9 b9 _ hw)) (o := 24) (ho := by decide) (hko := kS_o24) (hci := rfl) (hg := wl_good) (w1 := (tm2 (i := 169) rfl rfl)) (w2 := (tm2 (i := 170) rfl rfl)) (w3 := (tm2 (i := 171) rfl rfl)) (w4 := (tm1 (i := 2) rfl rfl)) (w5 := (tm2 (i := 172) rfl rfl)) (hd := ⟨rfl, by decide, by decide, by decide +kernel⟩) (hrc := rfl) (hrs := rfl) (hR := ⟨Nat.le_of_ble_eq_true rfl, Nat.le_of_ble_eq_true rfl⟩) (hn := rfl) (hsz := hl.1) (hst := rfl) (hW := Nat.le_of_ble_eq_true rfl) (hdg := dS_layOutNeeds_16) (hf := ⟨Nat.le_of_ble_eq_true rfl, Nat.le_of_ble_eq_true rfl⟩) (fun _ _ _ _ _ _ _ _ hw => hw.elim) (fun f16 a16 b16 H locs hw K => ?_)
  refine lv_aload_n hx hb dS_layOutNeeds_19 rfl (lv_at hl 0 rfl) ?_
  refine lv_iconst (v := (0 : Int32)) hx hb dS_layOutNeeds_20 (by decide) ?_
  refine gcV X K (n0 := 1) (As := [.int (0 : Int32)]) (rest := []) (hM := (met_S_addNeeds hl9 D ad ca sa _ (0 : Int32) f16 a16 b16 _ hw)) (o := 0) (ho := by decide) (hko := kS_o0) (hci := rfl) (hg := wl_good) (w1 := (tm2 (i := 128) rfl rfl)) (w2 := (tm2 (i := 130) rfl rfl)) (w3 := (tm0 (i := 6) rfl rfl)) (w4 := (tm1 (i := 1) rfl rfl)) (w5 := (tm2 (i := 131) rfl rfl)) (hd := ⟨rfl, by decide, by decide, by decide +kernel⟩) (hrc := rfl) (hrs := rfl) (hR := ⟨Nat.le_of_ble_eq_true rfl, Nat.le_of_ble_eq_true rfl⟩) (hn := rfl) (hsz := hl.1) (hst := rfl) (hW := Nat.le_of_ble_eq_true rfl) (hdg := dS_layOutNeeds_21) (hf := ⟨Nat.le_of_ble_eq_true rfl, Nat.le_of_ble_eq_true rfl⟩) (fun _ _ _ _ _ _ _ _ hw => hw.elim) (fun f21 a21 b21 H locs hw K => ?_)
  exact endV X K hr hw (by decide) (by decide) dS_layOutNeeds_24
set_option maxHeartbeats 4000000 in
set_option maxRecDepth 100000 in
theorem LS_spareUnits_36 {p : Program} {l : Launch} {e : Env} {s : State} {m : MethodId} {below : List Frame} {meth : Method} {c : Code} {D : va_G} {sa : Nat → Nat} {ad : Nat → Nat} {ca : Nat → ClassId} {A : Nat → Prop} {po : Int32 → wF → wA → wB → Prop} (X : cx Wl (tyS ca) txS D vwCl sa A p l s m ([.ref (ad 0)] : List Value).toArray meth c cS_spareUnits 3 "SendBest") (hex : ∀ x ∈ c.exceptionTable.toList, False) (hr : meth.sig.returnType = (some .int)) (J8 : Int32 → Int32 → wF → wA → wB → Prop) (hJ8 : ∀ (x1 : Int32) (x2 : Int32) (f : wF) (a : wA) (b : wB), J8 x1 x2 f a b → ∀ (H : Heap) (locs : List Loc), wd nS kS D vwCl ad ca A s H locs f a b → ∀ (ls : Array Slot), lv_has ls 3 [(0, .ref (ad 0)), (1, .int x1), (2, .int x2)] → W p l e ({ frames := 3, cells := 0, slots := 0, locals := 67 }) s m ([.ref (ad 0)] : List Value).toArray below meth c H locs 0 0 (vx_MQ below (va_Qi (fun r (u : wF × wA × wB) => po r u.1 u.2.1 u.2.2) (sPost nS kS D vwCl ad ca A) A) (sX nS kS D vwCl ad ca A (fun _ _ _ _ => False)) ([.ref (ad 0)] : List Value).toArray s 0 0 A) (F0 m 8 ls [])) : ∀ (x1 : Int32) (x2 : Int32) (f : wF) (a : wA) (b : wB), wp_S_spareUnits_36 po J8 x1 x2 f a b → ∀ (H : Heap) (locs : List Loc), wd nS kS D vwCl ad ca A s H locs f a b → ∀ (ls : Array Slot), lv_has ls 3 [(0, .ref (ad 0)), (1, .int x1), (2, .int x2)] → W p l e ({ frames := 3, cells := 0, slots := 0, locals := 67 }) s m ([.ref (ad 0)] : List Value).toArray below meth c H locs 0 0 (vx_MQ below (va_Qi (fun r (u : wF × wA × wB) => po r u.1 u.2.1 u.2.2) (sPost nS kS D vwCl ad ca A) A) (sX nS kS D vwCl ad ca A (fun _ _ _ _ => False)) ([.ref (ad 0)] : List Value).toArray s 0 0 A) (F0 m 36 ls []) := by
  obtain ⟨hx, hb, hml, hown, hts, hK, hA, hth, hlk, hl9⟩ := id X
  intro x1 x2 f a b hw H locs K ls hl
  dsimp only [wp_S_spareUnits_36] at hw
  refine lv_iinc (v := (x2 + (1 : Int32))) (lv' := [(2, .int (x2 + (1 : Int32))), (0, .ref (ad 0)), (1, .int x1)]) hx hb dS_spareUnits_36 hl (k := 2) rfl rfl (by decide) rfl (fun ls hl => ?_)
  refine lv_goto (tgt := 8) hx hb dS_spareUnits_39 (by decide) ?_
  exact hJ8 x1 (x2 + (1 : Int32)) f a b hw _ _ K _ (lv_sub hl [1, 2, 0] rfl)
set_option maxHeartbeats 4000000 in
set_option maxRecDepth 100000 in
theorem LS_spareUnits_8 {p : Program} {l : Launch} {e : Env} {s : State} {m : MethodId} {below : List Frame} {meth : Method} {c : Code} {D : va_G} {sa : Nat → Nat} {ad : Nat → Nat} {ca : Nat → ClassId} {A : Nat → Prop} {po : Int32 → wF → wA → wB → Prop} (X : cx Wl (tyS ca) txS D vwCl sa A p l s m ([.ref (ad 0)] : List Value).toArray meth c cS_spareUnits 3 "SendBest") (hex : ∀ x ∈ c.exceptionTable.toList, False) (hr : meth.sig.returnType = (some .int)) : ∀ n : Nat, ∀ (x1 : Int32) (x2 : Int32) (f : wF) (a : wA) (b : wB), wp_S_spareUnits_8 po n x1 x2 f a b → ∀ (H : Heap) (locs : List Loc), wd nS kS D vwCl ad ca A s H locs f a b → ∀ (ls : Array Slot), lv_has ls 3 [(0, .ref (ad 0)), (1, .int x1), (2, .int x2)] → W p l e ({ frames := 3, cells := 0, slots := 0, locals := 67 }) s m ([.ref (ad 0)] : List Value).toArray below meth c H locs 0 0 (vx_MQ below (va_Qi (fun r (u : wF × wA × wB) => po r u.1 u.2.1 u.2.2) (sPost nS kS D vwCl ad ca A) A) (sX nS kS D vwCl ad ca A (fun _ _ _ _ => False)) ([.ref (ad 0)] : List Value).toArray s 0 0 A) (F0 m 8 ls []) := by
  obtain ⟨hx, hb, hml, hown, hts, hK, hA, hth, hlk, hl9⟩ := id X
  intro n
  induction n with
  | zero => intro x1 x2 f a b hw; exact hw.elim
  | succ n ih =>
    intro x1 x2 f a b hw H locs K ls hl
    dsimp only [wp_S_spareUnits_8] at hw
    refine lv_iload_n hx hb dS_spareUnits_8 rfl (lv_at hl 2 rfl) ?_
    refine lv_aload_n hx hb dS_spareUnits_9 rfl (lv_at hl 0 rfl) ?_
    refine gGet X K (o := 0) (k := 0) (v := .int (f 0)) (by decide) kS_o0 rfl inS_o0 (by decide) (tm1 (i := 82) rfl rfl) rfl dS_spareUnits_10 ?_
    refine lv_icmp_ge (tgt := 42) hx hb dS_spareUnits_13 (by decide) (fun hc => ?_) (fun hc => ?_)
    · replace hw := hw.1 hc
      refine lv_iload_n hx hb dS_spareUnits_42 rfl (lv_at hl 1 rfl) ?_
      exact endI X K hr rfl hw (by decide) (by decide) dS_spareUnits_43
    · replace hw := hw.2 hc
      refine lv_aload_n hx hb dS_spareUnits_16 rfl (lv_at hl 0 rfl) ?_
      refine gGet X K (o := 0) (k := 2) (v := .ref (ad 2)) (by decide) kS_o0 rfl inS_o0 (by decide) (tm1 (i := 84) rfl rfl) rfl dS_spareUnits_17 ?_
      refine lv_iload_n hx hb dS_spareUnits_20 rfl (lv_at hl 2 rfl) ?_
      obtain ⟨hi, hw⟩ := hw
      refine gzld X K (o := 2) (t0 := 1) (by decide) kS_c2 rfl hi dS_spareUnits_21 ?_
      refine lv_if_ne (tgt := 36) hx hb dS_spareUnits_22 (by decide) (fun hc => ?_) (fun hc => ?_)
      · replace hw := hw.1 hc
        exact LS_spareUnits_36 X hex hr (wp_S_spareUnits_8 po n) ih x1 x2 f a b hw _ _ K _ (lv_sub hl [0, 1, 2] rfl)
      · replace hw := hw.2 hc
        refine lv_aload_n hx hb dS_spareUnits_25 rfl (lv_at hl 0 rfl) ?_
        refine lv_iload_n hx hb dS_spareUnits_26 rfl (lv_at hl 2 rfl) ?_
        refine gcI X K (n0 := 1) (As := [.int x2]) (rest := []) (hM := (met_S_isFixed hl9 D ad ca sa _ x2 f a b _ hw)) (o := 0) (ho := by decide) (hko := kS_o0) (hci := rfl) (hg := wl_good) (w1 := (tm2 (i := 140) rfl rfl)) (w2 := (tm2 (i := 142) rfl rfl)) (w3 := (tm0 (i := 9) rfl rfl)) (w4 := (tm1 (i := 1) rfl rfl)) (w5 := (tm2 (i := 143) rfl rfl)) (hd := ⟨rfl, by decide, by decide, by decide +kernel⟩) (hrc := rfl) (hrs := rfl) (hR := ⟨Nat.le_of_ble_eq_true rfl, Nat.le_of_ble_eq_true rfl⟩) (hn := rfl) (hsz := hl.1) (hst := rfl) (hW := Nat.le_of_ble_eq_true rfl) (hdg := dS_spareUnits_27) (hf := ⟨Nat.le_of_ble_eq_true rfl, Nat.le_of_ble_eq_true rfl⟩) (fun _ _ _ _ _ _ _ _ hw => hw.elim) (fun r27 f27 a27 b27 H locs hw K => ?_)
        refine lv_if_ne (tgt := 36) hx hb dS_spareUnits_30 (by decide) (fun hc => ?_) (fun hc => ?_)
        · replace hw := hw.1 hc
          exact LS_spareUnits_36 X hex hr (wp_S_spareUnits_8 po n) ih x1 x2 f27 a27 b27 hw _ _ K _ (lv_sub hl [0, 1, 2] rfl)
        · replace hw := hw.2 hc
          refine lv_iinc (v := (x1 + (1 : Int32))) (lv' := [(1, .int (x1 + (1 : Int32))), (0, .ref (ad 0)), (2, .int x2)]) hx hb dS_spareUnits_33 hl (k := 1) rfl rfl (by decide) rfl (fun ls hl => ?_)
          exact LS_spareUnits_36 X hex hr (wp_S_spareUnits_8 po n) ih (x1 + (1 : Int32)) x2 f27 a27 b27 hw _ _ K _ (lv_sub hl [1, 0, 2] rfl)
set_option maxHeartbeats 4000000 in
set_option maxRecDepth 100000 in
theorem met_S_spareUnits {l : Launch} (hl9 : l.stackTraces = false) (D : va_G) (ad : Nat → Nat) (ca : Nat → ClassId) (sa : Nat → Nat) (sz : Nat)  (f : wF) (a : wA) (b : wB) (po : Int32 → wF → wA → wB → Prop) (hw : wp_S_spareUnits po f a b) : mI nS kS (tyS ca) txS D vwCl l yS_spareUnits (Cond.code yS_spareUnits cS_spareUnits 3 (some .int) :: Wl) ({ frames := 3, cells := 0, slots := 0, locals := 67 }) [.ref (ad 0)] ad ca sa sz f a b po (fun _ _ _ _ => False) 0 0 := by
  refine ofI (by decide) hl9 (Nat.le_of_ble_eq_true rfl) ?_
  intro p e s m below meth c ls X hex hr K hl
  obtain ⟨hx, hb, hml, hown, hts, hK, hA, hth, hlk, hl9⟩ := id X
  have hl : lv_has ls 3 [(0, .ref (ad 0))] := hl
  dsimp only [wp_S_spareUnits] at hw
  refine lv_aload_n hx hb dS_spareUnits_0 rfl (lv_at hl 0 rfl) ?_
  refine gGet X K (o := 0) (k := 14) (v := .int (f 3)) (by decide) kS_o0 rfl inS_o0 (by decide) (tm1 (i := 96) rfl rfl) rfl dS_spareUnits_1 ?_
  refine lv_ineg hx hb dS_spareUnits_4 ?_
  refine lv_istore_n (lv' := [(1, .int (-(f 3))), (0, .ref (ad 0))]) hx hb dS_spareUnits_5 rfl hl (by decide) rfl (fun ls hl => ?_)
  refine lv_iconst (v := (0 : Int32)) hx hb dS_spareUnits_6 (by decide) ?_
  refine lv_istore_n (lv' := [(2, .int (0 : Int32)), (1, .int (-(f 3))), (0, .ref (ad 0))]) hx hb dS_spareUnits_7 rfl hl (by decide) rfl (fun ls hl => ?_)
  obtain ⟨n9, hw⟩ := hw
  exact LS_spareUnits_8 X hex hr n9 (-(f 3)) (0 : Int32) f a b hw _ _ K _ (lv_sub hl [2, 1, 0] rfl)
set_option maxHeartbeats 4000000 in
set_option maxRecDepth 100000 in
theorem LP_isLess_26 {p : Program} {l : Launch} {e : Env} {s : State} {m : MethodId} {below : List Frame} {meth : Method} {c : Code} {D : va_G} {sa : Nat → Nat} {ad : Nat → Nat} {ca : Nat → ClassId} {A : Nat → Prop} {y0 : Int64} {y2 : Int64} {y4 : Int64} {y6 : Int64} {po : Int32 → wF → wA → wB → Prop} (X : cx Wl (tyS ca) txS D vwCl sa A p l s m ([.long y0, .long y2, .long y4, .long y6] : List Value).toArray meth c cP_isLess 8 "SendBest$Pairing") (hex : ∀ x ∈ c.exceptionTable.toList, False) (hr : meth.sig.returnType = (some .boolean)) : ∀ (k0 : Int32) (f : wF) (a : wA) (b : wB), wp_P_isLess_26 po k0 f a b → ∀ (H : Heap) (locs : List Loc), wd nS kS D vwCl ad ca A s H locs f a b → ∀ (ls : Array Slot), lv_has ls 8 [] → W p l e ({ frames := 0, cells := 0, slots := 0, locals := 0 }) s m ([.long y0, .long y2, .long y4, .long y6] : List Value).toArray below meth c H locs 0 0 (vx_MQ below (va_Qi (fun r (u : wF × wA × wB) => po r u.1 u.2.1 u.2.2) (sPost nS kS D vwCl ad ca A) A) (sX nS kS D vwCl ad ca A (fun _ _ _ _ => False)) ([.long y0, .long y2, .long y4, .long y6] : List Value).toArray s 0 0 A) (F0 m 26 ls [.int k0]) := by
  obtain ⟨hx, hb, hml, hown, hts, hK, hA, hth, hlk, hl9⟩ := id X
  intro k0 f a b hw H locs K ls hl
  dsimp only [wp_P_isLess_26] at hw
  exact endI X K hr hw.1 hw.2 (by decide) (by decide) dP_isLess_26
set_option maxHeartbeats 4000000 in
set_option maxRecDepth 100000 in
theorem LP_isLess_25 {p : Program} {l : Launch} {e : Env} {s : State} {m : MethodId} {below : List Frame} {meth : Method} {c : Code} {D : va_G} {sa : Nat → Nat} {ad : Nat → Nat} {ca : Nat → ClassId} {A : Nat → Prop} {y0 : Int64} {y2 : Int64} {y4 : Int64} {y6 : Int64} {po : Int32 → wF → wA → wB → Prop} (X : cx Wl (tyS ca) txS D vwCl sa A p l s m ([.long y0, .long y2, .long y4, .long y6] : List Value).toArray meth c cP_isLess 8 "SendBest$Pairing") (hex : ∀ x ∈ c.exceptionTable.toList, False) (hr : meth.sig.returnType = (some .boolean)) : ∀ (f : wF) (a : wA) (b : wB), wp_P_isLess_25 po f a b → ∀ (H : Heap) (locs : List Loc), wd nS kS D vwCl ad ca A s H locs f a b → ∀ (ls : Array Slot), lv_has ls 8 [] → W p l e ({ frames := 0, cells := 0, slots := 0, locals := 0 }) s m ([.long y0, .long y2, .long y4, .long y6] : List Value).toArray below meth c H locs 0 0 (vx_MQ below (va_Qi (fun r (u : wF × wA × wB) => po r u.1 u.2.1 u.2.2) (sPost nS kS D vwCl ad ca A) A) (sX nS kS D vwCl ad ca A (fun _ _ _ _ => False)) ([.long y0, .long y2, .long y4, .long y6] : List Value).toArray s 0 0 A) (F0 m 25 ls []) := by
  obtain ⟨hx, hb, hml, hown, hts, hK, hA, hth, hlk, hl9⟩ := id X
  intro  f a b hw H locs K ls hl
  dsimp only [wp_P_isLess_25] at hw
  refine lv_iconst (v := (0 : Int32)) hx hb dP_isLess_25 (by decide) ?_
  exact LP_isLess_26 X hex hr (0 : Int32) f a b hw _ _ K _ (lv_sub hl [] rfl)
set_option maxHeartbeats 4000000 in
set_option maxRecDepth 100000 in
theorem LP_isLess_21 {p : Program} {l : Launch} {e : Env} {s : State} {m : MethodId} {below : List Frame} {meth : Method} {c : Code} {D : va_G} {sa : Nat → Nat} {ad : Nat → Nat} {ca : Nat → ClassId} {A : Nat → Prop} {y0 : Int64} {y2 : Int64} {y4 : Int64} {y6 : Int64} {po : Int32 → wF → wA → wB → Prop} (X : cx Wl (tyS ca) txS D vwCl sa A p l s m ([.long y0, .long y2, .long y4, .long y6] : List Value).toArray meth c cP_isLess 8 "SendBest$Pairing") (hex : ∀ x ∈ c.exceptionTable.toList, False) (hr : meth.sig.returnType = (some .boolean)) : ∀ (f : wF) (a : wA) (b : wB), wp_P_isLess_21 po f a b → ∀ (H : Heap) (locs : List Loc), wd nS kS D vwCl ad ca A s H locs f a b → ∀ (ls : Array Slot), lv_has ls 8 [] → W p l e ({ frames := 0, cells := 0, slots := 0, locals := 0 }) s m ([.long y0, .long y2, .long y4, .long y6] : List Value).toArray below meth c H locs 0 0 (vx_MQ below (va_Qi (fun r (u : wF × wA × wB) => po r u.1 u.2.1 u.2.2) (sPost nS kS D vwCl ad ca A) A) (sX nS kS D vwCl ad ca A (fun _ _ _ _ => False)) ([.long y0, .long y2, .long y4, .long y6] : List Value).toArray s 0 0 A) (F0 m 21 ls []) := by
  obtain ⟨hx, hb, hml, hown, hts, hK, hA, hth, hlk, hl9⟩ := id X
  intro  f a b hw H locs K ls hl
  dsimp only [wp_P_isLess_21] at hw
  refine lv_iconst (v := (1 : Int32)) hx hb dP_isLess_21 (by decide) ?_
  refine lv_goto (tgt := 26) hx hb dP_isLess_22 (by decide) ?_
  exact LP_isLess_26 X hex hr (1 : Int32) f a b hw _ _ K _ (lv_sub hl [] rfl)
set_option maxHeartbeats 4000000 in
set_option maxRecDepth 100000 in
theorem met_P_isLess {l : Launch} (hl9 : l.stackTraces = false) (D : va_G) (ad : Nat → Nat) (ca : Nat → ClassId) (sa : Nat → Nat) (sz : Nat) (x0 : Int64) (x2 : Int64) (x4 : Int64) (x6 : Int64) (f : wF) (a : wA) (b : wB) (po : Int32 → wF → wA → wB → Prop) (hw : wp_P_isLess po x0 x2 x4 x6 f a b) : mI nS kS (tyS ca) txS D vwCl l yP_isLess (Cond.code yP_isLess cP_isLess 8 (some .boolean) :: Wl) ({ frames := 0, cells := 0, slots := 0, locals := 0 }) [.long x0, .long x2, .long x4, .long x6] ad ca sa sz f a b po (fun _ _ _ _ => False) 0 0 := by
  refine ofI (by decide) hl9 (Nat.le_of_ble_eq_true rfl) ?_
  intro p e s m below meth c ls X hex hr K hl
  obtain ⟨hx, hb, hml, hown, hts, hK, hA, hth, hlk, hl9⟩ := id X
  have hl : lv_has ls 8 [(0, .long x0), (2, .long x2), (4, .long x4), (6, .long x6)] := hl
  dsimp only [wp_P_isLess] at hw
  refine lv_lload_n hx hb dP_isLess_0 rfl (lv_at hl 0 rfl) ?_
  refine lv_lload hx hb dP_isLess_1 (lv_at hl 2 rfl) ?_
  refine W.lcmp hx hb dP_isLess_3 ?_
  refine lv_if_lt (tgt := 21) hx hb dP_isLess_4 (by decide) (fun hc => ?_) (fun hc => ?_)
  · replace hw := hw.1 hc
    exact LP_isLess_21 X hex hr f a b hw _ _ K _ (lv_sub hl [] rfl)
  · replace hw := hw.2 hc
    refine lv_lload_n hx hb dP_isLess_7 rfl (lv_at hl 0 rfl) ?_
    refine lv_lload hx hb dP_isLess_8 (lv_at hl 2 rfl) ?_
    refine W.lcmp hx hb dP_isLess_10 ?_
    refine lv_if_ne (tgt := 25) hx hb dP_isLess_11 (by decide) (fun hc => ?_) (fun hc => ?_)
    · replace hw := hw.1 hc
      exact LP_isLess_25 X hex hr f a b hw _ _ K _ (lv_sub hl [] rfl)
    · replace hw := hw.2 hc
      refine lv_lload_n hx hb dP_isLess_14 rfl (lv_at hl 1 rfl) ?_
      refine lv_lload hx hb dP_isLess_15 (lv_at hl 3 rfl) ?_
      refine W.lcmp hx hb dP_isLess_17 ?_
      refine lv_if_ge (tgt := 25) hx hb dP_isLess_18 (by decide) (fun hc => ?_) (fun hc => ?_)
      · replace hw := hw.1 hc
        exact LP_isLess_25 X hex hr f a b hw _ _ K _ (lv_sub hl [] rfl)
      · replace hw := hw.2 hc
        exact LP_isLess_21 X hex hr f a b hw _ _ K _ (lv_sub hl [] rfl)
set_option maxHeartbeats 4000000 in
set_option maxRecDepth 100000 in
theorem LP_reach_146 {p : Program} {l : Launch} {e : Env} {s : State} {m : MethodId} {below : List Frame} {meth : Method} {c : Code} {D : va_G} {sa : Nat → Nat} {ad : Nat → Nat} {ca : Nat → ClassId} {A : Nat → Prop} {y1 : Int32} {y2 : Int32} {po : wF → wA → wB → Prop} (X : cx Wl (tyS ca) txS D vwCl sa A p l s m ([.ref (ad 24), .int y1, .int y2] : List Value).toArray meth c cP_reach 8 "SendBest$Pairing") (hex : ∀ x ∈ c.exceptionTable.toList, False) (hr : meth.sig.returnType = none) : ∀ (f : wF) (a : wA) (b : wB), wp_P_reach_146 po f a b → ∀ (H : Heap) (locs : List Loc), wd nS kS D vwCl ad ca A s H locs f a b → ∀ (ls : Array Slot), lv_has ls 8 [] → W p l e ({ frames := 1, cells := 0, slots := 0, locals := 27 }) s m ([.ref (ad 24), .int y1, .int y2] : List Value).toArray below meth c H locs 0 0 (vx_MQ below (va_Qv (fun (u : wF × wA × wB) => po u.1 u.2.1 u.2.2) (sPost nS kS D vwCl ad ca A) A) (sX nS kS D vwCl ad ca A (fun _ _ _ _ => False)) ([.ref (ad 24), .int y1, .int y2] : List Value).toArray s 0 0 A) (F0 m 146 ls []) := by
  obtain ⟨hx, hb, hml, hown, hts, hK, hA, hth, hlk, hl9⟩ := id X
  intro  f a b hw H locs K ls hl
  dsimp only [wp_P_reach_146] at hw
  exact endV X K hr hw (by decide) (by decide) dP_reach_146
set_option maxHeartbeats 4000000 in
set_option maxRecDepth 100000 in
theorem LP_reach_65 {p : Program} {l : Launch} {e : Env} {s : State} {m : MethodId} {below : List Frame} {meth : Method} {c : Code} {D : va_G} {sa : Nat → Nat} {ad : Nat → Nat} {ca : Nat → ClassId} {A : Nat → Prop} {y1 : Int32} {y2 : Int32} {po : wF → wA → wB → Prop} (X : cx Wl (tyS ca) txS D vwCl sa A p l s m ([.ref (ad 24), .int y1, .int y2] : List Value).toArray meth c cP_reach 8 "SendBest$Pairing") (hex : ∀ x ∈ c.exceptionTable.toList, False) (hr : meth.sig.returnType = none) : ∀ (x1 : Int32) (x2 : Int32) (x3 : Int64) (x5 : Int64) (f : wF) (a : wA) (b : wB), wp_P_reach_65 po x1 x2 x3 x5 f a b → ∀ (H : Heap) (locs : List Loc), wd nS kS D vwCl ad ca A s H locs f a b → ∀ (ls : Array Slot), lv_has ls 8 [(0, .ref (ad 24)), (1, .int x1), (2, .int x2), (3, .long x3), (5, .long x5)] → W p l e ({ frames := 1, cells := 0, slots := 0, locals := 27 }) s m ([.ref (ad 24), .int y1, .int y2] : List Value).toArray below meth c H locs 0 0 (vx_MQ below (va_Qv (fun (u : wF × wA × wB) => po u.1 u.2.1 u.2.2) (sPost nS kS D vwCl ad ca A) A) (sX nS kS D vwCl ad ca A (fun _ _ _ _ => False)) ([.ref (ad 24), .int y1, .int y2] : List Value).toArray s 0 0 A) (F0 m 65 ls []) := by
  obtain ⟨hx, hb, hml, hown, hts, hK, hA, hth, hlk, hl9⟩ := id X
  intro x1 x2 x3 x5 f a b hw H locs K ls hl
  dsimp only [wp_P_reach_65] at hw
  refine lv_aload_n hx hb dP_reach_65 rfl (lv_at hl 0 rfl) ?_
  refine gGet X K (o := 24) (k := 11) (v := .ref (ad 54)) (by decide) kS_o24 rfl inS_o24 (by decide) (tm1 (i := 44) rfl rfl) rfl dP_reach_66 ?_
  refine lv_iload_n hx hb dP_reach_69 rfl (lv_at hl 1 rfl) ?_
  refine lv_iload_n hx hb dP_reach_70 rfl (lv_at hl 2 rfl) ?_
  obtain ⟨hi, hw⟩ := hw
  refine gist X K (o := 54) (t0 := 0) (by decide) kS_c54 rfl hi dP_reach_71 kS_p54 (fun H locs K => ?_)
  refine lv_aload_n hx hb dP_reach_72 rfl (lv_at hl 0 rfl) ?_
  refine gGet X K (o := 24) (k := 12) (v := .ref (ad 55)) (by decide) kS_o24 rfl inS_o24 (by decide) (tm1 (i := 45) rfl rfl) rfl dP_reach_73 ?_
  refine lv_iload_n hx hb dP_reach_76 rfl (lv_at hl 1 rfl) ?_
  refine lv_lload_n hx hb dP_reach_77 rfl (lv_at hl 3 rfl) ?_
  obtain ⟨hi, hw⟩ := hw
  refine glst X K (o := 55) (t0 := 2) (by decide) kS_c55 rfl hi dP_reach_78 kS_p55 (fun H locs K => ?_)
  refine lv_aload_n hx hb dP_reach_79 rfl (lv_at hl 0 rfl) ?_
  refine gGet X K (o := 24) (k := 13) (v := .ref (ad 56)) (by decide) kS_o24 rfl inS_o24 (by decide) (tm1 (i := 46) rfl rfl) rfl dP_reach_80 ?_
  refine lv_iload_n hx hb dP_reach_83 rfl (lv_at hl 1 rfl) ?_
  refine lv_lload hx hb dP_reach_84 (lv_at hl 4 rfl) ?_
  obtain ⟨hi, hw⟩ := hw
  refine glst X K (o := 56) (t0 := 2) (by decide) kS_c56 rfl hi dP_reach_86 kS_p56 (fun H locs K => ?_)
  refine lv_aload_n hx hb dP_reach_87 rfl (lv_at hl 0 rfl) ?_
  refine gGet X K (o := 24) (k := 6) (v := .ref (ad 49)) (by decide) kS_o24 rfl inS_o24 (by decide) (tm1 (i := 39) rfl rfl) rfl dP_reach_88 ?_
  refine lv_iload_n hx hb dP_reach_91 rfl (lv_at hl 1 rfl) ?_
  obtain ⟨hi, hw⟩ := hw
  refine gild X K (o := 49) (t0 := 0) (by decide) kS_c49 rfl hi dP_reach_92 ?_
  refine lv_istore (lv' := [(7, .int ((va_up a 54 (upd (a 54) x1.toNatClampNeg x2)) 49 x1.toNatClampNeg)), (0, .ref (ad 24)), (1, .int x1), (2, .int x2), (3, .long x3), (5, .long x5)]) hx hb dP_reach_93 hl (by decide) rfl (fun ls hl => ?_)
  refine lv_iload hx hb dP_reach_95 (lv_at hl 0 rfl) ?_
  refine lv_iconst (v := (-1 : Int32)) hx hb dP_reach_97 (by decide) ?_
  refine lv_icmp_eq (tgt := 146) hx hb dP_reach_98 (by decide) (fun hc => ?_) (fun hc => ?_)
  · replace hw := hw.1 hc
    exact LP_reach_146 X hex hr f (va_up a 54 (upd (a 54) x1.toNatClampNeg x2)) (va_up (va_up b 55 (vp_updL (b 55) x1.toNatClampNeg x3)) 56 (vp_updL ((va_up b 55 (vp_updL (b 55) x1.toNatClampNeg x3)) 56) x1.toNatClampNeg x5)) hw _ _ K _ (lv_sub hl [] rfl)
  · replace hw := hw.2 hc
    refine lv_aload_n hx hb dP_reach_101 rfl (lv_at hl 1 rfl) ?_
    refine gGet X K (o := 24) (k := 9) (v := .ref (ad 52)) (by decide) kS_o24 rfl inS_o24 (by decide) (tm1 (i := 42) rfl rfl) rfl dP_reach_102 ?_
    refine lv_iload hx hb dP_reach_105 (lv_at hl 0 rfl) ?_
    refine lv_lload_n hx hb dP_reach_107 rfl (lv_at hl 4 rfl) ?_
    refine lv_aload_n hx hb dP_reach_108 rfl (lv_at hl 1 rfl) ?_
    refine gGet X K (o := 24) (k := 3) (v := .ref (ad 26)) (by decide) kS_o24 rfl inS_o24 (by decide) (tm1 (i := 36) rfl rfl) rfl dP_reach_109 ?_
    refine lv_iload hx hb dP_reach_112 (lv_at hl 0 rfl) ?_
    obtain ⟨hi_cost, hw⟩ := hw
    refine gald X K (o := 26) (t0 := 4) (by decide) kS_c26 rfl hi_cost dP_reach_114 ?_
    refine lv_iload_n hx hb dP_reach_115 rfl (lv_at hl 2 rfl) ?_
    obtain ⟨hi, hw⟩ := hw
    refine glld X K (o := (27 + ((va_up a 54 (upd (a 54) x1.toNatClampNeg x2)) 49 x1.toNatClampNeg).toNatClampNeg)) (t0 := 2) (rS_cost_lt hi_cost) (kS_r_cost hi_cost) rfl hi dP_reach_116 ?_
    refine lv_lsub hx hb dP_reach_117 ?_
    obtain ⟨hi, hw⟩ := hw
    refine glst X K (o := 52) (t0 := 2) (by decide) kS_c52 rfl hi dP_reach_118 kS_p52 (fun H locs K => ?_)
    refine lv_aload_n hx hb dP_reach_119 rfl (lv_at hl 1 rfl) ?_
    refine gGet X K (o := 24) (k := 10) (v := .ref (ad 53)) (by decide) kS_o24 rfl inS_o24 (by decide) (tm1 (i := 43) rfl rfl) rfl dP_reach_120 ?_
    refine lv_iload hx hb dP_reach_123 (lv_at hl 0 rfl) ?_
    refine lv_lload hx hb dP_reach_125 (lv_at hl 5 rfl) ?_
    refine lv_aload_n hx hb dP_reach_127 rfl (lv_at hl 1 rfl) ?_
    refine gGet X K (o := 24) (k := 4) (v := .ref (ad 37)) (by decide) kS_o24 rfl inS_o24 (by decide) (tm1 (i := 37) rfl rfl) rfl dP_reach_128 ?_
    refine lv_iload hx hb dP_reach_131 (lv_at hl 0 rfl) ?_
    obtain ⟨hi_tie, hw⟩ := hw
    refine gald X K (o := 37) (t0 := 4) (by decide) kS_c37 rfl hi_tie dP_reach_133 ?_
    refine lv_iload_n hx hb dP_reach_134 rfl (lv_at hl 2 rfl) ?_
    obtain ⟨hi, hw⟩ := hw
    refine glld X K (o := (38 + ((va_up a 54 (upd (a 54) x1.toNatClampNeg x2)) 49 x1.toNatClampNeg).toNatClampNeg)) (t0 := 2) (rS_tie_lt hi_tie) (kS_r_tie hi_tie) rfl hi dP_reach_135 ?_
    refine lv_lsub hx hb dP_reach_136 ?_
    obtain ⟨hi, hw⟩ := hw
    refine glst X K (o := 53) (t0 := 2) (by decide) kS_c53 rfl hi dP_reach_137 kS_p53 (fun H locs K => ?_)
    refine lv_aload_n hx hb dP_reach_138 rfl (lv_at hl 1 rfl) ?_
    refine gGet X K (o := 24) (k := 8) (v := .ref (ad 51)) (by decide) kS_o24 rfl inS_o24 (by decide) (tm1 (i := 41) rfl rfl) rfl dP_reach_139 ?_
    refine lv_iload hx hb dP_reach_142 (lv_at hl 0 rfl) ?_
    refine lv_iconst (v := (1 : Int32)) hx hb dP_reach_144 (by decide) ?_
    obtain ⟨hi, hw⟩ := hw
    refine gzst X K (o := 51) (t0 := 1) (by decide) kS_c51 rfl hi dP_reach_145 kS_p51 (fun H locs K => ?_)
    exact LP_reach_146 X hex hr f (va_up (va_up a 54 (upd (a 54) x1.toNatClampNeg x2)) 51 (upd ((va_up a 54 (upd (a 54) x1.toNatClampNeg x2)) 51) ((va_up a 54 (upd (a 54) x1.toNatClampNeg x2)) 49 x1.toNatClampNeg).toNatClampNeg (vp_nar .boolean (1 : Int32)))) (va_up (va_up (va_up (va_up b 55 (vp_updL (b 55) x1.toNatClampNeg x3)) 56 (vp_updL ((va_up b 55 (vp_updL (b 55) x1.toNatClampNeg x3)) 56) x1.toNatClampNeg x5)) 52 (vp_updL ((va_up (va_up b 55 (vp_updL (b 55) x1.toNatClampNeg x3)) 56 (vp_updL ((va_up b 55 (vp_updL (b 55) x1.toNatClampNeg x3)) 56) x1.toNatClampNeg x5)) 52) ((va_up a 54 (upd (a 54) x1.toNatClampNeg x2)) 49 x1.toNatClampNeg).toNatClampNeg (x3 - ((va_up (va_up b 55 (vp_updL (b 55) x1.toNatClampNeg x3)) 56 (vp_updL ((va_up b 55 (vp_updL (b 55) x1.toNatClampNeg x3)) 56) x1.toNatClampNeg x5)) (27 + ((va_up a 54 (upd (a 54) x1.toNatClampNeg x2)) 49 x1.toNatClampNeg).toNatClampNeg) x1.toNatClampNeg)))) 53 (vp_updL ((va_up (va_up (va_up b 55 (vp_updL (b 55) x1.toNatClampNeg x3)) 56 (vp_updL ((va_up b 55 (vp_updL (b 55) x1.toNatClampNeg x3)) 56) x1.toNatClampNeg x5)) 52 (vp_updL ((va_up (va_up b 55 (vp_updL (b 55) x1.toNatClampNeg x3)) 56 (vp_updL ((va_up b 55 (vp_updL (b 55) x1.toNatClampNeg x3)) 56) x1.toNatClampNeg x5)) 52) ((va_up a 54 (upd (a 54) x1.toNatClampNeg x2)) 49 x1.toNatClampNeg).toNatClampNeg (x3 - ((va_up (va_up b 55 (vp_updL (b 55) x1.toNatClampNeg x3)) 56 (vp_updL ((va_up b 55 (vp_updL (b 55) x1.toNatClampNeg x3)) 56) x1.toNatClampNeg x5)) (27 + ((va_up a 54 (upd (a 54) x1.toNatClampNeg x2)) 49 x1.toNatClampNeg).toNatClampNeg) x1.toNatClampNeg)))) 53) ((va_up a 54 (upd (a 54) x1.toNatClampNeg x2)) 49 x1.toNatClampNeg).toNatClampNeg (x5 - ((va_up (va_up (va_up b 55 (vp_updL (b 55) x1.toNatClampNeg x3)) 56 (vp_updL ((va_up b 55 (vp_updL (b 55) x1.toNatClampNeg x3)) 56) x1.toNatClampNeg x5)) 52 (vp_updL ((va_up (va_up b 55 (vp_updL (b 55) x1.toNatClampNeg x3)) 56 (vp_updL ((va_up b 55 (vp_updL (b 55) x1.toNatClampNeg x3)) 56) x1.toNatClampNeg x5)) 52) ((va_up a 54 (upd (a 54) x1.toNatClampNeg x2)) 49 x1.toNatClampNeg).toNatClampNeg (x3 - ((va_up (va_up b 55 (vp_updL (b 55) x1.toNatClampNeg x3)) 56 (vp_updL ((va_up b 55 (vp_updL (b 55) x1.toNatClampNeg x3)) 56) x1.toNatClampNeg x5)) (27 + ((va_up a 54 (upd (a 54) x1.toNatClampNeg x2)) 49 x1.toNatClampNeg).toNatClampNeg) x1.toNatClampNeg)))) (38 + ((va_up a 54 (upd (a 54) x1.toNatClampNeg x2)) 49 x1.toNatClampNeg).toNatClampNeg) x1.toNatClampNeg)))) hw _ _ K _ (lv_sub hl [] rfl)
set_option maxHeartbeats 4000000 in
set_option maxRecDepth 100000 in
theorem met_P_reach {l : Launch} (hl9 : l.stackTraces = false) (D : va_G) (ad : Nat → Nat) (ca : Nat → ClassId) (sa : Nat → Nat) (sz : Nat) (x1 : Int32) (x2 : Int32) (f : wF) (a : wA) (b : wB) (po : wF → wA → wB → Prop) (hw : wp_P_reach po x1 x2 f a b) : mV nS kS (tyS ca) txS D vwCl l yP_reach (Cond.code yP_reach cP_reach 8 none :: Wl) ({ frames := 1, cells := 0, slots := 0, locals := 27 }) [.ref (ad 24), .int x1, .int x2] ad ca sa sz f a b po (fun _ _ _ _ => False) 0 0 := by
  refine ofV (by decide) hl9 (Nat.le_of_ble_eq_true rfl) ?_
  intro p e s m below meth c ls X hex hr K hl
  obtain ⟨hx, hb, hml, hown, hts, hK, hA, hth, hlk, hl9⟩ := id X
  have hl : lv_has ls 8 [(0, .ref (ad 24)), (1, .int x1), (2, .int x2)] := hl
  dsimp only [wp_P_reach] at hw
  refine lv_aload_n hx hb dP_reach_0 rfl (lv_at hl 0 rfl) ?_
  refine gGet X K (o := 24) (k := 9) (v := .ref (ad 52)) (by decide) kS_o24 rfl inS_o24 (by decide) (tm1 (i := 42) rfl rfl) rfl dP_reach_1 ?_
  refine lv_iload_n hx hb dP_reach_4 rfl (lv_at hl 2 rfl) ?_
  obtain ⟨hi, hw⟩ := hw
  refine glld X K (o := 52) (t0 := 2) (by decide) kS_c52 rfl hi dP_reach_5 ?_
  refine lv_aload_n hx hb dP_reach_6 rfl (lv_at hl 0 rfl) ?_
  refine gGet X K (o := 24) (k := 3) (v := .ref (ad 26)) (by decide) kS_o24 rfl inS_o24 (by decide) (tm1 (i := 36) rfl rfl) rfl dP_reach_7 ?_
  refine lv_iload_n hx hb dP_reach_10 rfl (lv_at hl 2 rfl) ?_
  obtain ⟨hi_cost, hw⟩ := hw
  refine gald X K (o := 26) (t0 := 4) (by decide) kS_c26 rfl hi_cost dP_reach_11 ?_
  refine lv_iload_n hx hb dP_reach_12 rfl (lv_at hl 1 rfl) ?_
  obtain ⟨hi, hw⟩ := hw
  refine glld X K (o := (27 + x2.toNatClampNeg)) (t0 := 2) (rS_cost_lt hi_cost) (kS_r_cost hi_cost) rfl hi dP_reach_13 ?_
  refine lv_ladd hx hb dP_reach_14 ?_
  refine lv_lstore_n (lv' := [(3, .long ((b 52 x2.toNatClampNeg) + (b (27 + x2.toNatClampNeg) x1.toNatClampNeg))), (0, .ref (ad 24)), (1, .int x1), (2, .int x2)]) hx hb dP_reach_15 rfl hl (by decide) rfl (fun ls hl => ?_)
  refine lv_aload_n hx hb dP_reach_16 rfl (lv_at hl 1 rfl) ?_
  refine gGet X K (o := 24) (k := 10) (v := .ref (ad 53)) (by decide) kS_o24 rfl inS_o24 (by decide) (tm1 (i := 43) rfl rfl) rfl dP_reach_17 ?_
  refine lv_iload_n hx hb dP_reach_20 rfl (lv_at hl 3 rfl) ?_
  obtain ⟨hi, hw⟩ := hw
  refine glld X K (o := 53) (t0 := 2) (by decide) kS_c53 rfl hi dP_reach_21 ?_
  refine lv_aload_n hx hb dP_reach_22 rfl (lv_at hl 1 rfl) ?_
  refine gGet X K (o := 24) (k := 4) (v := .ref (ad 37)) (by decide) kS_o24 rfl inS_o24 (by decide) (tm1 (i := 37) rfl rfl) rfl dP_reach_23 ?_
  refine lv_iload_n hx hb dP_reach_26 rfl (lv_at hl 3 rfl) ?_
  obtain ⟨hi_tie, hw⟩ := hw
  refine gald X K (o := 37) (t0 := 4) (by decide) kS_c37 rfl hi_tie dP_reach_27 ?_
  refine lv_iload_n hx hb dP_reach_28 rfl (lv_at hl 2 rfl) ?_
  obtain ⟨hi, hw⟩ := hw
  refine glld X K (o := (38 + x2.toNatClampNeg)) (t0 := 2) (rS_tie_lt hi_tie) (kS_r_tie hi_tie) rfl hi dP_reach_29 ?_
  refine lv_ladd hx hb dP_reach_30 ?_
  refine lv_lstore (lv' := [(5, .long ((b 53 x2.toNatClampNeg) + (b (38 + x2.toNatClampNeg) x1.toNatClampNeg))), (3, .long ((b 52 x2.toNatClampNeg) + (b (27 + x2.toNatClampNeg) x1.toNatClampNeg))), (0, .ref (ad 24)), (1, .int x1), (2, .int x2)]) hx hb dP_reach_31 hl (by decide) rfl (fun ls hl => ?_)
  refine lv_aload_n hx hb dP_reach_33 rfl (lv_at hl 2 rfl) ?_
  refine gGet X K (o := 24) (k := 11) (v := .ref (ad 54)) (by decide) kS_o24 rfl inS_o24 (by decide) (tm1 (i := 44) rfl rfl) rfl dP_reach_34 ?_
  refine lv_iload_n hx hb dP_reach_37 rfl (lv_at hl 3 rfl) ?_
  obtain ⟨hi, hw⟩ := hw
  refine gild X K (o := 54) (t0 := 0) (by decide) kS_c54 rfl hi dP_reach_38 ?_
  refine lv_iconst (v := (-1 : Int32)) hx hb dP_reach_39 (by decide) ?_
  refine lv_icmp_eq (tgt := 65) hx hb dP_reach_40 (by decide) (fun hc => ?_) (fun hc => ?_)
  · replace hw := hw.1 hc
    exact LP_reach_65 X hex hr x1 x2 ((b 52 x2.toNatClampNeg) + (b (27 + x2.toNatClampNeg) x1.toNatClampNeg)) ((b 53 x2.toNatClampNeg) + (b (38 + x2.toNatClampNeg) x1.toNatClampNeg)) f a b hw _ _ K _ (lv_sub hl [2, 3, 4, 1, 0] rfl)
  · replace hw := hw.2 hc
    refine lv_lload_n hx hb dP_reach_43 rfl (lv_at hl 1 rfl) ?_
    refine lv_lload hx hb dP_reach_44 (lv_at hl 0 rfl) ?_
    refine lv_aload_n hx hb dP_reach_46 rfl (lv_at hl 2 rfl) ?_
    refine gGet X K (o := 24) (k := 12) (v := .ref (ad 55)) (by decide) kS_o24 rfl inS_o24 (by decide) (tm1 (i := 45) rfl rfl) rfl dP_reach_47 ?_
    refine lv_iload_n hx hb dP_reach_50 rfl (lv_at hl 3 rfl) ?_
    obtain ⟨hi, hw⟩ := hw
    refine glld X K (o := 55) (t0 := 2) (by decide) kS_c55 rfl hi dP_reach_51 ?_
    refine lv_aload_n hx hb dP_reach_52 rfl (lv_at hl 2 rfl) ?_
    refine gGet X K (o := 24) (k := 13) (v := .ref (ad 56)) (by decide) kS_o24 rfl inS_o24 (by decide) (tm1 (i := 46) rfl rfl) rfl dP_reach_53 ?_
    refine lv_iload_n hx hb dP_reach_56 rfl (lv_at hl 3 rfl) ?_
    obtain ⟨hi, hw⟩ := hw
    refine glld X K (o := 56) (t0 := 2) (by decide) kS_c56 rfl hi dP_reach_57 ?_
    refine gcSI X K (n0 := 4) (As := [.long ((b 52 x2.toNatClampNeg) + (b (27 + x2.toNatClampNeg) x1.toNatClampNeg)), .long ((b 53 x2.toNatClampNeg) + (b (38 + x2.toNatClampNeg) x1.toNatClampNeg)), .long (b 55 x1.toNatClampNeg), .long (b 56 x1.toNatClampNeg)]) (rest := []) (hM := (met_P_isLess hl9 D ad ca sa _ ((b 52 x2.toNatClampNeg) + (b (27 + x2.toNatClampNeg) x1.toNatClampNeg)) ((b 53 x2.toNatClampNeg) + (b (38 + x2.toNatClampNeg) x1.toNatClampNeg)) (b 55 x1.toNatClampNeg) (b 56 x1.toNatClampNeg) f a b _ hw)) (hg := wl_good) (w1 := (tm2 (i := 198) rfl rfl)) (w2 := (tm2 (i := 199) rfl rfl)) (w4 := (tm1 (i := 2) rfl rfl)) (w5 := (tm2 (i := 200) rfl rfl)) (hd := ⟨by decide, by decide, by decide +kernel⟩) (hrc := rfl) (hrs := rfl) (hR := ⟨Nat.le_of_ble_eq_true rfl, Nat.le_of_ble_eq_true rfl⟩) (hn := rfl) (hsz := hl.1) (hst := rfl) (hW := Nat.le_of_ble_eq_true rfl) (hdg := dP_reach_58) (hf := ⟨Nat.le_of_ble_eq_true rfl, Nat.le_of_ble_eq_true rfl⟩) (fun _ _ _ _ _ _ _ _ hw => hw.elim) (fun r58 f58 a58 b58 H locs hw K => ?_)
    refine lv_if_ne (tgt := 65) hx hb dP_reach_61 (by decide) (fun hc => ?_) (fun hc => ?_)
    · replace hw := hw.1 hc
      exact LP_reach_65 X hex hr x1 x2 ((b 52 x2.toNatClampNeg) + (b (27 + x2.toNatClampNeg) x1.toNatClampNeg)) ((b 53 x2.toNatClampNeg) + (b (38 + x2.toNatClampNeg) x1.toNatClampNeg)) f58 a58 b58 hw _ _ K _ (lv_sub hl [2, 3, 4, 1, 0] rfl)
    · replace hw := hw.2 hc
      exact endV X K hr hw (by decide) (by decide) dP_reach_64
set_option maxHeartbeats 4000000 in
set_option maxRecDepth 100000 in
theorem LP_spread_37 {p : Program} {l : Launch} {e : Env} {s : State} {m : MethodId} {below : List Frame} {meth : Method} {c : Code} {D : va_G} {sa : Nat → Nat} {ad : Nat → Nat} {ca : Nat → ClassId} {A : Nat → Prop} {y1 : Int32} {po : wF → wA → wB → Prop} (X : cx Wl (tyS ca) txS D vwCl sa A p l s m ([.ref (ad 24), .int y1] : List Value).toArray meth c cP_spread 3 "SendBest$Pairing") (hex : ∀ x ∈ c.exceptionTable.toList, False) (hr : meth.sig.returnType = none) (J2 : Int32 → Int32 → wF → wA → wB → Prop) (hJ2 : ∀ (x1 : Int32) (x2 : Int32) (f : wF) (a : wA) (b : wB), J2 x1 x2 f a b → ∀ (H : Heap) (locs : List Loc), wd nS kS D vwCl ad ca A s H locs f a b → ∀ (ls : Array Slot), lv_has ls 3 [(0, .ref (ad 24)), (1, .int x1), (2, .int x2)] → W p l e ({ frames := 2, cells := 0, slots := 0, locals := 54 }) s m ([.ref (ad 24), .int y1] : List Value).toArray below meth c H locs 0 0 (vx_MQ below (va_Qv (fun (u : wF × wA × wB) => po u.1 u.2.1 u.2.2) (sPost nS kS D vwCl ad ca A) A) (sX nS kS D vwCl ad ca A (fun _ _ _ _ => False)) ([.ref (ad 24), .int y1] : List Value).toArray s 0 0 A) (F0 m 2 ls [])) : ∀ (x1 : Int32) (x2 : Int32) (f : wF) (a : wA) (b : wB), wp_P_spread_37 po J2 x1 x2 f a b → ∀ (H : Heap) (locs : List Loc), wd nS kS D vwCl ad ca A s H locs f a b → ∀ (ls : Array Slot), lv_has ls 3 [(0, .ref (ad 24)), (1, .int x1), (2, .int x2)] → W p l e ({ frames := 2, cells := 0, slots := 0, locals := 54 }) s m ([.ref (ad 24), .int y1] : List Value).toArray below meth c H locs 0 0 (vx_MQ below (va_Qv (fun (u : wF × wA × wB) => po u.1 u.2.1 u.2.2) (sPost nS kS D vwCl ad ca A) A) (sX nS kS D vwCl ad ca A (fun _ _ _ _ => False)) ([.ref (ad 24), .int y1] : List Value).toArray s 0 0 A) (F0 m 37 ls []) := by
  obtain ⟨hx, hb, hml, hown, hts, hK, hA, hth, hlk, hl9⟩ := id X
  intro x1 x2 f a b hw H locs K ls hl
  dsimp only [wp_P_spread_37] at hw
  refine lv_iinc (v := (x2 + (1 : Int32))) (lv' := [(2, .int (x2 + (1 : Int32))), (0, .ref (ad 24)), (1, .int x1)]) hx hb dP_spread_37 hl (k := 2) rfl rfl (by decide) rfl (fun ls hl => ?_)
  refine lv_goto (tgt := 2) hx hb dP_spread_40 (by decide) ?_
  exact hJ2 x1 (x2 + (1 : Int32)) f a b hw _ _ K _ (lv_sub hl [1, 2, 0] rfl)
set_option maxHeartbeats 4000000 in
set_option maxRecDepth 100000 in
theorem LP_spread_2 {p : Program} {l : Launch} {e : Env} {s : State} {m : MethodId} {below : List Frame} {meth : Method} {c : Code} {D : va_G} {sa : Nat → Nat} {ad : Nat → Nat} {ca : Nat → ClassId} {A : Nat → Prop} {y1 : Int32} {po : wF → wA → wB → Prop} (X : cx Wl (tyS ca) txS D vwCl sa A p l s m ([.ref (ad 24), .int y1] : List Value).toArray meth c cP_spread 3 "SendBest$Pairing") (hex : ∀ x ∈ c.exceptionTable.toList, False) (hr : meth.sig.returnType = none) : ∀ n : Nat, ∀ (x1 : Int32) (x2 : Int32) (f : wF) (a : wA) (b : wB), wp_P_spread_2 po n x1 x2 f a b → ∀ (H : Heap) (locs : List Loc), wd nS kS D vwCl ad ca A s H locs f a b → ∀ (ls : Array Slot), lv_has ls 3 [(0, .ref (ad 24)), (1, .int x1), (2, .int x2)] → W p l e ({ frames := 2, cells := 0, slots := 0, locals := 54 }) s m ([.ref (ad 24), .int y1] : List Value).toArray below meth c H locs 0 0 (vx_MQ below (va_Qv (fun (u : wF × wA × wB) => po u.1 u.2.1 u.2.2) (sPost nS kS D vwCl ad ca A) A) (sX nS kS D vwCl ad ca A (fun _ _ _ _ => False)) ([.ref (ad 24), .int y1] : List Value).toArray s 0 0 A) (F0 m 2 ls []) := by
  obtain ⟨hx, hb, hml, hown, hts, hK, hA, hth, hlk, hl9⟩ := id X
  intro n
  induction n with
  | zero => intro x1 x2 f a b hw; exact hw.elim
  | succ n ih =>
    intro x1 x2 f a b hw H locs K ls hl
    dsimp only [wp_P_spread_2] at hw
    refine lv_iload_n hx hb dP_spread_2 rfl (lv_at hl 2 rfl) ?_
    refine lv_bipush (v := (12 : Int32)) hx hb dP_spread_3 (by decide) ?_
    refine lv_icmp_ge (tgt := 43) hx hb dP_spread_5 (by decide) (fun hc => ?_) (fun hc => ?_)
    · replace hw := hw.1 hc
      exact endV X K hr hw (by decide) (by decide) dP_spread_43
    · replace hw := hw.2 hc
      refine lv_aload_n hx hb dP_spread_8 rfl (lv_at hl 0 rfl) ?_
      refine gGet X K (o := 24) (k := 3) (v := .ref (ad 26)) (by decide) kS_o24 rfl inS_o24 (by decide) (tm1 (i := 36) rfl rfl) rfl dP_spread_9 ?_
      refine lv_iload_n hx hb dP_spread_12 rfl (lv_at hl 1 rfl) ?_
      obtain ⟨hi_cost, hw⟩ := hw
      refine gald X K (o := 26) (t0 := 4) (by decide) kS_c26 rfl hi_cost dP_spread_13 ?_
      refine lv_iload_n hx hb dP_spread_14 rfl (lv_at hl 2 rfl) ?_
      obtain ⟨hi, hw⟩ := hw
      refine glld X K (o := (27 + x1.toNatClampNeg)) (t0 := 2) (rS_cost_lt hi_cost) (kS_r_cost hi_cost) rfl hi dP_spread_15 ?_
      refine lv_lconst (v := (0 : Int64)) hx hb dP_spread_16 (by decide) ?_
      refine W.lcmp hx hb dP_spread_17 ?_
      refine lv_if_eq (tgt := 37) hx hb dP_spread_18 (by decide) (fun hc => ?_) (fun hc => ?_)
      · replace hw := hw.1 hc
        exact LP_spread_37 X hex hr (wp_P_spread_2 po n) ih x1 x2 f a b hw _ _ K _ (lv_sub hl [0, 1, 2] rfl)
      · replace hw := hw.2 hc
        refine lv_aload_n hx hb dP_spread_21 rfl (lv_at hl 0 rfl) ?_
        refine gGet X K (o := 24) (k := 5) (v := .ref (ad 48)) (by decide) kS_o24 rfl inS_o24 (by decide) (tm1 (i := 38) rfl rfl) rfl dP_spread_22 ?_
        refine lv_iload_n hx hb dP_spread_25 rfl (lv_at hl 1 rfl) ?_
        obtain ⟨hi, hw⟩ := hw
        refine gild X K (o := 48) (t0 := 0) (by decide) kS_c48 rfl hi dP_spread_26 ?_
        refine lv_iload_n hx hb dP_spread_27 rfl (lv_at hl 2 rfl) ?_
        refine lv_icmp_eq (tgt := 37) hx hb dP_spread_28 (by decide) (fun hc => ?_) (fun hc => ?_)
        · replace hw := hw.1 hc
          exact LP_spread_37 X hex hr (wp_P_spread_2 po n) ih x1 x2 f a b hw _ _ K _ (lv_sub hl [0, 1, 2] rfl)
        · replace hw := hw.2 hc
          refine lv_aload_n hx hb dP_spread_31 rfl (lv_at hl 0 rfl) ?_
          refine lv_iload_n hx hb dP_spread_32 rfl (lv_at hl 2 rfl) ?_
          refine lv_iload_n hx hb dP_spread_33 rfl (lv_at hl 1 rfl) ?_
          refine gcV X K (n0 := 2) (As := [.int x2, .int x1]) (rest := []) (hM := (met_P_reach hl9 D ad ca sa _ x2 x1 f a b _ hw)) (o := 24) (ho := by decide) (hko := kS_o24) (hci := rfl) (hg := wl_good) (w1 := (tm2 (i := 194) rfl rfl)) (w2 := (tm2 (i := 196) rfl rfl)) (w3 := (tm0 (i := 18) rfl rfl)) (w4 := (tm1 (i := 2) rfl rfl)) (w5 := (tm2 (i := 197) rfl rfl)) (hd := ⟨rfl, by decide, by decide, by decide +kernel⟩) (hrc := rfl) (hrs := rfl) (hR := ⟨Nat.le_of_ble_eq_true rfl, Nat.le_of_ble_eq_true rfl⟩) (hn := rfl) (hsz := hl.1) (hst := rfl) (hW := Nat.le_of_ble_eq_true rfl) (hdg := dP_spread_34) (hf := ⟨Nat.le_of_ble_eq_true rfl, Nat.le_of_ble_eq_true rfl⟩) (fun _ _ _ _ _ _ _ _ hw => hw.elim) (fun f34 a34 b34 H locs hw K => ?_)
          exact LP_spread_37 X hex hr (wp_P_spread_2 po n) ih x1 x2 f34 a34 b34 hw _ _ K _ (lv_sub hl [0, 1, 2] rfl)
set_option maxHeartbeats 4000000 in
set_option maxRecDepth 100000 in
theorem met_P_spread {l : Launch} (hl9 : l.stackTraces = false) (D : va_G) (ad : Nat → Nat) (ca : Nat → ClassId) (sa : Nat → Nat) (sz : Nat) (x1 : Int32) (f : wF) (a : wA) (b : wB) (po : wF → wA → wB → Prop) (hw : wp_P_spread po x1 f a b) : mV nS kS (tyS ca) txS D vwCl l yP_spread (Cond.code yP_spread cP_spread 3 none :: Wl) ({ frames := 2, cells := 0, slots := 0, locals := 54 }) [.ref (ad 24), .int x1] ad ca sa sz f a b po (fun _ _ _ _ => False) 0 0 := by
  refine ofV (by decide) hl9 (Nat.le_of_ble_eq_true rfl) ?_
  intro p e s m below meth c ls X hex hr K hl
  obtain ⟨hx, hb, hml, hown, hts, hK, hA, hth, hlk, hl9⟩ := id X
  have hl : lv_has ls 3 [(0, .ref (ad 24)), (1, .int x1)] := hl
  dsimp only [wp_P_spread] at hw
  refine lv_iconst (v := (0 : Int32)) hx hb dP_spread_0 (by decide) ?_
  refine lv_istore_n (lv' := [(2, .int (0 : Int32)), (0, .ref (ad 24)), (1, .int x1)]) hx hb dP_spread_1 rfl hl (by decide) rfl (fun ls hl => ?_)
  obtain ⟨n9, hw⟩ := hw
  exact LP_spread_2 X hex hr n9 x1 (0 : Int32) f a b hw _ _ K _ (lv_sub hl [1, 2, 0] rfl)
set_option maxHeartbeats 4000000 in
set_option maxRecDepth 100000 in
theorem LP_findPaths_118 {p : Program} {l : Launch} {e : Env} {s : State} {m : MethodId} {below : List Frame} {meth : Method} {c : Code} {D : va_G} {sa : Nat → Nat} {ad : Nat → Nat} {ca : Nat → ClassId} {A : Nat → Prop} {y1 : Int32} {po : wF → wA → wB → Prop} (X : cx Wl (tyS ca) txS D vwCl sa A p l s m ([.ref (ad 24), .int y1] : List Value).toArray meth c cP_findPaths 5 "SendBest$Pairing") (hex : ∀ x ∈ c.exceptionTable.toList, False) (hr : meth.sig.returnType = none) : ∀ (f : wF) (a : wA) (b : wB), wp_P_findPaths_118 po f a b → ∀ (H : Heap) (locs : List Loc), wd nS kS D vwCl ad ca A s H locs f a b → ∀ (ls : Array Slot), lv_has ls 5 [] → W p l e ({ frames := 3, cells := 0, slots := 0, locals := 76 }) s m ([.ref (ad 24), .int y1] : List Value).toArray below meth c H locs 0 0 (vx_MQ below (va_Qv (fun (u : wF × wA × wB) => po u.1 u.2.1 u.2.2) (sPost nS kS D vwCl ad ca A) A) (sX nS kS D vwCl ad ca A (fun _ _ _ _ => False)) ([.ref (ad 24), .int y1] : List Value).toArray s 0 0 A) (F0 m 118 ls []) := by
  obtain ⟨hx, hb, hml, hown, hts, hK, hA, hth, hlk, hl9⟩ := id X
  intro  f a b hw H locs K ls hl
  dsimp only [wp_P_findPaths_118] at hw
  exact endV X K hr hw (by decide) (by decide) dP_findPaths_118
set_option maxHeartbeats 4000000 in
set_option maxRecDepth 100000 in
theorem LP_findPaths_106 {p : Program} {l : Launch} {e : Env} {s : State} {m : MethodId} {below : List Frame} {meth : Method} {c : Code} {D : va_G} {sa : Nat → Nat} {ad : Nat → Nat} {ca : Nat → ClassId} {A : Nat → Prop} {y1 : Int32} {po : wF → wA → wB → Prop} (X : cx Wl (tyS ca) txS D vwCl sa A p l s m ([.ref (ad 24), .int y1] : List Value).toArray meth c cP_findPaths 5 "SendBest$Pairing") (hex : ∀ x ∈ c.exceptionTable.toList, False) (hr : meth.sig.returnType = none) (J60 : Int32 → Int32 → Int32 → wF → wA → wB → Prop) (J74 : Int32 → Int32 → Int32 → Int32 → wF → wA → wB → Prop) (hJ60 : ∀ (x1 : Int32) (x2 : Int32) (x3 : Int32) (f : wF) (a : wA) (b : wB), J60 x1 x2 x3 f a b → ∀ (H : Heap) (locs : List Loc), wd nS kS D vwCl ad ca A s H locs f a b → ∀ (ls : Array Slot), lv_has ls 5 [(0, .ref (ad 24)), (1, .int x1), (2, .int x2), (3, .int x3)] → W p l e ({ frames := 3, cells := 0, slots := 0, locals := 76 }) s m ([.ref (ad 24), .int y1] : List Value).toArray below meth c H locs 0 0 (vx_MQ below (va_Qv (fun (u : wF × wA × wB) => po u.1 u.2.1 u.2.2) (sPost nS kS D vwCl ad ca A) A) (sX nS kS D vwCl ad ca A (fun _ _ _ _ => False)) ([.ref (ad 24), .int y1] : List Value).toArray s 0 0 A) (F0 m 60 ls [])) (hJ74 : ∀ (x1 : Int32) (x2 : Int32) (x3 : Int32) (x4 : Int32) (f : wF) (a : wA) (b : wB), J74 x1 x2 x3 x4 f a b → ∀ (H : Heap) (locs : List Loc), wd nS kS D vwCl ad ca A s H locs f a b → ∀ (ls : Array Slot), lv_has ls 5 [(0, .ref (ad 24)), (1, .int x1), (2, .int x2), (3, .int x3), (4, .int x4)] → W p l e ({ frames := 3, cells := 0, slots := 0, locals := 76 }) s m ([.ref (ad 24), .int y1] : List Value).toArray below meth c H locs 0 0 (vx_MQ below (va_Qv (fun (u : wF × wA × wB) => po u.1 u.2.1 u.2.2) (sPost nS kS D vwCl ad ca A) A) (sX nS kS D vwCl ad ca A (fun _ _ _ _ => False)) ([.ref (ad 24), .int y1] : List Value).toArray s 0 0 A) (F0 m 74 ls [])) : ∀ (x1 : Int32) (x2 : Int32) (x3 : Int32) (x4 : Int32) (f : wF) (a : wA) (b : wB), wp_P_findPaths_106 po J60 J74 x1 x2 x3 x4 f a b → ∀ (H : Heap) (locs : List Loc), wd nS kS D vwCl ad ca A s H locs f a b → ∀ (ls : Array Slot), lv_has ls 5 [(0, .ref (ad 24)), (1, .int x1), (2, .int x2), (3, .int x3), (4, .int x4)] → W p l e ({ frames := 3, cells := 0, slots := 0, locals := 76 }) s m ([.ref (ad 24), .int y1] : List Value).toArray below meth c H locs 0 0 (vx_MQ below (va_Qv (fun (u : wF × wA × wB) => po u.1 u.2.1 u.2.2) (sPost nS kS D vwCl ad ca A) A) (sX nS kS D vwCl ad ca A (fun _ _ _ _ => False)) ([.ref (ad 24), .int y1] : List Value).toArray s 0 0 A) (F0 m 106 ls []) := by
  obtain ⟨hx, hb, hml, hown, hts, hK, hA, hth, hlk, hl9⟩ := id X
  intro x1 x2 x3 x4 f a b hw H locs K ls hl
  dsimp only [wp_P_findPaths_106] at hw
  refine lv_iinc (v := (x4 + (1 : Int32))) (lv' := [(4, .int (x4 + (1 : Int32))), (0, .ref (ad 24)), (1, .int x1), (2, .int x2), (3, .int x3)]) hx hb dP_findPaths_106 hl (k := 4) rfl rfl (by decide) rfl (fun ls hl => ?_)
  refine lv_goto (tgt := 74) hx hb dP_findPaths_109 (by decide) ?_
  exact hJ74 x1 x2 x3 (x4 + (1 : Int32)) f a b hw _ _ K _ (lv_sub hl [1, 2, 3, 4, 0] rfl)
set_option maxHeartbeats 4000000 in
set_option maxRecDepth 100000 in
theorem LP_findPaths_74 {p : Program} {l : Launch} {e : Env} {s : State} {m : MethodId} {below : List Frame} {meth : Method} {c : Code} {D : va_G} {sa : Nat → Nat} {ad : Nat → Nat} {ca : Nat → ClassId} {A : Nat → Prop} {y1 : Int32} {po : wF → wA → wB → Prop} (X : cx Wl (tyS ca) txS D vwCl sa A p l s m ([.ref (ad 24), .int y1] : List Value).toArray meth c cP_findPaths 5 "SendBest$Pairing") (hex : ∀ x ∈ c.exceptionTable.toList, False) (hr : meth.sig.returnType = none) (J60 : Int32 → Int32 → Int32 → wF → wA → wB → Prop) (hJ60 : ∀ (x1 : Int32) (x2 : Int32) (x3 : Int32) (f : wF) (a : wA) (b : wB), J60 x1 x2 x3 f a b → ∀ (H : Heap) (locs : List Loc), wd nS kS D vwCl ad ca A s H locs f a b → ∀ (ls : Array Slot), lv_has ls 5 [(0, .ref (ad 24)), (1, .int x1), (2, .int x2), (3, .int x3)] → W p l e ({ frames := 3, cells := 0, slots := 0, locals := 76 }) s m ([.ref (ad 24), .int y1] : List Value).toArray below meth c H locs 0 0 (vx_MQ below (va_Qv (fun (u : wF × wA × wB) => po u.1 u.2.1 u.2.2) (sPost nS kS D vwCl ad ca A) A) (sX nS kS D vwCl ad ca A (fun _ _ _ _ => False)) ([.ref (ad 24), .int y1] : List Value).toArray s 0 0 A) (F0 m 60 ls [])) : ∀ n : Nat, ∀ (x1 : Int32) (x2 : Int32) (x3 : Int32) (x4 : Int32) (f : wF) (a : wA) (b : wB), wp_P_findPaths_74 po J60 n x1 x2 x3 x4 f a b → ∀ (H : Heap) (locs : List Loc), wd nS kS D vwCl ad ca A s H locs f a b → ∀ (ls : Array Slot), lv_has ls 5 [(0, .ref (ad 24)), (1, .int x1), (2, .int x2), (3, .int x3), (4, .int x4)] → W p l e ({ frames := 3, cells := 0, slots := 0, locals := 76 }) s m ([.ref (ad 24), .int y1] : List Value).toArray below meth c H locs 0 0 (vx_MQ below (va_Qv (fun (u : wF × wA × wB) => po u.1 u.2.1 u.2.2) (sPost nS kS D vwCl ad ca A) A) (sX nS kS D vwCl ad ca A (fun _ _ _ _ => False)) ([.ref (ad 24), .int y1] : List Value).toArray s 0 0 A) (F0 m 74 ls []) := by
  obtain ⟨hx, hb, hml, hown, hts, hK, hA, hth, hlk, hl9⟩ := id X
  intro n
  induction n with
  | zero => intro x1 x2 x3 x4 f a b hw; exact hw.elim
  | succ n ih =>
    intro x1 x2 x3 x4 f a b hw H locs K ls hl
    dsimp only [wp_P_findPaths_74] at hw
    refine lv_iload hx hb dP_findPaths_74 (lv_at hl 4 rfl) ?_
    refine lv_iload_n hx hb dP_findPaths_76 rfl (lv_at hl 1 rfl) ?_
    refine lv_icmp_ge (tgt := 112) hx hb dP_findPaths_77 (by decide) (fun hc => ?_) (fun hc => ?_)
    · replace hw := hw.1 hc
      refine lv_iinc (v := (x3 + (1 : Int32))) (lv' := [(3, .int (x3 + (1 : Int32))), (0, .ref (ad 24)), (1, .int x1), (2, .int x2), (4, .int x4)]) hx hb dP_findPaths_112 hl (k := 3) rfl rfl (by decide) rfl (fun ls hl => ?_)
      refine lv_goto (tgt := 60) hx hb dP_findPaths_115 (by decide) ?_
      exact hJ60 x1 x2 (x3 + (1 : Int32)) f a b hw _ _ K _ (lv_sub hl [1, 2, 3, 0] rfl)
    · replace hw := hw.2 hc
      refine lv_aload_n hx hb dP_findPaths_80 rfl (lv_at hl 0 rfl) ?_
      refine gGet X K (o := 24) (k := 8) (v := .ref (ad 51)) (by decide) kS_o24 rfl inS_o24 (by decide) (tm1 (i := 41) rfl rfl) rfl dP_findPaths_81 ?_
      refine lv_iload hx hb dP_findPaths_84 (lv_at hl 4 rfl) ?_
      obtain ⟨hi, hw⟩ := hw
      refine gzld X K (o := 51) (t0 := 1) (by decide) kS_c51 rfl hi dP_findPaths_86 ?_
      refine lv_if_eq (tgt := 106) hx hb dP_findPaths_87 (by decide) (fun hc => ?_) (fun hc => ?_)
      · replace hw := hw.1 hc
        exact LP_findPaths_106 X hex hr J60 (wp_P_findPaths_74 po J60 n) hJ60 ih x1 x2 x3 x4 f a b hw _ _ K _ (lv_sub hl [0, 1, 2, 3, 4] rfl)
      · replace hw := hw.2 hc
        refine lv_aload_n hx hb dP_findPaths_90 rfl (lv_at hl 0 rfl) ?_
        refine gGet X K (o := 24) (k := 8) (v := .ref (ad 51)) (by decide) kS_o24 rfl inS_o24 (by decide) (tm1 (i := 41) rfl rfl) rfl dP_findPaths_91 ?_
        refine lv_iload hx hb dP_findPaths_94 (lv_at hl 4 rfl) ?_
        refine lv_iconst (v := (0 : Int32)) hx hb dP_findPaths_96 (by decide) ?_
        obtain ⟨hi, hw⟩ := hw
        refine gzst X K (o := 51) (t0 := 1) (by decide) kS_c51 rfl hi dP_findPaths_97 kS_p51 (fun H locs K => ?_)
        refine lv_aload_n hx hb dP_findPaths_98 rfl (lv_at hl 0 rfl) ?_
        refine lv_iload hx hb dP_findPaths_99 (lv_at hl 4 rfl) ?_
        refine gcV X K (n0 := 1) (As := [.int x4]) (rest := []) (hM := (met_P_spread hl9 D ad ca sa _ x4 f (va_up a 51 (upd (a 51) x4.toNatClampNeg (vp_nar .boolean (0 : Int32)))) b _ hw)) (o := 24) (ho := by decide) (hko := kS_o24) (hci := rfl) (hg := wl_good) (w1 := (tm2 (i := 190) rfl rfl)) (w2 := (tm2 (i := 192) rfl rfl)) (w3 := (tm0 (i := 17) rfl rfl)) (w4 := (tm1 (i := 2) rfl rfl)) (w5 := (tm2 (i := 193) rfl rfl)) (hd := ⟨rfl, by decide, by decide, by decide +kernel⟩) (hrc := rfl) (hrs := rfl) (hR := ⟨Nat.le_of_ble_eq_true rfl, Nat.le_of_ble_eq_true rfl⟩) (hn := rfl) (hsz := hl.1) (hst := rfl) (hW := Nat.le_of_ble_eq_true rfl) (hdg := dP_findPaths_101) (hf := ⟨Nat.le_of_ble_eq_true rfl, Nat.le_of_ble_eq_true rfl⟩) (fun _ _ _ _ _ _ _ _ hw => hw.elim) (fun f101 a101 b101 H locs hw K => ?_)
        refine lv_iconst (v := (1 : Int32)) hx hb dP_findPaths_104 (by decide) ?_
        refine lv_istore_n (lv' := [(2, .int (1 : Int32)), (0, .ref (ad 24)), (1, .int x1), (3, .int x3), (4, .int x4)]) hx hb dP_findPaths_105 rfl hl (by decide) rfl (fun ls hl => ?_)
        exact LP_findPaths_106 X hex hr J60 (wp_P_findPaths_74 po J60 n) hJ60 ih x1 (1 : Int32) x3 x4 f101 a101 b101 hw _ _ K _ (lv_sub hl [1, 2, 0, 3, 4] rfl)
set_option maxHeartbeats 4000000 in
set_option maxRecDepth 100000 in
theorem LP_findPaths_60 {p : Program} {l : Launch} {e : Env} {s : State} {m : MethodId} {below : List Frame} {meth : Method} {c : Code} {D : va_G} {sa : Nat → Nat} {ad : Nat → Nat} {ca : Nat → ClassId} {A : Nat → Prop} {y1 : Int32} {po : wF → wA → wB → Prop} (X : cx Wl (tyS ca) txS D vwCl sa A p l s m ([.ref (ad 24), .int y1] : List Value).toArray meth c cP_findPaths 5 "SendBest$Pairing") (hex : ∀ x ∈ c.exceptionTable.toList, False) (hr : meth.sig.returnType = none) : ∀ n : Nat, ∀ (x1 : Int32) (x2 : Int32) (x3 : Int32) (f : wF) (a : wA) (b : wB), wp_P_findPaths_60 po n x1 x2 x3 f a b → ∀ (H : Heap) (locs : List Loc), wd nS kS D vwCl ad ca A s H locs f a b → ∀ (ls : Array Slot), lv_has ls 5 [(0, .ref (ad 24)), (1, .int x1), (2, .int x2), (3, .int x3)] → W p l e ({ frames := 3, cells := 0, slots := 0, locals := 76 }) s m ([.ref (ad 24), .int y1] : List Value).toArray below meth c H locs 0 0 (vx_MQ below (va_Qv (fun (u : wF × wA × wB) => po u.1 u.2.1 u.2.2) (sPost nS kS D vwCl ad ca A) A) (sX nS kS D vwCl ad ca A (fun _ _ _ _ => False)) ([.ref (ad 24), .int y1] : List Value).toArray s 0 0 A) (F0 m 60 ls []) := by
  obtain ⟨hx, hb, hml, hown, hts, hK, hA, hth, hlk, hl9⟩ := id X
  intro n
  induction n with
  | zero => intro x1 x2 x3 f a b hw; exact hw.elim
  | succ n ih =>
    intro x1 x2 x3 f a b hw H locs K ls hl
    dsimp only [wp_P_findPaths_60] at hw
    refine lv_iload_n hx hb dP_findPaths_60 rfl (lv_at hl 3 rfl) ?_
    refine lv_iload_n hx hb dP_findPaths_61 rfl (lv_at hl 1 rfl) ?_
    refine lv_icmp_ge (tgt := 118) hx hb dP_findPaths_62 (by decide) (fun hc => ?_) (fun hc => ?_)
    · replace hw := hw.1 hc
      exact LP_findPaths_118 X hex hr f a b hw _ _ K _ (lv_sub hl [] rfl)
    · replace hw := hw.2 hc
      refine lv_iload_n hx hb dP_findPaths_65 rfl (lv_at hl 2 rfl) ?_
      refine lv_if_eq (tgt := 118) hx hb dP_findPaths_66 (by decide) (fun hc => ?_) (fun hc => ?_)
      · replace hw := hw.1 hc
        exact LP_findPaths_118 X hex hr f a b hw _ _ K _ (lv_sub hl [] rfl)
      · replace hw := hw.2 hc
        refine lv_iconst (v := (0 : Int32)) hx hb dP_findPaths_69 (by decide) ?_
        refine lv_istore_n (lv' := [(2, .int (0 : Int32)), (0, .ref (ad 24)), (1, .int x1), (3, .int x3)]) hx hb dP_findPaths_70 rfl hl (by decide) rfl (fun ls hl => ?_)
        refine lv_iconst (v := (0 : Int32)) hx hb dP_findPaths_71 (by decide) ?_
        refine lv_istore (lv' := [(4, .int (0 : Int32)), (2, .int (0 : Int32)), (0, .ref (ad 24)), (1, .int x1), (3, .int x3)]) hx hb dP_findPaths_72 hl (by decide) rfl (fun ls hl => ?_)
        obtain ⟨n9, hw⟩ := hw
        exact LP_findPaths_74 X hex hr (wp_P_findPaths_60 po n) ih n9 x1 (0 : Int32) x3 (0 : Int32) f a b hw _ _ K _ (lv_sub hl [2, 3, 1, 4, 0] rfl)
set_option maxHeartbeats 4000000 in
set_option maxRecDepth 100000 in
theorem LP_findPaths_35 {p : Program} {l : Launch} {e : Env} {s : State} {m : MethodId} {below : List Frame} {meth : Method} {c : Code} {D : va_G} {sa : Nat → Nat} {ad : Nat → Nat} {ca : Nat → ClassId} {A : Nat → Prop} {y1 : Int32} {po : wF → wA → wB → Prop} (X : cx Wl (tyS ca) txS D vwCl sa A p l s m ([.ref (ad 24), .int y1] : List Value).toArray meth c cP_findPaths 5 "SendBest$Pairing") (hex : ∀ x ∈ c.exceptionTable.toList, False) (hr : meth.sig.returnType = none) (J10 : Int32 → Int32 → wF → wA → wB → Prop) (hJ10 : ∀ (x1 : Int32) (x2 : Int32) (f : wF) (a : wA) (b : wB), J10 x1 x2 f a b → ∀ (H : Heap) (locs : List Loc), wd nS kS D vwCl ad ca A s H locs f a b → ∀ (ls : Array Slot), lv_has ls 5 [(0, .ref (ad 24)), (1, .int x1), (2, .int x2)] → W p l e ({ frames := 3, cells := 0, slots := 0, locals := 76 }) s m ([.ref (ad 24), .int y1] : List Value).toArray below meth c H locs 0 0 (vx_MQ below (va_Qv (fun (u : wF × wA × wB) => po u.1 u.2.1 u.2.2) (sPost nS kS D vwCl ad ca A) A) (sX nS kS D vwCl ad ca A (fun _ _ _ _ => False)) ([.ref (ad 24), .int y1] : List Value).toArray s 0 0 A) (F0 m 10 ls [])) : ∀ (k0 : Int32) (k1 : Int32) (x1 : Int32) (x2 : Int32) (f : wF) (a : wA) (b : wB), wp_P_findPaths_35 po J10 k0 k1 x1 x2 f a b → ∀ (H : Heap) (locs : List Loc), wd nS kS D vwCl ad ca A s H locs f a b → ∀ (ls : Array Slot), lv_has ls 5 [(0, .ref (ad 24)), (1, .int x1), (2, .int x2)] → W p l e ({ frames := 3, cells := 0, slots := 0, locals := 76 }) s m ([.ref (ad 24), .int y1] : List Value).toArray below meth c H locs 0 0 (vx_MQ below (va_Qv (fun (u : wF × wA × wB) => po u.1 u.2.1 u.2.2) (sPost nS kS D vwCl ad ca A) A) (sX nS kS D vwCl ad ca A (fun _ _ _ _ => False)) ([.ref (ad 24), .int y1] : List Value).toArray s 0 0 A) (F0 m 35 ls [.int k0, .int k1, .ref (ad 51)]) := by
  obtain ⟨hx, hb, hml, hown, hts, hK, hA, hth, hlk, hl9⟩ := id X
  intro k0 k1 x1 x2 f a b hw H locs K ls hl
  dsimp only [wp_P_findPaths_35] at hw
  obtain ⟨hi, hw⟩ := hw
  refine gzst X K (o := 51) (t0 := 1) (by decide) kS_c51 rfl hi dP_findPaths_35 kS_p51 (fun H locs K => ?_)
  refine lv_aload_n hx hb dP_findPaths_36 rfl (lv_at hl 0 rfl) ?_
  refine gGet X K (o := 24) (k := 9) (v := .ref (ad 52)) (by decide) kS_o24 rfl inS_o24 (by decide) (tm1 (i := 42) rfl rfl) rfl dP_findPaths_37 ?_
  refine lv_iload_n hx hb dP_findPaths_40 rfl (lv_at hl 2 rfl) ?_
  refine lv_lconst (v := (0 : Int64)) hx hb dP_findPaths_41 (by decide) ?_
  obtain ⟨hi, hw⟩ := hw
  refine glst X K (o := 52) (t0 := 2) (by decide) kS_c52 rfl hi dP_findPaths_42 kS_p52 (fun H locs K => ?_)
  refine lv_aload_n hx hb dP_findPaths_43 rfl (lv_at hl 0 rfl) ?_
  refine gGet X K (o := 24) (k := 10) (v := .ref (ad 53)) (by decide) kS_o24 rfl inS_o24 (by decide) (tm1 (i := 43) rfl rfl) rfl dP_findPaths_44 ?_
  refine lv_iload_n hx hb dP_findPaths_47 rfl (lv_at hl 2 rfl) ?_
  refine lv_lconst (v := (0 : Int64)) hx hb dP_findPaths_48 (by decide) ?_
  obtain ⟨hi, hw⟩ := hw
  refine glst X K (o := 53) (t0 := 2) (by decide) kS_c53 rfl hi dP_findPaths_49 kS_p53 (fun H locs K => ?_)
  refine lv_iinc (v := (x2 + (1 : Int32))) (lv' := [(2, .int (x2 + (1 : Int32))), (0, .ref (ad 24)), (1, .int x1)]) hx hb dP_findPaths_50 hl (k := 2) rfl rfl (by decide) rfl (fun ls hl => ?_)
  refine lv_goto (tgt := 10) hx hb dP_findPaths_53 (by decide) ?_
  exact hJ10 x1 (x2 + (1 : Int32)) f (va_up a 51 (upd (a 51) k1.toNatClampNeg (vp_nar .boolean k0))) (va_up (va_up b 52 (vp_updL (b 52) x2.toNatClampNeg (0 : Int64))) 53 (vp_updL ((va_up b 52 (vp_updL (b 52) x2.toNatClampNeg (0 : Int64))) 53) x2.toNatClampNeg (0 : Int64))) hw _ _ K _ (lv_sub hl [1, 2, 0] rfl)
set_option maxHeartbeats 4000000 in
set_option maxRecDepth 100000 in
theorem LP_findPaths_10 {p : Program} {l : Launch} {e : Env} {s : State} {m : MethodId} {below : List Frame} {meth : Method} {c : Code} {D : va_G} {sa : Nat → Nat} {ad : Nat → Nat} {ca : Nat → ClassId} {A : Nat → Prop} {y1 : Int32} {po : wF → wA → wB → Prop} (X : cx Wl (tyS ca) txS D vwCl sa A p l s m ([.ref (ad 24), .int y1] : List Value).toArray meth c cP_findPaths 5 "SendBest$Pairing") (hex : ∀ x ∈ c.exceptionTable.toList, False) (hr : meth.sig.returnType = none) : ∀ n : Nat, ∀ (x1 : Int32) (x2 : Int32) (f : wF) (a : wA) (b : wB), wp_P_findPaths_10 po n x1 x2 f a b → ∀ (H : Heap) (locs : List Loc), wd nS kS D vwCl ad ca A s H locs f a b → ∀ (ls : Array Slot), lv_has ls 5 [(0, .ref (ad 24)), (1, .int x1), (2, .int x2)] → W p l e ({ frames := 3, cells := 0, slots := 0, locals := 76 }) s m ([.ref (ad 24), .int y1] : List Value).toArray below meth c H locs 0 0 (vx_MQ below (va_Qv (fun (u : wF × wA × wB) => po u.1 u.2.1 u.2.2) (sPost nS kS D vwCl ad ca A) A) (sX nS kS D vwCl ad ca A (fun _ _ _ _ => False)) ([.ref (ad 24), .int y1] : List Value).toArray s 0 0 A) (F0 m 10 ls []) := by
  obtain ⟨hx, hb, hml, hown, hts, hK, hA, hth, hlk, hl9⟩ := id X
  intro n
  induction n with
  | zero => intro x1 x2 f a b hw; exact hw.elim
  | succ n ih =>
    intro x1 x2 f a b hw H locs K ls hl
    dsimp only [wp_P_findPaths_10] at hw
    refine lv_iload_n hx hb dP_findPaths_10 rfl (lv_at hl 2 rfl) ?_
    refine lv_iload_n hx hb dP_findPaths_11 rfl (lv_at hl 1 rfl) ?_
    refine lv_icmp_ge (tgt := 56) hx hb dP_findPaths_12 (by decide) (fun hc => ?_) (fun hc => ?_)
    · replace hw := hw.1 hc
      refine lv_iconst (v := (1 : Int32)) hx hb dP_findPaths_56 (by decide) ?_
      refine lv_istore_n (lv' := [(2, .int (1 : Int32)), (0, .ref (ad 24)), (1, .int x1)]) hx hb dP_findPaths_57 rfl hl (by decide) rfl (fun ls hl => ?_)
      refine lv_iconst (v := (0 : Int32)) hx hb dP_findPaths_58 (by decide) ?_
      refine lv_istore_n (lv' := [(3, .int (0 : Int32)), (2, .int (1 : Int32)), (0, .ref (ad 24)), (1, .int x1)]) hx hb dP_findPaths_59 rfl hl (by decide) rfl (fun ls hl => ?_)
      obtain ⟨n9, hw⟩ := hw
      exact LP_findPaths_60 X hex hr n9 x1 (1 : Int32) (0 : Int32) f a b hw _ _ K _ (lv_sub hl [2, 3, 1, 0] rfl)
    · replace hw := hw.2 hc
      refine lv_aload_n hx hb dP_findPaths_15 rfl (lv_at hl 0 rfl) ?_
      refine gGet X K (o := 24) (k := 8) (v := .ref (ad 51)) (by decide) kS_o24 rfl inS_o24 (by decide) (tm1 (i := 41) rfl rfl) rfl dP_findPaths_16 ?_
      refine lv_iload_n hx hb dP_findPaths_19 rfl (lv_at hl 2 rfl) ?_
      refine lv_aload_n hx hb dP_findPaths_20 rfl (lv_at hl 0 rfl) ?_
      refine gGet X K (o := 24) (k := 5) (v := .ref (ad 48)) (by decide) kS_o24 rfl inS_o24 (by decide) (tm1 (i := 38) rfl rfl) rfl dP_findPaths_21 ?_
      refine lv_iload_n hx hb dP_findPaths_24 rfl (lv_at hl 2 rfl) ?_
      obtain ⟨hi, hw⟩ := hw
      refine gild X K (o := 48) (t0 := 0) (by decide) kS_c48 rfl hi dP_findPaths_25 ?_
      refine lv_iconst (v := (-1 : Int32)) hx hb dP_findPaths_26 (by decide) ?_
      refine lv_icmp_ne (tgt := 34) hx hb dP_findPaths_27 (by decide) (fun hc => ?_) (fun hc => ?_)
      · replace hw := hw.1 hc
        refine lv_iconst (v := (0 : Int32)) hx hb dP_findPaths_34 (by decide) ?_
        exact LP_findPaths_35 X hex hr (wp_P_findPaths_10 po n) ih (0 : Int32) x2 x1 x2 f a b hw _ _ K _ (lv_sub hl [0, 1, 2] rfl)
      · replace hw := hw.2 hc
        refine lv_iconst (v := (1 : Int32)) hx hb dP_findPaths_30 (by decide) ?_
        refine lv_goto (tgt := 35) hx hb dP_findPaths_31 (by decide) ?_
        exact LP_findPaths_35 X hex hr (wp_P_findPaths_10 po n) ih (1 : Int32) x2 x1 x2 f a b hw _ _ K _ (lv_sub hl [0, 1, 2] rfl)
set_option maxHeartbeats 4000000 in
set_option maxRecDepth 100000 in
theorem met_P_findPaths {l : Launch} (hl9 : l.stackTraces = false) (D : va_G) (ad : Nat → Nat) (ca : Nat → ClassId) (sa : Nat → Nat) (sz : Nat) (x1 : Int32) (f : wF) (a : wA) (b : wB) (po : wF → wA → wB → Prop) (hw : wp_P_findPaths po x1 f a b) : mV nS kS (tyS ca) txS D vwCl l yP_findPaths (Cond.code yP_findPaths cP_findPaths 5 none :: Wl) ({ frames := 3, cells := 0, slots := 0, locals := 76 }) [.ref (ad 24), .int x1] ad ca sa sz f a b po (fun _ _ _ _ => False) 0 0 := by
  refine ofV (by decide) hl9 (Nat.le_of_ble_eq_true rfl) ?_
  intro p e s m below meth c ls X hex hr K hl
  obtain ⟨hx, hb, hml, hown, hts, hK, hA, hth, hlk, hl9⟩ := id X
  have hl : lv_has ls 5 [(0, .ref (ad 24)), (1, .int x1)] := hl
  dsimp only [wp_P_findPaths] at hw
  refine lv_aload_n hx hb dP_findPaths_0 rfl (lv_at hl 0 rfl) ?_
  refine gGet X K (o := 24) (k := 11) (v := .ref (ad 54)) (by decide) kS_o24 rfl inS_o24 (by decide) (tm1 (i := 44) rfl rfl) rfl dP_findPaths_1 ?_
  refine lv_iconst (v := (-1 : Int32)) hx hb dP_findPaths_4 (by decide) ?_
  refine gfilli X K (o := 54) (t0 := 0) (by decide) kS_c54 rfl (by decide) (tm2 (i := 185) rfl rfl) hl.1 (Nat.le_of_ble_eq_true rfl) dP_findPaths_5 ⟨Nat.le_of_ble_eq_true rfl, Nat.le_of_ble_eq_true rfl⟩ ⟨Nat.le_of_ble_eq_true rfl, Nat.le_of_ble_eq_true rfl⟩ kS_p54 (fun H locs K => ?_)
  refine lv_iconst (v := (0 : Int32)) hx hb dP_findPaths_8 (by decide) ?_
  refine lv_istore_n (lv' := [(2, .int (0 : Int32)), (0, .ref (ad 24)), (1, .int x1)]) hx hb dP_findPaths_9 rfl hl (by decide) rfl (fun ls hl => ?_)
  obtain ⟨n9, hw⟩ := hw
  exact LP_findPaths_10 X hex hr n9 x1 (0 : Int32) f (va_up a 54 (fun _ => (-1 : Int32))) b hw _ _ K _ (lv_sub hl [1, 2, 0] rfl)
set_option maxHeartbeats 4000000 in
set_option maxRecDepth 100000 in
theorem LP_cheapestEnd_67 {p : Program} {l : Launch} {e : Env} {s : State} {m : MethodId} {below : List Frame} {meth : Method} {c : Code} {D : va_G} {sa : Nat → Nat} {ad : Nat → Nat} {ca : Nat → ClassId} {A : Nat → Prop} {po : Int32 → wF → wA → wB → Prop} (X : cx Wl (tyS ca) txS D vwCl sa A p l s m ([.ref (ad 24)] : List Value).toArray meth c cP_cheapestEnd 3 "SendBest$Pairing") (hex : ∀ x ∈ c.exceptionTable.toList, False) (hr : meth.sig.returnType = (some .int)) (J4 : Int32 → Int32 → wF → wA → wB → Prop) (hJ4 : ∀ (x1 : Int32) (x2 : Int32) (f : wF) (a : wA) (b : wB), J4 x1 x2 f a b → ∀ (H : Heap) (locs : List Loc), wd nS kS D vwCl ad ca A s H locs f a b → ∀ (ls : Array Slot), lv_has ls 3 [(0, .ref (ad 24)), (1, .int x1), (2, .int x2)] → W p l e ({ frames := 1, cells := 0, slots := 0, locals := 27 }) s m ([.ref (ad 24)] : List Value).toArray below meth c H locs 0 0 (vx_MQ below (va_Qi (fun r (u : wF × wA × wB) => po r u.1 u.2.1 u.2.2) (sPost nS kS D vwCl ad ca A) A) (sX nS kS D vwCl ad ca A (fun _ _ _ _ => False)) ([.ref (ad 24)] : List Value).toArray s 0 0 A) (F0 m 4 ls [])) : ∀ (x1 : Int32) (x2 : Int32) (f : wF) (a : wA) (b : wB), wp_P_cheapestEnd_67 po J4 x1 x2 f a b → ∀ (H : Heap) (locs : List Loc), wd nS kS D vwCl ad ca A s H locs f a b → ∀ (ls : Array Slot), lv_has ls 3 [(0, .ref (ad 24)), (1, .int x1), (2, .int x2)] → W p l e ({ frames := 1, cells := 0, slots := 0, locals := 27 }) s m ([.ref (ad 24)] : List Value).toArray below meth c H locs 0 0 (vx_MQ below (va_Qi (fun r (u : wF × wA × wB) => po r u.1 u.2.1 u.2.2) (sPost nS kS D vwCl ad ca A) A) (sX nS kS D vwCl ad ca A (fun _ _ _ _ => False)) ([.ref (ad 24)] : List Value).toArray s 0 0 A) (F0 m 67 ls []) := by
  obtain ⟨hx, hb, hml, hown, hts, hK, hA, hth, hlk, hl9⟩ := id X
  intro x1 x2 f a b hw H locs K ls hl
  dsimp only [wp_P_cheapestEnd_67] at hw
  refine lv_iinc (v := (x2 + (1 : Int32))) (lv' := [(2, .int (x2 + (1 : Int32))), (0, .ref (ad 24)), (1, .int x1)]) hx hb dP_cheapestEnd_67 hl (k := 2) rfl rfl (by decide) rfl (fun ls hl => ?_)
  refine lv_goto (tgt := 4) hx hb dP_cheapestEnd_70 (by decide) ?_
  exact hJ4 x1 (x2 + (1 : Int32)) f a b hw _ _ K _ (lv_sub hl [1, 2, 0] rfl)
set_option maxHeartbeats 4000000 in
set_option maxRecDepth 100000 in
theorem LP_cheapestEnd_65 {p : Program} {l : Launch} {e : Env} {s : State} {m : MethodId} {below : List Frame} {meth : Method} {c : Code} {D : va_G} {sa : Nat → Nat} {ad : Nat → Nat} {ca : Nat → ClassId} {A : Nat → Prop} {po : Int32 → wF → wA → wB → Prop} (X : cx Wl (tyS ca) txS D vwCl sa A p l s m ([.ref (ad 24)] : List Value).toArray meth c cP_cheapestEnd 3 "SendBest$Pairing") (hex : ∀ x ∈ c.exceptionTable.toList, False) (hr : meth.sig.returnType = (some .int)) (J4 : Int32 → Int32 → wF → wA → wB → Prop) (hJ4 : ∀ (x1 : Int32) (x2 : Int32) (f : wF) (a : wA) (b : wB), J4 x1 x2 f a b → ∀ (H : Heap) (locs : List Loc), wd nS kS D vwCl ad ca A s H locs f a b → ∀ (ls : Array Slot), lv_has ls 3 [(0, .ref (ad 24)), (1, .int x1), (2, .int x2)] → W p l e ({ frames := 1, cells := 0, slots := 0, locals := 27 }) s m ([.ref (ad 24)] : List Value).toArray below meth c H locs 0 0 (vx_MQ below (va_Qi (fun r (u : wF × wA × wB) => po r u.1 u.2.1 u.2.2) (sPost nS kS D vwCl ad ca A) A) (sX nS kS D vwCl ad ca A (fun _ _ _ _ => False)) ([.ref (ad 24)] : List Value).toArray s 0 0 A) (F0 m 4 ls [])) : ∀ (x2 : Int32) (f : wF) (a : wA) (b : wB), wp_P_cheapestEnd_65 po J4 x2 f a b → ∀ (H : Heap) (locs : List Loc), wd nS kS D vwCl ad ca A s H locs f a b → ∀ (ls : Array Slot), lv_has ls 3 [(0, .ref (ad 24)), (2, .int x2)] → W p l e ({ frames := 1, cells := 0, slots := 0, locals := 27 }) s m ([.ref (ad 24)] : List Value).toArray below meth c H locs 0 0 (vx_MQ below (va_Qi (fun r (u : wF × wA × wB) => po r u.1 u.2.1 u.2.2) (sPost nS kS D vwCl ad ca A) A) (sX nS kS D vwCl ad ca A (fun _ _ _ _ => False)) ([.ref (ad 24)] : List Value).toArray s 0 0 A) (F0 m 65 ls []) := by
  obtain ⟨hx, hb, hml, hown, hts, hK, hA, hth, hlk, hl9⟩ := id X
  intro x2 f a b hw H locs K ls hl
  dsimp only [wp_P_cheapestEnd_65] at hw
  refine lv_iload_n hx hb dP_cheapestEnd_65 rfl (lv_at hl 1 rfl) ?_
  refine lv_istore_n (lv' := [(1, .int x2), (0, .ref (ad 24)), (2, .int x2)]) hx hb dP_cheapestEnd_66 rfl hl (by decide) rfl (fun ls hl => ?_)
  exact LP_cheapestEnd_67 X hex hr J4 hJ4 x2 x2 f a b hw _ _ K _ (lv_sub hl [1, 0, 2] rfl)
set_option maxHeartbeats 4000000 in
set_option maxRecDepth 100000 in
theorem LP_cheapestEnd_4 {p : Program} {l : Launch} {e : Env} {s : State} {m : MethodId} {below : List Frame} {meth : Method} {c : Code} {D : va_G} {sa : Nat → Nat} {ad : Nat → Nat} {ca : Nat → ClassId} {A : Nat → Prop} {po : Int32 → wF → wA → wB → Prop} (X : cx Wl (tyS ca) txS D vwCl sa A p l s m ([.ref (ad 24)] : List Value).toArray meth c cP_cheapestEnd 3 "SendBest$Pairing") (hex : ∀ x ∈ c.exceptionTable.toList, False) (hr : meth.sig.returnType = (some .int)) : ∀ n : Nat, ∀ (x1 : Int32) (x2 : Int32) (f : wF) (a : wA) (b : wB), wp_P_cheapestEnd_4 po n x1 x2 f a b → ∀ (H : Heap) (locs : List Loc), wd nS kS D vwCl ad ca A s H locs f a b → ∀ (ls : Array Slot), lv_has ls 3 [(0, .ref (ad 24)), (1, .int x1), (2, .int x2)] → W p l e ({ frames := 1, cells := 0, slots := 0, locals := 27 }) s m ([.ref (ad 24)] : List Value).toArray below meth c H locs 0 0 (vx_MQ below (va_Qi (fun r (u : wF × wA × wB) => po r u.1 u.2.1 u.2.2) (sPost nS kS D vwCl ad ca A) A) (sX nS kS D vwCl ad ca A (fun _ _ _ _ => False)) ([.ref (ad 24)] : List Value).toArray s 0 0 A) (F0 m 4 ls []) := by
  obtain ⟨hx, hb, hml, hown, hts, hK, hA, hth, hlk, hl9⟩ := id X
  intro n
  induction n with
  | zero => intro x1 x2 f a b hw; exact hw.elim
  | succ n ih =>
    intro x1 x2 f a b hw H locs K ls hl
    dsimp only [wp_P_cheapestEnd_4] at hw
    refine lv_iload_n hx hb dP_cheapestEnd_4 rfl (lv_at hl 2 rfl) ?_
    refine lv_bipush (v := (12 : Int32)) hx hb dP_cheapestEnd_5 (by decide) ?_
    refine lv_icmp_ge (tgt := 73) hx hb dP_cheapestEnd_7 (by decide) (fun hc => ?_) (fun hc => ?_)
    · replace hw := hw.1 hc
      refine lv_iload_n hx hb dP_cheapestEnd_73 rfl (lv_at hl 1 rfl) ?_
      exact endI X K hr rfl hw (by decide) (by decide) dP_cheapestEnd_74
    · replace hw := hw.2 hc
      refine lv_aload_n hx hb dP_cheapestEnd_10 rfl (lv_at hl 0 rfl) ?_
      refine gGet X K (o := 24) (k := 6) (v := .ref (ad 49)) (by decide) kS_o24 rfl inS_o24 (by decide) (tm1 (i := 39) rfl rfl) rfl dP_cheapestEnd_11 ?_
      refine lv_iload_n hx hb dP_cheapestEnd_14 rfl (lv_at hl 2 rfl) ?_
      obtain ⟨hi, hw⟩ := hw
      refine gild X K (o := 49) (t0 := 0) (by decide) kS_c49 rfl hi dP_cheapestEnd_15 ?_
      refine lv_iconst (v := (-1 : Int32)) hx hb dP_cheapestEnd_16 (by decide) ?_
      refine lv_icmp_ne (tgt := 67) hx hb dP_cheapestEnd_17 (by decide) (fun hc => ?_) (fun hc => ?_)
      · replace hw := hw.1 hc
        exact LP_cheapestEnd_67 X hex hr (wp_P_cheapestEnd_4 po n) ih x1 x2 f a b hw _ _ K _ (lv_sub hl [0, 1, 2] rfl)
      · replace hw := hw.2 hc
        refine lv_aload_n hx hb dP_cheapestEnd_20 rfl (lv_at hl 0 rfl) ?_
        refine gGet X K (o := 24) (k := 11) (v := .ref (ad 54)) (by decide) kS_o24 rfl inS_o24 (by decide) (tm1 (i := 44) rfl rfl) rfl dP_cheapestEnd_21 ?_
        refine lv_iload_n hx hb dP_cheapestEnd_24 rfl (lv_at hl 2 rfl) ?_
        obtain ⟨hi, hw⟩ := hw
        refine gild X K (o := 54) (t0 := 0) (by decide) kS_c54 rfl hi dP_cheapestEnd_25 ?_
        refine lv_iconst (v := (-1 : Int32)) hx hb dP_cheapestEnd_26 (by decide) ?_
        refine lv_icmp_eq (tgt := 67) hx hb dP_cheapestEnd_27 (by decide) (fun hc => ?_) (fun hc => ?_)
        · replace hw := hw.1 hc
          exact LP_cheapestEnd_67 X hex hr (wp_P_cheapestEnd_4 po n) ih x1 x2 f a b hw _ _ K _ (lv_sub hl [0, 1, 2] rfl)
        · replace hw := hw.2 hc
          refine lv_iload_n hx hb dP_cheapestEnd_30 rfl (lv_at hl 1 rfl) ?_
          refine lv_iconst (v := (-1 : Int32)) hx hb dP_cheapestEnd_31 (by decide) ?_
          refine lv_icmp_eq (tgt := 65) hx hb dP_cheapestEnd_32 (by decide) (fun hc => ?_) (fun hc => ?_)
          · replace hw := hw.1 hc
            exact LP_cheapestEnd_65 X hex hr (wp_P_cheapestEnd_4 po n) ih x2 f a b hw _ _ K _ (lv_sub hl [0, 2] rfl)
          · replace hw := hw.2 hc
            refine lv_aload_n hx hb dP_cheapestEnd_35 rfl (lv_at hl 0 rfl) ?_
            refine gGet X K (o := 24) (k := 12) (v := .ref (ad 55)) (by decide) kS_o24 rfl inS_o24 (by decide) (tm1 (i := 45) rfl rfl) rfl dP_cheapestEnd_36 ?_
            refine lv_iload_n hx hb dP_cheapestEnd_39 rfl (lv_at hl 2 rfl) ?_
            obtain ⟨hi, hw⟩ := hw
            refine glld X K (o := 55) (t0 := 2) (by decide) kS_c55 rfl hi dP_cheapestEnd_40 ?_
            refine lv_aload_n hx hb dP_cheapestEnd_41 rfl (lv_at hl 0 rfl) ?_
            refine gGet X K (o := 24) (k := 13) (v := .ref (ad 56)) (by decide) kS_o24 rfl inS_o24 (by decide) (tm1 (i := 46) rfl rfl) rfl dP_cheapestEnd_42 ?_
            refine lv_iload_n hx hb dP_cheapestEnd_45 rfl (lv_at hl 2 rfl) ?_
            obtain ⟨hi, hw⟩ := hw
            refine glld X K (o := 56) (t0 := 2) (by decide) kS_c56 rfl hi dP_cheapestEnd_46 ?_
            refine lv_aload_n hx hb dP_cheapestEnd_47 rfl (lv_at hl 0 rfl) ?_
            refine gGet X K (o := 24) (k := 12) (v := .ref (ad 55)) (by decide) kS_o24 rfl inS_o24 (by decide) (tm1 (i := 45) rfl rfl) rfl dP_cheapestEnd_48 ?_
            refine lv_iload_n hx hb dP_cheapestEnd_51 rfl (lv_at hl 1 rfl) ?_
            obtain ⟨hi, hw⟩ := hw
            refine glld X K (o := 55) (t0 := 2) (by decide) kS_c55 rfl hi dP_cheapestEnd_52 ?_
            refine lv_aload_n hx hb dP_cheapestEnd_53 rfl (lv_at hl 0 rfl) ?_
            refine gGet X K (o := 24) (k := 13) (v := .ref (ad 56)) (by decide) kS_o24 rfl inS_o24 (by decide) (tm1 (i := 46) rfl rfl) rfl dP_cheapestEnd_54 ?_
            refine lv_iload_n hx hb dP_cheapestEnd_57 rfl (lv_at hl 1 rfl) ?_
            obtain ⟨hi, hw⟩ := hw
            refine glld X K (o := 56) (t0 := 2) (by decide) kS_c56 rfl hi dP_cheapestEnd_58 ?_
            refine gcSI X K (n0 := 4) (As := [.long (b 55 x2.toNatClampNeg), .long (b 56 x2.toNatClampNeg), .long (b 55 x1.toNatClampNeg), .long (b 56 x1.toNatClampNeg)]) (rest := []) (hM := (met_P_isLess hl9 D ad ca sa _ (b 55 x2.toNatClampNeg) (b 56 x2.toNatClampNeg) (b 55 x1.toNatClampNeg) (b 56 x1.toNatClampNeg) f a b _ hw)) (hg := wl_good) (w1 := (tm2 (i := 198) rfl rfl)) (w2 := (tm2 (i := 199) rfl rfl)) (w4 := (tm1 (i := 2) rfl rfl)) (w5 := (tm2 (i := 200) rfl rfl)) (hd := ⟨by decide, by decide, by decide +kernel⟩) (hrc := rfl) (hrs := rfl) (hR := ⟨Nat.le_of_ble_eq_true rfl, Nat.le_of_ble_eq_true rfl⟩) (hn := rfl) (hsz := hl.1) (hst := rfl) (hW := Nat.le_of_ble_eq_true rfl) (hdg := dP_cheapestEnd_59) (hf := ⟨Nat.le_of_ble_eq_true rfl, Nat.le_of_ble_eq_true rfl⟩) (fun _ _ _ _ _ _ _ _ hw => hw.elim) (fun r59 f59 a59 b59 H locs hw K => ?_)
            refine lv_if_eq (tgt := 67) hx hb dP_cheapestEnd_62 (by decide) (fun hc => ?_) (fun hc => ?_)
            · replace hw := hw.1 hc
              exact LP_cheapestEnd_67 X hex hr (wp_P_cheapestEnd_4 po n) ih x1 x2 f59 a59 b59 hw _ _ K _ (lv_sub hl [0, 1, 2] rfl)
            · replace hw := hw.2 hc
              exact LP_cheapestEnd_65 X hex hr (wp_P_cheapestEnd_4 po n) ih x2 f59 a59 b59 hw _ _ K _ (lv_sub hl [0, 2] rfl)
set_option maxHeartbeats 4000000 in
set_option maxRecDepth 100000 in
theorem met_P_cheapestEnd {l : Launch} (hl9 : l.stackTraces = false) (D : va_G) (ad : Nat → Nat) (ca : Nat → ClassId) (sa : Nat → Nat) (sz : Nat)  (f : wF) (a : wA) (b : wB) (po : Int32 → wF → wA → wB → Prop) (hw : wp_P_cheapestEnd po f a b) : mI nS kS (tyS ca) txS D vwCl l yP_cheapestEnd (Cond.code yP_cheapestEnd cP_cheapestEnd 3 (some .int) :: Wl) ({ frames := 1, cells := 0, slots := 0, locals := 27 }) [.ref (ad 24)] ad ca sa sz f a b po (fun _ _ _ _ => False) 0 0 := by
  refine ofI (by decide) hl9 (Nat.le_of_ble_eq_true rfl) ?_
  intro p e s m below meth c ls X hex hr K hl
  obtain ⟨hx, hb, hml, hown, hts, hK, hA, hth, hlk, hl9⟩ := id X
  have hl : lv_has ls 3 [(0, .ref (ad 24))] := hl
  dsimp only [wp_P_cheapestEnd] at hw
  refine lv_iconst (v := (-1 : Int32)) hx hb dP_cheapestEnd_0 (by decide) ?_
  refine lv_istore_n (lv' := [(1, .int (-1 : Int32)), (0, .ref (ad 24))]) hx hb dP_cheapestEnd_1 rfl hl (by decide) rfl (fun ls hl => ?_)
  refine lv_iconst (v := (0 : Int32)) hx hb dP_cheapestEnd_2 (by decide) ?_
  refine lv_istore_n (lv' := [(2, .int (0 : Int32)), (1, .int (-1 : Int32)), (0, .ref (ad 24))]) hx hb dP_cheapestEnd_3 rfl hl (by decide) rfl (fun ls hl => ?_)
  obtain ⟨n9, hw⟩ := hw
  exact LP_cheapestEnd_4 X hex hr n9 (-1 : Int32) (0 : Int32) f a b hw _ _ K _ (lv_sub hl [2, 1, 0] rfl)
set_option maxHeartbeats 4000000 in
set_option maxRecDepth 100000 in
theorem LP_turnPath_64 {p : Program} {l : Launch} {e : Env} {s : State} {m : MethodId} {below : List Frame} {meth : Method} {c : Code} {D : va_G} {sa : Nat → Nat} {ad : Nat → Nat} {ca : Nat → ClassId} {A : Nat → Prop} {y1 : Int32} {po : wF → wA → wB → Prop} (X : cx Wl (tyS ca) txS D vwCl sa A p l s m ([.ref (ad 24), .int y1] : List Value).toArray meth c cP_turnPath 6 "SendBest$Pairing") (hex : ∀ x ∈ c.exceptionTable.toList, False) (hr : meth.sig.returnType = none) : ∀ (f : wF) (a : wA) (b : wB), wp_P_turnPath_64 po f a b → ∀ (H : Heap) (locs : List Loc), wd nS kS D vwCl ad ca A s H locs f a b → ∀ (ls : Array Slot), lv_has ls 6 [] → W p l e ({ frames := 0, cells := 0, slots := 0, locals := 0 }) s m ([.ref (ad 24), .int y1] : List Value).toArray below meth c H locs 0 0 (vx_MQ below (va_Qv (fun (u : wF × wA × wB) => po u.1 u.2.1 u.2.2) (sPost nS kS D vwCl ad ca A) A) (sX nS kS D vwCl ad ca A (fun _ _ _ _ => False)) ([.ref (ad 24), .int y1] : List Value).toArray s 0 0 A) (F0 m 64 ls []) := by
  obtain ⟨hx, hb, hml, hown, hts, hK, hA, hth, hlk, hl9⟩ := id X
  intro  f a b hw H locs K ls hl
  dsimp only [wp_P_turnPath_64] at hw
  exact endV X K hr hw (by decide) (by decide) dP_turnPath_64
set_option maxHeartbeats 4000000 in
set_option maxRecDepth 100000 in
theorem LP_turnPath_4 {p : Program} {l : Launch} {e : Env} {s : State} {m : MethodId} {below : List Frame} {meth : Method} {c : Code} {D : va_G} {sa : Nat → Nat} {ad : Nat → Nat} {ca : Nat → ClassId} {A : Nat → Prop} {y1 : Int32} {po : wF → wA → wB → Prop} (X : cx Wl (tyS ca) txS D vwCl sa A p l s m ([.ref (ad 24), .int y1] : List Value).toArray meth c cP_turnPath 6 "SendBest$Pairing") (hex : ∀ x ∈ c.exceptionTable.toList, False) (hr : meth.sig.returnType = none) : ∀ n : Nat, ∀ (x2 : Int32) (x3 : Int32) (f : wF) (a : wA) (b : wB), wp_P_turnPath_4 po n x2 x3 f a b → ∀ (H : Heap) (locs : List Loc), wd nS kS D vwCl ad ca A s H locs f a b → ∀ (ls : Array Slot), lv_has ls 6 [(0, .ref (ad 24)), (2, .int x2), (3, .int x3)] → W p l e ({ frames := 0, cells := 0, slots := 0, locals := 0 }) s m ([.ref (ad 24), .int y1] : List Value).toArray below meth c H locs 0 0 (vx_MQ below (va_Qv (fun (u : wF × wA × wB) => po u.1 u.2.1 u.2.2) (sPost nS kS D vwCl ad ca A) A) (sX nS kS D vwCl ad ca A (fun _ _ _ _ => False)) ([.ref (ad 24), .int y1] : List Value).toArray s 0 0 A) (F0 m 4 ls []) := by
  obtain ⟨hx, hb, hml, hown, hts, hK, hA, hth, hlk, hl9⟩ := id X
  intro n
  induction n with
  | zero => intro x2 x3 f a b hw; exact hw.elim
  | succ n ih =>
    intro x2 x3 f a b hw H locs K ls hl
    dsimp only [wp_P_turnPath_4] at hw
    refine lv_iload_n hx hb dP_turnPath_4 rfl (lv_at hl 2 rfl) ?_
    refine lv_bipush (v := (10 : Int32)) hx hb dP_turnPath_5 (by decide) ?_
    refine lv_icmp_ge (tgt := 64) hx hb dP_turnPath_7 (by decide) (fun hc => ?_) (fun hc => ?_)
    · replace hw := hw.1 hc
      exact LP_turnPath_64 X hex hr f a b hw _ _ K _ (lv_sub hl [] rfl)
    · replace hw := hw.2 hc
      refine lv_iload_n hx hb dP_turnPath_10 rfl (lv_at hl 1 rfl) ?_
      refine lv_iconst (v := (-1 : Int32)) hx hb dP_turnPath_11 (by decide) ?_
      refine lv_icmp_eq (tgt := 64) hx hb dP_turnPath_12 (by decide) (fun hc => ?_) (fun hc => ?_)
      · replace hw := hw.1 hc
        exact LP_turnPath_64 X hex hr f a b hw _ _ K _ (lv_sub hl [] rfl)
      · replace hw := hw.2 hc
        refine lv_aload_n hx hb dP_turnPath_15 rfl (lv_at hl 0 rfl) ?_
        refine gGet X K (o := 24) (k := 11) (v := .ref (ad 54)) (by decide) kS_o24 rfl inS_o24 (by decide) (tm1 (i := 44) rfl rfl) rfl dP_turnPath_16 ?_
        refine lv_iload_n hx hb dP_turnPath_19 rfl (lv_at hl 1 rfl) ?_
        obtain ⟨hi, hw⟩ := hw
        refine gild X K (o := 54) (t0 := 0) (by decide) kS_c54 rfl hi dP_turnPath_20 ?_
        refine lv_istore (lv' := [(4, .int (a 54 x2.toNatClampNeg)), (0, .ref (ad 24)), (2, .int x2), (3, .int x3)]) hx hb dP_turnPath_21 hl (by decide) rfl (fun ls hl => ?_)
        refine lv_iload hx hb dP_turnPath_23 (lv_at hl 0 rfl) ?_
        refine lv_iconst (v := (-1 : Int32)) hx hb dP_turnPath_25 (by decide) ?_
        refine lv_icmp_ne (tgt := 30) hx hb dP_turnPath_26 (by decide) (fun hc => ?_) (fun hc => ?_)
        · replace hw := hw.1 hc
          refine lv_aload_n hx hb dP_turnPath_30 rfl (lv_at hl 1 rfl) ?_
          refine gGet X K (o := 24) (k := 5) (v := .ref (ad 48)) (by decide) kS_o24 rfl inS_o24 (by decide) (tm1 (i := 38) rfl rfl) rfl dP_turnPath_31 ?_
          refine lv_iload hx hb dP_turnPath_34 (lv_at hl 0 rfl) ?_
          obtain ⟨hi, hw⟩ := hw
          refine gild X K (o := 48) (t0 := 0) (by decide) kS_c48 rfl hi dP_turnPath_36 ?_
          refine lv_istore (lv' := [(5, .int (a 48 (a 54 x2.toNatClampNeg).toNatClampNeg)), (4, .int (a 54 x2.toNatClampNeg)), (0, .ref (ad 24)), (2, .int x2), (3, .int x3)]) hx hb dP_turnPath_37 hl (by decide) rfl (fun ls hl => ?_)
          refine lv_aload_n hx hb dP_turnPath_39 rfl (lv_at hl 2 rfl) ?_
          refine gGet X K (o := 24) (k := 5) (v := .ref (ad 48)) (by decide) kS_o24 rfl inS_o24 (by decide) (tm1 (i := 38) rfl rfl) rfl dP_turnPath_40 ?_
          refine lv_iload hx hb dP_turnPath_43 (lv_at hl 1 rfl) ?_
          refine lv_iload_n hx hb dP_turnPath_45 rfl (lv_at hl 3 rfl) ?_
          obtain ⟨hi, hw⟩ := hw
          refine gist X K (o := 48) (t0 := 0) (by decide) kS_c48 rfl hi dP_turnPath_46 kS_p48 (fun H locs K => ?_)
          refine lv_aload_n hx hb dP_turnPath_47 rfl (lv_at hl 2 rfl) ?_
          refine gGet X K (o := 24) (k := 6) (v := .ref (ad 49)) (by decide) kS_o24 rfl inS_o24 (by decide) (tm1 (i := 39) rfl rfl) rfl dP_turnPath_48 ?_
          refine lv_iload_n hx hb dP_turnPath_51 rfl (lv_at hl 3 rfl) ?_
          refine lv_iload hx hb dP_turnPath_52 (lv_at hl 1 rfl) ?_
          obtain ⟨hi, hw⟩ := hw
          refine gist X K (o := 49) (t0 := 0) (by decide) kS_c49 rfl hi dP_turnPath_54 kS_p49 (fun H locs K => ?_)
          refine lv_iload hx hb dP_turnPath_55 (lv_at hl 0 rfl) ?_
          refine lv_istore_n (lv' := [(2, .int (a 48 (a 54 x2.toNatClampNeg).toNatClampNeg)), (5, .int (a 48 (a 54 x2.toNatClampNeg).toNatClampNeg)), (4, .int (a 54 x2.toNatClampNeg)), (0, .ref (ad 24)), (3, .int x3)]) hx hb dP_turnPath_57 rfl hl (by decide) rfl (fun ls hl => ?_)
          refine lv_iinc (v := (x3 + (1 : Int32))) (lv' := [(3, .int (x3 + (1 : Int32))), (2, .int (a 48 (a 54 x2.toNatClampNeg).toNatClampNeg)), (5, .int (a 48 (a 54 x2.toNatClampNeg).toNatClampNeg)), (4, .int (a 54 x2.toNatClampNeg)), (0, .ref (ad 24))]) hx hb dP_turnPath_58 hl (k := 4) rfl rfl (by decide) rfl (fun ls hl => ?_)
          refine lv_goto (tgt := 4) hx hb dP_turnPath_61 (by decide) ?_
          exact ih (a 48 (a 54 x2.toNatClampNeg).toNatClampNeg) (x3 + (1 : Int32)) f (va_up (va_up a 48 (upd (a 48) (a 54 x2.toNatClampNeg).toNatClampNeg x2)) 49 (upd ((va_up a 48 (upd (a 48) (a 54 x2.toNatClampNeg).toNatClampNeg x2)) 49) x2.toNatClampNeg (a 54 x2.toNatClampNeg))) b hw _ _ K _ (lv_sub hl [4, 1, 0] rfl)
        · replace hw := hw.2 hc
          exact endV X K hr hw (by decide) (by decide) dP_turnPath_29
set_option maxHeartbeats 4000000 in
set_option maxRecDepth 100000 in
theorem met_P_turnPath {l : Launch} (hl9 : l.stackTraces = false) (D : va_G) (ad : Nat → Nat) (ca : Nat → ClassId) (sa : Nat → Nat) (sz : Nat) (x1 : Int32) (f : wF) (a : wA) (b : wB) (po : wF → wA → wB → Prop) (hw : wp_P_turnPath po x1 f a b) : mV nS kS (tyS ca) txS D vwCl l yP_turnPath (Cond.code yP_turnPath cP_turnPath 6 none :: Wl) ({ frames := 0, cells := 0, slots := 0, locals := 0 }) [.ref (ad 24), .int x1] ad ca sa sz f a b po (fun _ _ _ _ => False) 0 0 := by
  refine ofV (by decide) hl9 (Nat.le_of_ble_eq_true rfl) ?_
  intro p e s m below meth c ls X hex hr K hl
  obtain ⟨hx, hb, hml, hown, hts, hK, hA, hth, hlk, hl9⟩ := id X
  have hl : lv_has ls 6 [(0, .ref (ad 24)), (1, .int x1)] := hl
  dsimp only [wp_P_turnPath] at hw
  refine lv_iload_n hx hb dP_turnPath_0 rfl (lv_at hl 1 rfl) ?_
  refine lv_istore_n (lv' := [(2, .int x1), (0, .ref (ad 24)), (1, .int x1)]) hx hb dP_turnPath_1 rfl hl (by decide) rfl (fun ls hl => ?_)
  refine lv_iconst (v := (0 : Int32)) hx hb dP_turnPath_2 (by decide) ?_
  refine lv_istore_n (lv' := [(3, .int (0 : Int32)), (2, .int x1), (0, .ref (ad 24)), (1, .int x1)]) hx hb dP_turnPath_3 rfl hl (by decide) rfl (fun ls hl => ?_)
  obtain ⟨n9, hw⟩ := hw
  exact LP_turnPath_4 X hex hr n9 x1 (0 : Int32) f a b hw _ _ K _ (lv_sub hl [2, 1, 0] rfl)
set_option maxHeartbeats 4000000 in
set_option maxRecDepth 100000 in
theorem LP_pair_58 {p : Program} {l : Launch} {e : Env} {s : State} {m : MethodId} {below : List Frame} {meth : Method} {c : Code} {D : va_G} {sa : Nat → Nat} {ad : Nat → Nat} {ca : Nat → ClassId} {A : Nat → Prop} {y1 : Int32} {y2 : Int32} {po : wF → wA → wB → Prop} (X : cx Wl (tyS ca) txS D vwCl sa A p l s m ([.ref (ad 24), .int y1, .int y2] : List Value).toArray meth c cP_pair 5 "SendBest$Pairing") (hex : ∀ x ∈ c.exceptionTable.toList, False) (hr : meth.sig.returnType = none) : ∀ (f : wF) (a : wA) (b : wB), wp_P_pair_58 po f a b → ∀ (H : Heap) (locs : List Loc), wd nS kS D vwCl ad ca A s H locs f a b → ∀ (ls : Array Slot), lv_has ls 5 [] → W p l e ({ frames := 4, cells := 0, slots := 0, locals := 100 }) s m ([.ref (ad 24), .int y1, .int y2] : List Value).toArray below meth c H locs 0 0 (vx_MQ below (va_Qv (fun (u : wF × wA × wB) => po u.1 u.2.1 u.2.2) (sPost nS kS D vwCl ad ca A) A) (sX nS kS D vwCl ad ca A (fun _ _ _ _ => False)) ([.ref (ad 24), .int y1, .int y2] : List Value).toArray s 0 0 A) (F0 m 58 ls []) := by
  obtain ⟨hx, hb, hml, hown, hts, hK, hA, hth, hlk, hl9⟩ := id X
  intro  f a b hw H locs K ls hl
  dsimp only [wp_P_pair_58] at hw
  exact endV X K hr hw (by decide) (by decide) dP_pair_58
set_option maxHeartbeats 4000000 in
set_option maxRecDepth 100000 in
theorem LP_pair_18 {p : Program} {l : Launch} {e : Env} {s : State} {m : MethodId} {below : List Frame} {meth : Method} {c : Code} {D : va_G} {sa : Nat → Nat} {ad : Nat → Nat} {ca : Nat → ClassId} {A : Nat → Prop} {y1 : Int32} {y2 : Int32} {po : wF → wA → wB → Prop} (X : cx Wl (tyS ca) txS D vwCl sa A p l s m ([.ref (ad 24), .int y1, .int y2] : List Value).toArray meth c cP_pair 5 "SendBest$Pairing") (hex : ∀ x ∈ c.exceptionTable.toList, False) (hr : meth.sig.returnType = none) : ∀ n : Nat, ∀ (x1 : Int32) (x2 : Int32) (x3 : Int32) (f : wF) (a : wA) (b : wB), wp_P_pair_18 po n x1 x2 x3 f a b → ∀ (H : Heap) (locs : List Loc), wd nS kS D vwCl ad ca A s H locs f a b → ∀ (ls : Array Slot), lv_has ls 5 [(0, .ref (ad 24)), (1, .int x1), (2, .int x2), (3, .int x3)] → W p l e ({ frames := 4, cells := 0, slots := 0, locals := 100 }) s m ([.ref (ad 24), .int y1, .int y2] : List Value).toArray below meth c H locs 0 0 (vx_MQ below (va_Qv (fun (u : wF × wA × wB) => po u.1 u.2.1 u.2.2) (sPost nS kS D vwCl ad ca A) A) (sX nS kS D vwCl ad ca A (fun _ _ _ _ => False)) ([.ref (ad 24), .int y1, .int y2] : List Value).toArray s 0 0 A) (F0 m 18 ls []) := by
  obtain ⟨hx, hb, hml, hown, hts, hK, hA, hth, hlk, hl9⟩ := id X
  intro n
  induction n with
  | zero => intro x1 x2 x3 f a b hw; exact hw.elim
  | succ n ih =>
    intro x1 x2 x3 f a b hw H locs K ls hl
    dsimp only [wp_P_pair_18] at hw
    refine lv_iload_n hx hb dP_pair_18 rfl (lv_at hl 3 rfl) ?_
    refine lv_iload_n hx hb dP_pair_19 rfl (lv_at hl 1 rfl) ?_
    refine lv_icmp_ge (tgt := 58) hx hb dP_pair_20 (by decide) (fun hc => ?_) (fun hc => ?_)
    · replace hw := hw.1 hc
      exact LP_pair_58 X hex hr f a b hw _ _ K _ (lv_sub hl [] rfl)
    · replace hw := hw.2 hc
      refine lv_iload_n hx hb dP_pair_23 rfl (lv_at hl 3 rfl) ?_
      refine lv_iload_n hx hb dP_pair_24 rfl (lv_at hl 2 rfl) ?_
      refine lv_icmp_ge (tgt := 58) hx hb dP_pair_25 (by decide) (fun hc => ?_) (fun hc => ?_)
      · replace hw := hw.1 hc
        exact LP_pair_58 X hex hr f a b hw _ _ K _ (lv_sub hl [] rfl)
      · replace hw := hw.2 hc
        refine lv_aload_n hx hb dP_pair_28 rfl (lv_at hl 0 rfl) ?_
        refine lv_iload_n hx hb dP_pair_29 rfl (lv_at hl 1 rfl) ?_
        refine gcV X K (n0 := 1) (As := [.int x1]) (rest := []) (hM := (met_P_findPaths hl9 D ad ca sa _ x1 f a b _ hw)) (o := 24) (ho := by decide) (hko := kS_o24) (hci := rfl) (hg := wl_good) (w1 := (tm2 (i := 186) rfl rfl)) (w2 := (tm2 (i := 188) rfl rfl)) (w3 := (tm0 (i := 16) rfl rfl)) (w4 := (tm1 (i := 2) rfl rfl)) (w5 := (tm2 (i := 189) rfl rfl)) (hd := ⟨rfl, by decide, by decide, by decide +kernel⟩) (hrc := rfl) (hrs := rfl) (hR := ⟨Nat.le_of_ble_eq_true rfl, Nat.le_of_ble_eq_true rfl⟩) (hn := rfl) (hsz := hl.1) (hst := rfl) (hW := Nat.le_of_ble_eq_true rfl) (hdg := dP_pair_30) (hf := ⟨Nat.le_of_ble_eq_true rfl, Nat.le_of_ble_eq_true rfl⟩) (fun _ _ _ _ _ _ _ _ hw => hw.elim) (fun f30 a30 b30 H locs hw K => ?_)
        refine lv_aload_n hx hb dP_pair_33 rfl (lv_at hl 0 rfl) ?_
        refine gcI X K (n0 := 0) (As := []) (rest := []) (hM := (met_P_cheapestEnd hl9 D ad ca sa _ f30 a30 b30 _ hw)) (o := 24) (ho := by decide) (hko := kS_o24) (hci := rfl) (hg := wl_good) (w1 := (tm2 (i := 201) rfl rfl)) (w2 := (tm2 (i := 203) rfl rfl)) (w3 := (tm0 (i := 19) rfl rfl)) (w4 := (tm1 (i := 2) rfl rfl)) (w5 := (tm2 (i := 204) rfl rfl)) (hd := ⟨rfl, by decide, by decide, by decide +kernel⟩) (hrc := rfl) (hrs := rfl) (hR := ⟨Nat.le_of_ble_eq_true rfl, Nat.le_of_ble_eq_true rfl⟩) (hn := rfl) (hsz := hl.1) (hst := rfl) (hW := Nat.le_of_ble_eq_true rfl) (hdg := dP_pair_34) (hf := ⟨Nat.le_of_ble_eq_true rfl, Nat.le_of_ble_eq_true rfl⟩) (fun _ _ _ _ _ _ _ _ hw => hw.elim) (fun r34 f34 a34 b34 H locs hw K => ?_)
        refine lv_istore (lv' := [(4, .int r34), (0, .ref (ad 24)), (1, .int x1), (2, .int x2), (3, .int x3)]) hx hb dP_pair_37 hl (by decide) rfl (fun ls hl => ?_)
        refine lv_iload hx hb dP_pair_39 (lv_at hl 0 rfl) ?_
        refine lv_iconst (v := (-1 : Int32)) hx hb dP_pair_41 (by decide) ?_
        refine lv_icmp_ne (tgt := 46) hx hb dP_pair_42 (by decide) (fun hc => ?_) (fun hc => ?_)
        · replace hw := hw.1 hc
          refine lv_aload_n hx hb dP_pair_46 rfl (lv_at hl 1 rfl) ?_
          refine lv_iload hx hb dP_pair_47 (lv_at hl 0 rfl) ?_
          refine gcV X K (n0 := 1) (As := [.int r34]) (rest := []) (hM := (met_P_turnPath hl9 D ad ca sa _ r34 f34 a34 b34 _ hw)) (o := 24) (ho := by decide) (hko := kS_o24) (hci := rfl) (hg := wl_good) (w1 := (tm2 (i := 205) rfl rfl)) (w2 := (tm2 (i := 207) rfl rfl)) (w3 := (tm0 (i := 20) rfl rfl)) (w4 := (tm1 (i := 2) rfl rfl)) (w5 := (tm2 (i := 208) rfl rfl)) (hd := ⟨rfl, by decide, by decide, by decide +kernel⟩) (hrc := rfl) (hrs := rfl) (hR := ⟨Nat.le_of_ble_eq_true rfl, Nat.le_of_ble_eq_true rfl⟩) (hn := rfl) (hsz := hl.1) (hst := rfl) (hW := Nat.le_of_ble_eq_true rfl) (hdg := dP_pair_49) (hf := ⟨Nat.le_of_ble_eq_true rfl, Nat.le_of_ble_eq_true rfl⟩) (fun _ _ _ _ _ _ _ _ hw => hw.elim) (fun f49 a49 b49 H locs hw K => ?_)
          refine lv_iinc (v := (x3 + (1 : Int32))) (lv' := [(3, .int (x3 + (1 : Int32))), (4, .int r34), (0, .ref (ad 24)), (1, .int x1), (2, .int x2)]) hx hb dP_pair_52 hl (k := 4) rfl rfl (by decide) rfl (fun ls hl => ?_)
          refine lv_goto (tgt := 18) hx hb dP_pair_55 (by decide) ?_
          exact ih x1 x2 (x3 + (1 : Int32)) f49 a49 b49 hw _ _ K _ (lv_sub hl [2, 3, 4, 0] rfl)
        · replace hw := hw.2 hc
          exact endV X K hr hw (by decide) (by decide) dP_pair_45
set_option maxHeartbeats 4000000 in
set_option maxRecDepth 100000 in
theorem met_P_pair {l : Launch} (hl9 : l.stackTraces = false) (D : va_G) (ad : Nat → Nat) (ca : Nat → ClassId) (sa : Nat → Nat) (sz : Nat) (x1 : Int32) (x2 : Int32) (f : wF) (a : wA) (b : wB) (po : wF → wA → wB → Prop) (hw : wp_P_pair po x1 x2 f a b) : mV nS kS (tyS ca) txS D vwCl l yP_pair (Cond.code yP_pair cP_pair 5 none :: Wl) ({ frames := 4, cells := 0, slots := 0, locals := 100 }) [.ref (ad 24), .int x1, .int x2] ad ca sa sz f a b po (fun _ _ _ _ => False) 0 0 := by
  refine ofV (by decide) hl9 (Nat.le_of_ble_eq_true rfl) ?_
  intro p e s m below meth c ls X hex hr K hl
  obtain ⟨hx, hb, hml, hown, hts, hK, hA, hth, hlk, hl9⟩ := id X
  have hl : lv_has ls 5 [(0, .ref (ad 24)), (1, .int x1), (2, .int x2)] := hl
  dsimp only [wp_P_pair] at hw
  refine lv_aload_n hx hb dP_pair_0 rfl (lv_at hl 0 rfl) ?_
  refine gGet X K (o := 24) (k := 5) (v := .ref (ad 48)) (by decide) kS_o24 rfl inS_o24 (by decide) (tm1 (i := 38) rfl rfl) rfl dP_pair_1 ?_
  refine lv_iconst (v := (-1 : Int32)) hx hb dP_pair_4 (by decide) ?_
  refine gfilli X K (o := 48) (t0 := 0) (by decide) kS_c48 rfl (by decide) (tm2 (i := 185) rfl rfl) hl.1 (Nat.le_of_ble_eq_true rfl) dP_pair_5 ⟨Nat.le_of_ble_eq_true rfl, Nat.le_of_ble_eq_true rfl⟩ ⟨Nat.le_of_ble_eq_true rfl, Nat.le_of_ble_eq_true rfl⟩ kS_p48 (fun H locs K => ?_)
  refine lv_aload_n hx hb dP_pair_8 rfl (lv_at hl 0 rfl) ?_
  refine gGet X K (o := 24) (k := 6) (v := .ref (ad 49)) (by decide) kS_o24 rfl inS_o24 (by decide) (tm1 (i := 39) rfl rfl) rfl dP_pair_9 ?_
  refine lv_iconst (v := (-1 : Int32)) hx hb dP_pair_12 (by decide) ?_
  refine gfilli X K (o := 49) (t0 := 0) (by decide) kS_c49 rfl (by decide) (tm2 (i := 185) rfl rfl) hl.1 (Nat.le_of_ble_eq_true rfl) dP_pair_13 ⟨Nat.le_of_ble_eq_true rfl, Nat.le_of_ble_eq_true rfl⟩ ⟨Nat.le_of_ble_eq_true rfl, Nat.le_of_ble_eq_true rfl⟩ kS_p49 (fun H locs K => ?_)
  refine lv_iconst (v := (0 : Int32)) hx hb dP_pair_16 (by decide) ?_
  refine lv_istore_n (lv' := [(3, .int (0 : Int32)), (0, .ref (ad 24)), (1, .int x1), (2, .int x2)]) hx hb dP_pair_17 rfl hl (by decide) rfl (fun ls hl => ?_)
  obtain ⟨n9, hw⟩ := hw
  exact LP_pair_18 X hex hr n9 x1 x2 (0 : Int32) f (va_up (va_up a 48 (fun _ => (-1 : Int32))) 49 (fun _ => (-1 : Int32))) b hw _ _ K _ (lv_sub hl [1, 2, 3, 0] rfl)
