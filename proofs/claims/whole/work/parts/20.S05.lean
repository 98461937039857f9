set_option maxHeartbeats 4000000 in
set_option maxRecDepth 100000 in
theorem LS_never_52 {p : Program} {l : Launch} {e : Env} {s : State} {m : MethodId} {below : List Frame} {meth : Method} {c : Code} {D : va_G} {sa : Nat → Nat} {ad : Nat → Nat} {ca : Nat → ClassId} {sz : Nat} {f0 : wF} {a0 : wA} {b0 : wB} {y1 : Int32} {po : Int32 → wF → wA → wB → Prop} {px : String → wF → wA → wB → Prop} (X : cx Wl (tyS ca) txS D vwCl sa (va_A (ww nS kS ad ca f0 a0 b0) sz) p l s m ([.ref (ad 0), .int y1] : List Value).toArray meth c cS_never 4 "SendBest") (hex : ∀ x ∈ c.exceptionTable.toList, False) (hr : meth.sig.returnType = (some .int)) (J18 : Int32 → Int32 → Int32 → wF → wA → wB → Prop) (hJ18 : ∀ (x1 : Int32) (x2 : Int32) (x3 : Int32) (f : wF) (a : wA) (b : wB), J18 x1 x2 x3 f a b → ∀ (H : Heap) (locs : List Loc), wd nS kS D vwCl ad ca (va_A (ww nS kS ad ca f0 a0 b0) sz) s H locs f a b → ∀ (ls : Array Slot), lv_has ls 4 [(0, .ref (ad 0)), (1, .int x1), (2, .int x2), (3, .int x3)] → W p l e ({ frames := 6, cells := 1, slots := 6, locals := 82 }) s m ([.ref (ad 0), .int y1] : List Value).toArray below meth c H locs 0 0 (vx_MQ below (va_Qi (fun r (u : wF × wA × wB) => po r u.1 u.2.1 u.2.2) (sPost nS kS D vwCl ad ca (va_A (ww nS kS ad ca f0 a0 b0) sz)) (va_A (ww nS kS ad ca f0 a0 b0) sz)) (sX nS kS D vwCl ad ca (va_A (ww nS kS ad ca f0 a0 b0) sz) px) ([.ref (ad 0), .int y1] : List Value).toArray s 1 6 (va_A (ww nS kS ad ca f0 a0 b0) sz)) (F0 m 18 ls [])) : ∀ (x1 : Int32) (x2 : Int32) (x3 : Int32) (f : wF) (a : wA) (b : wB), wp_S_never_52 po px J18 x1 x2 x3 f a b → ∀ (H : Heap) (locs : List Loc), wd nS kS D vwCl ad ca (va_A (ww nS kS ad ca f0 a0 b0) sz) s H locs f a b → ∀ (ls : Array Slot), lv_has ls 4 [(0, .ref (ad 0)), (1, .int x1), (2, .int x2), (3, .int x3)] → W p l e ({ frames := 6, cells := 1, slots := 6, locals := 82 }) s m ([.ref (ad 0), .int y1] : List Value).toArray below meth c H locs 0 0 (vx_MQ below (va_Qi (fun r (u : wF × wA × wB) => po r u.1 u.2.1 u.2.2) (sPost nS kS D vwCl ad ca (va_A (ww nS kS ad ca f0 a0 b0) sz)) (va_A (ww nS kS ad ca f0 a0 b0) sz)) (sX nS kS D vwCl ad ca (va_A (ww nS kS ad ca f0 a0 b0) sz) px) ([.ref (ad 0), .int y1] : List Value).toArray s 1 6 (va_A (ww nS kS ad ca f0 a0 b0) sz)) (F0 m 52 ls []) := by
  obtain ⟨hx, hb, hml, hown, hts, hK, hA, hth, hlk, hl9⟩ := id X
  intro x1 x2 x3 f a b hw H locs K ls hl
  dsimp only [wp_S_never_52] at hw
  refine lv_iinc (v := (x3 + (1 : Int32))) (lv' := [(3, .int (x3 + (1 : Int32))), (0, .ref (ad 0)), (1, .int x1), (2, .int x2)]) hx hb dS_never_52 hl (k := 3) rfl rfl (by decide) rfl (fun ls hl => ?_)
  refine lv_goto (tgt := 18) hx hb dS_never_55 (by decide) ?_
  exact hJ18 x1 x2 (x3 + (1 : Int32)) f a b hw _ _ K _ (lv_sub hl [1, 2, 3, 0] rfl)
set_option maxHeartbeats 4000000 in
set_option maxRecDepth 100000 in
theorem LS_never_18 {p : Program} {l : Launch} {e : Env} {s : State} {m : MethodId} {below : List Frame} {meth : Method} {c : Code} {D : va_G} {sa : Nat → Nat} {ad : Nat → Nat} {ca : Nat → ClassId} {sz : Nat} {f0 : wF} {a0 : wA} {b0 : wB} {y1 : Int32} {po : Int32 → wF → wA → wB → Prop} {px : String → wF → wA → wB → Prop} (X : cx Wl (tyS ca) txS D vwCl sa (va_A (ww nS kS ad ca f0 a0 b0) sz) p l s m ([.ref (ad 0), .int y1] : List Value).toArray meth c cS_never 4 "SendBest") (hex : ∀ x ∈ c.exceptionTable.toList, False) (hr : meth.sig.returnType = (some .int)) : ∀ n : Nat, ∀ (x1 : Int32) (x2 : Int32) (x3 : Int32) (f : wF) (a : wA) (b : wB), wp_S_never_18 po px n x1 x2 x3 f a b → ∀ (H : Heap) (locs : List Loc), wd nS kS D vwCl ad ca (va_A (ww nS kS ad ca f0 a0 b0) sz) s H locs f a b → ∀ (ls : Array Slot), lv_has ls 4 [(0, .ref (ad 0)), (1, .int x1), (2, .int x2), (3, .int x3)] → W p l e ({ frames := 6, cells := 1, slots := 6, locals := 82 }) s m ([.ref (ad 0), .int y1] : List Value).toArray below meth c H locs 0 0 (vx_MQ below (va_Qi (fun r (u : wF × wA × wB) => po r u.1 u.2.1 u.2.2) (sPost nS kS D vwCl ad ca (va_A (ww nS kS ad ca f0 a0 b0) sz)) (va_A (ww nS kS ad ca f0 a0 b0) sz)) (sX nS kS D vwCl ad ca (va_A (ww nS kS ad ca f0 a0 b0) sz) px) ([.ref (ad 0), .int y1] : List Value).toArray s 1 6 (va_A (ww nS kS ad ca f0 a0 b0) sz)) (F0 m 18 ls []) := by
  obtain ⟨hx, hb, hml, hown, hts, hK, hA, hth, hlk, hl9⟩ := id X
  intro n
  induction n with
  | zero => intro x1 x2 x3 f a b hw; exact hw.elim
  | succ n ih =>
    intro x1 x2 x3 f a b hw H locs K ls hl
    dsimp only [wp_S_never_18] at hw
    refine lv_iload_n hx hb dS_never_18 rfl (lv_at hl 3 rfl) ?_
    refine lv_aload_n hx hb dS_never_19 rfl (lv_at hl 0 rfl) ?_
    refine gGet X K (o := 0) (k := 9) (v := .int (f 2)) (by decide) kS_o0 rfl inS_o0 (by decide) (tm1 (i := 91) rfl rfl) rfl dS_never_20 ?_
    refine lv_icmp_ge (tgt := 58) hx hb dS_never_23 (by decide) (fun hc => ?_) (fun hc => ?_)
    · replace hw := hw.1 hc
      refine lv_iconst (v := (-1 : Int32)) hx hb dS_never_58 (by decide) ?_
      exact endI X K hr rfl hw (by decide) (by decide) dS_never_59
    · replace hw := hw.2 hc
      refine lv_aload_n hx hb dS_never_26 rfl (lv_at hl 0 rfl) ?_
      refine lv_iload_n hx hb dS_never_27 rfl (lv_at hl 3 rfl) ?_
      refine gcI X K (n0 := 1) (As := [.int x3]) (rest := []) (hM := (met_S_isOpenNeed hl9 D ad ca sa _ x3 f a b _ hw)) (o := 0) (ho := by decide) (hko := kS_o0) (hci := rfl) (hg := wl_good) (w1 := (tm2 (i := 132) rfl rfl)) (w2 := (tm2 (i := 134) rfl rfl)) (w3 := (tm0 (i := 7) rfl rfl)) (w4 := (tm1 (i := 1) rfl rfl)) (w5 := (tm2 (i := 135) rfl rfl)) (hd := ⟨rfl, by decide, by decide, by decide +kernel⟩) (hrc := rfl) (hrs := rfl) (hR := ⟨Nat.le_of_ble_eq_true rfl, Nat.le_of_ble_eq_true rfl⟩) (hn := rfl) (hsz := hl.1) (hst := rfl) (hW := Nat.le_of_ble_eq_true rfl) (hdg := dS_never_28) (hf := ⟨Nat.le_of_ble_eq_true rfl, Nat.le_of_ble_eq_true rfl⟩) (fun _ _ _ _ _ _ _ _ hw => hw.elim) (fun r28 f28 a28 b28 H locs hw K => ?_)
      refine lv_if_eq (tgt := 52) hx hb dS_never_31 (by decide) (fun hc => ?_) (fun hc => ?_)
      · replace hw := hw.1 hc
        exact LS_never_52 X hex hr (wp_S_never_18 po px n) ih x1 x2 x3 f28 a28 b28 hw _ _ K _ (lv_sub hl [0, 1, 2, 3] rfl)
      · replace hw := hw.2 hc
        refine lv_aload_n hx hb dS_never_34 rfl (lv_at hl 0 rfl) ?_
        refine lv_iload_n hx hb dS_never_35 rfl (lv_at hl 3 rfl) ?_
        refine gcI X K (n0 := 1) (As := [.int x3]) (rest := []) (hM := (met_S_anyCanFill hl9 D ad ca sa _ x3 f28 a28 b28 _ hw)) (o := 0) (ho := by decide) (hko := kS_o0) (hci := rfl) (hg := wl_good) (w1 := (tm3 (i := 92) rfl rfl)) (w2 := (tm3 (i := 94) rfl rfl)) (w3 := (tm0 (i := 29) rfl rfl)) (w4 := (tm1 (i := 1) rfl rfl)) (w5 := (tm3 (i := 95) rfl rfl)) (hd := ⟨rfl, by decide, by decide, by decide +kernel⟩) (hrc := rfl) (hrs := rfl) (hR := ⟨Nat.le_of_ble_eq_true rfl, Nat.le_of_ble_eq_true rfl⟩) (hn := rfl) (hsz := hl.1) (hst := rfl) (hW := Nat.le_of_ble_eq_true rfl) (hdg := dS_never_36) (hf := ⟨Nat.le_of_ble_eq_true rfl, Nat.le_of_ble_eq_true rfl⟩) (fun _ _ _ _ _ _ _ _ hw => hw.elim) (fun r36 f36 a36 b36 H locs hw K => ?_)
        refine lv_if_ne (tgt := 52) hx hb dS_never_39 (by decide) (fun hc => ?_) (fun hc => ?_)
        · replace hw := hw.1 hc
          exact LS_never_52 X hex hr (wp_S_never_18 po px n) ih x1 x2 x3 f36 a36 b36 hw _ _ K _ (lv_sub hl [0, 1, 2, 3] rfl)
        · replace hw := hw.2 hc
          refine lv_iload_n hx hb dS_never_42 rfl (lv_at hl 2 rfl) ?_
          refine lv_iload_n hx hb dS_never_43 rfl (lv_at hl 1 rfl) ?_
          refine lv_icmp_ne (tgt := 49) hx hb dS_never_44 (by decide) (fun hc => ?_) (fun hc => ?_)
          · replace hw := hw.1 hc
            refine lv_iinc (v := (x2 + (1 : Int32))) (lv' := [(2, .int (x2 + (1 : Int32))), (0, .ref (ad 0)), (1, .int x1), (3, .int x3)]) hx hb dS_never_49 hl (k := 2) rfl rfl (by decide) rfl (fun ls hl => ?_)
            exact LS_never_52 X hex hr (wp_S_never_18 po px n) ih x1 (x2 + (1 : Int32)) x3 f36 a36 b36 hw _ _ K _ (lv_sub hl [1, 2, 0, 3] rfl)
          · replace hw := hw.2 hc
            refine lv_iload_n hx hb dS_never_47 rfl (lv_at hl 3 rfl) ?_
            exact endI X K hr rfl hw (by decide) (by decide) dS_never_48
set_option maxHeartbeats 4000000 in
set_option maxRecDepth 100000 in
theorem met_S_never {l : Launch} (hl9 : l.stackTraces = false) (D : va_G) (ad : Nat → Nat) (ca : Nat → ClassId) (sa : Nat → Nat) (sz : Nat) (x1 : Int32) (f : wF) (a : wA) (b : wB) (po : Int32 → wF → wA → wB → Prop) (px : String → wF → wA → wB → Prop) (hw : wp_S_never po px x1 f a b) : mI nS kS (tyS ca) txS D vwCl l yS_never (Cond.code yS_never cS_never 4 (some .int) :: Wl) ({ frames := 6, cells := 1, slots := 6, locals := 82 }) [.ref (ad 0), .int x1] ad ca sa sz f a b po px 1 6 := by
  refine ofI (by decide) hl9 (Nat.le_of_ble_eq_true rfl) ?_
  intro p e s m below meth c ls X hex hr K hl
  obtain ⟨hx, hb, hml, hown, hts, hK, hA, hth, hlk, hl9⟩ := id X
  have hl : lv_has ls 4 [(0, .ref (ad 0)), (1, .int x1)] := hl
  dsimp only [wp_S_never] at hw
  refine lv_iload_n hx hb dS_never_0 rfl (lv_at hl 1 rfl) ?_
  refine lv_if_ge (tgt := 14) hx hb dS_never_1 (by decide) (fun hc => ?_) (fun hc => ?_)
  · replace hw := hw.1 hc
    refine lv_iconst (v := (0 : Int32)) hx hb dS_never_14 (by decide) ?_
    refine lv_istore_n (lv' := [(2, .int (0 : Int32)), (0, .ref (ad 0)), (1, .int x1)]) hx hb dS_never_15 rfl hl (by decide) rfl (fun ls hl => ?_)
    refine lv_iconst (v := (0 : Int32)) hx hb dS_never_16 (by decide) ?_
    refine lv_istore_n (lv' := [(3, .int (0 : Int32)), (2, .int (0 : Int32)), (0, .ref (ad 0)), (1, .int x1)]) hx hb dS_never_17 rfl hl (by decide) rfl (fun ls hl => ?_)
    obtain ⟨n9, hw⟩ := hw
    exact LS_never_18 X hex hr n9 x1 (0 : Int32) (0 : Int32) f a b hw _ _ K _ (lv_sub hl [2, 3, 1, 0] rfl)
  · replace hw := hw.2 hc
    exact throwX X hex K (k := 19) (names := ["java/lang/RuntimeException", "java/lang/Exception"]) hw (by decide +kernel) (by decide +kernel) rfl (tm1 (i := 144) rfl rfl) (tm1 (i := 8) rfl rfl) xg_S_71 xb_S_71 xo_S_71_67 hl.1 dS_never_4 dS_never_7 dS_never_8 dS_never_10 dS_never_13 (by decide) (by decide) (by decide) (by decide) (by decide) (by decide)
