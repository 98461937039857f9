set_option maxHeartbeats 4000000 in
set_option maxRecDepth 100000 in
theorem LS_unit_10 {p : Program} {l : Launch} {e : Env} {s : State} {m : MethodId} {below : List Frame} {meth : Method} {c : Code} {D : va_G} {sa : Nat → Nat} {ad : Nat → Nat} {ca : Nat → ClassId} {sz : Nat} {f0 : wF} {a0 : wA} {b0 : wB} {y1 : Int32} {po : Int32 → wF → wA → wB → Prop} {px : String → wF → wA → wB → Prop} (X : cx Wl (tyS ca) txS D vwCl sa (va_A (ww nS kS ad ca f0 a0 b0) sz) p l s m ([.ref (ad 0), .int y1] : List Value).toArray meth c cS_unit 2 "SendBest") (hr : meth.sig.returnType = (some .int)) : ∀ (f : wF) (a : wA) (b : wB), wp_S_unit_10 po px f a b → ∀ (H : Heap) (locs : List Loc), wd nS kS D vwCl ad ca (va_A (ww nS kS ad ca f0 a0 b0) sz) s H locs f a b → ∀ (ls : Array Slot), lv_has ls 2 [] → W p l e ({ frames := 6, cells := 1, slots := 6, locals := 82 }) s m ([.ref (ad 0), .int y1] : List Value).toArray below meth c H locs 0 0 (vx_MQ below (va_Qi (fun r (u : wF × wA × wB) => po r u.1 u.2.1 u.2.2) (sPost nS kS D vwCl ad ca (va_A (ww nS kS ad ca f0 a0 b0) sz)) (va_A (ww nS kS ad ca f0 a0 b0) sz)) (sX nS kS D vwCl ad ca (va_A (ww nS kS ad ca f0 a0 b0) sz) px) ([.ref (ad 0), .int y1] : List Value).toArray s 1 6 (va_A (ww nS kS ad ca f0 a0 b0) sz)) (F0 m 10 ls []) := by
  obtain ⟨hx, hb, hml, hown, hts, hK, hA, hth, hlk, hl9, hex⟩ := id X
  intro  f a b hw H locs K ls hl
  dsimp only [wp_S_unit_10] at hw
  exact throwX X K (k := 0) (names := ["java/lang/RuntimeException", "java/lang/Exception"]) hw (by decide +kernel) (by decide +kernel) rfl (tm1 (i := 144) rfl rfl) (tm1 (i := 8) rfl rfl) xg_S_71 xb_S_71 xo_S_71_67 hl.1 dS_unit_10 dS_unit_13 dS_unit_14 dS_unit_16 dS_unit_19 (by decide) (by decide) (by decide) (by decide) (by decide) (by decide)
set_option maxHeartbeats 4000000 in
set_option maxRecDepth 100000 in
theorem met_S_unit {l : Launch} (hl9 : l.stackTraces = false) (D : va_G) (ad : Nat → Nat) (ca : Nat → ClassId) (sa : Nat → Nat) (sz : Nat) (x1 : Int32) (f : wF) (a : wA) (b : wB) (po : Int32 → wF → wA → wB → Prop) (px : String → wF → wA → wB → Prop) (hw : wp_S_unit po px x1 f a b) : mI nS kS (tyS ca) txS D vwCl l yS_unit (Cond.code yS_unit cS_unit 2 (some .int) :: Wl) ({ frames := 6, cells := 1, slots := 6, locals := 82 }) [.ref (ad 0), .int x1] ad ca sa sz f a b po px 1 6 := by
  refine ofI (by decide) hl9 (Nat.le_of_ble_eq_true rfl) ?_
  intro p e s m below meth c ls X hr K hl
  obtain ⟨hx, hb, hml, hown, hts, hK, hA, hth, hlk, hl9, hex⟩ := id X
  have hl : lv_has ls 2 [(0, .ref (ad 0)), (1, .int x1)] := hl
  dsimp only [wp_S_unit] at hw
  refine lv_iload_n hx hb dS_unit_0 rfl (lv_at hl 1 rfl) ?_
  refine lv_if_lt (tgt := 10) hx hb dS_unit_1 (by decide) (fun hc => ?_) (fun hc => ?_)
  · replace hw := hw.1 hc
    exact LS_unit_10 X hr f a b hw _ _ K _ (lv_sub hl [] rfl)
  · replace hw := hw.2 hc
    refine lv_iload_n hx hb dS_unit_4 rfl (lv_at hl 1 rfl) ?_
    refine lv_ldc (v := (65536 : Int32)) hx hb hown (hts _ (tm1 (i := 143) rfl rfl)) dS_unit_5 ?_
    refine lv_icmp_lt (tgt := 20) hx hb dS_unit_7 (by decide) (fun hc => ?_) (fun hc => ?_)
    · replace hw := hw.1 hc
      refine lv_aload_n hx hb dS_unit_20 rfl (lv_at hl 0 rfl) ?_
      refine gGet X K (o := 0) (k := 0) (v := .int (f 0)) (by decide) kS_o0 rfl inS_o0 (by decide) (tm1 (i := 82) rfl rfl) rfl dS_unit_21 ?_
      refine lv_bipush (v := (12 : Int32)) hx hb dS_unit_24 (by decide) ?_
      refine lv_icmp_lt (tgt := 39) hx hb dS_unit_26 (by decide) (fun hc => ?_) (fun hc => ?_)
      · replace hw := hw.1 hc
        refine lv_aload_n hx hb dS_unit_39 rfl (lv_at hl 0 rfl) ?_
        refine gGet X K (o := 0) (k := 1) (v := .ref (ad 2)) (by decide) kS_o0 rfl inS_o0 (by decide) (tm1 (i := 83) rfl rfl) rfl dS_unit_40 ?_
        refine lv_aload_n hx hb dS_unit_43 rfl (lv_at hl 0 rfl) ?_
        refine gGet X K (o := 0) (k := 0) (v := .int (f 0)) (by decide) kS_o0 rfl inS_o0 (by decide) (tm1 (i := 82) rfl rfl) rfl dS_unit_44 ?_
        refine lv_iload_n hx hb dS_unit_47 rfl (lv_at hl 1 rfl) ?_
        obtain ⟨hi, hw⟩ := hw
        refine gist X K (o := 2) (t0 := 0) (by decide) kS_c2 rfl hi dS_unit_48 kS_p2 (fun H locs K => ?_)
        refine lv_aload_n hx hb dS_unit_49 rfl (lv_at hl 0 rfl) ?_
        refine lv_dup hx hb dS_unit_50 rfl ?_
        refine gGet X K (o := 0) (k := 0) (v := .int (f 0)) (by decide) kS_o0 rfl inS_o0 (by decide) (tm1 (i := 82) rfl rfl) rfl dS_unit_51 ?_
        refine lv_iconst (v := (1 : Int32)) hx hb dS_unit_54 (by decide) ?_
        refine lv_iadd hx hb dS_unit_55 ?_
        refine gPut X K (o := 0) (k := 0) (v := .int ((f 0) + (1 : Int32))) (ty := .int) tS_o0 tS_o0_ok nS_o0 (by decide) kS_o0 rfl inS_o0 (by decide) (tm1 (i := 82) rfl rfl) rfl rfl rfl rfl (by simp [flS_o0]) dS_unit_56 kS_u0_0 (fun H locs K => ?_)
        refine lv_aload_n hx hb dS_unit_59 rfl (lv_at hl 0 rfl) ?_
        refine gGet X K (o := 0) (k := 0) (v := .int ((va_up f 0 ((f 0) + (1 : Int32))) 0)) (by decide) kS_o0 rfl inS_o0 (by decide) (tm1 (i := 82) rfl rfl) rfl dS_unit_60 ?_
        refine lv_iconst (v := (1 : Int32)) hx hb dS_unit_63 (by decide) ?_
        refine lv_isub hx hb dS_unit_64 ?_
        exact endI X K hr rfl hw (by decide) (by decide) dS_unit_65
      · replace hw := hw.2 hc
        exact throwX X K (k := 1) (names := ["java/lang/RuntimeException", "java/lang/Exception"]) hw (by decide +kernel) (by decide +kernel) rfl (tm1 (i := 213) rfl rfl) (tm1 (i := 9) rfl rfl) xg_S_81 xb_S_81 xo_S_81_77 hl.1 dS_unit_29 dS_unit_32 dS_unit_33 dS_unit_35 dS_unit_38 (by decide) (by decide) (by decide) (by decide) (by decide) (by decide)
    · replace hw := hw.2 hc
      exact LS_unit_10 X hr f a b hw _ _ K _ (lv_sub hl [] rfl)
set_option maxHeartbeats 4000000 in
set_option maxRecDepth 100000 in
theorem LS_checkRank_11 {p : Program} {l : Launch} {e : Env} {s : State} {m : MethodId} {below : List Frame} {meth : Method} {c : Code} {D : va_G} {sa : Nat → Nat} {ad : Nat → Nat} {ca : Nat → ClassId} {sz : Nat} {f0 : wF} {a0 : wA} {b0 : wB} {y0 : Int32} {po : wF → wA → wB → Prop} {px : String → wF → wA → wB → Prop} (X : cx Wl (tyS ca) txS D vwCl sa (va_A (ww nS kS ad ca f0 a0 b0) sz) p l s m ([.int y0] : List Value).toArray meth c cS_checkRank 1 "SendBest") (hr : meth.sig.returnType = none) : ∀ (f : wF) (a : wA) (b : wB), wp_S_checkRank_11 po px f a b → ∀ (H : Heap) (locs : List Loc), wd nS kS D vwCl ad ca (va_A (ww nS kS ad ca f0 a0 b0) sz) s H locs f a b → ∀ (ls : Array Slot), lv_has ls 1 [] → W p l e ({ frames := 6, cells := 1, slots := 6, locals := 82 }) s m ([.int y0] : List Value).toArray below meth c H locs 0 0 (vx_MQ below (va_Qv (fun (u : wF × wA × wB) => po u.1 u.2.1 u.2.2) (sPost nS kS D vwCl ad ca (va_A (ww nS kS ad ca f0 a0 b0) sz)) (va_A (ww nS kS ad ca f0 a0 b0) sz)) (sX nS kS D vwCl ad ca (va_A (ww nS kS ad ca f0 a0 b0) sz) px) ([.int y0] : List Value).toArray s 1 6 (va_A (ww nS kS ad ca f0 a0 b0) sz)) (F0 m 11 ls []) := by
  obtain ⟨hx, hb, hml, hown, hts, hK, hA, hth, hlk, hl9, hex⟩ := id X
  intro  f a b hw H locs K ls hl
  dsimp only [wp_S_checkRank_11] at hw
  exact throwX X K (k := 2) (names := ["java/lang/RuntimeException", "java/lang/Exception"]) hw (by decide +kernel) (by decide +kernel) rfl (tm1 (i := 144) rfl rfl) (tm1 (i := 8) rfl rfl) xg_S_71 xb_S_71 xo_S_71_67 hl.1 dS_checkRank_11 dS_checkRank_14 dS_checkRank_15 dS_checkRank_17 dS_checkRank_20 (by decide) (by decide) (by decide) (by decide) (by decide) (by decide)
set_option maxHeartbeats 4000000 in
set_option maxRecDepth 100000 in
theorem met_S_checkRank {l : Launch} (hl9 : l.stackTraces = false) (D : va_G) (ad : Nat → Nat) (ca : Nat → ClassId) (sa : Nat → Nat) (sz : Nat) (x0 : Int32) (f : wF) (a : wA) (b : wB) (po : wF → wA → wB → Prop) (px : String → wF → wA → wB → Prop) (hw : wp_S_checkRank po px x0 f a b) : mV nS kS (tyS ca) txS D vwCl l yS_checkRank (Cond.code yS_checkRank cS_checkRank 1 none :: Wl) ({ frames := 6, cells := 1, slots := 6, locals := 82 }) [.int x0] ad ca sa sz f a b po px 1 6 := by
  refine ofV (by decide) hl9 (Nat.le_of_ble_eq_true rfl) ?_
  intro p e s m below meth c ls X hr K hl
  obtain ⟨hx, hb, hml, hown, hts, hK, hA, hth, hlk, hl9, hex⟩ := id X
  have hl : lv_has ls 1 [(0, .int x0)] := hl
  dsimp only [wp_S_checkRank] at hw
  refine lv_iload_n hx hb dS_checkRank_0 rfl (lv_at hl 0 rfl) ?_
  refine lv_iconst (v := (1 : Int32)) hx hb dS_checkRank_1 (by decide) ?_
  refine lv_icmp_lt (tgt := 11) hx hb dS_checkRank_2 (by decide) (fun hc => ?_) (fun hc => ?_)
  · replace hw := hw.1 hc
    exact LS_checkRank_11 X hr f a b hw _ _ K _ (lv_sub hl [] rfl)
  · replace hw := hw.2 hc
    refine lv_iload_n hx hb dS_checkRank_5 rfl (lv_at hl 0 rfl) ?_
    refine lv_bipush (v := (9 : Int32)) hx hb dS_checkRank_6 (by decide) ?_
    refine lv_icmp_le (tgt := 21) hx hb dS_checkRank_8 (by decide) (fun hc => ?_) (fun hc => ?_)
    · replace hw := hw.1 hc
      exact endV X K hr hw (by decide) (by decide) dS_checkRank_21
    · replace hw := hw.2 hc
      exact LS_checkRank_11 X hr f a b hw _ _ K _ (lv_sub hl [] rfl)
set_option maxHeartbeats 4000000 in
set_option maxRecDepth 100000 in
theorem met_S_incident {l : Launch} (hl9 : l.stackTraces = false) (D : va_G) (ad : Nat → Nat) (ca : Nat → ClassId) (sa : Nat → Nat) (sz : Nat) (x1 : Int32) (f : wF) (a : wA) (b : wB) (po : Int32 → wF → wA → wB → Prop) (px : String → wF → wA → wB → Prop) (hw : wp_S_incident po px x1 f a b) : mI nS kS (tyS ca) txS D vwCl l yS_incident (Cond.code yS_incident cS_incident 2 (some .int) :: Wl) ({ frames := 7, cells := 2, slots := 12, locals := 102 }) [.ref (ad 0), .int x1] ad ca sa sz f a b po px 2 12 := by
  refine ofI (by decide) hl9 (Nat.le_of_ble_eq_true rfl) ?_
  intro p e s m below meth c ls X hr K hl
  obtain ⟨hx, hb, hml, hown, hts, hK, hA, hth, hlk, hl9, hex⟩ := id X
  have hl : lv_has ls 2 [(0, .ref (ad 0)), (1, .int x1)] := hl
  dsimp only [wp_S_incident] at hw
  refine lv_iload_n hx hb dS_incident_0 rfl (lv_at hl 1 rfl) ?_
  refine gcSV X K (n0 := 1) (As := [.int x1]) (rest := []) (hM := (met_S_checkRank hl9 D ad ca sa _ x1 f a b _ _ hw)) (hg := wl_good) (w1 := (tm1 (i := 236) rfl rfl)) (w2 := (tm1 (i := 237) rfl rfl)) (w4 := (tm1 (i := 1) rfl rfl)) (w5 := (tm1 (i := 238) rfl rfl)) (hd := ⟨by decide, by decide, by decide +kernel⟩) (hrc := rfl) (hrs := rfl) (hR := ⟨Nat.le_of_ble_eq_true rfl, Nat.le_of_ble_eq_true rfl⟩) (hn := rfl) (hsz := hl.1) (hst := rfl) (hW := Nat.le_of_ble_eq_true rfl) (hdg := dS_incident_1) (hf := ⟨Nat.le_of_ble_eq_true rfl, Nat.le_of_ble_eq_true rfl⟩) (fun E ce q9 f1 a1 b1 H1 locs1 hw K hce hv hcl => outX X K hw hce hv hcl (by decide) (by decide)) (fun f1 a1 b1 H locs hw K => ?_)
  refine lv_aload_n hx hb dS_incident_4 rfl (lv_at hl 0 rfl) ?_
  refine gGet X K (o := 0) (k := 6) (v := .int (f1 1)) (by decide) kS_o0 rfl inS_o0 (by decide) (tm1 (i := 88) rfl rfl) rfl dS_incident_5 ?_
  refine lv_bipush (v := (6 : Int32)) hx hb dS_incident_8 (by decide) ?_
  refine lv_icmp_lt (tgt := 23) hx hb dS_incident_10 (by decide) (fun hc => ?_) (fun hc => ?_)
  · replace hw := hw.1 hc
    refine lv_aload_n hx hb dS_incident_23 rfl (lv_at hl 0 rfl) ?_
    refine gGet X K (o := 0) (k := 7) (v := .ref (ad 7)) (by decide) kS_o0 rfl inS_o0 (by decide) (tm1 (i := 89) rfl rfl) rfl dS_incident_24 ?_
    refine lv_aload_n hx hb dS_incident_27 rfl (lv_at hl 0 rfl) ?_
    refine gGet X K (o := 0) (k := 6) (v := .int (f1 1)) (by decide) kS_o0 rfl inS_o0 (by decide) (tm1 (i := 88) rfl rfl) rfl dS_incident_28 ?_
    refine lv_iload_n hx hb dS_incident_31 rfl (lv_at hl 1 rfl) ?_
    obtain ⟨hi, hw⟩ := hw
    refine gist X K (o := 7) (t0 := 0) (by decide) kS_c7 rfl hi dS_incident_32 kS_p7 (fun H locs K => ?_)
    refine lv_aload_n hx hb dS_incident_33 rfl (lv_at hl 0 rfl) ?_
    refine gGet X K (o := 0) (k := 8) (v := .ref (ad 8)) (by decide) kS_o0 rfl inS_o0 (by decide) (tm1 (i := 90) rfl rfl) rfl dS_incident_34 ?_
    refine lv_aload_n hx hb dS_incident_37 rfl (lv_at hl 0 rfl) ?_
    refine gGet X K (o := 0) (k := 6) (v := .int (f1 1)) (by decide) kS_o0 rfl inS_o0 (by decide) (tm1 (i := 88) rfl rfl) rfl dS_incident_38 ?_
    refine lv_iconst (v := (1 : Int32)) hx hb dS_incident_41 (by decide) ?_
    obtain ⟨hi, hw⟩ := hw
    refine gzst X K (o := 8) (t0 := 1) (by decide) kS_c8 rfl hi dS_incident_42 kS_p8 (fun H locs K => ?_)
    refine lv_aload_n hx hb dS_incident_43 rfl (lv_at hl 0 rfl) ?_
    refine lv_dup hx hb dS_incident_44 rfl ?_
    refine gGet X K (o := 0) (k := 6) (v := .int (f1 1)) (by decide) kS_o0 rfl inS_o0 (by decide) (tm1 (i := 88) rfl rfl) rfl dS_incident_45 ?_
    refine lv_iconst (v := (1 : Int32)) hx hb dS_incident_48 (by decide) ?_
    refine lv_iadd hx hb dS_incident_49 ?_
    refine gPut X K (o := 0) (k := 6) (v := .int ((f1 1) + (1 : Int32))) (ty := .int) tS_o0 tS_o0_ok nS_o0 (by decide) kS_o0 rfl inS_o0 (by decide) (tm1 (i := 88) rfl rfl) rfl rfl rfl rfl (by simp [flS_o0]) dS_incident_50 kS_u0_6 (fun H locs K => ?_)
    refine lv_aload_n hx hb dS_incident_53 rfl (lv_at hl 0 rfl) ?_
    refine gGet X K (o := 0) (k := 6) (v := .int ((va_up f1 1 ((f1 1) + (1 : Int32))) 1)) (by decide) kS_o0 rfl inS_o0 (by decide) (tm1 (i := 88) rfl rfl) rfl dS_incident_54 ?_
    refine lv_iconst (v := (1 : Int32)) hx hb dS_incident_57 (by decide) ?_
    refine lv_isub hx hb dS_incident_58 ?_
    exact endI X K hr rfl hw (by decide) (by decide) dS_incident_59
  · replace hw := hw.2 hc
    exact throwX X K (k := 3) (names := ["java/lang/RuntimeException", "java/lang/Exception"]) hw (by decide +kernel) (by decide +kernel) rfl (tm1 (i := 213) rfl rfl) (tm1 (i := 9) rfl rfl) xg_S_81 xb_S_81 xo_S_81_77 hl.1 dS_incident_13 dS_incident_16 dS_incident_17 dS_incident_19 dS_incident_22 (by decide) (by decide) (by decide) (by decide) (by decide) (by decide)
set_option maxHeartbeats 4000000 in
set_option maxRecDepth 100000 in
theorem met_S_secondsTo {l : Launch} (hl9 : l.stackTraces = false) (D : va_G) (ad : Nat → Nat) (ca : Nat → ClassId) (sa : Nat → Nat) (sz : Nat) (x1 : Int32) (x2 : Int32) (f : wF) (a : wA) (b : wB) (po : Int32 → wF → wA → wB → Prop) (hw : wp_S_secondsTo po x1 x2 f a b) : mI nS kS (tyS ca) txS D vwCl l yS_secondsTo (Cond.code yS_secondsTo cS_secondsTo 3 (some .int) :: Wl) ({ frames := 0, cells := 0, slots := 0, locals := 0 }) [.ref (ad 0), .int x1, .int x2] ad ca sa sz f a b po (fun _ _ _ _ => False) 0 0 := by
  refine ofI (by decide) hl9 (Nat.le_of_ble_eq_true rfl) ?_
  intro p e s m below meth c ls X hr K hl
  obtain ⟨hx, hb, hml, hown, hts, hK, hA, hth, hlk, hl9, hex⟩ := id X
  have hl : lv_has ls 3 [(0, .ref (ad 0)), (1, .int x1), (2, .int x2)] := hl
  dsimp only [wp_S_secondsTo] at hw
  refine lv_aload_n hx hb dS_secondsTo_0 rfl (lv_at hl 0 rfl) ?_
  refine gGet X K (o := 0) (k := 5) (v := .ref (ad 6)) (by decide) kS_o0 rfl inS_o0 (by decide) (tm1 (i := 87) rfl rfl) rfl dS_secondsTo_1 ?_
  refine lv_iload_n hx hb dS_secondsTo_4 rfl (lv_at hl 1 rfl) ?_
  obtain ⟨hi_secondsOf, hw⟩ := hw
  refine gald X K (o := 6) (t0 := 3) (by decide) kS_c6 rfl hi_secondsOf dS_secondsTo_5 ?_
  refine lv_aload_n hx hb dS_secondsTo_6 rfl (lv_at hl 0 rfl) ?_
  refine gGet X K (o := 0) (k := 10) (v := .ref (ad 9)) (by decide) kS_o0 rfl inS_o0 (by decide) (tm1 (i := 92) rfl rfl) rfl dS_secondsTo_7 ?_
  refine lv_iload_n hx hb dS_secondsTo_10 rfl (lv_at hl 2 rfl) ?_
  obtain ⟨hi, hw⟩ := hw
  refine gild X K (o := 9) (t0 := 0) (by decide) kS_c9 rfl hi dS_secondsTo_11 ?_
  obtain ⟨hi, hw⟩ := hw
  refine gild X K (o := (25 + x1.toNatClampNeg)) (t0 := 0) (rS_secondsOf_lt hi_secondsOf) (kS_r_secondsOf hi_secondsOf) rfl hi dS_secondsTo_12 ?_
  exact endI X K hr rfl hw (by decide) (by decide) dS_secondsTo_13
set_option maxHeartbeats 4000000 in
set_option maxRecDepth 100000 in
theorem LS_canFill_71 {p : Program} {l : Launch} {e : Env} {s : State} {m : MethodId} {below : List Frame} {meth : Method} {c : Code} {D : va_G} {sa : Nat → Nat} {ad : Nat → Nat} {ca : Nat → ClassId} {sz : Nat} {f0 : wF} {a0 : wA} {b0 : wB} {y1 : Int32} {y2 : Int32} {po : Int32 → wF → wA → wB → Prop} (X : cx Wl (tyS ca) txS D vwCl sa (va_A (ww nS kS ad ca f0 a0 b0) sz) p l s m ([.ref (ad 0), .int y1, .int y2] : List Value).toArray meth c cS_canFill 5 "SendBest") (hr : meth.sig.returnType = (some .boolean)) : ∀ (k0 : Int32) (f : wF) (a : wA) (b : wB), wp_S_canFill_71 po k0 f a b → ∀ (H : Heap) (locs : List Loc), wd nS kS D vwCl ad ca (va_A (ww nS kS ad ca f0 a0 b0) sz) s H locs f a b → ∀ (ls : Array Slot), lv_has ls 5 [] → W p l e ({ frames := 1, cells := 0, slots := 0, locals := 22 }) s m ([.ref (ad 0), .int y1, .int y2] : List Value).toArray below meth c H locs 0 0 (vx_MQ below (va_Qi (fun r (u : wF × wA × wB) => po r u.1 u.2.1 u.2.2) (sPost nS kS D vwCl ad ca (va_A (ww nS kS ad ca f0 a0 b0) sz)) (va_A (ww nS kS ad ca f0 a0 b0) sz)) (sX nS kS D vwCl ad ca (va_A (ww nS kS ad ca f0 a0 b0) sz) (fun _ _ _ _ => False)) ([.ref (ad 0), .int y1, .int y2] : List Value).toArray s 0 0 (va_A (ww nS kS ad ca f0 a0 b0) sz)) (F0 m 71 ls [.int k0]) := by
  obtain ⟨hx, hb, hml, hown, hts, hK, hA, hth, hlk, hl9, hex⟩ := id X
  intro k0 f a b hw H locs K ls hl
  dsimp only [wp_S_canFill_71] at hw
  exact endI X K hr hw.1 hw.2 (by decide) (by decide) dS_canFill_71
set_option maxHeartbeats 4000000 in
set_option maxRecDepth 100000 in
theorem LS_canFill_70 {p : Program} {l : Launch} {e : Env} {s : State} {m : MethodId} {below : List Frame} {meth : Method} {c : Code} {D : va_G} {sa : Nat → Nat} {ad : Nat → Nat} {ca : Nat → ClassId} {sz : Nat} {f0 : wF} {a0 : wA} {b0 : wB} {y1 : Int32} {y2 : Int32} {po : Int32 → wF → wA → wB → Prop} (X : cx Wl (tyS ca) txS D vwCl sa (va_A (ww nS kS ad ca f0 a0 b0) sz) p l s m ([.ref (ad 0), .int y1, .int y2] : List Value).toArray meth c cS_canFill 5 "SendBest") (hr : meth.sig.returnType = (some .boolean)) : ∀ (f : wF) (a : wA) (b : wB), wp_S_canFill_70 po f a b → ∀ (H : Heap) (locs : List Loc), wd nS kS D vwCl ad ca (va_A (ww nS kS ad ca f0 a0 b0) sz) s H locs f a b → ∀ (ls : Array Slot), lv_has ls 5 [] → W p l e ({ frames := 1, cells := 0, slots := 0, locals := 22 }) s m ([.ref (ad 0), .int y1, .int y2] : List Value).toArray below meth c H locs 0 0 (vx_MQ below (va_Qi (fun r (u : wF × wA × wB) => po r u.1 u.2.1 u.2.2) (sPost nS kS D vwCl ad ca (va_A (ww nS kS ad ca f0 a0 b0) sz)) (va_A (ww nS kS ad ca f0 a0 b0) sz)) (sX nS kS D vwCl ad ca (va_A (ww nS kS ad ca f0 a0 b0) sz) (fun _ _ _ _ => False)) ([.ref (ad 0), .int y1, .int y2] : List Value).toArray s 0 0 (va_A (ww nS kS ad ca f0 a0 b0) sz)) (F0 m 70 ls []) := by
  obtain ⟨hx, hb, hml, hown, hts, hK, hA, hth, hlk, hl9, hex⟩ := id X
  intro  f a b hw H locs K ls hl
  dsimp only [wp_S_canFill_70] at hw
  refine lv_iconst (v := (0 : Int32)) hx hb dS_canFill_70 (by decide) ?_
  exact LS_canFill_71 X hr (0 : Int32) f a b hw _ _ K _ (lv_sub hl [] rfl)
set_option maxHeartbeats 4000000 in
set_option maxRecDepth 100000 in
theorem LS_canFill_66 {p : Program} {l : Launch} {e : Env} {s : State} {m : MethodId} {below : List Frame} {meth : Method} {c : Code} {D : va_G} {sa : Nat → Nat} {ad : Nat → Nat} {ca : Nat → ClassId} {sz : Nat} {f0 : wF} {a0 : wA} {b0 : wB} {y1 : Int32} {y2 : Int32} {po : Int32 → wF → wA → wB → Prop} (X : cx Wl (tyS ca) txS D vwCl sa (va_A (ww nS kS ad ca f0 a0 b0) sz) p l s m ([.ref (ad 0), .int y1, .int y2] : List Value).toArray meth c cS_canFill 5 "SendBest") (hr : meth.sig.returnType = (some .boolean)) : ∀ (f : wF) (a : wA) (b : wB), wp_S_canFill_66 po f a b → ∀ (H : Heap) (locs : List Loc), wd nS kS D vwCl ad ca (va_A (ww nS kS ad ca f0 a0 b0) sz) s H locs f a b → ∀ (ls : Array Slot), lv_has ls 5 [] → W p l e ({ frames := 1, cells := 0, slots := 0, locals := 22 }) s m ([.ref (ad 0), .int y1, .int y2] : List Value).toArray below meth c H locs 0 0 (vx_MQ below (va_Qi (fun r (u : wF × wA × wB) => po r u.1 u.2.1 u.2.2) (sPost nS kS D vwCl ad ca (va_A (ww nS kS ad ca f0 a0 b0) sz)) (va_A (ww nS kS ad ca f0 a0 b0) sz)) (sX nS kS D vwCl ad ca (va_A (ww nS kS ad ca f0 a0 b0) sz) (fun _ _ _ _ => False)) ([.ref (ad 0), .int y1, .int y2] : List Value).toArray s 0 0 (va_A (ww nS kS ad ca f0 a0 b0) sz)) (F0 m 66 ls []) := by
  obtain ⟨hx, hb, hml, hown, hts, hK, hA, hth, hlk, hl9, hex⟩ := id X
  intro  f a b hw H locs K ls hl
  dsimp only [wp_S_canFill_66] at hw
  refine lv_iconst (v := (1 : Int32)) hx hb dS_canFill_66 (by decide) ?_
  refine lv_goto (tgt := 71) hx hb dS_canFill_67 (by decide) ?_
  exact LS_canFill_71 X hr (1 : Int32) f a b hw _ _ K _ (lv_sub hl [] rfl)
set_option maxHeartbeats 4000000 in
set_option maxRecDepth 100000 in
theorem LS_canFill_29 {p : Program} {l : Launch} {e : Env} {s : State} {m : MethodId} {below : List Frame} {meth : Method} {c : Code} {D : va_G} {sa : Nat → Nat} {ad : Nat → Nat} {ca : Nat → ClassId} {sz : Nat} {f0 : wF} {a0 : wA} {b0 : wB} {y1 : Int32} {y2 : Int32} {po : Int32 → wF → wA → wB → Prop} (X : cx Wl (tyS ca) txS D vwCl sa (va_A (ww nS kS ad ca f0 a0 b0) sz) p l s m ([.ref (ad 0), .int y1, .int y2] : List Value).toArray meth c cS_canFill 5 "SendBest") (hr : meth.sig.returnType = (some .boolean)) : ∀ (f : wF) (a : wA) (b : wB), wp_S_canFill_29 po f a b → ∀ (H : Heap) (locs : List Loc), wd nS kS D vwCl ad ca (va_A (ww nS kS ad ca f0 a0 b0) sz) s H locs f a b → ∀ (ls : Array Slot), lv_has ls 5 [] → W p l e ({ frames := 1, cells := 0, slots := 0, locals := 22 }) s m ([.ref (ad 0), .int y1, .int y2] : List Value).toArray below meth c H locs 0 0 (vx_MQ below (va_Qi (fun r (u : wF × wA × wB) => po r u.1 u.2.1 u.2.2) (sPost nS kS D vwCl ad ca (va_A (ww nS kS ad ca f0 a0 b0) sz)) (va_A (ww nS kS ad ca f0 a0 b0) sz)) (sX nS kS D vwCl ad ca (va_A (ww nS kS ad ca f0 a0 b0) sz) (fun _ _ _ _ => False)) ([.ref (ad 0), .int y1, .int y2] : List Value).toArray s 0 0 (va_A (ww nS kS ad ca f0 a0 b0) sz)) (F0 m 29 ls []) := by
  obtain ⟨hx, hb, hml, hown, hts, hK, hA, hth, hlk, hl9, hex⟩ := id X
  intro  f a b hw H locs K ls hl
  dsimp only [wp_S_canFill_29] at hw
  refine lv_iconst (v := (0 : Int32)) hx hb dS_canFill_29 (by decide) ?_
  exact endI X K hr hw.1 hw.2 (by decide) (by decide) dS_canFill_30
set_option maxHeartbeats 4000000 in
set_option maxRecDepth 100000 in
theorem met_S_canFill {l : Launch} (hl9 : l.stackTraces = false) (D : va_G) (ad : Nat → Nat) (ca : Nat → ClassId) (sa : Nat → Nat) (sz : Nat) (x1 : Int32) (x2 : Int32) (f : wF) (a : wA) (b : wB) (po : Int32 → wF → wA → wB → Prop) (hw : wp_S_canFill po x1 x2 f a b) : mI nS kS (tyS ca) txS D vwCl l yS_canFill (Cond.code yS_canFill cS_canFill 5 (some .boolean) :: Wl) ({ frames := 1, cells := 0, slots := 0, locals := 22 }) [.ref (ad 0), .int x1, .int x2] ad ca sa sz f a b po (fun _ _ _ _ => False) 0 0 := by
  refine ofI (by decide) hl9 (Nat.le_of_ble_eq_true rfl) ?_
  intro p e s m below meth c ls X hr K hl
  obtain ⟨hx, hb, hml, hown, hts, hK, hA, hth, hlk, hl9, hex⟩ := id X
  have hl : lv_has ls 5 [(0, .ref (ad 0)), (1, .int x1), (2, .int x2)] := hl
  dsimp only [wp_S_canFill] at hw
  refine lv_aload_n hx hb dS_canFill_0 rfl (lv_at hl 0 rfl) ?_
  refine gGet X K (o := 0) (k := 11) (v := .ref (ad 10)) (by decide) kS_o0 rfl inS_o0 (by decide) (tm1 (i := 93) rfl rfl) rfl dS_canFill_1 ?_
  refine lv_iload_n hx hb dS_canFill_4 rfl (lv_at hl 2 rfl) ?_
  obtain ⟨hi, hw⟩ := hw
  refine gild X K (o := 10) (t0 := 0) (by decide) kS_c10 rfl hi dS_canFill_5 ?_
  refine lv_istore_n (lv' := [(3, .int (a 10 x2.toNatClampNeg)), (0, .ref (ad 0)), (1, .int x1), (2, .int x2)]) hx hb dS_canFill_6 rfl hl (by decide) rfl (fun ls hl => ?_)
  refine lv_aload_n hx hb dS_canFill_7 rfl (lv_at hl 1 rfl) ?_
  refine gGet X K (o := 0) (k := 2) (v := .ref (ad 3)) (by decide) kS_o0 rfl inS_o0 (by decide) (tm1 (i := 84) rfl rfl) rfl dS_canFill_8 ?_
  refine lv_iload_n hx hb dS_canFill_11 rfl (lv_at hl 2 rfl) ?_
  obtain ⟨hi, hw⟩ := hw
  refine gzld X K (o := 3) (t0 := 1) (by decide) kS_c3 rfl hi dS_canFill_12 ?_
  refine lv_if_ne (tgt := 29) hx hb dS_canFill_13 (by decide) (fun hc => ?_) (fun hc => ?_)
  · replace hw := hw.1 hc
    exact LS_canFill_29 X hr f a b hw _ _ K _ (lv_sub hl [] rfl)
  · replace hw := hw.2 hc
    refine lv_aload_n hx hb dS_canFill_16 rfl (lv_at hl 1 rfl) ?_
    refine gGet X K (o := 0) (k := 1) (v := .ref (ad 2)) (by decide) kS_o0 rfl inS_o0 (by decide) (tm1 (i := 83) rfl rfl) rfl dS_canFill_17 ?_
    refine lv_iload_n hx hb dS_canFill_20 rfl (lv_at hl 2 rfl) ?_
    obtain ⟨hi, hw⟩ := hw
    refine gild X K (o := 2) (t0 := 0) (by decide) kS_c2 rfl hi dS_canFill_21 ?_
    refine lv_iload_n hx hb dS_canFill_22 rfl (lv_at hl 0 rfl) ?_
    refine lv_ishr hx hb dS_canFill_23 ?_
    refine lv_iconst (v := (1 : Int32)) hx hb dS_canFill_24 (by decide) ?_
    refine lv_iand hx hb dS_canFill_25 ?_
    refine lv_if_ne (tgt := 31) hx hb dS_canFill_26 (by decide) (fun hc => ?_) (fun hc => ?_)
    · replace hw := hw.1 hc
      refine lv_aload_n hx hb dS_canFill_31 rfl (lv_at hl 1 rfl) ?_
      refine lv_iload_n hx hb dS_canFill_32 rfl (lv_at hl 2 rfl) ?_
      refine lv_iload_n hx hb dS_canFill_33 rfl (lv_at hl 3 rfl) ?_
      refine gcI X K (n0 := 2) (As := [.int x1, .int x2]) (rest := []) (hM := (met_S_secondsTo hl9 D ad ca sa _ x1 x2 f a b _ hw)) (o := 0) (ho := by decide) (hko := kS_o0) (hci := rfl) (hg := wl_good) (w1 := (tm2 (i := 148) rfl rfl)) (w2 := (tm2 (i := 150) rfl rfl)) (w3 := (tm0 (i := 11) rfl rfl)) (w4 := (tm1 (i := 1) rfl rfl)) (w5 := (tm2 (i := 151) rfl rfl)) (hd := ⟨rfl, by decide, by decide, by decide +kernel⟩) (hrc := rfl) (hrs := rfl) (hR := ⟨Nat.le_of_ble_eq_true rfl, Nat.le_of_ble_eq_true rfl⟩) (hn := rfl) (hsz := hl.1) (hst := rfl) (hW := Nat.le_of_ble_eq_true rfl) (hdg := dS_canFill_34) (hf := ⟨Nat.le_of_ble_eq_true rfl, Nat.le_of_ble_eq_true rfl⟩) (fun _ _ _ _ _ _ _ _ hw => hw.elim) (fun r34 f34 a34 b34 H locs hw K => ?_)
      refine lv_istore (lv' := [(4, .int r34), (3, .int (a 10 x2.toNatClampNeg)), (0, .ref (ad 0)), (1, .int x1), (2, .int x2)]) hx hb dS_canFill_37 hl (by decide) rfl (fun ls hl => ?_)
      refine lv_iload hx hb dS_canFill_39 (lv_at hl 0 rfl) ?_
      refine lv_iconst (v := (-1 : Int32)) hx hb dS_canFill_41 (by decide) ?_
      refine lv_icmp_eq (tgt := 70) hx hb dS_canFill_42 (by decide) (fun hc => ?_) (fun hc => ?_)
      · replace hw := hw.1 hc
        exact LS_canFill_70 X hr f34 a34 b34 hw _ _ K _ (lv_sub hl [] rfl)
      · replace hw := hw.2 hc
        refine lv_aload_n hx hb dS_canFill_45 rfl (lv_at hl 2 rfl) ?_
        refine gGet X K (o := 0) (k := 13) (v := .ref (ad 12)) (by decide) kS_o0 rfl inS_o0 (by decide) (tm1 (i := 95) rfl rfl) rfl dS_canFill_46 ?_
        refine lv_iload_n hx hb dS_canFill_49 rfl (lv_at hl 1 rfl) ?_
        obtain ⟨hi, hw⟩ := hw
        refine gild X K (o := 12) (t0 := 0) (by decide) kS_c12 rfl hi dS_canFill_50 ?_
        refine lv_iconst (v := (-1 : Int32)) hx hb dS_canFill_51 (by decide) ?_
        refine lv_icmp_eq (tgt := 66) hx hb dS_canFill_52 (by decide) (fun hc => ?_) (fun hc => ?_)
        · replace hw := hw.1 hc
          exact LS_canFill_66 X hr f34 a34 b34 hw _ _ K _ (lv_sub hl [] rfl)
        · replace hw := hw.2 hc
          refine lv_iload hx hb dS_canFill_55 (lv_at hl 0 rfl) ?_
          refine lv_aload_n hx hb dS_canFill_57 rfl (lv_at hl 2 rfl) ?_
          refine gGet X K (o := 0) (k := 13) (v := .ref (ad 12)) (by decide) kS_o0 rfl inS_o0 (by decide) (tm1 (i := 95) rfl rfl) rfl dS_canFill_58 ?_
          refine lv_iload_n hx hb dS_canFill_61 rfl (lv_at hl 1 rfl) ?_
          obtain ⟨hi, hw⟩ := hw
          refine gild X K (o := 12) (t0 := 0) (by decide) kS_c12 rfl hi dS_canFill_62 ?_
          refine lv_icmp_gt (tgt := 70) hx hb dS_canFill_63 (by decide) (fun hc => ?_) (fun hc => ?_)
          · replace hw := hw.1 hc
            exact LS_canFill_70 X hr f34 a34 b34 hw _ _ K _ (lv_sub hl [] rfl)
          · replace hw := hw.2 hc
            exact LS_canFill_66 X hr f34 a34 b34 hw _ _ K _ (lv_sub hl [] rfl)
    · replace hw := hw.2 hc
      exact LS_canFill_29 X hr f a b hw _ _ K _ (lv_sub hl [] rfl)
set_option maxHeartbeats 4000000 in
set_option maxRecDepth 100000 in
theorem LS_anyCanFill_2 {p : Program} {l : Launch} {e : Env} {s : State} {m : MethodId} {below : List Frame} {meth : Method} {c : Code} {D : va_G} {sa : Nat → Nat} {ad : Nat → Nat} {ca : Nat → ClassId} {sz : Nat} {f0 : wF} {a0 : wA} {b0 : wB} {y1 : Int32} {po : Int32 → wF → wA → wB → Prop} (X : cx Wl (tyS ca) txS D vwCl sa (va_A (ww nS kS ad ca f0 a0 b0) sz) p l s m ([.ref (ad 0), .int y1] : List Value).toArray meth c cS_anyCanFill 3 "SendBest") (hr : meth.sig.returnType = (some .boolean)) : ∀ n : Nat, ∀ (x1 : Int32) (x2 : Int32) (f : wF) (a : wA) (b : wB), wp_S_anyCanFill_2 po n x1 x2 f a b → ∀ (H : Heap) (locs : List Loc), wd nS kS D vwCl ad ca (va_A (ww nS kS ad ca f0 a0 b0) sz) s H locs f a b → ∀ (ls : Array Slot), lv_has ls 3 [(0, .ref (ad 0)), (1, .int x1), (2, .int x2)] → W p l e ({ frames := 2, cells := 0, slots := 0, locals := 46 }) s m ([.ref (ad 0), .int y1] : List Value).toArray below meth c H locs 0 0 (vx_MQ below (va_Qi (fun r (u : wF × wA × wB) => po r u.1 u.2.1 u.2.2) (sPost nS kS D vwCl ad ca (va_A (ww nS kS ad ca f0 a0 b0) sz)) (va_A (ww nS kS ad ca f0 a0 b0) sz)) (sX nS kS D vwCl ad ca (va_A (ww nS kS ad ca f0 a0 b0) sz) (fun _ _ _ _ => False)) ([.ref (ad 0), .int y1] : List Value).toArray s 0 0 (va_A (ww nS kS ad ca f0 a0 b0) sz)) (F0 m 2 ls []) := by
  obtain ⟨hx, hb, hml, hown, hts, hK, hA, hth, hlk, hl9, hex⟩ := id X
  intro n
  induction n with
  | zero => intro x1 x2 f a b hw; exact hw.elim
  | succ n ih =>
    intro x1 x2 f a b hw H locs K ls hl
    dsimp only [wp_S_anyCanFill_2] at hw
    refine lv_iload_n hx hb dS_anyCanFill_2 rfl (lv_at hl 2 rfl) ?_
    refine lv_aload_n hx hb dS_anyCanFill_3 rfl (lv_at hl 0 rfl) ?_
    refine gGet X K (o := 0) (k := 0) (v := .int (f 0)) (by decide) kS_o0 rfl inS_o0 (by decide) (tm1 (i := 82) rfl rfl) rfl dS_anyCanFill_4 ?_
    refine lv_icmp_ge (tgt := 27) hx hb dS_anyCanFill_7 (by decide) (fun hc => ?_) (fun hc => ?_)
    · replace hw := hw.1 hc
      refine lv_iconst (v := (0 : Int32)) hx hb dS_anyCanFill_27 (by decide) ?_
      exact endI X K hr hw.1 hw.2 (by decide) (by decide) dS_anyCanFill_28
    · replace hw := hw.2 hc
      refine lv_aload_n hx hb dS_anyCanFill_10 rfl (lv_at hl 0 rfl) ?_
      refine lv_iload_n hx hb dS_anyCanFill_11 rfl (lv_at hl 2 rfl) ?_
      refine lv_iload_n hx hb dS_anyCanFill_12 rfl (lv_at hl 1 rfl) ?_
      refine gcI X K (n0 := 2) (As := [.int x2, .int x1]) (rest := []) (hM := (met_S_canFill hl9 D ad ca sa _ x2 x1 f a b _ hw)) (o := 0) (ho := by decide) (hko := kS_o0) (hci := rfl) (hg := wl_good) (w1 := (tm2 (i := 144) rfl rfl)) (w2 := (tm2 (i := 146) rfl rfl)) (w3 := (tm0 (i := 10) rfl rfl)) (w4 := (tm1 (i := 1) rfl rfl)) (w5 := (tm2 (i := 147) rfl rfl)) (hd := ⟨rfl, by decide, by decide, by decide +kernel⟩) (hrc := rfl) (hrs := rfl) (hR := ⟨Nat.le_of_ble_eq_true rfl, Nat.le_of_ble_eq_true rfl⟩) (hn := rfl) (hsz := hl.1) (hst := rfl) (hW := Nat.le_of_ble_eq_true rfl) (hdg := dS_anyCanFill_13) (hf := ⟨Nat.le_of_ble_eq_true rfl, Nat.le_of_ble_eq_true rfl⟩) (fun _ _ _ _ _ _ _ _ hw => hw.elim) (fun r13 f13 a13 b13 H locs hw K => ?_)
      refine lv_if_eq (tgt := 21) hx hb dS_anyCanFill_16 (by decide) (fun hc => ?_) (fun hc => ?_)
      · replace hw := hw.1 hc
        refine lv_iinc (v := (x2 + (1 : Int32))) (lv' := [(2, .int (x2 + (1 : Int32))), (0, .ref (ad 0)), (1, .int x1)]) hx hb dS_anyCanFill_21 hl (k := 2) rfl rfl (by decide) rfl (fun ls hl => ?_)
        refine lv_goto (tgt := 2) hx hb dS_anyCanFill_24 (by decide) ?_
        exact ih x1 (x2 + (1 : Int32)) f13 a13 b13 hw _ _ K _ (lv_sub hl [1, 2, 0] rfl)
      · replace hw := hw.2 hc
        refine lv_iconst (v := (1 : Int32)) hx hb dS_anyCanFill_19 (by decide) ?_
        exact endI X K hr hw.1 hw.2 (by decide) (by decide) dS_anyCanFill_20
set_option maxHeartbeats 4000000 in
set_option maxRecDepth 100000 in
theorem met_S_anyCanFill {l : Launch} (hl9 : l.stackTraces = false) (D : va_G) (ad : Nat → Nat) (ca : Nat → ClassId) (sa : Nat → Nat) (sz : Nat) (x1 : Int32) (f : wF) (a : wA) (b : wB) (po : Int32 → wF → wA → wB → Prop) (hw : wp_S_anyCanFill po x1 f a b) : mI nS kS (tyS ca) txS D vwCl l yS_anyCanFill (Cond.code yS_anyCanFill cS_anyCanFill 3 (some .boolean) :: Wl) ({ frames := 2, cells := 0, slots := 0, locals := 46 }) [.ref (ad 0), .int x1] ad ca sa sz f a b po (fun _ _ _ _ => False) 0 0 := by
  refine ofI (by decide) hl9 (Nat.le_of_ble_eq_true rfl) ?_
  intro p e s m below meth c ls X hr K hl
  obtain ⟨hx, hb, hml, hown, hts, hK, hA, hth, hlk, hl9, hex⟩ := id X
  have hl : lv_has ls 3 [(0, .ref (ad 0)), (1, .int x1)] := hl
  dsimp only [wp_S_anyCanFill] at hw
  refine lv_iconst (v := (0 : Int32)) hx hb dS_anyCanFill_0 (by decide) ?_
  refine lv_istore_n (lv' := [(2, .int (0 : Int32)), (0, .ref (ad 0)), (1, .int x1)]) hx hb dS_anyCanFill_1 rfl hl (by decide) rfl (fun ls hl => ?_)
  obtain ⟨n9, hw⟩ := hw
  exact LS_anyCanFill_2 X hr n9 x1 (0 : Int32) f a b hw _ _ K _ (lv_sub hl [1, 2, 0] rfl)
