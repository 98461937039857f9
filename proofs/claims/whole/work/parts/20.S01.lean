set_option maxHeartbeats 4000000 in
set_option maxRecDepth 100000 in
theorem LS_unit_10 {p : Program} {l : Launch} {e : Env} {s : State} {m : MethodId} {below : List Frame} {meth : Method} {c : Code} {D : va_G} {sa : Nat → Nat} {ad : Nat → Nat} {ca : Nat → ClassId} {A : Nat → Prop} {y1 : Int32} {po : Int32 → wF → wA → wB → Prop} {px : String → wF → wA → wB → Prop} (X : cx Wl (tyS ca) txS D vwCl sa A p l s m ([.ref (ad 0), .int y1] : List Value).toArray meth c cS_unit 2 "SendBest") (hex : ∀ x ∈ c.exceptionTable.toList, False) (hr : meth.sig.returnType = (some .int)) : ∀ (f : wF) (a : wA) (b : wB), wp_S_unit_10 po px f a b → ∀ (H : Heap) (locs : List Loc), wd nS kS D vwCl ad ca A s H locs f a b → ∀ (ls : Array Slot), lv_has ls 2 [] → W p l e ({ frames := 6, cells := 1, slots := 6, locals := 82 }) s m ([.ref (ad 0), .int y1] : List Value).toArray below meth c H locs 0 0 (vx_MQ below (va_Qi (fun r (u : wF × wA × wB) => po r u.1 u.2.1 u.2.2) (sPost nS kS D vwCl ad ca A) A) (sX nS kS D vwCl ad ca A px) ([.ref (ad 0), .int y1] : List Value).toArray s 1 6 A) (F0 m 10 ls []) := by
  obtain ⟨hx, hb, hml, hown, hts, hK, hA, hth, hlk, hl9⟩ := id X
  intro  f a b hw H locs K ls hl
  dsimp only [wp_S_unit_10] at hw
  exact throwX X hex K (k := 0) (names := ["java/lang/RuntimeException", "java/lang/Exception"]) hw (by decide +kernel) (by decide +kernel) rfl (tm1 (i := 144) rfl rfl) (tm1 (i := 8) rfl rfl) xg_S_71 xb_S_71 xo_S_71_67 hl.1 dS_unit_10 dS_unit_13 dS_unit_14 dS_unit_16 dS_unit_19 (by decide) (by decide) (by decide) (by decide) (by decide) (by decide)
set_option maxHeartbeats 4000000 in
set_option maxRecDepth 100000 in
theorem met_S_unit {l : Launch} (hl9 : l.stackTraces = false) (D : va_G) (ad : Nat → Nat) (ca : Nat → ClassId) (sa : Nat → Nat) (sz : Nat) (x1 : Int32) (f : wF) (a : wA) (b : wB) (po : Int32 → wF → wA → wB → Prop) (px : String → wF → wA → wB → Prop) (hw : wp_S_unit po px x1 f a b) : mI nS kS (tyS ca) txS D vwCl l yS_unit (Cond.code yS_unit cS_unit 2 (some .int) :: Wl) ({ frames := 6, cells := 1, slots := 6, locals := 82 }) [.ref (ad 0), .int x1] ad ca sa sz f a b po px 1 6 := by
  refine ofI (by decide) hl9 (Nat.le_of_ble_eq_true rfl) ?_
  intro p e s m below meth c ls X hex hr K hl
  obtain ⟨hx, hb, hml, hown, hts, hK, hA, hth, hlk, hl9⟩ := id X
  have hl : lv_has ls 2 [(0, .ref (ad 0)), (1, .int x1)] := hl
  dsimp only [wp_S_unit] at hw
  refine lv_iload_n hx hb dS_unit_0 rfl (lv_at hl 1 rfl) ?_
  refine lv_if_lt (tgt := 10) hx hb dS_unit_1 (by decide) (fun hc => ?_) (fun hc => ?_)
  · replace hw := hw.1 hc
    exact LS_unit_10 X hex hr f a b hw _ _ K _ (lv_sub hl [] rfl)
  · replace hw := hw.2 hc
    refine lv_iload_n hx hb dS_unit_4 rfl (lv_at hl 1 rfl) ?_
    refine lv_ldc (v := (65536 : Int32)) hx hb hown (hts _ (tm1 (i := 143) rfl rfl)) dS_unit_5 ?_
    refine lv_icmp_lt (tgt := 20) hx hb dS_unit_7 (by decide) (fun hc => ?_) (fun hc => ?_)
    · replace hw := hw.1 hc
      refine lv_aload_n hx hb dS_unit_20 rfl (lv_at hl 0 rfl) ?_
      refine gGet X K (o := 0) (k := 0) (v := .int (f 0)) (by decide) kS_o0 rfl inS_o0 (by decide) (tm1 (i := 82) rfl rfl) rfl dS_unit_21 ?_
      refine lv_bipush (v := (12 : Int32)) hx hb dS_unit_24 (by decide) ?_
      refine lv_icmp_lt (tgt := 39) hx hb dS_unit_26 (by decide) (fun hc => ?_) (fun hc => ?_)
      · replace hw := hw.1 hc
        refine lv_aload_n hx hb dS_unit_39 rfl (lv_at hl 0 rfl) ?_
        refine gGet X K (o := 0) (k := 1) (v := .ref (ad 1)) (by decide) kS_o0 rfl inS_o0 (by decide) (tm1 (i := 83) rfl rfl) rfl dS_unit_40 ?_
        refine lv_aload_n hx hb dS_unit_43 rfl (lv_at hl 0 rfl) ?_
        refine gGet X K (o := 0) (k := 0) (v := .int (f 0)) (by decide) kS_o0 rfl inS_o0 (by decide) (tm1 (i := 82) rfl rfl) rfl dS_unit_44 ?_
        refine lv_iload_n hx hb dS_unit_47 rfl (lv_at hl 1 rfl) ?_
        obtain ⟨hi, hw⟩ := hw
        refine gist X K (o := 1) (t0 := 0) (by decide) kS_c1 rfl hi dS_unit_48 kS_p1 (fun H locs K => ?_)
        refine lv_aload_n hx hb dS_unit_49 rfl (lv_at hl 0 rfl) ?_
        refine lv_dup hx hb dS_unit_50 rfl ?_
        refine gGet X K (o := 0) (k := 0) (v := .int (f 0)) (by decide) kS_o0 rfl inS_o0 (by decide) (tm1 (i := 82) rfl rfl) rfl dS_unit_51 ?_
        refine lv_iconst (v := (1 : Int32)) hx hb dS_unit_54 (by decide) ?_
        refine lv_iadd hx hb dS_unit_55 ?_
        refine gPut X K (o := 0) (k := 0) (v := .int ((f 0) + (1 : Int32))) (ty := .int) tS_o0 tS_o0_ok nS_o0 (by decide) kS_o0 rfl inS_o0 (by decide) (tm1 (i := 82) rfl rfl) rfl rfl rfl rfl (by simp [flS_o0]) dS_unit_56 kS_u0_0 (fun H locs K => ?_)
        refine lv_aload_n hx hb dS_unit_59 rfl (lv_at hl 0 rfl) ?_
        refine gGet X K (o := 0) (k := 0) (v := .int ((va_up f 0 ((f 0) + (1 : Int32))) 0)) (by decide) kS_o0 rfl inS_o0 (by decide) (tm1 (i := 82) rfl rfl) rfl dS_unit_60 ?_
        refine lv_iconst (v := (1 : Int32)) hx hb dS_unit_63 (by decide) ?_
        refine lv_isub hx hb dS_unit_64 ?_
        exact endI X K hr rfl hw (by decide) (by decide) dS_unit_65
      · replace hw := hw.2 hc
        exact throwX X hex K (k := 1) (names := ["java/lang/RuntimeException", "java/lang/Exception"]) hw (by decide +kernel) (by decide +kernel) rfl (tm1 (i := 213) rfl rfl) (tm1 (i := 9) rfl rfl) xg_S_81 xb_S_81 xo_S_81_77 hl.1 dS_unit_29 dS_unit_32 dS_unit_33 dS_unit_35 dS_unit_38 (by decide) (by decide) (by decide) (by decide) (by decide) (by decide)
    · replace hw := hw.2 hc
      exact LS_unit_10 X hex hr f a b hw _ _ K _ (lv_sub hl [] rfl)
set_option maxHeartbeats 4000000 in
set_option maxRecDepth 100000 in
theorem LS_checkRank_11 {p : Program} {l : Launch} {e : Env} {s : State} {m : MethodId} {below : List Frame} {meth : Method} {c : Code} {D : va_G} {sa : Nat → Nat} {ad : Nat → Nat} {ca : Nat → ClassId} {A : Nat → Prop} {y0 : Int32} {po : wF → wA → wB → Prop} {px : String → wF → wA → wB → Prop} (X : cx Wl (tyS ca) txS D vwCl sa A p l s m ([.int y0] : List Value).toArray meth c cS_checkRank 1 "SendBest") (hex : ∀ x ∈ c.exceptionTable.toList, False) (hr : meth.sig.returnType = none) : ∀ (f : wF) (a : wA) (b : wB), wp_S_checkRank_11 po px f a b → ∀ (H : Heap) (locs : List Loc), wd nS kS D vwCl ad ca A s H locs f a b → ∀ (ls : Array Slot), lv_has ls 1 [] → W p l e ({ frames := 6, cells := 1, slots := 6, locals := 82 }) s m ([.int y0] : List Value).toArray below meth c H locs 0 0 (vx_MQ below (va_Qv (fun (u : wF × wA × wB) => po u.1 u.2.1 u.2.2) (sPost nS kS D vwCl ad ca A) A) (sX nS kS D vwCl ad ca A px) ([.int y0] : List Value).toArray s 1 6 A) (F0 m 11 ls []) := by
  obtain ⟨hx, hb, hml, hown, hts, hK, hA, hth, hlk, hl9⟩ := id X
  intro  f a b hw H locs K ls hl
  dsimp only [wp_S_checkRank_11] at hw
  exact throwX X hex K (k := 2) (names := ["java/lang/RuntimeException", "java/lang/Exception"]) hw (by decide +kernel) (by decide +kernel) rfl (tm1 (i := 144) rfl rfl) (tm1 (i := 8) rfl rfl) xg_S_71 xb_S_71 xo_S_71_67 hl.1 dS_checkRank_11 dS_checkRank_14 dS_checkRank_15 dS_checkRank_17 dS_checkRank_20 (by decide) (by decide) (by decide) (by decide) (by decide) (by decide)
set_option maxHeartbeats 4000000 in
set_option maxRecDepth 100000 in
theorem met_S_checkRank {l : Launch} (hl9 : l.stackTraces = false) (D : va_G) (ad : Nat → Nat) (ca : Nat → ClassId) (sa : Nat → Nat) (sz : Nat) (x0 : Int32) (f : wF) (a : wA) (b : wB) (po : wF → wA → wB → Prop) (px : String → wF → wA → wB → Prop) (hw : wp_S_checkRank po px x0 f a b) : mV nS kS (tyS ca) txS D vwCl l yS_checkRank (Cond.code yS_checkRank cS_checkRank 1 none :: Wl) ({ frames := 6, cells := 1, slots := 6, locals := 82 }) [.int x0] ad ca sa sz f a b po px 1 6 := by
  refine ofV (by decide) hl9 (Nat.le_of_ble_eq_true rfl) ?_
  intro p e s m below meth c ls X hex hr K hl
  obtain ⟨hx, hb, hml, hown, hts, hK, hA, hth, hlk, hl9⟩ := id X
  have hl : lv_has ls 1 [(0, .int x0)] := hl
  dsimp only [wp_S_checkRank] at hw
  refine lv_iload_n hx hb dS_checkRank_0 rfl (lv_at hl 0 rfl) ?_
  refine lv_iconst (v := (1 : Int32)) hx hb dS_checkRank_1 (by decide) ?_
  refine lv_icmp_lt (tgt := 11) hx hb dS_checkRank_2 (by decide) (fun hc => ?_) (fun hc => ?_)
  · replace hw := hw.1 hc
    exact LS_checkRank_11 X hex hr f a b hw _ _ K _ (lv_sub hl [] rfl)
  · replace hw := hw.2 hc
    refine lv_iload_n hx hb dS_checkRank_5 rfl (lv_at hl 0 rfl) ?_
    refine lv_bipush (v := (9 : Int32)) hx hb dS_checkRank_6 (by decide) ?_
    refine lv_icmp_le (tgt := 21) hx hb dS_checkRank_8 (by decide) (fun hc => ?_) (fun hc => ?_)
    · replace hw := hw.1 hc
      exact endV X K hr hw (by decide) (by decide) dS_checkRank_21
    · replace hw := hw.2 hc
      exact LS_checkRank_11 X hex hr f a b hw _ _ K _ (lv_sub hl [] rfl)
set_option maxHeartbeats 4000000 in
set_option maxRecDepth 100000 in
theorem met_S_incident {l : Launch} (hl9 : l.stackTraces = false) (D : va_G) (ad : Nat → Nat) (ca : Nat → ClassId) (sa : Nat → Nat) (sz : Nat) (x1 : Int32) (f : wF) (a : wA) (b : wB) (po : Int32 → wF → wA → wB → Prop) (px : String → wF → wA → wB → Prop) (hw : wp_S_incident po px x1 f a b) : mI nS kS (tyS ca) txS D vwCl l yS_incident (Cond.code yS_incident cS_incident 2 (some .int) :: Wl) ({ frames := 7, cells := 2, slots := 12, locals := 102 }) [.ref (ad 0), .int x1] ad ca sa sz f a b po px 2 12 := by
  refine ofI (by decide) hl9 (Nat.le_of_ble_eq_true rfl) ?_
  intro p e s m below meth c ls X hex hr K hl
  obtain ⟨hx, hb, hml, hown, hts, hK, hA, hth, hlk, hl9⟩ := id X
  have hl : lv_has ls 2 [(0, .ref (ad 0)), (1, .int x1)] := hl
  dsimp only [wp_S_incident] at hw
  refine lv_iload_n hx hb dS_incident_0 rfl (lv_at hl 1 rfl) ?_
  refine gcSV X K (n0 := 1) (As := [.int x1]) (rest := []) (hM := (met_S_checkRank hl9 D ad ca sa _ x1 f a b _ _ hw)) (hg := wl_good) (w1 := (tm1 (i := 236) rfl rfl)) (w2 := (tm1 (i := 237) rfl rfl)) (w4 := (tm1 (i := 1) rfl rfl)) (w5 := (tm1 (i := 238) rfl rfl)) (hd := ⟨by decide, by decide, by decide +kernel⟩) (hrc := rfl) (hrs := rfl) (hR := ⟨Nat.le_of_ble_eq_true rfl, Nat.le_of_ble_eq_true rfl⟩) (hn := rfl) (hsz := hl.1) (hst := rfl) (hW := Nat.le_of_ble_eq_true rfl) (hdg := dS_incident_1) (hf := ⟨Nat.le_of_ble_eq_true rfl, Nat.le_of_ble_eq_true rfl⟩) (fun E ce q9 f1 a1 b1 H1 locs1 hw K hce hv hcl => outX X hex K hw hce hv hcl (by decide) (by decide)) (fun f1 a1 b1 H locs hw K => ?_)
  refine lv_aload_n hx hb dS_incident_4 rfl (lv_at hl 0 rfl) ?_
  refine gGet X K (o := 0) (k := 6) (v := .int (f1 1)) (by decide) kS_o0 rfl inS_o0 (by decide) (tm1 (i := 88) rfl rfl) rfl dS_incident_5 ?_
  refine lv_bipush (v := (6 : Int32)) hx hb dS_incident_8 (by decide) ?_
  refine lv_icmp_lt (tgt := 23) hx hb dS_incident_10 (by decide) (fun hc => ?_) (fun hc => ?_)
  · replace hw := hw.1 hc
    refine lv_aload_n hx hb dS_incident_23 rfl (lv_at hl 0 rfl) ?_
    refine gGet X K (o := 0) (k := 7) (v := .ref (ad 18)) (by decide) kS_o0 rfl inS_o0 (by decide) (tm1 (i := 89) rfl rfl) rfl dS_incident_24 ?_
    refine lv_aload_n hx hb dS_incident_27 rfl (lv_at hl 0 rfl) ?_
    refine gGet X K (o := 0) (k := 6) (v := .int (f1 1)) (by decide) kS_o0 rfl inS_o0 (by decide) (tm1 (i := 88) rfl rfl) rfl dS_incident_28 ?_
    refine lv_iload_n hx hb dS_incident_31 rfl (lv_at hl 1 rfl) ?_
    obtain ⟨hi, hw⟩ := hw
    refine gist X K (o := 18) (t0 := 0) (by decide) kS_c18 rfl hi dS_incident_32 kS_p18 (fun H locs K => ?_)
    refine lv_aload_n hx hb dS_incident_33 rfl (lv_at hl 0 rfl) ?_
    refine gGet X K (o := 0) (k := 8) (v := .ref (ad 19)) (by decide) kS_o0 rfl inS_o0 (by decide) (tm1 (i := 90) rfl rfl) rfl dS_incident_34 ?_
    refine lv_aload_n hx hb dS_incident_37 rfl (lv_at hl 0 rfl) ?_
    refine gGet X K (o := 0) (k := 6) (v := .int (f1 1)) (by decide) kS_o0 rfl inS_o0 (by decide) (tm1 (i := 88) rfl rfl) rfl dS_incident_38 ?_
    refine lv_iconst (v := (1 : Int32)) hx hb dS_incident_41 (by decide) ?_
    obtain ⟨hi, hw⟩ := hw
    refine gzst X K (o := 19) (t0 := 1) (by decide) kS_c19 rfl hi dS_incident_42 kS_p19 (fun H locs K => ?_)
    refine lv_aload_n hx hb dS_incident_43 rfl (lv_at hl 0 rfl) ?_
    refine lv_dup hx hb dS_incident_44 rfl ?_
    refine gGet X K (o := 0) (k := 6) (v := .int (f1 1)) (by decide) kS_o0 rfl inS_o0 (by decide) (tm1 (i := 88) rfl rfl) rfl dS_incident_45 ?_
    refine lv_iconst (v := (1 : Int32)) hx hb dS_incident_48 (by decide) ?_
    refine lv_iadd hx hb dS_incident_49 ?_
    refine gPut X K (o := 0) (k := 6) (v := .int ((f1 1) + (1 : Int32))) (ty := .int) tS_o0 tS_o0_ok nS_o0 (by decide) kS_o0 rfl inS_o0 (by decide) (tm1 (i := 88) rfl rfl) rfl rfl rfl rfl (by simp [flS_o0]) dS_incident_50 kS_u0_6 (fun H locs K => ?_)
    refine lv_aload_n hx hb dS_incident_53 rfl (lv_at hl 0 rfl) ?_
    refine gGet X K (o := 0) (k := 6) (v := .int ((va_up f1 1 ((f1 1) + (1 : Int32))) 1)) (by decide) kS_o0 rfl inS_o0 (by decide) (tm1 (i := 88) rfl rfl) rfl dS_incident_54 ?_
    refine lv_iconst (v := (1 : Int32)) hx hb dS_incident_57 (by decide) ?_
    refine lv_isub hx hb dS_incident_58 ?_
    exact endI X K hr rfl hw (by decide) (by decide) dS_incident_59
  · replace hw := hw.2 hc
    exact throwX X hex K (k := 3) (names := ["java/lang/RuntimeException", "java/lang/Exception"]) hw (by decide +kernel) (by decide +kernel) rfl (tm1 (i := 213) rfl rfl) (tm1 (i := 9) rfl rfl) xg_S_81 xb_S_81 xo_S_81_77 hl.1 dS_incident_13 dS_incident_16 dS_incident_17 dS_incident_19 dS_incident_22 (by decide) (by decide) (by decide) (by decide) (by decide) (by decide)
set_option maxHeartbeats 4000000 in
set_option maxRecDepth 100000 in
theorem LS_checkIncident_12 {p : Program} {l : Launch} {e : Env} {s : State} {m : MethodId} {below : List Frame} {meth : Method} {c : Code} {D : va_G} {sa : Nat → Nat} {ad : Nat → Nat} {ca : Nat → ClassId} {A : Nat → Prop} {y1 : Int32} {po : wF → wA → wB → Prop} {px : String → wF → wA → wB → Prop} (X : cx Wl (tyS ca) txS D vwCl sa A p l s m ([.ref (ad 0), .int y1] : List Value).toArray meth c cS_checkIncident 2 "SendBest") (hex : ∀ x ∈ c.exceptionTable.toList, False) (hr : meth.sig.returnType = none) : ∀ (f : wF) (a : wA) (b : wB), wp_S_checkIncident_12 po px f a b → ∀ (H : Heap) (locs : List Loc), wd nS kS D vwCl ad ca A s H locs f a b → ∀ (ls : Array Slot), lv_has ls 2 [] → W p l e ({ frames := 6, cells := 1, slots := 6, locals := 82 }) s m ([.ref (ad 0), .int y1] : List Value).toArray below meth c H locs 0 0 (vx_MQ below (va_Qv (fun (u : wF × wA × wB) => po u.1 u.2.1 u.2.2) (sPost nS kS D vwCl ad ca A) A) (sX nS kS D vwCl ad ca A px) ([.ref (ad 0), .int y1] : List Value).toArray s 1 6 A) (F0 m 12 ls []) := by
  obtain ⟨hx, hb, hml, hown, hts, hK, hA, hth, hlk, hl9⟩ := id X
  intro  f a b hw H locs K ls hl
  dsimp only [wp_S_checkIncident_12] at hw
  exact throwX X hex K (k := 4) (names := ["java/lang/RuntimeException", "java/lang/Exception"]) hw (by decide +kernel) (by decide +kernel) rfl (tm2 (i := 14) rfl rfl) (tm1 (i := 10) rfl rfl) xg_S_168 xb_S_168 xo_S_168_164 hl.1 dS_checkIncident_12 dS_checkIncident_15 dS_checkIncident_16 dS_checkIncident_18 dS_checkIncident_21 (by decide) (by decide) (by decide) (by decide) (by decide) (by decide)
set_option maxHeartbeats 4000000 in
set_option maxRecDepth 100000 in
theorem met_S_checkIncident {l : Launch} (hl9 : l.stackTraces = false) (D : va_G) (ad : Nat → Nat) (ca : Nat → ClassId) (sa : Nat → Nat) (sz : Nat) (x1 : Int32) (f : wF) (a : wA) (b : wB) (po : wF → wA → wB → Prop) (px : String → wF → wA → wB → Prop) (hw : wp_S_checkIncident po px x1 f a b) : mV nS kS (tyS ca) txS D vwCl l yS_checkIncident (Cond.code yS_checkIncident cS_checkIncident 2 none :: Wl) ({ frames := 6, cells := 1, slots := 6, locals := 82 }) [.ref (ad 0), .int x1] ad ca sa sz f a b po px 1 6 := by
  refine ofV (by decide) hl9 (Nat.le_of_ble_eq_true rfl) ?_
  intro p e s m below meth c ls X hex hr K hl
  obtain ⟨hx, hb, hml, hown, hts, hK, hA, hth, hlk, hl9⟩ := id X
  have hl : lv_has ls 2 [(0, .ref (ad 0)), (1, .int x1)] := hl
  dsimp only [wp_S_checkIncident] at hw
  refine lv_iload_n hx hb dS_checkIncident_0 rfl (lv_at hl 1 rfl) ?_
  refine lv_if_lt (tgt := 12) hx hb dS_checkIncident_1 (by decide) (fun hc => ?_) (fun hc => ?_)
  · replace hw := hw.1 hc
    exact LS_checkIncident_12 X hex hr f a b hw _ _ K _ (lv_sub hl [] rfl)
  · replace hw := hw.2 hc
    refine lv_iload_n hx hb dS_checkIncident_4 rfl (lv_at hl 1 rfl) ?_
    refine lv_aload_n hx hb dS_checkIncident_5 rfl (lv_at hl 0 rfl) ?_
    refine gGet X K (o := 0) (k := 6) (v := .int (f 1)) (by decide) kS_o0 rfl inS_o0 (by decide) (tm1 (i := 88) rfl rfl) rfl dS_checkIncident_6 ?_
    refine lv_icmp_lt (tgt := 22) hx hb dS_checkIncident_9 (by decide) (fun hc => ?_) (fun hc => ?_)
    · replace hw := hw.1 hc
      exact endV X K hr hw (by decide) (by decide) dS_checkIncident_22
    · replace hw := hw.2 hc
      exact LS_checkIncident_12 X hex hr f a b hw _ _ K _ (lv_sub hl [] rfl)
set_option maxHeartbeats 4000000 in
set_option maxRecDepth 100000 in
theorem met_S_checkOpen {l : Launch} (hl9 : l.stackTraces = false) (D : va_G) (ad : Nat → Nat) (ca : Nat → ClassId) (sa : Nat → Nat) (sz : Nat) (x1 : Int32) (f : wF) (a : wA) (b : wB) (po : wF → wA → wB → Prop) (px : String → wF → wA → wB → Prop) (hw : wp_S_checkOpen po px x1 f a b) : mV nS kS (tyS ca) txS D vwCl l yS_checkOpen (Cond.code yS_checkOpen cS_checkOpen 2 none :: Wl) ({ frames := 6, cells := 1, slots := 6, locals := 82 }) [.ref (ad 0), .int x1] ad ca sa sz f a b po px 1 6 := by
  refine ofV (by decide) hl9 (Nat.le_of_ble_eq_true rfl) ?_
  intro p e s m below meth c ls X hex hr K hl
  obtain ⟨hx, hb, hml, hown, hts, hK, hA, hth, hlk, hl9⟩ := id X
  have hl : lv_has ls 2 [(0, .ref (ad 0)), (1, .int x1)] := hl
  dsimp only [wp_S_checkOpen] at hw
  refine lv_aload_n hx hb dS_checkOpen_0 rfl (lv_at hl 0 rfl) ?_
  refine gGet X K (o := 0) (k := 8) (v := .ref (ad 19)) (by decide) kS_o0 rfl inS_o0 (by decide) (tm1 (i := 90) rfl rfl) rfl dS_checkOpen_1 ?_
  refine lv_iload_n hx hb dS_checkOpen_4 rfl (lv_at hl 1 rfl) ?_
  obtain ⟨hi, hw⟩ := hw
  refine gzld X K (o := 19) (t0 := 1) (by decide) kS_c19 rfl hi dS_checkOpen_5 ?_
  refine lv_if_ne (tgt := 19) hx hb dS_checkOpen_6 (by decide) (fun hc => ?_) (fun hc => ?_)
  · replace hw := hw.1 hc
    exact endV X K hr hw (by decide) (by decide) dS_checkOpen_19
  · replace hw := hw.2 hc
    exact throwX X hex K (k := 5) (names := ["java/lang/RuntimeException", "java/lang/Exception"]) hw (by decide +kernel) (by decide +kernel) rfl (tm2 (i := 34) rfl rfl) (tm1 (i := 11) rfl rfl) xg_S_121 xb_S_121 xo_S_121_117 hl.1 dS_checkOpen_9 dS_checkOpen_12 dS_checkOpen_13 dS_checkOpen_15 dS_checkOpen_18 (by decide) (by decide) (by decide) (by decide) (by decide) (by decide)
set_option maxHeartbeats 4000000 in
set_option maxRecDepth 100000 in
theorem met_S_rank {l : Launch} (hl9 : l.stackTraces = false) (D : va_G) (ad : Nat → Nat) (ca : Nat → ClassId) (sa : Nat → Nat) (sz : Nat) (x1 : Int32) (x2 : Int32) (f : wF) (a : wA) (b : wB) (po : wF → wA → wB → Prop) (px : String → wF → wA → wB → Prop) (hw : wp_S_rank po px x1 x2 f a b) : mV nS kS (tyS ca) txS D vwCl l yS_rank (Cond.code yS_rank cS_rank 3 none :: Wl) ({ frames := 7, cells := 3, slots := 18, locals := 103 }) [.ref (ad 0), .int x1, .int x2] ad ca sa sz f a b po px 3 18 := by
  refine ofV (by decide) hl9 (Nat.le_of_ble_eq_true rfl) ?_
  intro p e s m below meth c ls X hex hr K hl
  obtain ⟨hx, hb, hml, hown, hts, hK, hA, hth, hlk, hl9⟩ := id X
  have hl : lv_has ls 3 [(0, .ref (ad 0)), (1, .int x1), (2, .int x2)] := hl
  dsimp only [wp_S_rank] at hw
  refine lv_aload_n hx hb dS_rank_0 rfl (lv_at hl 0 rfl) ?_
  refine lv_iload_n hx hb dS_rank_1 rfl (lv_at hl 1 rfl) ?_
  refine gcV X K (n0 := 1) (As := [.int x1]) (rest := []) (hM := (met_S_checkIncident hl9 D ad ca sa _ x1 f a b _ _ hw)) (o := 0) (ho := by decide) (hko := kS_o0) (hci := rfl) (hg := wl_good) (w1 := (tm2 (i := 10) rfl rfl)) (w2 := (tm2 (i := 12) rfl rfl)) (w3 := (tm0 (i := 1) rfl rfl)) (w4 := (tm1 (i := 1) rfl rfl)) (w5 := (tm2 (i := 13) rfl rfl)) (hd := ⟨rfl, by decide, by decide, by decide +kernel⟩) (hrc := rfl) (hrs := rfl) (hR := ⟨Nat.le_of_ble_eq_true rfl, Nat.le_of_ble_eq_true rfl⟩) (hn := rfl) (hsz := hl.1) (hst := rfl) (hW := Nat.le_of_ble_eq_true rfl) (hdg := dS_rank_2) (hf := ⟨Nat.le_of_ble_eq_true rfl, Nat.le_of_ble_eq_true rfl⟩) (fun E ce q9 f1 a1 b1 H1 locs1 hw K hce hv hcl => outX X hex K hw hce hv hcl (by decide) (by decide)) (fun f2 a2 b2 H locs hw K => ?_)
  refine lv_iload_n hx hb dS_rank_5 rfl (lv_at hl 2 rfl) ?_
  refine gcSV X K (n0 := 1) (As := [.int x2]) (rest := []) (hM := (met_S_checkRank hl9 D ad ca sa _ x2 f2 a2 b2 _ _ hw)) (hg := wl_good) (w1 := (tm1 (i := 236) rfl rfl)) (w2 := (tm1 (i := 237) rfl rfl)) (w4 := (tm1 (i := 1) rfl rfl)) (w5 := (tm1 (i := 238) rfl rfl)) (hd := ⟨by decide, by decide, by decide +kernel⟩) (hrc := rfl) (hrs := rfl) (hR := ⟨Nat.le_of_ble_eq_true rfl, Nat.le_of_ble_eq_true rfl⟩) (hn := rfl) (hsz := hl.1) (hst := rfl) (hW := Nat.le_of_ble_eq_true rfl) (hdg := dS_rank_6) (hf := ⟨Nat.le_of_ble_eq_true rfl, Nat.le_of_ble_eq_true rfl⟩) (fun E ce q9 f1 a1 b1 H1 locs1 hw K hce hv hcl => outX X hex K hw hce hv hcl (by decide) (by decide)) (fun f6 a6 b6 H locs hw K => ?_)
  refine lv_aload_n hx hb dS_rank_9 rfl (lv_at hl 0 rfl) ?_
  refine lv_iload_n hx hb dS_rank_10 rfl (lv_at hl 1 rfl) ?_
  refine gcV X K (n0 := 1) (As := [.int x1]) (rest := []) (hM := (met_S_checkOpen hl9 D ad ca sa _ x1 f6 a6 b6 _ _ hw)) (o := 0) (ho := by decide) (hko := kS_o0) (hci := rfl) (hg := wl_good) (w1 := (tm2 (i := 30) rfl rfl)) (w2 := (tm2 (i := 32) rfl rfl)) (w3 := (tm0 (i := 2) rfl rfl)) (w4 := (tm1 (i := 1) rfl rfl)) (w5 := (tm2 (i := 33) rfl rfl)) (hd := ⟨rfl, by decide, by decide, by decide +kernel⟩) (hrc := rfl) (hrs := rfl) (hR := ⟨Nat.le_of_ble_eq_true rfl, Nat.le_of_ble_eq_true rfl⟩) (hn := rfl) (hsz := hl.1) (hst := rfl) (hW := Nat.le_of_ble_eq_true rfl) (hdg := dS_rank_11) (hf := ⟨Nat.le_of_ble_eq_true rfl, Nat.le_of_ble_eq_true rfl⟩) (fun E ce q9 f1 a1 b1 H1 locs1 hw K hce hv hcl => outX X hex K hw hce hv hcl (by decide) (by decide)) (fun f11 a11 b11 H locs hw K => ?_)
  refine lv_aload_n hx hb dS_rank_14 rfl (lv_at hl 0 rfl) ?_
  refine gGet X K (o := 0) (k := 7) (v := .ref (ad 18)) (by decide) kS_o0 rfl inS_o0 (by decide) (tm1 (i := 89) rfl rfl) rfl dS_rank_15 ?_
  refine lv_iload_n hx hb dS_rank_18 rfl (lv_at hl 1 rfl) ?_
  refine lv_iload_n hx hb dS_rank_19 rfl (lv_at hl 2 rfl) ?_
  obtain ⟨hi, hw⟩ := hw
  refine gist X K (o := 18) (t0 := 0) (by decide) kS_c18 rfl hi dS_rank_20 kS_p18 (fun H locs K => ?_)
  exact endV X K hr hw (by decide) (by decide) dS_rank_21
set_option maxHeartbeats 4000000 in
set_option maxRecDepth 100000 in
theorem LS_checkSkill_10 {p : Program} {l : Launch} {e : Env} {s : State} {m : MethodId} {below : List Frame} {meth : Method} {c : Code} {D : va_G} {sa : Nat → Nat} {ad : Nat → Nat} {ca : Nat → ClassId} {A : Nat → Prop} {y0 : Int32} {po : wF → wA → wB → Prop} {px : String → wF → wA → wB → Prop} (X : cx Wl (tyS ca) txS D vwCl sa A p l s m ([.int y0] : List Value).toArray meth c cS_checkSkill 1 "SendBest") (hex : ∀ x ∈ c.exceptionTable.toList, False) (hr : meth.sig.returnType = none) : ∀ (f : wF) (a : wA) (b : wB), wp_S_checkSkill_10 po px f a b → ∀ (H : Heap) (locs : List Loc), wd nS kS D vwCl ad ca A s H locs f a b → ∀ (ls : Array Slot), lv_has ls 1 [] → W p l e ({ frames := 6, cells := 1, slots := 6, locals := 82 }) s m ([.int y0] : List Value).toArray below meth c H locs 0 0 (vx_MQ below (va_Qv (fun (u : wF × wA × wB) => po u.1 u.2.1 u.2.2) (sPost nS kS D vwCl ad ca A) A) (sX nS kS D vwCl ad ca A px) ([.int y0] : List Value).toArray s 1 6 A) (F0 m 10 ls []) := by
  obtain ⟨hx, hb, hml, hown, hts, hK, hA, hth, hlk, hl9⟩ := id X
  intro  f a b hw H locs K ls hl
  dsimp only [wp_S_checkSkill_10] at hw
  exact throwX X hex K (k := 6) (names := ["java/lang/RuntimeException", "java/lang/Exception"]) hw (by decide +kernel) (by decide +kernel) rfl (tm2 (i := 14) rfl rfl) (tm1 (i := 10) rfl rfl) xg_S_168 xb_S_168 xo_S_168_164 hl.1 dS_checkSkill_10 dS_checkSkill_13 dS_checkSkill_14 dS_checkSkill_16 dS_checkSkill_19 (by decide) (by decide) (by decide) (by decide) (by decide) (by decide)
set_option maxHeartbeats 4000000 in
set_option maxRecDepth 100000 in
theorem met_S_checkSkill {l : Launch} (hl9 : l.stackTraces = false) (D : va_G) (ad : Nat → Nat) (ca : Nat → ClassId) (sa : Nat → Nat) (sz : Nat) (x0 : Int32) (f : wF) (a : wA) (b : wB) (po : wF → wA → wB → Prop) (px : String → wF → wA → wB → Prop) (hw : wp_S_checkSkill po px x0 f a b) : mV nS kS (tyS ca) txS D vwCl l yS_checkSkill (Cond.code yS_checkSkill cS_checkSkill 1 none :: Wl) ({ frames := 6, cells := 1, slots := 6, locals := 82 }) [.int x0] ad ca sa sz f a b po px 1 6 := by
  refine ofV (by decide) hl9 (Nat.le_of_ble_eq_true rfl) ?_
  intro p e s m below meth c ls X hex hr K hl
  obtain ⟨hx, hb, hml, hown, hts, hK, hA, hth, hlk, hl9⟩ := id X
  have hl : lv_has ls 1 [(0, .int x0)] := hl
  dsimp only [wp_S_checkSkill] at hw
  refine lv_iload_n hx hb dS_checkSkill_0 rfl (lv_at hl 0 rfl) ?_
  refine lv_if_lt (tgt := 10) hx hb dS_checkSkill_1 (by decide) (fun hc => ?_) (fun hc => ?_)
  · replace hw := hw.1 hc
    exact LS_checkSkill_10 X hex hr f a b hw _ _ K _ (lv_sub hl [] rfl)
  · replace hw := hw.2 hc
    refine lv_iload_n hx hb dS_checkSkill_4 rfl (lv_at hl 0 rfl) ?_
    refine lv_bipush (v := (16 : Int32)) hx hb dS_checkSkill_5 (by decide) ?_
    refine lv_icmp_lt (tgt := 20) hx hb dS_checkSkill_7 (by decide) (fun hc => ?_) (fun hc => ?_)
    · replace hw := hw.1 hc
      exact endV X K hr hw (by decide) (by decide) dS_checkSkill_20
    · replace hw := hw.2 hc
      exact LS_checkSkill_10 X hex hr f a b hw _ _ K _ (lv_sub hl [] rfl)
set_option maxHeartbeats 4000000 in
set_option maxRecDepth 100000 in
theorem LS_need_58 {p : Program} {l : Launch} {e : Env} {s : State} {m : MethodId} {below : List Frame} {meth : Method} {c : Code} {D : va_G} {sa : Nat → Nat} {ad : Nat → Nat} {ca : Nat → ClassId} {A : Nat → Prop} {y1 : Int32} {y2 : Int32} {y3 : Int32} {po : Int32 → wF → wA → wB → Prop} {px : String → wF → wA → wB → Prop} (X : cx Wl (tyS ca) txS D vwCl sa A p l s m ([.ref (ad 0), .int y1, .int y2, .int y3] : List Value).toArray meth c cS_need 5 "SendBest") (hex : ∀ x ∈ c.exceptionTable.toList, False) (hr : meth.sig.returnType = (some .int)) : ∀ n : Nat, ∀ (x1 : Int32) (x2 : Int32) (x3 : Int32) (x4 : Int32) (f : wF) (a : wA) (b : wB), wp_S_need_58 po px n x1 x2 x3 x4 f a b → ∀ (H : Heap) (locs : List Loc), wd nS kS D vwCl ad ca A s H locs f a b → ∀ (ls : Array Slot), lv_has ls 5 [(0, .ref (ad 0)), (1, .int x1), (2, .int x2), (3, .int x3), (4, .int x4)] → W p l e ({ frames := 7, cells := 4, slots := 24, locals := 103 }) s m ([.ref (ad 0), .int y1, .int y2, .int y3] : List Value).toArray below meth c H locs 3 18 (vx_MQ below (va_Qi (fun r (u : wF × wA × wB) => po r u.1 u.2.1 u.2.2) (sPost nS kS D vwCl ad ca A) A) (sX nS kS D vwCl ad ca A px) ([.ref (ad 0), .int y1, .int y2, .int y3] : List Value).toArray s 4 24 A) (F0 m 58 ls []) := by
  obtain ⟨hx, hb, hml, hown, hts, hK, hA, hth, hlk, hl9⟩ := id X
  intro n
  induction n with
  | zero => intro x1 x2 x3 x4 f a b hw; exact hw.elim
  | succ n ih =>
    intro x1 x2 x3 x4 f a b hw H locs K ls hl
    dsimp only [wp_S_need_58] at hw
    refine lv_iload hx hb dS_need_58 (lv_at hl 4 rfl) ?_
    refine lv_iload_n hx hb dS_need_60 rfl (lv_at hl 3 rfl) ?_
    refine lv_icmp_ge (tgt := 100) hx hb dS_need_61 (by decide) (fun hc => ?_) (fun hc => ?_)
    · replace hw := hw.1 hc
      refine lv_aload_n hx hb dS_need_100 rfl (lv_at hl 0 rfl) ?_
      refine gGet X K (o := 0) (k := 9) (v := .int (f 2)) (by decide) kS_o0 rfl inS_o0 (by decide) (tm1 (i := 91) rfl rfl) rfl dS_need_101 ?_
      exact endI X K hr rfl hw (by decide) (by decide) dS_need_104
    · replace hw := hw.2 hc
      refine lv_aload_n hx hb dS_need_64 rfl (lv_at hl 0 rfl) ?_
      refine gGet X K (o := 0) (k := 10) (v := .ref (ad 20)) (by decide) kS_o0 rfl inS_o0 (by decide) (tm1 (i := 92) rfl rfl) rfl dS_need_65 ?_
      refine lv_aload_n hx hb dS_need_68 rfl (lv_at hl 0 rfl) ?_
      refine gGet X K (o := 0) (k := 9) (v := .int (f 2)) (by decide) kS_o0 rfl inS_o0 (by decide) (tm1 (i := 91) rfl rfl) rfl dS_need_69 ?_
      refine lv_iload_n hx hb dS_need_72 rfl (lv_at hl 1 rfl) ?_
      obtain ⟨hi, hw⟩ := hw
      refine gist X K (o := 20) (t0 := 0) (by decide) kS_c20 rfl hi dS_need_73 kS_p20 (fun H locs K => ?_)
      refine lv_aload_n hx hb dS_need_74 rfl (lv_at hl 0 rfl) ?_
      refine gGet X K (o := 0) (k := 11) (v := .ref (ad 21)) (by decide) kS_o0 rfl inS_o0 (by decide) (tm1 (i := 93) rfl rfl) rfl dS_need_75 ?_
      refine lv_aload_n hx hb dS_need_78 rfl (lv_at hl 0 rfl) ?_
      refine gGet X K (o := 0) (k := 9) (v := .int (f 2)) (by decide) kS_o0 rfl inS_o0 (by decide) (tm1 (i := 91) rfl rfl) rfl dS_need_79 ?_
      refine lv_iload_n hx hb dS_need_82 rfl (lv_at hl 2 rfl) ?_
      obtain ⟨hi, hw⟩ := hw
      refine gist X K (o := 21) (t0 := 0) (by decide) kS_c21 rfl hi dS_need_83 kS_p21 (fun H locs K => ?_)
      refine lv_aload_n hx hb dS_need_84 rfl (lv_at hl 0 rfl) ?_
      refine lv_dup hx hb dS_need_85 rfl ?_
      refine gGet X K (o := 0) (k := 9) (v := .int (f 2)) (by decide) kS_o0 rfl inS_o0 (by decide) (tm1 (i := 91) rfl rfl) rfl dS_need_86 ?_
      refine lv_iconst (v := (1 : Int32)) hx hb dS_need_89 (by decide) ?_
      refine lv_iadd hx hb dS_need_90 ?_
      refine gPut X K (o := 0) (k := 9) (v := .int ((f 2) + (1 : Int32))) (ty := .int) tS_o0 tS_o0_ok nS_o0 (by decide) kS_o0 rfl inS_o0 (by decide) (tm1 (i := 91) rfl rfl) rfl rfl rfl rfl (by simp [flS_o0]) dS_need_91 kS_u0_9 (fun H locs K => ?_)
      refine lv_iinc (v := (x4 + (1 : Int32))) (lv' := [(4, .int (x4 + (1 : Int32))), (0, .ref (ad 0)), (1, .int x1), (2, .int x2), (3, .int x3)]) hx hb dS_need_94 hl (k := 4) rfl rfl (by decide) rfl (fun ls hl => ?_)
      refine lv_goto (tgt := 58) hx hb dS_need_97 (by decide) ?_
      exact ih x1 x2 x3 (x4 + (1 : Int32)) (va_up f 2 ((f 2) + (1 : Int32))) (va_up (va_up a 20 (upd (a 20) (f 2).toNatClampNeg x1)) 21 (upd ((va_up a 20 (upd (a 20) (f 2).toNatClampNeg x1)) 21) (f 2).toNatClampNeg x2)) b hw _ _ K _ (lv_sub hl [1, 2, 3, 4, 0] rfl)
set_option maxHeartbeats 4000000 in
set_option maxRecDepth 100000 in
theorem LS_need_19 {p : Program} {l : Launch} {e : Env} {s : State} {m : MethodId} {below : List Frame} {meth : Method} {c : Code} {D : va_G} {sa : Nat → Nat} {ad : Nat → Nat} {ca : Nat → ClassId} {A : Nat → Prop} {y1 : Int32} {y2 : Int32} {y3 : Int32} {po : Int32 → wF → wA → wB → Prop} {px : String → wF → wA → wB → Prop} (X : cx Wl (tyS ca) txS D vwCl sa A p l s m ([.ref (ad 0), .int y1, .int y2, .int y3] : List Value).toArray meth c cS_need 5 "SendBest") (hex : ∀ x ∈ c.exceptionTable.toList, False) (hr : meth.sig.returnType = (some .int)) : ∀ (f : wF) (a : wA) (b : wB), wp_S_need_19 po px f a b → ∀ (H : Heap) (locs : List Loc), wd nS kS D vwCl ad ca A s H locs f a b → ∀ (ls : Array Slot), lv_has ls 5 [] → W p l e ({ frames := 7, cells := 4, slots := 24, locals := 103 }) s m ([.ref (ad 0), .int y1, .int y2, .int y3] : List Value).toArray below meth c H locs 2 12 (vx_MQ below (va_Qi (fun r (u : wF × wA × wB) => po r u.1 u.2.1 u.2.2) (sPost nS kS D vwCl ad ca A) A) (sX nS kS D vwCl ad ca A px) ([.ref (ad 0), .int y1, .int y2, .int y3] : List Value).toArray s 4 24 A) (F0 m 19 ls []) := by
  obtain ⟨hx, hb, hml, hown, hts, hK, hA, hth, hlk, hl9⟩ := id X
  intro  f a b hw H locs K ls hl
  dsimp only [wp_S_need_19] at hw
  exact throwX X hex K (k := 7) (names := ["java/lang/RuntimeException", "java/lang/Exception"]) hw (by decide +kernel) (by decide +kernel) rfl (tm1 (i := 144) rfl rfl) (tm1 (i := 8) rfl rfl) xg_S_71 xb_S_71 xo_S_71_67 hl.1 dS_need_19 dS_need_22 dS_need_23 dS_need_25 dS_need_28 (by decide) (by decide) (by decide) (by decide) (by decide) (by decide)
set_option maxHeartbeats 4000000 in
set_option maxRecDepth 100000 in
theorem met_S_need {l : Launch} (hl9 : l.stackTraces = false) (D : va_G) (ad : Nat → Nat) (ca : Nat → ClassId) (sa : Nat → Nat) (sz : Nat) (x1 : Int32) (x2 : Int32) (x3 : Int32) (f : wF) (a : wA) (b : wB) (po : Int32 → wF → wA → wB → Prop) (px : String → wF → wA → wB → Prop) (hw : wp_S_need po px x1 x2 x3 f a b) : mI nS kS (tyS ca) txS D vwCl l yS_need (Cond.code yS_need cS_need 5 (some .int) :: Wl) ({ frames := 7, cells := 4, slots := 24, locals := 103 }) [.ref (ad 0), .int x1, .int x2, .int x3] ad ca sa sz f a b po px 4 24 := by
  refine ofI (by decide) hl9 (Nat.le_of_ble_eq_true rfl) ?_
  intro p e s m below meth c ls X hex hr K hl
  obtain ⟨hx, hb, hml, hown, hts, hK, hA, hth, hlk, hl9⟩ := id X
  have hl : lv_has ls 5 [(0, .ref (ad 0)), (1, .int x1), (2, .int x2), (3, .int x3)] := hl
  dsimp only [wp_S_need] at hw
  refine lv_aload_n hx hb dS_need_0 rfl (lv_at hl 0 rfl) ?_
  refine lv_iload_n hx hb dS_need_1 rfl (lv_at hl 1 rfl) ?_
  refine gcV X K (n0 := 1) (As := [.int x1]) (rest := []) (hM := (met_S_checkIncident hl9 D ad ca sa _ x1 f a b _ _ hw)) (o := 0) (ho := by decide) (hko := kS_o0) (hci := rfl) (hg := wl_good) (w1 := (tm2 (i := 10) rfl rfl)) (w2 := (tm2 (i := 12) rfl rfl)) (w3 := (tm0 (i := 1) rfl rfl)) (w4 := (tm1 (i := 1) rfl rfl)) (w5 := (tm2 (i := 13) rfl rfl)) (hd := ⟨rfl, by decide, by decide, by decide +kernel⟩) (hrc := rfl) (hrs := rfl) (hR := ⟨Nat.le_of_ble_eq_true rfl, Nat.le_of_ble_eq_true rfl⟩) (hn := rfl) (hsz := hl.1) (hst := rfl) (hW := Nat.le_of_ble_eq_true rfl) (hdg := dS_need_2) (hf := ⟨Nat.le_of_ble_eq_true rfl, Nat.le_of_ble_eq_true rfl⟩) (fun E ce q9 f1 a1 b1 H1 locs1 hw K hce hv hcl => outX X hex K hw hce hv hcl (by decide) (by decide)) (fun f2 a2 b2 H locs hw K => ?_)
  refine lv_iload_n hx hb dS_need_5 rfl (lv_at hl 2 rfl) ?_
  refine gcSV X K (n0 := 1) (As := [.int x2]) (rest := []) (hM := (met_S_checkSkill hl9 D ad ca sa _ x2 f2 a2 b2 _ _ hw)) (hg := wl_good) (w1 := (tm2 (i := 57) rfl rfl)) (w2 := (tm2 (i := 58) rfl rfl)) (w4 := (tm1 (i := 1) rfl rfl)) (w5 := (tm2 (i := 59) rfl rfl)) (hd := ⟨by decide, by decide, by decide +kernel⟩) (hrc := rfl) (hrs := rfl) (hR := ⟨Nat.le_of_ble_eq_true rfl, Nat.le_of_ble_eq_true rfl⟩) (hn := rfl) (hsz := hl.1) (hst := rfl) (hW := Nat.le_of_ble_eq_true rfl) (hdg := dS_need_6) (hf := ⟨Nat.le_of_ble_eq_true rfl, Nat.le_of_ble_eq_true rfl⟩) (fun E ce q9 f1 a1 b1 H1 locs1 hw K hce hv hcl => outX X hex K hw hce hv hcl (by decide) (by decide)) (fun f6 a6 b6 H locs hw K => ?_)
  refine lv_iload_n hx hb dS_need_9 rfl (lv_at hl 3 rfl) ?_
  refine lv_if_lt (tgt := 19) hx hb dS_need_10 (by decide) (fun hc => ?_) (fun hc => ?_)
  · replace hw := hw.1 hc
    exact LS_need_19 X hex hr f6 a6 b6 hw _ _ K _ (lv_sub hl [] rfl)
  · replace hw := hw.2 hc
    refine lv_iload_n hx hb dS_need_13 rfl (lv_at hl 3 rfl) ?_
    refine lv_bipush (v := (10 : Int32)) hx hb dS_need_14 (by decide) ?_
    refine lv_icmp_le (tgt := 29) hx hb dS_need_16 (by decide) (fun hc => ?_) (fun hc => ?_)
    · replace hw := hw.1 hc
      refine lv_aload_n hx hb dS_need_29 rfl (lv_at hl 0 rfl) ?_
      refine lv_iload_n hx hb dS_need_30 rfl (lv_at hl 1 rfl) ?_
      refine gcV X K (n0 := 1) (As := [.int x1]) (rest := []) (hM := (met_S_checkOpen hl9 D ad ca sa _ x1 f6 a6 b6 _ _ hw)) (o := 0) (ho := by decide) (hko := kS_o0) (hci := rfl) (hg := wl_good) (w1 := (tm2 (i := 30) rfl rfl)) (w2 := (tm2 (i := 32) rfl rfl)) (w3 := (tm0 (i := 2) rfl rfl)) (w4 := (tm1 (i := 1) rfl rfl)) (w5 := (tm2 (i := 33) rfl rfl)) (hd := ⟨rfl, by decide, by decide, by decide +kernel⟩) (hrc := rfl) (hrs := rfl) (hR := ⟨Nat.le_of_ble_eq_true rfl, Nat.le_of_ble_eq_true rfl⟩) (hn := rfl) (hsz := hl.1) (hst := rfl) (hW := Nat.le_of_ble_eq_true rfl) (hdg := dS_need_31) (hf := ⟨Nat.le_of_ble_eq_true rfl, Nat.le_of_ble_eq_true rfl⟩) (fun E ce q9 f1 a1 b1 H1 locs1 hw K hce hv hcl => outX X hex K hw hce hv hcl (by decide) (by decide)) (fun f31 a31 b31 H locs hw K => ?_)
      refine lv_aload_n hx hb dS_need_34 rfl (lv_at hl 0 rfl) ?_
      refine gGet X K (o := 0) (k := 9) (v := .int (f31 2)) (by decide) kS_o0 rfl inS_o0 (by decide) (tm1 (i := 91) rfl rfl) rfl dS_need_35 ?_
      refine lv_iload_n hx hb dS_need_38 rfl (lv_at hl 3 rfl) ?_
      refine lv_iadd hx hb dS_need_39 ?_
      refine lv_bipush (v := (10 : Int32)) hx hb dS_need_40 (by decide) ?_
      refine lv_icmp_le (tgt := 55) hx hb dS_need_42 (by decide) (fun hc => ?_) (fun hc => ?_)
      · replace hw := hw.1 hc
        refine lv_iconst (v := (0 : Int32)) hx hb dS_need_55 (by decide) ?_
        refine lv_istore (lv' := [(4, .int (0 : Int32)), (0, .ref (ad 0)), (1, .int x1), (2, .int x2), (3, .int x3)]) hx hb dS_need_56 hl (by decide) rfl (fun ls hl => ?_)
        obtain ⟨n9, hw⟩ := hw
        exact LS_need_58 X hex hr n9 x1 x2 x3 (0 : Int32) f31 a31 b31 hw _ _ K _ (lv_sub hl [1, 2, 3, 4, 0] rfl)
      · replace hw := hw.2 hc
        exact throwX X hex K (k := 8) (names := ["java/lang/RuntimeException", "java/lang/Exception"]) hw (by decide +kernel) (by decide +kernel) rfl (tm1 (i := 213) rfl rfl) (tm1 (i := 9) rfl rfl) xg_S_81 xb_S_81 xo_S_81_77 hl.1 dS_need_45 dS_need_48 dS_need_49 dS_need_51 dS_need_54 (by decide) (by decide) (by decide) (by decide) (by decide) (by decide)
    · replace hw := hw.2 hc
      exact LS_need_19 X hex hr f6 a6 b6 hw _ _ K _ (lv_sub hl [] rfl)
set_option maxHeartbeats 4000000 in
set_option maxRecDepth 100000 in
theorem LS_checkUnit_12 {p : Program} {l : Launch} {e : Env} {s : State} {m : MethodId} {below : List Frame} {meth : Method} {c : Code} {D : va_G} {sa : Nat → Nat} {ad : Nat → Nat} {ca : Nat → ClassId} {A : Nat → Prop} {y1 : Int32} {po : wF → wA → wB → Prop} {px : String → wF → wA → wB → Prop} (X : cx Wl (tyS ca) txS D vwCl sa A p l s m ([.ref (ad 0), .int y1] : List Value).toArray meth c cS_checkUnit 2 "SendBest") (hex : ∀ x ∈ c.exceptionTable.toList, False) (hr : meth.sig.returnType = none) : ∀ (f : wF) (a : wA) (b : wB), wp_S_checkUnit_12 po px f a b → ∀ (H : Heap) (locs : List Loc), wd nS kS D vwCl ad ca A s H locs f a b → ∀ (ls : Array Slot), lv_has ls 2 [] → W p l e ({ frames := 6, cells := 1, slots := 6, locals := 82 }) s m ([.ref (ad 0), .int y1] : List Value).toArray below meth c H locs 0 0 (vx_MQ below (va_Qv (fun (u : wF × wA × wB) => po u.1 u.2.1 u.2.2) (sPost nS kS D vwCl ad ca A) A) (sX nS kS D vwCl ad ca A px) ([.ref (ad 0), .int y1] : List Value).toArray s 1 6 A) (F0 m 12 ls []) := by
  obtain ⟨hx, hb, hml, hown, hts, hK, hA, hth, hlk, hl9⟩ := id X
  intro  f a b hw H locs K ls hl
  dsimp only [wp_S_checkUnit_12] at hw
  exact throwX X hex K (k := 9) (names := ["java/lang/RuntimeException", "java/lang/Exception"]) hw (by decide +kernel) (by decide +kernel) rfl (tm2 (i := 14) rfl rfl) (tm1 (i := 10) rfl rfl) xg_S_168 xb_S_168 xo_S_168_164 hl.1 dS_checkUnit_12 dS_checkUnit_15 dS_checkUnit_16 dS_checkUnit_18 dS_checkUnit_21 (by decide) (by decide) (by decide) (by decide) (by decide) (by decide)
set_option maxHeartbeats 4000000 in
set_option maxRecDepth 100000 in
theorem met_S_checkUnit {l : Launch} (hl9 : l.stackTraces = false) (D : va_G) (ad : Nat → Nat) (ca : Nat → ClassId) (sa : Nat → Nat) (sz : Nat) (x1 : Int32) (f : wF) (a : wA) (b : wB) (po : wF → wA → wB → Prop) (px : String → wF → wA → wB → Prop) (hw : wp_S_checkUnit po px x1 f a b) : mV nS kS (tyS ca) txS D vwCl l yS_checkUnit (Cond.code yS_checkUnit cS_checkUnit 2 none :: Wl) ({ frames := 6, cells := 1, slots := 6, locals := 82 }) [.ref (ad 0), .int x1] ad ca sa sz f a b po px 1 6 := by
  refine ofV (by decide) hl9 (Nat.le_of_ble_eq_true rfl) ?_
  intro p e s m below meth c ls X hex hr K hl
  obtain ⟨hx, hb, hml, hown, hts, hK, hA, hth, hlk, hl9⟩ := id X
  have hl : lv_has ls 2 [(0, .ref (ad 0)), (1, .int x1)] := hl
  dsimp only [wp_S_checkUnit] at hw
  refine lv_iload_n hx hb dS_checkUnit_0 rfl (lv_at hl 1 rfl) ?_
  refine lv_if_lt (tgt := 12) hx hb dS_checkUnit_1 (by decide) (fun hc => ?_) (fun hc => ?_)
  · replace hw := hw.1 hc
    exact LS_checkUnit_12 X hex hr f a b hw _ _ K _ (lv_sub hl [] rfl)
  · replace hw := hw.2 hc
    refine lv_iload_n hx hb dS_checkUnit_4 rfl (lv_at hl 1 rfl) ?_
    refine lv_aload_n hx hb dS_checkUnit_5 rfl (lv_at hl 0 rfl) ?_
    refine gGet X K (o := 0) (k := 0) (v := .int (f 0)) (by decide) kS_o0 rfl inS_o0 (by decide) (tm1 (i := 82) rfl rfl) rfl dS_checkUnit_6 ?_
    refine lv_icmp_lt (tgt := 22) hx hb dS_checkUnit_9 (by decide) (fun hc => ?_) (fun hc => ?_)
    · replace hw := hw.1 hc
      exact endV X K hr hw (by decide) (by decide) dS_checkUnit_22
    · replace hw := hw.2 hc
      exact LS_checkUnit_12 X hex hr f a b hw _ _ K _ (lv_sub hl [] rfl)
set_option maxHeartbeats 4000000 in
set_option maxRecDepth 100000 in
theorem LS_checkSeconds_11 {p : Program} {l : Launch} {e : Env} {s : State} {m : MethodId} {below : List Frame} {meth : Method} {c : Code} {D : va_G} {sa : Nat → Nat} {ad : Nat → Nat} {ca : Nat → ClassId} {A : Nat → Prop} {y0 : Int32} {po : wF → wA → wB → Prop} {px : String → wF → wA → wB → Prop} (X : cx Wl (tyS ca) txS D vwCl sa A p l s m ([.int y0] : List Value).toArray meth c cS_checkSeconds 1 "SendBest") (hex : ∀ x ∈ c.exceptionTable.toList, False) (hr : meth.sig.returnType = none) : ∀ (f : wF) (a : wA) (b : wB), wp_S_checkSeconds_11 po px f a b → ∀ (H : Heap) (locs : List Loc), wd nS kS D vwCl ad ca A s H locs f a b → ∀ (ls : Array Slot), lv_has ls 1 [] → W p l e ({ frames := 6, cells := 1, slots := 6, locals := 82 }) s m ([.int y0] : List Value).toArray below meth c H locs 0 0 (vx_MQ below (va_Qv (fun (u : wF × wA × wB) => po u.1 u.2.1 u.2.2) (sPost nS kS D vwCl ad ca A) A) (sX nS kS D vwCl ad ca A px) ([.int y0] : List Value).toArray s 1 6 A) (F0 m 11 ls []) := by
  obtain ⟨hx, hb, hml, hown, hts, hK, hA, hth, hlk, hl9⟩ := id X
  intro  f a b hw H locs K ls hl
  dsimp only [wp_S_checkSeconds_11] at hw
  exact throwX X hex K (k := 10) (names := ["java/lang/RuntimeException", "java/lang/Exception"]) hw (by decide +kernel) (by decide +kernel) rfl (tm1 (i := 144) rfl rfl) (tm1 (i := 8) rfl rfl) xg_S_71 xb_S_71 xo_S_71_67 hl.1 dS_checkSeconds_11 dS_checkSeconds_14 dS_checkSeconds_15 dS_checkSeconds_17 dS_checkSeconds_20 (by decide) (by decide) (by decide) (by decide) (by decide) (by decide)
set_option maxHeartbeats 4000000 in
set_option maxRecDepth 100000 in
theorem met_S_checkSeconds {l : Launch} (hl9 : l.stackTraces = false) (D : va_G) (ad : Nat → Nat) (ca : Nat → ClassId) (sa : Nat → Nat) (sz : Nat) (x0 : Int32) (f : wF) (a : wA) (b : wB) (po : wF → wA → wB → Prop) (px : String → wF → wA → wB → Prop) (hw : wp_S_checkSeconds po px x0 f a b) : mV nS kS (tyS ca) txS D vwCl l yS_checkSeconds (Cond.code yS_checkSeconds cS_checkSeconds 1 none :: Wl) ({ frames := 6, cells := 1, slots := 6, locals := 82 }) [.int x0] ad ca sa sz f a b po px 1 6 := by
  refine ofV (by decide) hl9 (Nat.le_of_ble_eq_true rfl) ?_
  intro p e s m below meth c ls X hex hr K hl
  obtain ⟨hx, hb, hml, hown, hts, hK, hA, hth, hlk, hl9⟩ := id X
  have hl : lv_has ls 1 [(0, .int x0)] := hl
  dsimp only [wp_S_checkSeconds] at hw
  refine lv_iload_n hx hb dS_checkSeconds_0 rfl (lv_at hl 0 rfl) ?_
  refine lv_iconst (v := (-1 : Int32)) hx hb dS_checkSeconds_1 (by decide) ?_
  refine lv_icmp_lt (tgt := 11) hx hb dS_checkSeconds_2 (by decide) (fun hc => ?_) (fun hc => ?_)
  · replace hw := hw.1 hc
    exact LS_checkSeconds_11 X hex hr f a b hw _ _ K _ (lv_sub hl [] rfl)
  · replace hw := hw.2 hc
    refine lv_iload_n hx hb dS_checkSeconds_5 rfl (lv_at hl 0 rfl) ?_
    refine lv_ldc (v := (99999 : Int32)) hx hb hown (hts _ (tm2 (i := 78) rfl rfl)) dS_checkSeconds_6 ?_
    refine lv_icmp_le (tgt := 21) hx hb dS_checkSeconds_8 (by decide) (fun hc => ?_) (fun hc => ?_)
    · replace hw := hw.1 hc
      exact endV X K hr hw (by decide) (by decide) dS_checkSeconds_21
    · replace hw := hw.2 hc
      exact LS_checkSeconds_11 X hex hr f a b hw _ _ K _ (lv_sub hl [] rfl)
set_option maxHeartbeats 4000000 in
set_option maxRecDepth 100000 in
theorem met_S_seconds {l : Launch} (hl9 : l.stackTraces = false) (D : va_G) (ad : Nat → Nat) (ca : Nat → ClassId) (sa : Nat → Nat) (sz : Nat) (x1 : Int32) (x2 : Int32) (x3 : Int32) (f : wF) (a : wA) (b : wB) (po : wF → wA → wB → Prop) (px : String → wF → wA → wB → Prop) (hw : wp_S_seconds po px x1 x2 x3 f a b) : mV nS kS (tyS ca) txS D vwCl l yS_seconds (Cond.code yS_seconds cS_seconds 4 none :: Wl) ({ frames := 7, cells := 3, slots := 18, locals := 103 }) [.ref (ad 0), .int x1, .int x2, .int x3] ad ca sa sz f a b po px 3 18 := by
  refine ofV (by decide) hl9 (Nat.le_of_ble_eq_true rfl) ?_
  intro p e s m below meth c ls X hex hr K hl
  obtain ⟨hx, hb, hml, hown, hts, hK, hA, hth, hlk, hl9⟩ := id X
  have hl : lv_has ls 4 [(0, .ref (ad 0)), (1, .int x1), (2, .int x2), (3, .int x3)] := hl
  dsimp only [wp_S_seconds] at hw
  refine lv_aload_n hx hb dS_seconds_0 rfl (lv_at hl 0 rfl) ?_
  refine lv_iload_n hx hb dS_seconds_1 rfl (lv_at hl 1 rfl) ?_
  refine gcV X K (n0 := 1) (As := [.int x1]) (rest := []) (hM := (met_S_checkUnit hl9 D ad ca sa _ x1 f a b _ _ hw)) (o := 0) (ho := by decide) (hko := kS_o0) (hci := rfl) (hg := wl_good) (w1 := (tm2 (i := 70) rfl rfl)) (w2 := (tm2 (i := 72) rfl rfl)) (w3 := (tm0 (i := 3) rfl rfl)) (w4 := (tm1 (i := 1) rfl rfl)) (w5 := (tm2 (i := 73) rfl rfl)) (hd := ⟨rfl, by decide, by decide, by decide +kernel⟩) (hrc := rfl) (hrs := rfl) (hR := ⟨Nat.le_of_ble_eq_true rfl, Nat.le_of_ble_eq_true rfl⟩) (hn := rfl) (hsz := hl.1) (hst := rfl) (hW := Nat.le_of_ble_eq_true rfl) (hdg := dS_seconds_2) (hf := ⟨Nat.le_of_ble_eq_true rfl, Nat.le_of_ble_eq_true rfl⟩) (fun E ce q9 f1 a1 b1 H1 locs1 hw K hce hv hcl => outX X hex K hw hce hv hcl (by decide) (by decide)) (fun f2 a2 b2 H locs hw K => ?_)
  refine lv_aload_n hx hb dS_seconds_5 rfl (lv_at hl 0 rfl) ?_
  refine lv_iload_n hx hb dS_seconds_6 rfl (lv_at hl 2 rfl) ?_
  refine gcV X K (n0 := 1) (As := [.int x2]) (rest := []) (hM := (met_S_checkIncident hl9 D ad ca sa _ x2 f2 a2 b2 _ _ hw)) (o := 0) (ho := by decide) (hko := kS_o0) (hci := rfl) (hg := wl_good) (w1 := (tm2 (i := 10) rfl rfl)) (w2 := (tm2 (i := 12) rfl rfl)) (w3 := (tm0 (i := 1) rfl rfl)) (w4 := (tm1 (i := 1) rfl rfl)) (w5 := (tm2 (i := 13) rfl rfl)) (hd := ⟨rfl, by decide, by decide, by decide +kernel⟩) (hrc := rfl) (hrs := rfl) (hR := ⟨Nat.le_of_ble_eq_true rfl, Nat.le_of_ble_eq_true rfl⟩) (hn := rfl) (hsz := hl.1) (hst := rfl) (hW := Nat.le_of_ble_eq_true rfl) (hdg := dS_seconds_7) (hf := ⟨Nat.le_of_ble_eq_true rfl, Nat.le_of_ble_eq_true rfl⟩) (fun E ce q9 f1 a1 b1 H1 locs1 hw K hce hv hcl => outX X hex K hw hce hv hcl (by decide) (by decide)) (fun f7 a7 b7 H locs hw K => ?_)
  refine lv_iload_n hx hb dS_seconds_10 rfl (lv_at hl 3 rfl) ?_
  refine gcSV X K (n0 := 1) (As := [.int x3]) (rest := []) (hM := (met_S_checkSeconds hl9 D ad ca sa _ x3 f7 a7 b7 _ _ hw)) (hg := wl_good) (w1 := (tm2 (i := 75) rfl rfl)) (w2 := (tm2 (i := 76) rfl rfl)) (w4 := (tm1 (i := 1) rfl rfl)) (w5 := (tm2 (i := 77) rfl rfl)) (hd := ⟨by decide, by decide, by decide +kernel⟩) (hrc := rfl) (hrs := rfl) (hR := ⟨Nat.le_of_ble_eq_true rfl, Nat.le_of_ble_eq_true rfl⟩) (hn := rfl) (hsz := hl.1) (hst := rfl) (hW := Nat.le_of_ble_eq_true rfl) (hdg := dS_seconds_11) (hf := ⟨Nat.le_of_ble_eq_true rfl, Nat.le_of_ble_eq_true rfl⟩) (fun E ce q9 f1 a1 b1 H1 locs1 hw K hce hv hcl => outX X hex K hw hce hv hcl (by decide) (by decide)) (fun f11 a11 b11 H locs hw K => ?_)
  refine lv_aload_n hx hb dS_seconds_14 rfl (lv_at hl 0 rfl) ?_
  refine gGet X K (o := 0) (k := 5) (v := .ref (ad 5)) (by decide) kS_o0 rfl inS_o0 (by decide) (tm1 (i := 87) rfl rfl) rfl dS_seconds_15 ?_
  refine lv_iload_n hx hb dS_seconds_18 rfl (lv_at hl 1 rfl) ?_
  obtain ⟨hi_secondsOf, hw⟩ := hw
  refine gald X K (o := 5) (t0 := 3) (by decide) kS_c5 rfl hi_secondsOf dS_seconds_19 ?_
  refine lv_iload_n hx hb dS_seconds_20 rfl (lv_at hl 2 rfl) ?_
  refine lv_iload_n hx hb dS_seconds_21 rfl (lv_at hl 3 rfl) ?_
  obtain ⟨hi, hw⟩ := hw
  refine gist X K (o := (6 + x1.toNatClampNeg)) (t0 := 0) (rS_secondsOf_lt hi_secondsOf) (kS_r_secondsOf hi_secondsOf) rfl hi dS_seconds_22 (kS_q_secondsOf hi_secondsOf) (fun H locs K => ?_)
  exact endV X K hr hw (by decide) (by decide) dS_seconds_23
set_option maxHeartbeats 4000000 in
set_option maxRecDepth 100000 in
theorem met_S_limit {l : Launch} (hl9 : l.stackTraces = false) (D : va_G) (ad : Nat → Nat) (ca : Nat → ClassId) (sa : Nat → Nat) (sz : Nat) (x1 : Int32) (x2 : Int32) (f : wF) (a : wA) (b : wB) (po : wF → wA → wB → Prop) (px : String → wF → wA → wB → Prop) (hw : wp_S_limit po px x1 x2 f a b) : mV nS kS (tyS ca) txS D vwCl l yS_limit (Cond.code yS_limit cS_limit 3 none :: Wl) ({ frames := 7, cells := 2, slots := 12, locals := 102 }) [.ref (ad 0), .int x1, .int x2] ad ca sa sz f a b po px 2 12 := by
  refine ofV (by decide) hl9 (Nat.le_of_ble_eq_true rfl) ?_
  intro p e s m below meth c ls X hex hr K hl
  obtain ⟨hx, hb, hml, hown, hts, hK, hA, hth, hlk, hl9⟩ := id X
  have hl : lv_has ls 3 [(0, .ref (ad 0)), (1, .int x1), (2, .int x2)] := hl
  dsimp only [wp_S_limit] at hw
  refine lv_iload_n hx hb dS_limit_0 rfl (lv_at hl 1 rfl) ?_
  refine gcSV X K (n0 := 1) (As := [.int x1]) (rest := []) (hM := (met_S_checkSkill hl9 D ad ca sa _ x1 f a b _ _ hw)) (hg := wl_good) (w1 := (tm2 (i := 57) rfl rfl)) (w2 := (tm2 (i := 58) rfl rfl)) (w4 := (tm1 (i := 1) rfl rfl)) (w5 := (tm2 (i := 59) rfl rfl)) (hd := ⟨by decide, by decide, by decide +kernel⟩) (hrc := rfl) (hrs := rfl) (hR := ⟨Nat.le_of_ble_eq_true rfl, Nat.le_of_ble_eq_true rfl⟩) (hn := rfl) (hsz := hl.1) (hst := rfl) (hW := Nat.le_of_ble_eq_true rfl) (hdg := dS_limit_1) (hf := ⟨Nat.le_of_ble_eq_true rfl, Nat.le_of_ble_eq_true rfl⟩) (fun E ce q9 f1 a1 b1 H1 locs1 hw K hce hv hcl => outX X hex K hw hce hv hcl (by decide) (by decide)) (fun f1 a1 b1 H locs hw K => ?_)
  refine lv_iload_n hx hb dS_limit_4 rfl (lv_at hl 2 rfl) ?_
  refine gcSV X K (n0 := 1) (As := [.int x2]) (rest := []) (hM := (met_S_checkSeconds hl9 D ad ca sa _ x2 f1 a1 b1 _ _ hw)) (hg := wl_good) (w1 := (tm2 (i := 75) rfl rfl)) (w2 := (tm2 (i := 76) rfl rfl)) (w4 := (tm1 (i := 1) rfl rfl)) (w5 := (tm2 (i := 77) rfl rfl)) (hd := ⟨by decide, by decide, by decide +kernel⟩) (hrc := rfl) (hrs := rfl) (hR := ⟨Nat.le_of_ble_eq_true rfl, Nat.le_of_ble_eq_true rfl⟩) (hn := rfl) (hsz := hl.1) (hst := rfl) (hW := Nat.le_of_ble_eq_true rfl) (hdg := dS_limit_5) (hf := ⟨Nat.le_of_ble_eq_true rfl, Nat.le_of_ble_eq_true rfl⟩) (fun E ce q9 f1 a1 b1 H1 locs1 hw K hce hv hcl => outX X hex K hw hce hv hcl (by decide) (by decide)) (fun f5 a5 b5 H locs hw K => ?_)
  refine lv_aload_n hx hb dS_limit_8 rfl (lv_at hl 0 rfl) ?_
  refine gGet X K (o := 0) (k := 13) (v := .ref (ad 23)) (by decide) kS_o0 rfl inS_o0 (by decide) (tm1 (i := 95) rfl rfl) rfl dS_limit_9 ?_
  refine lv_iload_n hx hb dS_limit_12 rfl (lv_at hl 1 rfl) ?_
  refine lv_iload_n hx hb dS_limit_13 rfl (lv_at hl 2 rfl) ?_
  obtain ⟨hi, hw⟩ := hw
  refine gist X K (o := 23) (t0 := 0) (by decide) kS_c23 rfl hi dS_limit_14 kS_p23 (fun H locs K => ?_)
  exact endV X K hr hw (by decide) (by decide) dS_limit_15
set_option maxHeartbeats 4000000 in
set_option maxRecDepth 100000 in
theorem LS_reserve_31 {p : Program} {l : Launch} {e : Env} {s : State} {m : MethodId} {below : List Frame} {meth : Method} {c : Code} {D : va_G} {sa : Nat → Nat} {ad : Nat → Nat} {ca : Nat → ClassId} {A : Nat → Prop} {y1 : Int32} {y2 : Int32} {po : wF → wA → wB → Prop} {px : String → wF → wA → wB → Prop} (X : cx Wl (tyS ca) txS D vwCl sa A p l s m ([.ref (ad 0), .int y1, .int y2] : List Value).toArray meth c cS_reserve 3 "SendBest") (hex : ∀ x ∈ c.exceptionTable.toList, False) (hr : meth.sig.returnType = none) : ∀ (f : wF) (a : wA) (b : wB), wp_S_reserve_31 po px f a b → ∀ (H : Heap) (locs : List Loc), wd nS kS D vwCl ad ca A s H locs f a b → ∀ (ls : Array Slot), lv_has ls 3 [] → W p l e ({ frames := 6, cells := 1, slots := 6, locals := 82 }) s m ([.ref (ad 0), .int y1, .int y2] : List Value).toArray below meth c H locs 0 0 (vx_MQ below (va_Qv (fun (u : wF × wA × wB) => po u.1 u.2.1 u.2.2) (sPost nS kS D vwCl ad ca A) A) (sX nS kS D vwCl ad ca A px) ([.ref (ad 0), .int y1, .int y2] : List Value).toArray s 1 6 A) (F0 m 31 ls []) := by
  obtain ⟨hx, hb, hml, hown, hts, hK, hA, hth, hlk, hl9⟩ := id X
  intro  f a b hw H locs K ls hl
  dsimp only [wp_S_reserve_31] at hw
  exact throwX X hex K (k := 11) (names := ["java/lang/RuntimeException", "java/lang/Exception"]) hw (by decide +kernel) (by decide +kernel) rfl (tm1 (i := 144) rfl rfl) (tm1 (i := 8) rfl rfl) xg_S_71 xb_S_71 xo_S_71_67 hl.1 dS_reserve_31 dS_reserve_34 dS_reserve_35 dS_reserve_37 dS_reserve_40 (by decide) (by decide) (by decide) (by decide) (by decide) (by decide)
set_option maxHeartbeats 4000000 in
set_option maxRecDepth 100000 in
theorem LS_reserve_10 {p : Program} {l : Launch} {e : Env} {s : State} {m : MethodId} {below : List Frame} {meth : Method} {c : Code} {D : va_G} {sa : Nat → Nat} {ad : Nat → Nat} {ca : Nat → ClassId} {A : Nat → Prop} {y1 : Int32} {y2 : Int32} {po : wF → wA → wB → Prop} {px : String → wF → wA → wB → Prop} (X : cx Wl (tyS ca) txS D vwCl sa A p l s m ([.ref (ad 0), .int y1, .int y2] : List Value).toArray meth c cS_reserve 3 "SendBest") (hex : ∀ x ∈ c.exceptionTable.toList, False) (hr : meth.sig.returnType = none) : ∀ (f : wF) (a : wA) (b : wB), wp_S_reserve_10 po px f a b → ∀ (H : Heap) (locs : List Loc), wd nS kS D vwCl ad ca A s H locs f a b → ∀ (ls : Array Slot), lv_has ls 3 [] → W p l e ({ frames := 6, cells := 1, slots := 6, locals := 82 }) s m ([.ref (ad 0), .int y1, .int y2] : List Value).toArray below meth c H locs 0 0 (vx_MQ below (va_Qv (fun (u : wF × wA × wB) => po u.1 u.2.1 u.2.2) (sPost nS kS D vwCl ad ca A) A) (sX nS kS D vwCl ad ca A px) ([.ref (ad 0), .int y1, .int y2] : List Value).toArray s 1 6 A) (F0 m 10 ls []) := by
  obtain ⟨hx, hb, hml, hown, hts, hK, hA, hth, hlk, hl9⟩ := id X
  intro  f a b hw H locs K ls hl
  dsimp only [wp_S_reserve_10] at hw
  exact throwX X hex K (k := 12) (names := ["java/lang/RuntimeException", "java/lang/Exception"]) hw (by decide +kernel) (by decide +kernel) rfl (tm1 (i := 144) rfl rfl) (tm1 (i := 8) rfl rfl) xg_S_71 xb_S_71 xo_S_71_67 hl.1 dS_reserve_10 dS_reserve_13 dS_reserve_14 dS_reserve_16 dS_reserve_19 (by decide) (by decide) (by decide) (by decide) (by decide) (by decide)
set_option maxHeartbeats 4000000 in
set_option maxRecDepth 100000 in
theorem met_S_reserve {l : Launch} (hl9 : l.stackTraces = false) (D : va_G) (ad : Nat → Nat) (ca : Nat → ClassId) (sa : Nat → Nat) (sz : Nat) (x1 : Int32) (x2 : Int32) (f : wF) (a : wA) (b : wB) (po : wF → wA → wB → Prop) (px : String → wF → wA → wB → Prop) (hw : wp_S_reserve po px x1 x2 f a b) : mV nS kS (tyS ca) txS D vwCl l yS_reserve (Cond.code yS_reserve cS_reserve 3 none :: Wl) ({ frames := 6, cells := 1, slots := 6, locals := 82 }) [.ref (ad 0), .int x1, .int x2] ad ca sa sz f a b po px 1 6 := by
  refine ofV (by decide) hl9 (Nat.le_of_ble_eq_true rfl) ?_
  intro p e s m below meth c ls X hex hr K hl
  obtain ⟨hx, hb, hml, hown, hts, hK, hA, hth, hlk, hl9⟩ := id X
  have hl : lv_has ls 3 [(0, .ref (ad 0)), (1, .int x1), (2, .int x2)] := hl
  dsimp only [wp_S_reserve] at hw
  refine lv_iload_n hx hb dS_reserve_0 rfl (lv_at hl 1 rfl) ?_
  refine lv_if_lt (tgt := 10) hx hb dS_reserve_1 (by decide) (fun hc => ?_) (fun hc => ?_)
  · replace hw := hw.1 hc
    exact LS_reserve_10 X hex hr f a b hw _ _ K _ (lv_sub hl [] rfl)
  · replace hw := hw.2 hc
    refine lv_iload_n hx hb dS_reserve_4 rfl (lv_at hl 1 rfl) ?_
    refine lv_bipush (v := (12 : Int32)) hx hb dS_reserve_5 (by decide) ?_
    refine lv_icmp_le (tgt := 20) hx hb dS_reserve_7 (by decide) (fun hc => ?_) (fun hc => ?_)
    · replace hw := hw.1 hc
      refine lv_iload_n hx hb dS_reserve_20 rfl (lv_at hl 2 rfl) ?_
      refine lv_iconst (v := (1 : Int32)) hx hb dS_reserve_21 (by decide) ?_
      refine lv_icmp_lt (tgt := 31) hx hb dS_reserve_22 (by decide) (fun hc => ?_) (fun hc => ?_)
      · replace hw := hw.1 hc
        exact LS_reserve_31 X hex hr f a b hw _ _ K _ (lv_sub hl [] rfl)
      · replace hw := hw.2 hc
        refine lv_iload_n hx hb dS_reserve_25 rfl (lv_at hl 2 rfl) ?_
        refine lv_bipush (v := (10 : Int32)) hx hb dS_reserve_26 (by decide) ?_
        refine lv_icmp_le (tgt := 41) hx hb dS_reserve_28 (by decide) (fun hc => ?_) (fun hc => ?_)
        · replace hw := hw.1 hc
          refine lv_aload_n hx hb dS_reserve_41 rfl (lv_at hl 0 rfl) ?_
          refine lv_iload_n hx hb dS_reserve_42 rfl (lv_at hl 1 rfl) ?_
          refine gPut X K (o := 0) (k := 14) (v := .int x1) (ty := .int) tS_o0 tS_o0_ok nS_o0 (by decide) kS_o0 rfl inS_o0 (by decide) (tm1 (i := 96) rfl rfl) rfl rfl rfl rfl (by simp [flS_o0]) dS_reserve_43 kS_u0_14 (fun H locs K => ?_)
          refine lv_aload_n hx hb dS_reserve_46 rfl (lv_at hl 0 rfl) ?_
          refine lv_iload_n hx hb dS_reserve_47 rfl (lv_at hl 2 rfl) ?_
          refine gPut X K (o := 0) (k := 15) (v := .int x2) (ty := .int) tS_o0 tS_o0_ok nS_o0 (by decide) kS_o0 rfl inS_o0 (by decide) (tm1 (i := 97) rfl rfl) rfl rfl rfl rfl (by simp [flS_o0]) dS_reserve_48 kS_u0_15 (fun H locs K => ?_)
          exact endV X K hr hw (by decide) (by decide) dS_reserve_51
        · replace hw := hw.2 hc
          exact LS_reserve_31 X hex hr f a b hw _ _ K _ (lv_sub hl [] rfl)
    · replace hw := hw.2 hc
      exact LS_reserve_10 X hex hr f a b hw _ _ K _ (lv_sub hl [] rfl)
set_option maxHeartbeats 4000000 in
set_option maxRecDepth 100000 in
theorem LS_free_22 {p : Program} {l : Launch} {e : Env} {s : State} {m : MethodId} {below : List Frame} {meth : Method} {c : Code} {D : va_G} {sa : Nat → Nat} {ad : Nat → Nat} {ca : Nat → ClassId} {A : Nat → Prop} {y1 : Int32} {po : wF → wA → wB → Prop} (X : cx Wl (tyS ca) txS D vwCl sa A p l s m ([.ref (ad 0), .int y1] : List Value).toArray meth c cS_free 2 "SendBest") (hex : ∀ x ∈ c.exceptionTable.toList, False) (hr : meth.sig.returnType = none) : ∀ (x1 : Int32) (f : wF) (a : wA) (b : wB), wp_S_free_22 po x1 f a b → ∀ (H : Heap) (locs : List Loc), wd nS kS D vwCl ad ca A s H locs f a b → ∀ (ls : Array Slot), lv_has ls 2 [(0, .ref (ad 0)), (1, .int x1)] → W p l e ({ frames := 0, cells := 0, slots := 0, locals := 0 }) s m ([.ref (ad 0), .int y1] : List Value).toArray below meth c H locs 0 0 (vx_MQ below (va_Qv (fun (u : wF × wA × wB) => po u.1 u.2.1 u.2.2) (sPost nS kS D vwCl ad ca A) A) (sX nS kS D vwCl ad ca A (fun _ _ _ _ => False)) ([.ref (ad 0), .int y1] : List Value).toArray s 0 0 A) (F0 m 22 ls []) := by
  obtain ⟨hx, hb, hml, hown, hts, hK, hA, hth, hlk, hl9⟩ := id X
  intro x1 f a b hw H locs K ls hl
  dsimp only [wp_S_free_22] at hw
  refine lv_aload_n hx hb dS_free_22 rfl (lv_at hl 0 rfl) ?_
  refine gGet X K (o := 0) (k := 4) (v := .ref (ad 4)) (by decide) kS_o0 rfl inS_o0 (by decide) (tm1 (i := 86) rfl rfl) rfl dS_free_23 ?_
  refine lv_iload_n hx hb dS_free_26 rfl (lv_at hl 1 rfl) ?_
  refine lv_iconst (v := (-1 : Int32)) hx hb dS_free_27 (by decide) ?_
  obtain ⟨hi, hw⟩ := hw
  refine gist X K (o := 4) (t0 := 0) (by decide) kS_c4 rfl hi dS_free_28 kS_p4 (fun H locs K => ?_)
  refine lv_aload_n hx hb dS_free_29 rfl (lv_at hl 0 rfl) ?_
  refine gGet X K (o := 0) (k := 3) (v := .ref (ad 3)) (by decide) kS_o0 rfl inS_o0 (by decide) (tm1 (i := 85) rfl rfl) rfl dS_free_30 ?_
  refine lv_iload_n hx hb dS_free_33 rfl (lv_at hl 1 rfl) ?_
  refine lv_iconst (v := (0 : Int32)) hx hb dS_free_34 (by decide) ?_
  obtain ⟨hi, hw⟩ := hw
  refine gzst X K (o := 3) (t0 := 1) (by decide) kS_c3 rfl hi dS_free_35 kS_p3 (fun H locs K => ?_)
  exact endV X K hr hw (by decide) (by decide) dS_free_36
set_option maxHeartbeats 4000000 in
set_option maxRecDepth 100000 in
theorem met_S_free {l : Launch} (hl9 : l.stackTraces = false) (D : va_G) (ad : Nat → Nat) (ca : Nat → ClassId) (sa : Nat → Nat) (sz : Nat) (x1 : Int32) (f : wF) (a : wA) (b : wB) (po : wF → wA → wB → Prop) (hw : wp_S_free po x1 f a b) : mV nS kS (tyS ca) txS D vwCl l yS_free (Cond.code yS_free cS_free 2 none :: Wl) ({ frames := 0, cells := 0, slots := 0, locals := 0 }) [.ref (ad 0), .int x1] ad ca sa sz f a b po (fun _ _ _ _ => False) 0 0 := by
  refine ofV (by decide) hl9 (Nat.le_of_ble_eq_true rfl) ?_
  intro p e s m below meth c ls X hex hr K hl
  obtain ⟨hx, hb, hml, hown, hts, hK, hA, hth, hlk, hl9⟩ := id X
  have hl : lv_has ls 2 [(0, .ref (ad 0)), (1, .int x1)] := hl
  dsimp only [wp_S_free] at hw
  refine lv_aload_n hx hb dS_free_0 rfl (lv_at hl 0 rfl) ?_
  refine gGet X K (o := 0) (k := 4) (v := .ref (ad 4)) (by decide) kS_o0 rfl inS_o0 (by decide) (tm1 (i := 86) rfl rfl) rfl dS_free_1 ?_
  refine lv_iload_n hx hb dS_free_4 rfl (lv_at hl 1 rfl) ?_
  obtain ⟨hi, hw⟩ := hw
  refine gild X K (o := 4) (t0 := 0) (by decide) kS_c4 rfl hi dS_free_5 ?_
  refine lv_iconst (v := (-1 : Int32)) hx hb dS_free_6 (by decide) ?_
  refine lv_icmp_eq (tgt := 22) hx hb dS_free_7 (by decide) (fun hc => ?_) (fun hc => ?_)
  · replace hw := hw.1 hc
    exact LS_free_22 X hex hr x1 f a b hw _ _ K _ (lv_sub hl [0, 1] rfl)
  · replace hw := hw.2 hc
    refine lv_aload_n hx hb dS_free_10 rfl (lv_at hl 0 rfl) ?_
    refine gGet X K (o := 0) (k := 12) (v := .ref (ad 22)) (by decide) kS_o0 rfl inS_o0 (by decide) (tm1 (i := 94) rfl rfl) rfl dS_free_11 ?_
    refine lv_aload_n hx hb dS_free_14 rfl (lv_at hl 0 rfl) ?_
    refine gGet X K (o := 0) (k := 4) (v := .ref (ad 4)) (by decide) kS_o0 rfl inS_o0 (by decide) (tm1 (i := 86) rfl rfl) rfl dS_free_15 ?_
    refine lv_iload_n hx hb dS_free_18 rfl (lv_at hl 1 rfl) ?_
    obtain ⟨hi, hw⟩ := hw
    refine gild X K (o := 4) (t0 := 0) (by decide) kS_c4 rfl hi dS_free_19 ?_
    refine lv_iconst (v := (-1 : Int32)) hx hb dS_free_20 (by decide) ?_
    obtain ⟨hi, hw⟩ := hw
    refine gist X K (o := 22) (t0 := 0) (by decide) kS_c22 rfl hi dS_free_21 kS_p22 (fun H locs K => ?_)
    exact LS_free_22 X hex hr x1 f (va_up a 22 (upd (a 22) (a 4 x1.toNatClampNeg).toNatClampNeg (-1 : Int32))) b hw _ _ K _ (lv_sub hl [0, 1] rfl)
set_option maxHeartbeats 4000000 in
set_option maxRecDepth 100000 in
theorem LS_broken_41 {p : Program} {l : Launch} {e : Env} {s : State} {m : MethodId} {below : List Frame} {meth : Method} {c : Code} {D : va_G} {sa : Nat → Nat} {ad : Nat → Nat} {ca : Nat → ClassId} {A : Nat → Prop} {y1 : Int32} {y2 : Int32} {po : wF → wA → wB → Prop} {px : String → wF → wA → wB → Prop} (X : cx Wl (tyS ca) txS D vwCl sa A p l s m ([.ref (ad 0), .int y1, .int y2] : List Value).toArray meth c cS_broken 3 "SendBest") (hex : ∀ x ∈ c.exceptionTable.toList, False) (hr : meth.sig.returnType = none) : ∀ (f : wF) (a : wA) (b : wB), wp_S_broken_41 po px f a b → ∀ (H : Heap) (locs : List Loc), wd nS kS D vwCl ad ca A s H locs f a b → ∀ (ls : Array Slot), lv_has ls 3 [] → W p l e ({ frames := 7, cells := 2, slots := 12, locals := 103 }) s m ([.ref (ad 0), .int y1, .int y2] : List Value).toArray below meth c H locs 1 6 (vx_MQ below (va_Qv (fun (u : wF × wA × wB) => po u.1 u.2.1 u.2.2) (sPost nS kS D vwCl ad ca A) A) (sX nS kS D vwCl ad ca A px) ([.ref (ad 0), .int y1, .int y2] : List Value).toArray s 2 12 A) (F0 m 41 ls []) := by
  obtain ⟨hx, hb, hml, hown, hts, hK, hA, hth, hlk, hl9⟩ := id X
  intro  f a b hw H locs K ls hl
  dsimp only [wp_S_broken_41] at hw
  exact endV X K hr hw (by decide) (by decide) dS_broken_41
set_option maxHeartbeats 4000000 in
set_option maxRecDepth 100000 in
theorem met_S_broken {l : Launch} (hl9 : l.stackTraces = false) (D : va_G) (ad : Nat → Nat) (ca : Nat → ClassId) (sa : Nat → Nat) (sz : Nat) (x1 : Int32) (x2 : Int32) (f : wF) (a : wA) (b : wB) (po : wF → wA → wB → Prop) (px : String → wF → wA → wB → Prop) (hw : wp_S_broken po px x1 x2 f a b) : mV nS kS (tyS ca) txS D vwCl l yS_broken (Cond.code yS_broken cS_broken 3 none :: Wl) ({ frames := 7, cells := 2, slots := 12, locals := 103 }) [.ref (ad 0), .int x1, .int x2] ad ca sa sz f a b po px 2 12 := by
  refine ofV (by decide) hl9 (Nat.le_of_ble_eq_true rfl) ?_
  intro p e s m below meth c ls X hex hr K hl
  obtain ⟨hx, hb, hml, hown, hts, hK, hA, hth, hlk, hl9⟩ := id X
  have hl : lv_has ls 3 [(0, .ref (ad 0)), (1, .int x1), (2, .int x2)] := hl
  dsimp only [wp_S_broken] at hw
  refine lv_aload_n hx hb dS_broken_0 rfl (lv_at hl 0 rfl) ?_
  refine lv_iload_n hx hb dS_broken_1 rfl (lv_at hl 1 rfl) ?_
  refine gcV X K (n0 := 1) (As := [.int x1]) (rest := []) (hM := (met_S_checkUnit hl9 D ad ca sa _ x1 f a b _ _ hw)) (o := 0) (ho := by decide) (hko := kS_o0) (hci := rfl) (hg := wl_good) (w1 := (tm2 (i := 70) rfl rfl)) (w2 := (tm2 (i := 72) rfl rfl)) (w3 := (tm0 (i := 3) rfl rfl)) (w4 := (tm1 (i := 1) rfl rfl)) (w5 := (tm2 (i := 73) rfl rfl)) (hd := ⟨rfl, by decide, by decide, by decide +kernel⟩) (hrc := rfl) (hrs := rfl) (hR := ⟨Nat.le_of_ble_eq_true rfl, Nat.le_of_ble_eq_true rfl⟩) (hn := rfl) (hsz := hl.1) (hst := rfl) (hW := Nat.le_of_ble_eq_true rfl) (hdg := dS_broken_2) (hf := ⟨Nat.le_of_ble_eq_true rfl, Nat.le_of_ble_eq_true rfl⟩) (fun E ce q9 f1 a1 b1 H1 locs1 hw K hce hv hcl => outX X hex K hw hce hv hcl (by decide) (by decide)) (fun f2 a2 b2 H locs hw K => ?_)
  refine lv_aload_n hx hb dS_broken_5 rfl (lv_at hl 0 rfl) ?_
  refine gGet X K (o := 0) (k := 2) (v := .ref (ad 2)) (by decide) kS_o0 rfl inS_o0 (by decide) (tm1 (i := 84) rfl rfl) rfl dS_broken_6 ?_
  refine lv_iload_n hx hb dS_broken_9 rfl (lv_at hl 1 rfl) ?_
  obtain ⟨hi, hw⟩ := hw
  refine gzld X K (o := 2) (t0 := 1) (by decide) kS_c2 rfl hi dS_broken_10 ?_
  refine lv_iload_n hx hb dS_broken_11 rfl (lv_at hl 2 rfl) ?_
  refine lv_icmp_ne (tgt := 25) hx hb dS_broken_12 (by decide) (fun hc => ?_) (fun hc => ?_)
  · replace hw := hw.1 hc
    refine lv_aload_n hx hb dS_broken_25 rfl (lv_at hl 0 rfl) ?_
    refine gGet X K (o := 0) (k := 2) (v := .ref (ad 2)) (by decide) kS_o0 rfl inS_o0 (by decide) (tm1 (i := 84) rfl rfl) rfl dS_broken_26 ?_
    refine lv_iload_n hx hb dS_broken_29 rfl (lv_at hl 1 rfl) ?_
    refine lv_iload_n hx hb dS_broken_30 rfl (lv_at hl 2 rfl) ?_
    obtain ⟨hi, hw⟩ := hw
    refine gzst X K (o := 2) (t0 := 1) (by decide) kS_c2 rfl hi dS_broken_31 kS_p2 (fun H locs K => ?_)
    refine lv_iload_n hx hb dS_broken_32 rfl (lv_at hl 2 rfl) ?_
    refine lv_if_eq (tgt := 41) hx hb dS_broken_33 (by decide) (fun hc => ?_) (fun hc => ?_)
    · replace hw := hw.1 hc
      exact LS_broken_41 X hex hr f2 (va_up a2 2 (upd (a2 2) x1.toNatClampNeg (vp_nar .boolean x2))) b2 hw _ _ K _ (lv_sub hl [] rfl)
    · replace hw := hw.2 hc
      refine lv_aload_n hx hb dS_broken_36 rfl (lv_at hl 0 rfl) ?_
      refine lv_iload_n hx hb dS_broken_37 rfl (lv_at hl 1 rfl) ?_
      refine gcV X K (n0 := 1) (As := [.int x1]) (rest := []) (hM := (met_S_free hl9 D ad ca sa _ x1 f2 (va_up a2 2 (upd (a2 2) x1.toNatClampNeg (vp_nar .boolean x2))) b2 _ hw)) (o := 0) (ho := by decide) (hko := kS_o0) (hci := rfl) (hg := wl_good) (w1 := (tm2 (i := 104) rfl rfl)) (w2 := (tm2 (i := 106) rfl rfl)) (w3 := (tm0 (i := 4) rfl rfl)) (w4 := (tm1 (i := 1) rfl rfl)) (w5 := (tm2 (i := 107) rfl rfl)) (hd := ⟨rfl, by decide, by decide, by decide +kernel⟩) (hrc := rfl) (hrs := rfl) (hR := ⟨Nat.le_of_ble_eq_true rfl, Nat.le_of_ble_eq_true rfl⟩) (hn := rfl) (hsz := hl.1) (hst := rfl) (hW := Nat.le_of_ble_eq_true rfl) (hdg := dS_broken_38) (hf := ⟨Nat.le_of_ble_eq_true rfl, Nat.le_of_ble_eq_true rfl⟩) (fun _ _ _ _ _ _ _ _ hw => hw.elim) (fun f38 a38 b38 H locs hw K => ?_)
      exact LS_broken_41 X hex hr f38 a38 b38 hw _ _ K _ (lv_sub hl [] rfl)
  · replace hw := hw.2 hc
    exact throwX X hex K (k := 13) (names := ["java/lang/RuntimeException", "java/lang/Exception"]) hw (by decide +kernel) (by decide +kernel) rfl (tm2 (i := 34) rfl rfl) (tm1 (i := 11) rfl rfl) xg_S_121 xb_S_121 xo_S_121_117 hl.1 dS_broken_15 dS_broken_18 dS_broken_19 dS_broken_21 dS_broken_24 (by decide) (by decide) (by decide) (by decide) (by decide) (by decide)
set_option maxHeartbeats 4000000 in
set_option maxRecDepth 100000 in
theorem LP_clear_12 {p : Program} {l : Launch} {e : Env} {s : State} {m : MethodId} {below : List Frame} {meth : Method} {c : Code} {D : va_G} {sa : Nat → Nat} {ad : Nat → Nat} {ca : Nat → ClassId} {A : Nat → Prop} {po : wF → wA → wB → Prop} (X : cx Wl (tyS ca) txS D vwCl sa A p l s m ([.ref (ad 24)] : List Value).toArray meth c cP_clear 2 "SendBest$Pairing") (hex : ∀ x ∈ c.exceptionTable.toList, False) (hr : meth.sig.returnType = none) : ∀ n : Nat, ∀ (x1 : Int32) (f : wF) (a : wA) (b : wB), wp_P_clear_12 po n x1 f a b → ∀ (H : Heap) (locs : List Loc), wd nS kS D vwCl ad ca A s H locs f a b → ∀ (ls : Array Slot), lv_has ls 2 [(0, .ref (ad 24)), (1, .int x1)] → W p l e ({ frames := 2, cells := 0, slots := 0, locals := 45 }) s m ([.ref (ad 24)] : List Value).toArray below meth c H locs 0 0 (vx_MQ below (va_Qv (fun (u : wF × wA × wB) => po u.1 u.2.1 u.2.2) (sPost nS kS D vwCl ad ca A) A) (sX nS kS D vwCl ad ca A (fun _ _ _ _ => False)) ([.ref (ad 24)] : List Value).toArray s 0 0 A) (F0 m 12 ls []) := by
  obtain ⟨hx, hb, hml, hown, hts, hK, hA, hth, hlk, hl9⟩ := id X
  intro n
  induction n with
  | zero => intro x1 f a b hw; exact hw.elim
  | succ n ih =>
    intro x1 f a b hw H locs K ls hl
    dsimp only [wp_P_clear_12] at hw
    refine lv_iload_n hx hb dP_clear_12 rfl (lv_at hl 1 rfl) ?_
    refine lv_bipush (v := (10 : Int32)) hx hb dP_clear_13 (by decide) ?_
    refine lv_icmp_ge (tgt := 34) hx hb dP_clear_15 (by decide) (fun hc => ?_) (fun hc => ?_)
    · replace hw := hw.1 hc
      exact endV X K hr hw (by decide) (by decide) dP_clear_34
    · replace hw := hw.2 hc
      refine lv_aload_n hx hb dP_clear_18 rfl (lv_at hl 0 rfl) ?_
      refine gGet X K (o := 24) (k := 3) (v := .ref (ad 26)) (by decide) kS_o24 rfl inS_o24 (by decide) (tm1 (i := 36) rfl rfl) rfl dP_clear_19 ?_
      refine lv_iload_n hx hb dP_clear_22 rfl (lv_at hl 1 rfl) ?_
      obtain ⟨hi_cost, hw⟩ := hw
      refine gald X K (o := 26) (t0 := 4) (by decide) kS_c26 rfl hi_cost dP_clear_23 ?_
      refine lv_lconst (v := (0 : Int64)) hx hb dP_clear_24 (by decide) ?_
      refine gfilll X K (o := (27 + x1.toNatClampNeg)) (t0 := 2) (rS_cost_lt hi_cost) (kS_r_cost hi_cost) rfl (by decide) (tm2 (i := 125) rfl rfl) hl.1 (Nat.le_of_ble_eq_true rfl) dP_clear_25 ⟨Nat.le_of_ble_eq_true rfl, Nat.le_of_ble_eq_true rfl⟩ ⟨Nat.le_of_ble_eq_true rfl, Nat.le_of_ble_eq_true rfl⟩ (kS_q_cost hi_cost) (fun H locs K => ?_)
      refine lv_iinc (v := (x1 + (1 : Int32))) (lv' := [(1, .int (x1 + (1 : Int32))), (0, .ref (ad 24))]) hx hb dP_clear_28 hl (k := 1) rfl rfl (by decide) rfl (fun ls hl => ?_)
      refine lv_goto (tgt := 12) hx hb dP_clear_31 (by decide) ?_
      exact ih (x1 + (1 : Int32)) f a (va_up b (27 + x1.toNatClampNeg) (fun _ => (0 : Int64))) hw _ _ K _ (lv_sub hl [1, 0] rfl)
set_option maxHeartbeats 4000000 in
set_option maxRecDepth 100000 in
theorem met_P_clear {l : Launch} (hl9 : l.stackTraces = false) (D : va_G) (ad : Nat → Nat) (ca : Nat → ClassId) (sa : Nat → Nat) (sz : Nat)  (f : wF) (a : wA) (b : wB) (po : wF → wA → wB → Prop) (hw : wp_P_clear po f a b) : mV nS kS (tyS ca) txS D vwCl l yP_clear (Cond.code yP_clear cP_clear 2 none :: Wl) ({ frames := 2, cells := 0, slots := 0, locals := 45 }) [.ref (ad 24)] ad ca sa sz f a b po (fun _ _ _ _ => False) 0 0 := by
  refine ofV (by decide) hl9 (Nat.le_of_ble_eq_true rfl) ?_
  intro p e s m below meth c ls X hex hr K hl
  obtain ⟨hx, hb, hml, hown, hts, hK, hA, hth, hlk, hl9⟩ := id X
  have hl : lv_has ls 2 [(0, .ref (ad 24))] := hl
  dsimp only [wp_P_clear] at hw
  refine lv_aload_n hx hb dP_clear_0 rfl (lv_at hl 0 rfl) ?_
  refine lv_iconst (v := (0 : Int32)) hx hb dP_clear_1 (by decide) ?_
  refine gPut X K (o := 24) (k := 0) (v := .int (0 : Int32)) (ty := .int) tS_o24 tS_o24_ok nS_o24 (by decide) kS_o24 rfl inS_o24 (by decide) (tm1 (i := 33) rfl rfl) rfl rfl rfl rfl (by simp [flS_o24]) dP_clear_2 kS_u24_0 (fun H locs K => ?_)
  refine lv_aload_n hx hb dP_clear_5 rfl (lv_at hl 0 rfl) ?_
  refine lv_iconst (v := (0 : Int32)) hx hb dP_clear_6 (by decide) ?_
  refine gPut X K (o := 24) (k := 1) (v := .int (0 : Int32)) (ty := .int) tS_o24 tS_o24_ok nS_o24 (by decide) kS_o24 rfl inS_o24 (by decide) (tm1 (i := 34) rfl rfl) rfl rfl rfl rfl (by simp [flS_o24]) dP_clear_7 kS_u24_1 (fun H locs K => ?_)
  refine lv_iconst (v := (0 : Int32)) hx hb dP_clear_10 (by decide) ?_
  refine lv_istore_n (lv' := [(1, .int (0 : Int32)), (0, .ref (ad 24))]) hx hb dP_clear_11 rfl hl (by decide) rfl (fun ls hl => ?_)
  obtain ⟨n9, hw⟩ := hw
  exact LP_clear_12 X hex hr n9 (0 : Int32) (va_up (va_up f 5 (0 : Int32)) 6 (0 : Int32)) a b hw _ _ K _ (lv_sub hl [1, 0] rfl)
set_option maxHeartbeats 4000000 in
set_option maxRecDepth 100000 in
theorem met_S_isOpenNeed {l : Launch} (hl9 : l.stackTraces = false) (D : va_G) (ad : Nat → Nat) (ca : Nat → ClassId) (sa : Nat → Nat) (sz : Nat) (x1 : Int32) (f : wF) (a : wA) (b : wB) (po : Int32 → wF → wA → wB → Prop) (hw : wp_S_isOpenNeed po x1 f a b) : mI nS kS (tyS ca) txS D vwCl l yS_isOpenNeed (Cond.code yS_isOpenNeed cS_isOpenNeed 2 (some .boolean) :: Wl) ({ frames := 0, cells := 0, slots := 0, locals := 0 }) [.ref (ad 0), .int x1] ad ca sa sz f a b po (fun _ _ _ _ => False) 0 0 := by
  refine ofI (by decide) hl9 (Nat.le_of_ble_eq_true rfl) ?_
  intro p e s m below meth c ls X hex hr K hl
  obtain ⟨hx, hb, hml, hown, hts, hK, hA, hth, hlk, hl9⟩ := id X
  have hl : lv_has ls 2 [(0, .ref (ad 0)), (1, .int x1)] := hl
  dsimp only [wp_S_isOpenNeed] at hw
  refine lv_aload_n hx hb dS_isOpenNeed_0 rfl (lv_at hl 0 rfl) ?_
  refine gGet X K (o := 0) (k := 8) (v := .ref (ad 19)) (by decide) kS_o0 rfl inS_o0 (by decide) (tm1 (i := 90) rfl rfl) rfl dS_isOpenNeed_1 ?_
  refine lv_aload_n hx hb dS_isOpenNeed_4 rfl (lv_at hl 0 rfl) ?_
  refine gGet X K (o := 0) (k := 10) (v := .ref (ad 20)) (by decide) kS_o0 rfl inS_o0 (by decide) (tm1 (i := 92) rfl rfl) rfl dS_isOpenNeed_5 ?_
  refine lv_iload_n hx hb dS_isOpenNeed_8 rfl (lv_at hl 1 rfl) ?_
  obtain ⟨hi, hw⟩ := hw
  refine gild X K (o := 20) (t0 := 0) (by decide) kS_c20 rfl hi dS_isOpenNeed_9 ?_
  obtain ⟨hi, hw⟩ := hw
  refine gzld X K (o := 19) (t0 := 1) (by decide) kS_c19 rfl hi dS_isOpenNeed_10 ?_
  exact endI X K hr hw.1 hw.2 (by decide) (by decide) dS_isOpenNeed_11
set_option maxHeartbeats 4000000 in
set_option maxRecDepth 100000 in
theorem met_S_secondsTo {l : Launch} (hl9 : l.stackTraces = false) (D : va_G) (ad : Nat → Nat) (ca : Nat → ClassId) (sa : Nat → Nat) (sz : Nat) (x1 : Int32) (x2 : Int32) (f : wF) (a : wA) (b : wB) (po : Int32 → wF → wA → wB → Prop) (hw : wp_S_secondsTo po x1 x2 f a b) : mI nS kS (tyS ca) txS D vwCl l yS_secondsTo (Cond.code yS_secondsTo cS_secondsTo 3 (some .int) :: Wl) ({ frames := 0, cells := 0, slots := 0, locals := 0 }) [.ref (ad 0), .int x1, .int x2] ad ca sa sz f a b po (fun _ _ _ _ => False) 0 0 := by
  refine ofI (by decide) hl9 (Nat.le_of_ble_eq_true rfl) ?_
  intro p e s m below meth c ls X hex hr K hl
  obtain ⟨hx, hb, hml, hown, hts, hK, hA, hth, hlk, hl9⟩ := id X
  have hl : lv_has ls 3 [(0, .ref (ad 0)), (1, .int x1), (2, .int x2)] := hl
  dsimp only [wp_S_secondsTo] at hw
  refine lv_aload_n hx hb dS_secondsTo_0 rfl (lv_at hl 0 rfl) ?_
  refine gGet X K (o := 0) (k := 5) (v := .ref (ad 5)) (by decide) kS_o0 rfl inS_o0 (by decide) (tm1 (i := 87) rfl rfl) rfl dS_secondsTo_1 ?_
  refine lv_iload_n hx hb dS_secondsTo_4 rfl (lv_at hl 1 rfl) ?_
  obtain ⟨hi_secondsOf, hw⟩ := hw
  refine gald X K (o := 5) (t0 := 3) (by decide) kS_c5 rfl hi_secondsOf dS_secondsTo_5 ?_
  refine lv_aload_n hx hb dS_secondsTo_6 rfl (lv_at hl 0 rfl) ?_
  refine gGet X K (o := 0) (k := 10) (v := .ref (ad 20)) (by decide) kS_o0 rfl inS_o0 (by decide) (tm1 (i := 92) rfl rfl) rfl dS_secondsTo_7 ?_
  refine lv_iload_n hx hb dS_secondsTo_10 rfl (lv_at hl 2 rfl) ?_
  obtain ⟨hi, hw⟩ := hw
  refine gild X K (o := 20) (t0 := 0) (by decide) kS_c20 rfl hi dS_secondsTo_11 ?_
  obtain ⟨hi, hw⟩ := hw
  refine gild X K (o := (6 + x1.toNatClampNeg)) (t0 := 0) (rS_secondsOf_lt hi_secondsOf) (kS_r_secondsOf hi_secondsOf) rfl hi dS_secondsTo_12 ?_
  exact endI X K hr rfl hw (by decide) (by decide) dS_secondsTo_13
set_option maxHeartbeats 4000000 in
set_option maxRecDepth 100000 in
theorem LS_canFill_71 {p : Program} {l : Launch} {e : Env} {s : State} {m : MethodId} {below : List Frame} {meth : Method} {c : Code} {D : va_G} {sa : Nat → Nat} {ad : Nat → Nat} {ca : Nat → ClassId} {A : Nat → Prop} {y1 : Int32} {y2 : Int32} {po : Int32 → wF → wA → wB → Prop} (X : cx Wl (tyS ca) txS D vwCl sa A p l s m ([.ref (ad 0), .int y1, .int y2] : List Value).toArray meth c cS_canFill 5 "SendBest") (hex : ∀ x ∈ c.exceptionTable.toList, False) (hr : meth.sig.returnType = (some .boolean)) : ∀ (k0 : Int32) (f : wF) (a : wA) (b : wB), wp_S_canFill_71 po k0 f a b → ∀ (H : Heap) (locs : List Loc), wd nS kS D vwCl ad ca A s H locs f a b → ∀ (ls : Array Slot), lv_has ls 5 [] → W p l e ({ frames := 1, cells := 0, slots := 0, locals := 22 }) s m ([.ref (ad 0), .int y1, .int y2] : List Value).toArray below meth c H locs 0 0 (vx_MQ below (va_Qi (fun r (u : wF × wA × wB) => po r u.1 u.2.1 u.2.2) (sPost nS kS D vwCl ad ca A) A) (sX nS kS D vwCl ad ca A (fun _ _ _ _ => False)) ([.ref (ad 0), .int y1, .int y2] : List Value).toArray s 0 0 A) (F0 m 71 ls [.int k0]) := by
  obtain ⟨hx, hb, hml, hown, hts, hK, hA, hth, hlk, hl9⟩ := id X
  intro k0 f a b hw H locs K ls hl
  dsimp only [wp_S_canFill_71] at hw
  exact endI X K hr hw.1 hw.2 (by decide) (by decide) dS_canFill_71
set_option maxHeartbeats 4000000 in
set_option maxRecDepth 100000 in
theorem LS_canFill_70 {p : Program} {l : Launch} {e : Env} {s : State} {m : MethodId} {below : List Frame} {meth : Method} {c : Code} {D : va_G} {sa : Nat → Nat} {ad : Nat → Nat} {ca : Nat → ClassId} {A : Nat → Prop} {y1 : Int32} {y2 : Int32} {po : Int32 → wF → wA → wB → Prop} (X : cx Wl (tyS ca) txS D vwCl sa A p l s m ([.ref (ad 0), .int y1, .int y2] : List Value).toArray meth c cS_canFill 5 "SendBest") (hex : ∀ x ∈ c.exceptionTable.toList, False) (hr : meth.sig.returnType = (some .boolean)) : ∀ (f : wF) (a : wA) (b : wB), wp_S_canFill_70 po f a b → ∀ (H : Heap) (locs : List Loc), wd nS kS D vwCl ad ca A s H locs f a b → ∀ (ls : Array Slot), lv_has ls 5 [] → W p l e ({ frames := 1, cells := 0, slots := 0, locals := 22 }) s m ([.ref (ad 0), .int y1, .int y2] : List Value).toArray below meth c H locs 0 0 (vx_MQ below (va_Qi (fun r (u : wF × wA × wB) => po r u.1 u.2.1 u.2.2) (sPost nS kS D vwCl ad ca A) A) (sX nS kS D vwCl ad ca A (fun _ _ _ _ => False)) ([.ref (ad 0), .int y1, .int y2] : List Value).toArray s 0 0 A) (F0 m 70 ls []) := by
  obtain ⟨hx, hb, hml, hown, hts, hK, hA, hth, hlk, hl9⟩ := id X
  intro  f a b hw H locs K ls hl
  dsimp only [wp_S_canFill_70] at hw
  refine lv_iconst (v := (0 : Int32)) hx hb dS_canFill_70 (by decide) ?_
  exact LS_canFill_71 X hex hr (0 : Int32) f a b hw _ _ K _ (lv_sub hl [] rfl)
set_option maxHeartbeats 4000000 in
set_option maxRecDepth 100000 in
theorem LS_canFill_66 {p : Program} {l : Launch} {e : Env} {s : State} {m : MethodId} {below : List Frame} {meth : Method} {c : Code} {D : va_G} {sa : Nat → Nat} {ad : Nat → Nat} {ca : Nat → ClassId} {A : Nat → Prop} {y1 : Int32} {y2 : Int32} {po : Int32 → wF → wA → wB → Prop} (X : cx Wl (tyS ca) txS D vwCl sa A p l s m ([.ref (ad 0), .int y1, .int y2] : List Value).toArray meth c cS_canFill 5 "SendBest") (hex : ∀ x ∈ c.exceptionTable.toList, False) (hr : meth.sig.returnType = (some .boolean)) : ∀ (f : wF) (a : wA) (b : wB), wp_S_canFill_66 po f a b → ∀ (H : Heap) (locs : List Loc), wd nS kS D vwCl ad ca A s H locs f a b → ∀ (ls : Array Slot), lv_has ls 5 [] → W p l e ({ frames := 1, cells := 0, slots := 0, locals := 22 }) s m ([.ref (ad 0), .int y1, .int y2] : List Value).toArray below meth c H locs 0 0 (vx_MQ below (va_Qi (fun r (u : wF × wA × wB) => po r u.1 u.2.1 u.2.2) (sPost nS kS D vwCl ad ca A) A) (sX nS kS D vwCl ad ca A (fun _ _ _ _ => False)) ([.ref (ad 0), .int y1, .int y2] : List Value).toArray s 0 0 A) (F0 m 66 ls []) := by
  obtain ⟨hx, hb, hml, hown, hts, hK, hA, hth, hlk, hl9⟩ := id X
  intro  f a b hw H locs K ls hl
  dsimp only [wp_S_canFill_66] at hw
  refine lv_iconst (v := (1 : Int32)) hx hb dS_canFill_66 (by decide) ?_
  refine lv_goto (tgt := 71) hx hb dS_canFill_67 (by decide) ?_
  exact LS_canFill_71 X hex hr (1 : Int32) f a b hw _ _ K _ (lv_sub hl [] rfl)
set_option maxHeartbeats 4000000 in
set_option maxRecDepth 100000 in
theorem LS_canFill_29 {p : Program} {l : Launch} {e : Env} {s : State} {m : MethodId} {below : List Frame} {meth : Method} {c : Code} {D : va_G} {sa : Nat → Nat} {ad : Nat → Nat} {ca : Nat → ClassId} {A : Nat → Prop} {y1 : Int32} {y2 : Int32} {po : Int32 → wF → wA → wB → Prop} (X : cx Wl (tyS ca) txS D vwCl sa A p l s m ([.ref (ad 0), .int y1, .int y2] : List Value).toArray meth c cS_canFill 5 "SendBest") (hex : ∀ x ∈ c.exceptionTable.toList, False) (hr : meth.sig.returnType = (some .boolean)) : ∀ (f : wF) (a : wA) (b : wB), wp_S_canFill_29 po f a b → ∀ (H : Heap) (locs : List Loc), wd nS kS D vwCl ad ca A s H locs f a b → ∀ (ls : Array Slot), lv_has ls 5 [] → W p l e ({ frames := 1, cells := 0, slots := 0, locals := 22 }) s m ([.ref (ad 0), .int y1, .int y2] : List Value).toArray below meth c H locs 0 0 (vx_MQ below (va_Qi (fun r (u : wF × wA × wB) => po r u.1 u.2.1 u.2.2) (sPost nS kS D vwCl ad ca A) A) (sX nS kS D vwCl ad ca A (fun _ _ _ _ => False)) ([.ref (ad 0), .int y1, .int y2] : List Value).toArray s 0 0 A) (F0 m 29 ls []) := by
  obtain ⟨hx, hb, hml, hown, hts, hK, hA, hth, hlk, hl9⟩ := id X
  intro  f a b hw H locs K ls hl
  dsimp only [wp_S_canFill_29] at hw
  refine lv_iconst (v := (0 : Int32)) hx hb dS_canFill_29 (by decide) ?_
  exact endI X K hr hw.1 hw.2 (by decide) (by decide) dS_canFill_30
set_option maxHeartbeats 4000000 in
set_option maxRecDepth 100000 in
theorem met_S_canFill {l : Launch} (hl9 : l.stackTraces = false) (D : va_G) (ad : Nat → Nat) (ca : Nat → ClassId) (sa : Nat → Nat) (sz : Nat) (x1 : Int32) (x2 : Int32) (f : wF) (a : wA) (b : wB) (po : Int32 → wF → wA → wB → Prop) (hw : wp_S_canFill po x1 x2 f a b) : mI nS kS (tyS ca) txS D vwCl l yS_canFill (Cond.code yS_canFill cS_canFill 5 (some .boolean) :: Wl) ({ frames := 1, cells := 0, slots := 0, locals := 22 }) [.ref (ad 0), .int x1, .int x2] ad ca sa sz f a b po (fun _ _ _ _ => False) 0 0 := by
  refine ofI (by decide) hl9 (Nat.le_of_ble_eq_true rfl) ?_
  intro p e s m below meth c ls X hex hr K hl
  obtain ⟨hx, hb, hml, hown, hts, hK, hA, hth, hlk, hl9⟩ := id X
  have hl : lv_has ls 5 [(0, .ref (ad 0)), (1, .int x1), (2, .int x2)] := hl
  dsimp only [wp_S_canFill] at hw
  refine lv_aload_n hx hb dS_canFill_0 rfl (lv_at hl 0 rfl) ?_
  refine gGet X K (o := 0) (k := 11) (v := .ref (ad 21)) (by decide) kS_o0 rfl inS_o0 (by decide) (tm1 (i := 93) rfl rfl) rfl dS_canFill_1 ?_
  refine lv_iload_n hx hb dS_canFill_4 rfl (lv_at hl 2 rfl) ?_
  obtain ⟨hi, hw⟩ := hw
  refine gild X K (o := 21) (t0 := 0) (by decide) kS_c21 rfl hi dS_canFill_5 ?_
  refine lv_istore_n (lv' := [(3, .int (a 21 x2.toNatClampNeg)), (0, .ref (ad 0)), (1, .int x1), (2, .int x2)]) hx hb dS_canFill_6 rfl hl (by decide) rfl (fun ls hl => ?_)
  refine lv_aload_n hx hb dS_canFill_7 rfl (lv_at hl 1 rfl) ?_
  refine gGet X K (o := 0) (k := 2) (v := .ref (ad 2)) (by decide) kS_o0 rfl inS_o0 (by decide) (tm1 (i := 84) rfl rfl) rfl dS_canFill_8 ?_
  refine lv_iload_n hx hb dS_canFill_11 rfl (lv_at hl 2 rfl) ?_
  obtain ⟨hi, hw⟩ := hw
  refine gzld X K (o := 2) (t0 := 1) (by decide) kS_c2 rfl hi dS_canFill_12 ?_
  refine lv_if_ne (tgt := 29) hx hb dS_canFill_13 (by decide) (fun hc => ?_) (fun hc => ?_)
  · replace hw := hw.1 hc
    exact LS_canFill_29 X hex hr f a b hw _ _ K _ (lv_sub hl [] rfl)
  · replace hw := hw.2 hc
    refine lv_aload_n hx hb dS_canFill_16 rfl (lv_at hl 1 rfl) ?_
    refine gGet X K (o := 0) (k := 1) (v := .ref (ad 1)) (by decide) kS_o0 rfl inS_o0 (by decide) (tm1 (i := 83) rfl rfl) rfl dS_canFill_17 ?_
    refine lv_iload_n hx hb dS_canFill_20 rfl (lv_at hl 2 rfl) ?_
    obtain ⟨hi, hw⟩ := hw
    refine gild X K (o := 1) (t0 := 0) (by decide) kS_c1 rfl hi dS_canFill_21 ?_
    refine lv_iload_n hx hb dS_canFill_22 rfl (lv_at hl 0 rfl) ?_
    refine lv_ishr hx hb dS_canFill_23 ?_
    refine lv_iconst (v := (1 : Int32)) hx hb dS_canFill_24 (by decide) ?_
    refine lv_iand hx hb dS_canFill_25 ?_
    refine lv_if_ne (tgt := 31) hx hb dS_canFill_26 (by decide) (fun hc => ?_) (fun hc => ?_)
    · replace hw := hw.1 hc
      refine lv_aload_n hx hb dS_canFill_31 rfl (lv_at hl 1 rfl) ?_
      refine lv_iload_n hx hb dS_canFill_32 rfl (lv_at hl 2 rfl) ?_
      refine lv_iload_n hx hb dS_canFill_33 rfl (lv_at hl 3 rfl) ?_
      refine gcI X K (n0 := 2) (As := [.int x1, .int x2]) (rest := []) (hM := (met_S_secondsTo hl9 D ad ca sa _ x1 x2 f a b _ hw)) (o := 0) (ho := by decide) (hko := kS_o0) (hci := rfl) (hg := wl_good) (w1 := (tm2 (i := 148) rfl rfl)) (w2 := (tm2 (i := 150) rfl rfl)) (w3 := (tm0 (i := 11) rfl rfl)) (w4 := (tm1 (i := 1) rfl rfl)) (w5 := (tm2 (i := 151) rfl rfl)) (hd := ⟨rfl, by decide, by decide, by decide +kernel⟩) (hrc := rfl) (hrs := rfl) (hR := ⟨Nat.le_of_ble_eq_true rfl, Nat.le_of_ble_eq_true rfl⟩) (hn := rfl) (hsz := hl.1) (hst := rfl) (hW := Nat.le_of_ble_eq_true rfl) (hdg := dS_canFill_34) (hf := ⟨Nat.le_of_ble_eq_true rfl, Nat.le_of_ble_eq_true rfl⟩) (fun _ _ _ _ _ _ _ _ hw => hw.elim) (fun r34 f34 a34 b34 H locs hw K => ?_)
      refine lv_istore (lv' := [(4, .int r34), (3, .int (a 21 x2.toNatClampNeg)), (0, .ref (ad 0)), (1, .int x1), (2, .int x2)]) hx hb dS_canFill_37 hl (by decide) rfl (fun ls hl => ?_)
      refine lv_iload hx hb dS_canFill_39 (lv_at hl 0 rfl) ?_
      refine lv_iconst (v := (-1 : Int32)) hx hb dS_canFill_41 (by decide) ?_
      refine lv_icmp_eq (tgt := 70) hx hb dS_canFill_42 (by decide) (fun hc => ?_) (fun hc => ?_)
      · replace hw := hw.1 hc
        exact LS_canFill_70 X hex hr f34 a34 b34 hw _ _ K _ (lv_sub hl [] rfl)
      · replace hw := hw.2 hc
        refine lv_aload_n hx hb dS_canFill_45 rfl (lv_at hl 2 rfl) ?_
        refine gGet X K (o := 0) (k := 13) (v := .ref (ad 23)) (by decide) kS_o0 rfl inS_o0 (by decide) (tm1 (i := 95) rfl rfl) rfl dS_canFill_46 ?_
        refine lv_iload_n hx hb dS_canFill_49 rfl (lv_at hl 1 rfl) ?_
        obtain ⟨hi, hw⟩ := hw
        refine gild X K (o := 23) (t0 := 0) (by decide) kS_c23 rfl hi dS_canFill_50 ?_
        refine lv_iconst (v := (-1 : Int32)) hx hb dS_canFill_51 (by decide) ?_
        refine lv_icmp_eq (tgt := 66) hx hb dS_canFill_52 (by decide) (fun hc => ?_) (fun hc => ?_)
        · replace hw := hw.1 hc
          exact LS_canFill_66 X hex hr f34 a34 b34 hw _ _ K _ (lv_sub hl [] rfl)
        · replace hw := hw.2 hc
          refine lv_iload hx hb dS_canFill_55 (lv_at hl 0 rfl) ?_
          refine lv_aload_n hx hb dS_canFill_57 rfl (lv_at hl 2 rfl) ?_
          refine gGet X K (o := 0) (k := 13) (v := .ref (ad 23)) (by decide) kS_o0 rfl inS_o0 (by decide) (tm1 (i := 95) rfl rfl) rfl dS_canFill_58 ?_
          refine lv_iload_n hx hb dS_canFill_61 rfl (lv_at hl 1 rfl) ?_
          obtain ⟨hi, hw⟩ := hw
          refine gild X K (o := 23) (t0 := 0) (by decide) kS_c23 rfl hi dS_canFill_62 ?_
          refine lv_icmp_gt (tgt := 70) hx hb dS_canFill_63 (by decide) (fun hc => ?_) (fun hc => ?_)
          · replace hw := hw.1 hc
            exact LS_canFill_70 X hex hr f34 a34 b34 hw _ _ K _ (lv_sub hl [] rfl)
          · replace hw := hw.2 hc
            exact LS_canFill_66 X hex hr f34 a34 b34 hw _ _ K _ (lv_sub hl [] rfl)
    · replace hw := hw.2 hc
      exact LS_canFill_29 X hex hr f a b hw _ _ K _ (lv_sub hl [] rfl)
set_option maxHeartbeats 4000000 in
set_option maxRecDepth 100000 in
theorem LS_isFixed_38 {p : Program} {l : Launch} {e : Env} {s : State} {m : MethodId} {below : List Frame} {meth : Method} {c : Code} {D : va_G} {sa : Nat → Nat} {ad : Nat → Nat} {ca : Nat → ClassId} {A : Nat → Prop} {y1 : Int32} {po : Int32 → wF → wA → wB → Prop} (X : cx Wl (tyS ca) txS D vwCl sa A p l s m ([.ref (ad 0), .int y1] : List Value).toArray meth c cS_isFixed 2 "SendBest") (hex : ∀ x ∈ c.exceptionTable.toList, False) (hr : meth.sig.returnType = (some .boolean)) : ∀ (k0 : Int32) (f : wF) (a : wA) (b : wB), wp_S_isFixed_38 po k0 f a b → ∀ (H : Heap) (locs : List Loc), wd nS kS D vwCl ad ca A s H locs f a b → ∀ (ls : Array Slot), lv_has ls 2 [] → W p l e ({ frames := 2, cells := 0, slots := 0, locals := 46 }) s m ([.ref (ad 0), .int y1] : List Value).toArray below meth c H locs 0 0 (vx_MQ below (va_Qi (fun r (u : wF × wA × wB) => po r u.1 u.2.1 u.2.2) (sPost nS kS D vwCl ad ca A) A) (sX nS kS D vwCl ad ca A (fun _ _ _ _ => False)) ([.ref (ad 0), .int y1] : List Value).toArray s 0 0 A) (F0 m 38 ls [.int k0]) := by
  obtain ⟨hx, hb, hml, hown, hts, hK, hA, hth, hlk, hl9⟩ := id X
  intro k0 f a b hw H locs K ls hl
  dsimp only [wp_S_isFixed_38] at hw
  exact endI X K hr hw.1 hw.2 (by decide) (by decide) dS_isFixed_38
set_option maxHeartbeats 4000000 in
set_option maxRecDepth 100000 in
theorem LS_isFixed_37 {p : Program} {l : Launch} {e : Env} {s : State} {m : MethodId} {below : List Frame} {meth : Method} {c : Code} {D : va_G} {sa : Nat → Nat} {ad : Nat → Nat} {ca : Nat → ClassId} {A : Nat → Prop} {y1 : Int32} {po : Int32 → wF → wA → wB → Prop} (X : cx Wl (tyS ca) txS D vwCl sa A p l s m ([.ref (ad 0), .int y1] : List Value).toArray meth c cS_isFixed 2 "SendBest") (hex : ∀ x ∈ c.exceptionTable.toList, False) (hr : meth.sig.returnType = (some .boolean)) : ∀ (f : wF) (a : wA) (b : wB), wp_S_isFixed_37 po f a b → ∀ (H : Heap) (locs : List Loc), wd nS kS D vwCl ad ca A s H locs f a b → ∀ (ls : Array Slot), lv_has ls 2 [] → W p l e ({ frames := 2, cells := 0, slots := 0, locals := 46 }) s m ([.ref (ad 0), .int y1] : List Value).toArray below meth c H locs 0 0 (vx_MQ below (va_Qi (fun r (u : wF × wA × wB) => po r u.1 u.2.1 u.2.2) (sPost nS kS D vwCl ad ca A) A) (sX nS kS D vwCl ad ca A (fun _ _ _ _ => False)) ([.ref (ad 0), .int y1] : List Value).toArray s 0 0 A) (F0 m 37 ls []) := by
  obtain ⟨hx, hb, hml, hown, hts, hK, hA, hth, hlk, hl9⟩ := id X
  intro  f a b hw H locs K ls hl
  dsimp only [wp_S_isFixed_37] at hw
  refine lv_iconst (v := (0 : Int32)) hx hb dS_isFixed_37 (by decide) ?_
  exact LS_isFixed_38 X hex hr (0 : Int32) f a b hw _ _ K _ (lv_sub hl [] rfl)
set_option maxHeartbeats 4000000 in
set_option maxRecDepth 100000 in
theorem met_S_isFixed {l : Launch} (hl9 : l.stackTraces = false) (D : va_G) (ad : Nat → Nat) (ca : Nat → ClassId) (sa : Nat → Nat) (sz : Nat) (x1 : Int32) (f : wF) (a : wA) (b : wB) (po : Int32 → wF → wA → wB → Prop) (hw : wp_S_isFixed po x1 f a b) : mI nS kS (tyS ca) txS D vwCl l yS_isFixed (Cond.code yS_isFixed cS_isFixed 2 (some .boolean) :: Wl) ({ frames := 2, cells := 0, slots := 0, locals := 46 }) [.ref (ad 0), .int x1] ad ca sa sz f a b po (fun _ _ _ _ => False) 0 0 := by
  refine ofI (by decide) hl9 (Nat.le_of_ble_eq_true rfl) ?_
  intro p e s m below meth c ls X hex hr K hl
  obtain ⟨hx, hb, hml, hown, hts, hK, hA, hth, hlk, hl9⟩ := id X
  have hl : lv_has ls 2 [(0, .ref (ad 0)), (1, .int x1)] := hl
  dsimp only [wp_S_isFixed] at hw
  refine lv_aload_n hx hb dS_isFixed_0 rfl (lv_at hl 0 rfl) ?_
  refine gGet X K (o := 0) (k := 3) (v := .ref (ad 3)) (by decide) kS_o0 rfl inS_o0 (by decide) (tm1 (i := 85) rfl rfl) rfl dS_isFixed_1 ?_
  refine lv_iload_n hx hb dS_isFixed_4 rfl (lv_at hl 1 rfl) ?_
  obtain ⟨hi, hw⟩ := hw
  refine gzld X K (o := 3) (t0 := 1) (by decide) kS_c3 rfl hi dS_isFixed_5 ?_
  refine lv_if_eq (tgt := 37) hx hb dS_isFixed_6 (by decide) (fun hc => ?_) (fun hc => ?_)
  · replace hw := hw.1 hc
    exact LS_isFixed_37 X hex hr f a b hw _ _ K _ (lv_sub hl [] rfl)
  · replace hw := hw.2 hc
    refine lv_aload_n hx hb dS_isFixed_9 rfl (lv_at hl 0 rfl) ?_
    refine gGet X K (o := 0) (k := 4) (v := .ref (ad 4)) (by decide) kS_o0 rfl inS_o0 (by decide) (tm1 (i := 86) rfl rfl) rfl dS_isFixed_10 ?_
    refine lv_iload_n hx hb dS_isFixed_13 rfl (lv_at hl 1 rfl) ?_
    obtain ⟨hi, hw⟩ := hw
    refine gild X K (o := 4) (t0 := 0) (by decide) kS_c4 rfl hi dS_isFixed_14 ?_
    refine lv_iconst (v := (-1 : Int32)) hx hb dS_isFixed_15 (by decide) ?_
    refine lv_icmp_eq (tgt := 37) hx hb dS_isFixed_16 (by decide) (fun hc => ?_) (fun hc => ?_)
    · replace hw := hw.1 hc
      exact LS_isFixed_37 X hex hr f a b hw _ _ K _ (lv_sub hl [] rfl)
    · replace hw := hw.2 hc
      refine lv_aload_n hx hb dS_isFixed_19 rfl (lv_at hl 0 rfl) ?_
      refine lv_iload_n hx hb dS_isFixed_20 rfl (lv_at hl 1 rfl) ?_
      refine lv_aload_n hx hb dS_isFixed_21 rfl (lv_at hl 0 rfl) ?_
      refine gGet X K (o := 0) (k := 4) (v := .ref (ad 4)) (by decide) kS_o0 rfl inS_o0 (by decide) (tm1 (i := 86) rfl rfl) rfl dS_isFixed_22 ?_
      refine lv_iload_n hx hb dS_isFixed_25 rfl (lv_at hl 1 rfl) ?_
      obtain ⟨hi, hw⟩ := hw
      refine gild X K (o := 4) (t0 := 0) (by decide) kS_c4 rfl hi dS_isFixed_26 ?_
      refine gcI X K (n0 := 2) (As := [.int x1, .int (a 4 x1.toNatClampNeg)]) (rest := []) (hM := (met_S_canFill hl9 D ad ca sa _ x1 (a 4 x1.toNatClampNeg) f a b _ hw)) (o := 0) (ho := by decide) (hko := kS_o0) (hci := rfl) (hg := wl_good) (w1 := (tm2 (i := 144) rfl rfl)) (w2 := (tm2 (i := 146) rfl rfl)) (w3 := (tm0 (i := 10) rfl rfl)) (w4 := (tm1 (i := 1) rfl rfl)) (w5 := (tm2 (i := 147) rfl rfl)) (hd := ⟨rfl, by decide, by decide, by decide +kernel⟩) (hrc := rfl) (hrs := rfl) (hR := ⟨Nat.le_of_ble_eq_true rfl, Nat.le_of_ble_eq_true rfl⟩) (hn := rfl) (hsz := hl.1) (hst := rfl) (hW := Nat.le_of_ble_eq_true rfl) (hdg := dS_isFixed_27) (hf := ⟨Nat.le_of_ble_eq_true rfl, Nat.le_of_ble_eq_true rfl⟩) (fun _ _ _ _ _ _ _ _ hw => hw.elim) (fun r27 f27 a27 b27 H locs hw K => ?_)
      refine lv_if_eq (tgt := 37) hx hb dS_isFixed_30 (by decide) (fun hc => ?_) (fun hc => ?_)
      · replace hw := hw.1 hc
        exact LS_isFixed_37 X hex hr f27 a27 b27 hw _ _ K _ (lv_sub hl [] rfl)
      · replace hw := hw.2 hc
        refine lv_iconst (v := (1 : Int32)) hx hb dS_isFixed_33 (by decide) ?_
        refine lv_goto (tgt := 38) hx hb dS_isFixed_34 (by decide) ?_
        exact LS_isFixed_38 X hex hr (1 : Int32) f27 a27 b27 hw _ _ K _ (lv_sub hl [] rfl)
set_option maxHeartbeats 4000000 in
set_option maxRecDepth 100000 in
theorem LS_hasFixedUnit_28 {p : Program} {l : Launch} {e : Env} {s : State} {m : MethodId} {below : List Frame} {meth : Method} {c : Code} {D : va_G} {sa : Nat → Nat} {ad : Nat → Nat} {ca : Nat → ClassId} {A : Nat → Prop} {y1 : Int32} {po : Int32 → wF → wA → wB → Prop} (X : cx Wl (tyS ca) txS D vwCl sa A p l s m ([.ref (ad 0), .int y1] : List Value).toArray meth c cS_hasFixedUnit 2 "SendBest") (hex : ∀ x ∈ c.exceptionTable.toList, False) (hr : meth.sig.returnType = (some .boolean)) : ∀ (k0 : Int32) (f : wF) (a : wA) (b : wB), wp_S_hasFixedUnit_28 po k0 f a b → ∀ (H : Heap) (locs : List Loc), wd nS kS D vwCl ad ca A s H locs f a b → ∀ (ls : Array Slot), lv_has ls 2 [] → W p l e ({ frames := 3, cells := 0, slots := 0, locals := 67 }) s m ([.ref (ad 0), .int y1] : List Value).toArray below meth c H locs 0 0 (vx_MQ below (va_Qi (fun r (u : wF × wA × wB) => po r u.1 u.2.1 u.2.2) (sPost nS kS D vwCl ad ca A) A) (sX nS kS D vwCl ad ca A (fun _ _ _ _ => False)) ([.ref (ad 0), .int y1] : List Value).toArray s 0 0 A) (F0 m 28 ls [.int k0]) := by
  obtain ⟨hx, hb, hml, hown, hts, hK, hA, hth, hlk, hl9⟩ := id X
  intro k0 f a b hw H locs K ls hl
  dsimp only [wp_S_hasFixedUnit_28] at hw
  exact endI X K hr hw.1 hw.2 (by decide) (by decide) dS_hasFixedUnit_28
set_option maxHeartbeats 4000000 in
set_option maxRecDepth 100000 in
theorem LS_hasFixedUnit_27 {p : Program} {l : Launch} {e : Env} {s : State} {m : MethodId} {below : List Frame} {meth : Method} {c : Code} {D : va_G} {sa : Nat → Nat} {ad : Nat → Nat} {ca : Nat → ClassId} {A : Nat → Prop} {y1 : Int32} {po : Int32 → wF → wA → wB → Prop} (X : cx Wl (tyS ca) txS D vwCl sa A p l s m ([.ref (ad 0), .int y1] : List Value).toArray meth c cS_hasFixedUnit 2 "SendBest") (hex : ∀ x ∈ c.exceptionTable.toList, False) (hr : meth.sig.returnType = (some .boolean)) : ∀ (f : wF) (a : wA) (b : wB), wp_S_hasFixedUnit_27 po f a b → ∀ (H : Heap) (locs : List Loc), wd nS kS D vwCl ad ca A s H locs f a b → ∀ (ls : Array Slot), lv_has ls 2 [] → W p l e ({ frames := 3, cells := 0, slots := 0, locals := 67 }) s m ([.ref (ad 0), .int y1] : List Value).toArray below meth c H locs 0 0 (vx_MQ below (va_Qi (fun r (u : wF × wA × wB) => po r u.1 u.2.1 u.2.2) (sPost nS kS D vwCl ad ca A) A) (sX nS kS D vwCl ad ca A (fun _ _ _ _ => False)) ([.ref (ad 0), .int y1] : List Value).toArray s 0 0 A) (F0 m 27 ls []) := by
  obtain ⟨hx, hb, hml, hown, hts, hK, hA, hth, hlk, hl9⟩ := id X
  intro  f a b hw H locs K ls hl
  dsimp only [wp_S_hasFixedUnit_27] at hw
  refine lv_iconst (v := (0 : Int32)) hx hb dS_hasFixedUnit_27 (by decide) ?_
  exact LS_hasFixedUnit_28 X hex hr (0 : Int32) f a b hw _ _ K _ (lv_sub hl [] rfl)
set_option maxHeartbeats 4000000 in
set_option maxRecDepth 100000 in
theorem met_S_hasFixedUnit {l : Launch} (hl9 : l.stackTraces = false) (D : va_G) (ad : Nat → Nat) (ca : Nat → ClassId) (sa : Nat → Nat) (sz : Nat) (x1 : Int32) (f : wF) (a : wA) (b : wB) (po : Int32 → wF → wA → wB → Prop) (hw : wp_S_hasFixedUnit po x1 f a b) : mI nS kS (tyS ca) txS D vwCl l yS_hasFixedUnit (Cond.code yS_hasFixedUnit cS_hasFixedUnit 2 (some .boolean) :: Wl) ({ frames := 3, cells := 0, slots := 0, locals := 67 }) [.ref (ad 0), .int x1] ad ca sa sz f a b po (fun _ _ _ _ => False) 0 0 := by
  refine ofI (by decide) hl9 (Nat.le_of_ble_eq_true rfl) ?_
  intro p e s m below meth c ls X hex hr K hl
  obtain ⟨hx, hb, hml, hown, hts, hK, hA, hth, hlk, hl9⟩ := id X
  have hl : lv_has ls 2 [(0, .ref (ad 0)), (1, .int x1)] := hl
  dsimp only [wp_S_hasFixedUnit] at hw
  refine lv_aload_n hx hb dS_hasFixedUnit_0 rfl (lv_at hl 0 rfl) ?_
  refine gGet X K (o := 0) (k := 12) (v := .ref (ad 22)) (by decide) kS_o0 rfl inS_o0 (by decide) (tm1 (i := 94) rfl rfl) rfl dS_hasFixedUnit_1 ?_
  refine lv_iload_n hx hb dS_hasFixedUnit_4 rfl (lv_at hl 1 rfl) ?_
  obtain ⟨hi, hw⟩ := hw
  refine gild X K (o := 22) (t0 := 0) (by decide) kS_c22 rfl hi dS_hasFixedUnit_5 ?_
  refine lv_iconst (v := (-1 : Int32)) hx hb dS_hasFixedUnit_6 (by decide) ?_
  refine lv_icmp_eq (tgt := 27) hx hb dS_hasFixedUnit_7 (by decide) (fun hc => ?_) (fun hc => ?_)
  · replace hw := hw.1 hc
    exact LS_hasFixedUnit_27 X hex hr f a b hw _ _ K _ (lv_sub hl [] rfl)
  · replace hw := hw.2 hc
    refine lv_aload_n hx hb dS_hasFixedUnit_10 rfl (lv_at hl 0 rfl) ?_
    refine lv_aload_n hx hb dS_hasFixedUnit_11 rfl (lv_at hl 0 rfl) ?_
    refine gGet X K (o := 0) (k := 12) (v := .ref (ad 22)) (by decide) kS_o0 rfl inS_o0 (by decide) (tm1 (i := 94) rfl rfl) rfl dS_hasFixedUnit_12 ?_
    refine lv_iload_n hx hb dS_hasFixedUnit_15 rfl (lv_at hl 1 rfl) ?_
    obtain ⟨hi, hw⟩ := hw
    refine gild X K (o := 22) (t0 := 0) (by decide) kS_c22 rfl hi dS_hasFixedUnit_16 ?_
    refine gcI X K (n0 := 1) (As := [.int (a 22 x1.toNatClampNeg)]) (rest := []) (hM := (met_S_isFixed hl9 D ad ca sa _ (a 22 x1.toNatClampNeg) f a b _ hw)) (o := 0) (ho := by decide) (hko := kS_o0) (hci := rfl) (hg := wl_good) (w1 := (tm2 (i := 140) rfl rfl)) (w2 := (tm2 (i := 142) rfl rfl)) (w3 := (tm0 (i := 9) rfl rfl)) (w4 := (tm1 (i := 1) rfl rfl)) (w5 := (tm2 (i := 143) rfl rfl)) (hd := ⟨rfl, by decide, by decide, by decide +kernel⟩) (hrc := rfl) (hrs := rfl) (hR := ⟨Nat.le_of_ble_eq_true rfl, Nat.le_of_ble_eq_true rfl⟩) (hn := rfl) (hsz := hl.1) (hst := rfl) (hW := Nat.le_of_ble_eq_true rfl) (hdg := dS_hasFixedUnit_17) (hf := ⟨Nat.le_of_ble_eq_true rfl, Nat.le_of_ble_eq_true rfl⟩) (fun _ _ _ _ _ _ _ _ hw => hw.elim) (fun r17 f17 a17 b17 H locs hw K => ?_)
    refine lv_if_eq (tgt := 27) hx hb dS_hasFixedUnit_20 (by decide) (fun hc => ?_) (fun hc => ?_)
    · replace hw := hw.1 hc
      exact LS_hasFixedUnit_27 X hex hr f17 a17 b17 hw _ _ K _ (lv_sub hl [] rfl)
    · replace hw := hw.2 hc
      refine lv_iconst (v := (1 : Int32)) hx hb dS_hasFixedUnit_23 (by decide) ?_
      refine lv_goto (tgt := 28) hx hb dS_hasFixedUnit_24 (by decide) ?_
      exact LS_hasFixedUnit_28 X hex hr (1 : Int32) f17 a17 b17 hw _ _ K _ (lv_sub hl [] rfl)
set_option maxHeartbeats 4000000 in
set_option maxRecDepth 100000 in
theorem met_S_rankOfNeed {l : Launch} (hl9 : l.stackTraces = false) (D : va_G) (ad : Nat → Nat) (ca : Nat → ClassId) (sa : Nat → Nat) (sz : Nat) (x1 : Int32) (f : wF) (a : wA) (b : wB) (po : Int32 → wF → wA → wB → Prop) (hw : wp_S_rankOfNeed po x1 f a b) : mI nS kS (tyS ca) txS D vwCl l yS_rankOfNeed (Cond.code yS_rankOfNeed cS_rankOfNeed 2 (some .int) :: Wl) ({ frames := 0, cells := 0, slots := 0, locals := 0 }) [.ref (ad 0), .int x1] ad ca sa sz f a b po (fun _ _ _ _ => False) 0 0 := by
  refine ofI (by decide) hl9 (Nat.le_of_ble_eq_true rfl) ?_
  intro p e s m below meth c ls X hex hr K hl
  obtain ⟨hx, hb, hml, hown, hts, hK, hA, hth, hlk, hl9⟩ := id X
  have hl : lv_has ls 2 [(0, .ref (ad 0)), (1, .int x1)] := hl
  dsimp only [wp_S_rankOfNeed] at hw
  refine lv_aload_n hx hb dS_rankOfNeed_0 rfl (lv_at hl 0 rfl) ?_
  refine gGet X K (o := 0) (k := 7) (v := .ref (ad 18)) (by decide) kS_o0 rfl inS_o0 (by decide) (tm1 (i := 89) rfl rfl) rfl dS_rankOfNeed_1 ?_
  refine lv_aload_n hx hb dS_rankOfNeed_4 rfl (lv_at hl 0 rfl) ?_
  refine gGet X K (o := 0) (k := 10) (v := .ref (ad 20)) (by decide) kS_o0 rfl inS_o0 (by decide) (tm1 (i := 92) rfl rfl) rfl dS_rankOfNeed_5 ?_
  refine lv_iload_n hx hb dS_rankOfNeed_8 rfl (lv_at hl 1 rfl) ?_
  obtain ⟨hi, hw⟩ := hw
  refine gild X K (o := 20) (t0 := 0) (by decide) kS_c20 rfl hi dS_rankOfNeed_9 ?_
  obtain ⟨hi, hw⟩ := hw
  refine gild X K (o := 18) (t0 := 0) (by decide) kS_c18 rfl hi dS_rankOfNeed_10 ?_
  exact endI X K hr rfl hw (by decide) (by decide) dS_rankOfNeed_11
set_option maxHeartbeats 4000000 in
set_option maxRecDepth 100000 in
theorem met_P_addRow {l : Launch} (hl9 : l.stackTraces = false) (D : va_G) (ad : Nat → Nat) (ca : Nat → ClassId) (sa : Nat → Nat) (sz : Nat) (x1 : Int32) (f : wF) (a : wA) (b : wB) (po : Int32 → wF → wA → wB → Prop) (hw : wp_P_addRow po x1 f a b) : mI nS kS (tyS ca) txS D vwCl l yP_addRow (Cond.code yP_addRow cP_addRow 2 (some .int) :: Wl) ({ frames := 0, cells := 0, slots := 0, locals := 0 }) [.ref (ad 24), .int x1] ad ca sa sz f a b po (fun _ _ _ _ => False) 0 0 := by
  refine ofI (by decide) hl9 (Nat.le_of_ble_eq_true rfl) ?_
  intro p e s m below meth c ls X hex hr K hl
  obtain ⟨hx, hb, hml, hown, hts, hK, hA, hth, hlk, hl9⟩ := id X
  have hl : lv_has ls 2 [(0, .ref (ad 24)), (1, .int x1)] := hl
  dsimp only [wp_P_addRow] at hw
  refine lv_aload_n hx hb dP_addRow_0 rfl (lv_at hl 0 rfl) ?_
  refine gGet X K (o := 24) (k := 2) (v := .ref (ad 25)) (by decide) kS_o24 rfl inS_o24 (by decide) (tm1 (i := 35) rfl rfl) rfl dP_addRow_1 ?_
  refine lv_aload_n hx hb dP_addRow_4 rfl (lv_at hl 0 rfl) ?_
  refine gGet X K (o := 24) (k := 0) (v := .int (f 5)) (by decide) kS_o24 rfl inS_o24 (by decide) (tm1 (i := 33) rfl rfl) rfl dP_addRow_5 ?_
  refine lv_iload_n hx hb dP_addRow_8 rfl (lv_at hl 1 rfl) ?_
  obtain ⟨hi, hw⟩ := hw
  refine gist X K (o := 25) (t0 := 0) (by decide) kS_c25 rfl hi dP_addRow_9 kS_p25 (fun H locs K => ?_)
  refine lv_aload_n hx hb dP_addRow_10 rfl (lv_at hl 0 rfl) ?_
  refine lv_dup hx hb dP_addRow_11 rfl ?_
  refine gGet X K (o := 24) (k := 0) (v := .int (f 5)) (by decide) kS_o24 rfl inS_o24 (by decide) (tm1 (i := 33) rfl rfl) rfl dP_addRow_12 ?_
  refine lv_iconst (v := (1 : Int32)) hx hb dP_addRow_15 (by decide) ?_
  refine lv_iadd hx hb dP_addRow_16 ?_
  refine gPut X K (o := 24) (k := 0) (v := .int ((f 5) + (1 : Int32))) (ty := .int) tS_o24 tS_o24_ok nS_o24 (by decide) kS_o24 rfl inS_o24 (by decide) (tm1 (i := 33) rfl rfl) rfl rfl rfl rfl (by simp [flS_o24]) dP_addRow_17 kS_u24_0 (fun H locs K => ?_)
  refine lv_aload_n hx hb dP_addRow_20 rfl (lv_at hl 0 rfl) ?_
  refine gGet X K (o := 24) (k := 0) (v := .int ((va_up f 5 ((f 5) + (1 : Int32))) 5)) (by decide) kS_o24 rfl inS_o24 (by decide) (tm1 (i := 33) rfl rfl) rfl dP_addRow_21 ?_
  refine lv_iconst (v := (1 : Int32)) hx hb dP_addRow_24 (by decide) ?_
  refine lv_isub hx hb dP_addRow_25 ?_
  exact endI X K hr rfl hw (by decide) (by decide) dP_addRow_26
set_option maxHeartbeats 4000000 in
set_option maxRecDepth 100000 in
theorem met_P_allow {l : Launch} (hl9 : l.stackTraces = false) (D : va_G) (ad : Nat → Nat) (ca : Nat → ClassId) (sa : Nat → Nat) (sz : Nat) (x1 : Int32) (x2 : Int32) (x3 : Int32) (x4 : Int32) (f : wF) (a : wA) (b : wB) (po : wF → wA → wB → Prop) (hw : wp_P_allow po x1 x2 x3 x4 f a b) : mV nS kS (tyS ca) txS D vwCl l yP_allow (Cond.code yP_allow cP_allow 5 none :: Wl) ({ frames := 0, cells := 0, slots := 0, locals := 0 }) [.ref (ad 24), .int x1, .int x2, .int x3, .int x4] ad ca sa sz f a b po (fun _ _ _ _ => False) 0 0 := by
  refine ofV (by decide) hl9 (Nat.le_of_ble_eq_true rfl) ?_
  intro p e s m below meth c ls X hex hr K hl
  obtain ⟨hx, hb, hml, hown, hts, hK, hA, hth, hlk, hl9⟩ := id X
  have hl : lv_has ls 5 [(0, .ref (ad 24)), (1, .int x1), (2, .int x2), (3, .int x3), (4, .int x4)] := hl
  dsimp only [wp_P_allow] at hw
  refine lv_aload_n hx hb dP_allow_0 rfl (lv_at hl 0 rfl) ?_
  refine gGet X K (o := 24) (k := 3) (v := .ref (ad 26)) (by decide) kS_o24 rfl inS_o24 (by decide) (tm1 (i := 36) rfl rfl) rfl dP_allow_1 ?_
  refine lv_iload_n hx hb dP_allow_4 rfl (lv_at hl 1 rfl) ?_
  obtain ⟨hi_cost, hw⟩ := hw
  refine gald X K (o := 26) (t0 := 4) (by decide) kS_c26 rfl hi_cost dP_allow_5 ?_
  refine lv_iload_n hx hb dP_allow_6 rfl (lv_at hl 2 rfl) ?_
  refine lv_iload_n hx hb dP_allow_7 rfl (lv_at hl 3 rfl) ?_
  refine lv_i2l (v := x3.toInt64) hx hb dP_allow_8 rfl ?_
  refine lv_iload hx hb dP_allow_9 (lv_at hl 4 rfl) ?_
  refine lv_i2l (v := x4.toInt64) hx hb dP_allow_11 rfl ?_
  refine lv_ldc2 (v := (100000000 : Int64)) hx hb hown (hts _ (tm2 (i := 168) rfl rfl)) dP_allow_12 ?_
  refine lv_lsub hx hb dP_allow_15 ?_
  refine lv_lmul hx hb dP_allow_16 ?_
  obtain ⟨hi, hw⟩ := hw
  refine glst X K (o := (27 + x1.toNatClampNeg)) (t0 := 2) (rS_cost_lt hi_cost) (kS_r_cost hi_cost) rfl hi dP_allow_17 (kS_q_cost hi_cost) (fun H locs K => ?_)
  exact endV X K hr hw (by decide) (by decide) dP_allow_18
set_option maxHeartbeats 4000000 in
set_option maxRecDepth 100000 in
theorem LS_addNeed_56 {p : Program} {l : Launch} {e : Env} {s : State} {m : MethodId} {below : List Frame} {meth : Method} {c : Code} {D : va_G} {sa : Nat → Nat} {ad : Nat → Nat} {ca : Nat → ClassId} {A : Nat → Prop} {y1 : Int32} {po : wF → wA → wB → Prop} (X : cx Wl (tyS ca) txS D vwCl sa A p l s m ([.ref (ad 0), .int y1] : List Value).toArray meth c cS_addNeed 4 "SendBest") (hex : ∀ x ∈ c.exceptionTable.toList, False) (hr : meth.sig.returnType = none) (J11 : Int32 → Int32 → Int32 → wF → wA → wB → Prop) (hJ11 : ∀ (x1 : Int32) (x2 : Int32) (x3 : Int32) (f : wF) (a : wA) (b : wB), J11 x1 x2 x3 f a b → ∀ (H : Heap) (locs : List Loc), wd nS kS D vwCl ad ca A s H locs f a b → ∀ (ls : Array Slot), lv_has ls 4 [(0, .ref (ad 0)), (1, .int x1), (2, .int x2), (3, .int x3)] → W p l e ({ frames := 3, cells := 0, slots := 0, locals := 67 }) s m ([.ref (ad 0), .int y1] : List Value).toArray below meth c H locs 0 0 (vx_MQ below (va_Qv (fun (u : wF × wA × wB) => po u.1 u.2.1 u.2.2) (sPost nS kS D vwCl ad ca A) A) (sX nS kS D vwCl ad ca A (fun _ _ _ _ => False)) ([.ref (ad 0), .int y1] : List Value).toArray s 0 0 A) (F0 m 11 ls [])) : ∀ (x1 : Int32) (x2 : Int32) (x3 : Int32) (f : wF) (a : wA) (b : wB), wp_S_addNeed_56 po J11 x1 x2 x3 f a b → ∀ (H : Heap) (locs : List Loc), wd nS kS D vwCl ad ca A s H locs f a b → ∀ (ls : Array Slot), lv_has ls 4 [(0, .ref (ad 0)), (1, .int x1), (2, .int x2), (3, .int x3)] → W p l e ({ frames := 3, cells := 0, slots := 0, locals := 67 }) s m ([.ref (ad 0), .int y1] : List Value).toArray below meth c H locs 0 0 (vx_MQ below (va_Qv (fun (u : wF × wA × wB) => po u.1 u.2.1 u.2.2) (sPost nS kS D vwCl ad ca A) A) (sX nS kS D vwCl ad ca A (fun _ _ _ _ => False)) ([.ref (ad 0), .int y1] : List Value).toArray s 0 0 A) (F0 m 56 ls []) := by
  obtain ⟨hx, hb, hml, hown, hts, hK, hA, hth, hlk, hl9⟩ := id X
  intro x1 x2 x3 f a b hw H locs K ls hl
  dsimp only [wp_S_addNeed_56] at hw
  refine lv_iinc (v := (x3 + (1 : Int32))) (lv' := [(3, .int (x3 + (1 : Int32))), (0, .ref (ad 0)), (1, .int x1), (2, .int x2)]) hx hb dS_addNeed_56 hl (k := 3) rfl rfl (by decide) rfl (fun ls hl => ?_)
  refine lv_goto (tgt := 11) hx hb dS_addNeed_59 (by decide) ?_
  exact hJ11 x1 x2 (x3 + (1 : Int32)) f a b hw _ _ K _ (lv_sub hl [1, 2, 3, 0] rfl)
set_option maxHeartbeats 4000000 in
set_option maxRecDepth 100000 in
theorem LS_addNeed_11 {p : Program} {l : Launch} {e : Env} {s : State} {m : MethodId} {below : List Frame} {meth : Method} {c : Code} {D : va_G} {sa : Nat → Nat} {ad : Nat → Nat} {ca : Nat → ClassId} {A : Nat → Prop} {y1 : Int32} {po : wF → wA → wB → Prop} (X : cx Wl (tyS ca) txS D vwCl sa A p l s m ([.ref (ad 0), .int y1] : List Value).toArray meth c cS_addNeed 4 "SendBest") (hex : ∀ x ∈ c.exceptionTable.toList, False) (hr : meth.sig.returnType = none) : ∀ n : Nat, ∀ (x1 : Int32) (x2 : Int32) (x3 : Int32) (f : wF) (a : wA) (b : wB), wp_S_addNeed_11 po n x1 x2 x3 f a b → ∀ (H : Heap) (locs : List Loc), wd nS kS D vwCl ad ca A s H locs f a b → ∀ (ls : Array Slot), lv_has ls 4 [(0, .ref (ad 0)), (1, .int x1), (2, .int x2), (3, .int x3)] → W p l e ({ frames := 3, cells := 0, slots := 0, locals := 67 }) s m ([.ref (ad 0), .int y1] : List Value).toArray below meth c H locs 0 0 (vx_MQ below (va_Qv (fun (u : wF × wA × wB) => po u.1 u.2.1 u.2.2) (sPost nS kS D vwCl ad ca A) A) (sX nS kS D vwCl ad ca A (fun _ _ _ _ => False)) ([.ref (ad 0), .int y1] : List Value).toArray s 0 0 A) (F0 m 11 ls []) := by
  obtain ⟨hx, hb, hml, hown, hts, hK, hA, hth, hlk, hl9⟩ := id X
  intro n
  induction n with
  | zero => intro x1 x2 x3 f a b hw; exact hw.elim
  | succ n ih =>
    intro x1 x2 x3 f a b hw H locs K ls hl
    dsimp only [wp_S_addNeed_11] at hw
    refine lv_iload_n hx hb dS_addNeed_11 rfl (lv_at hl 3 rfl) ?_
    refine lv_aload_n hx hb dS_addNeed_12 rfl (lv_at hl 0 rfl) ?_
    refine gGet X K (o := 0) (k := 0) (v := .int (f 0)) (by decide) kS_o0 rfl inS_o0 (by decide) (tm1 (i := 82) rfl rfl) rfl dS_addNeed_13 ?_
    refine lv_icmp_ge (tgt := 62) hx hb dS_addNeed_16 (by decide) (fun hc => ?_) (fun hc => ?_)
    · replace hw := hw.1 hc
      exact endV X K hr hw (by decide) (by decide) dS_addNeed_62
    · replace hw := hw.2 hc
      refine lv_aload_n hx hb dS_addNeed_19 rfl (lv_at hl 0 rfl) ?_
      refine lv_iload_n hx hb dS_addNeed_20 rfl (lv_at hl 3 rfl) ?_
      refine gcI X K (n0 := 1) (As := [.int x3]) (rest := []) (hM := (met_S_isFixed hl9 D ad ca sa _ x3 f a b _ hw)) (o := 0) (ho := by decide) (hko := kS_o0) (hci := rfl) (hg := wl_good) (w1 := (tm2 (i := 140) rfl rfl)) (w2 := (tm2 (i := 142) rfl rfl)) (w3 := (tm0 (i := 9) rfl rfl)) (w4 := (tm1 (i := 1) rfl rfl)) (w5 := (tm2 (i := 143) rfl rfl)) (hd := ⟨rfl, by decide, by decide, by decide +kernel⟩) (hrc := rfl) (hrs := rfl) (hR := ⟨Nat.le_of_ble_eq_true rfl, Nat.le_of_ble_eq_true rfl⟩) (hn := rfl) (hsz := hl.1) (hst := rfl) (hW := Nat.le_of_ble_eq_true rfl) (hdg := dS_addNeed_21) (hf := ⟨Nat.le_of_ble_eq_true rfl, Nat.le_of_ble_eq_true rfl⟩) (fun _ _ _ _ _ _ _ _ hw => hw.elim) (fun r21 f21 a21 b21 H locs hw K => ?_)
      refine lv_if_ne (tgt := 56) hx hb dS_addNeed_24 (by decide) (fun hc => ?_) (fun hc => ?_)
      · replace hw := hw.1 hc
        exact LS_addNeed_56 X hex hr (wp_S_addNeed_11 po n) ih x1 x2 x3 f21 a21 b21 hw _ _ K _ (lv_sub hl [0, 1, 2, 3] rfl)
      · replace hw := hw.2 hc
        refine lv_aload_n hx hb dS_addNeed_27 rfl (lv_at hl 0 rfl) ?_
        refine lv_iload_n hx hb dS_addNeed_28 rfl (lv_at hl 3 rfl) ?_
        refine lv_iload_n hx hb dS_addNeed_29 rfl (lv_at hl 1 rfl) ?_
        refine gcI X K (n0 := 2) (As := [.int x3, .int x1]) (rest := []) (hM := (met_S_canFill hl9 D ad ca sa _ x3 x1 f21 a21 b21 _ hw)) (o := 0) (ho := by decide) (hko := kS_o0) (hci := rfl) (hg := wl_good) (w1 := (tm2 (i := 144) rfl rfl)) (w2 := (tm2 (i := 146) rfl rfl)) (w3 := (tm0 (i := 10) rfl rfl)) (w4 := (tm1 (i := 1) rfl rfl)) (w5 := (tm2 (i := 147) rfl rfl)) (hd := ⟨rfl, by decide, by decide, by decide +kernel⟩) (hrc := rfl) (hrs := rfl) (hR := ⟨Nat.le_of_ble_eq_true rfl, Nat.le_of_ble_eq_true rfl⟩) (hn := rfl) (hsz := hl.1) (hst := rfl) (hW := Nat.le_of_ble_eq_true rfl) (hdg := dS_addNeed_30) (hf := ⟨Nat.le_of_ble_eq_true rfl, Nat.le_of_ble_eq_true rfl⟩) (fun _ _ _ _ _ _ _ _ hw => hw.elim) (fun r30 f30 a30 b30 H locs hw K => ?_)
        refine lv_if_eq (tgt := 56) hx hb dS_addNeed_33 (by decide) (fun hc => ?_) (fun hc => ?_)
        · replace hw := hw.1 hc
          exact LS_addNeed_56 X hex hr (wp_S_addNeed_11 po n) ih x1 x2 x3 f30 a30 b30 hw _ _ K _ (lv_sub hl [0, 1, 2, 3] rfl)
        · replace hw := hw.2 hc
          refine lv_aload_n hx hb dS_addNeed_36 rfl (lv_at hl 0 rfl) ?_
          refine gGet X K (o := 0) (k := 16) (v := .ref (ad 24)) (by decide) kS_o0 rfl inS_o0 (by decide) (tm1 (i := 98) rfl rfl) rfl dS_addNeed_37 ?_
          refine lv_iload_n hx hb dS_addNeed_40 rfl (lv_at hl 2 rfl) ?_
          refine lv_iload_n hx hb dS_addNeed_41 rfl (lv_at hl 3 rfl) ?_
          refine lv_aload_n hx hb dS_addNeed_42 rfl (lv_at hl 0 rfl) ?_
          refine lv_iload_n hx hb dS_addNeed_43 rfl (lv_at hl 1 rfl) ?_
          refine gcI X K (n0 := 1) (As := [.int x1]) (rest := [.int x3, .int x2, .ref (ad 24)]) (hM := (met_S_rankOfNeed hl9 D ad ca sa _ x1 f30 a30 b30 _ hw)) (o := 0) (ho := by decide) (hko := kS_o0) (hci := rfl) (hg := wl_good) (w1 := (tm2 (i := 152) rfl rfl)) (w2 := (tm2 (i := 154) rfl rfl)) (w3 := (tm0 (i := 12) rfl rfl)) (w4 := (tm1 (i := 1) rfl rfl)) (w5 := (tm2 (i := 155) rfl rfl)) (hd := ⟨rfl, by decide, by decide, by decide +kernel⟩) (hrc := rfl) (hrs := rfl) (hR := ⟨Nat.le_of_ble_eq_true rfl, Nat.le_of_ble_eq_true rfl⟩) (hn := rfl) (hsz := hl.1) (hst := rfl) (hW := Nat.le_of_ble_eq_true rfl) (hdg := dS_addNeed_44) (hf := ⟨Nat.le_of_ble_eq_true rfl, Nat.le_of_ble_eq_true rfl⟩) (fun _ _ _ _ _ _ _ _ hw => hw.elim) (fun r44 f44 a44 b44 H locs hw K => ?_)
          refine lv_aload_n hx hb dS_addNeed_47 rfl (lv_at hl 0 rfl) ?_
          refine lv_iload_n hx hb dS_addNeed_48 rfl (lv_at hl 3 rfl) ?_
          refine lv_iload_n hx hb dS_addNeed_49 rfl (lv_at hl 1 rfl) ?_
          refine gcI X K (n0 := 2) (As := [.int x3, .int x1]) (rest := [.int r44, .int x3, .int x2, .ref (ad 24)]) (hM := (met_S_secondsTo hl9 D ad ca sa _ x3 x1 f44 a44 b44 _ hw)) (o := 0) (ho := by decide) (hko := kS_o0) (hci := rfl) (hg := wl_good) (w1 := (tm2 (i := 148) rfl rfl)) (w2 := (tm2 (i := 150) rfl rfl)) (w3 := (tm0 (i := 11) rfl rfl)) (w4 := (tm1 (i := 1) rfl rfl)) (w5 := (tm2 (i := 151) rfl rfl)) (hd := ⟨rfl, by decide, by decide, by decide +kernel⟩) (hrc := rfl) (hrs := rfl) (hR := ⟨Nat.le_of_ble_eq_true rfl, Nat.le_of_ble_eq_true rfl⟩) (hn := rfl) (hsz := hl.1) (hst := rfl) (hW := Nat.le_of_ble_eq_true rfl) (hdg := dS_addNeed_50) (hf := ⟨Nat.le_of_ble_eq_true rfl, Nat.le_of_ble_eq_true rfl⟩) (fun _ _ _ _ _ _ _ _ hw => hw.elim) (fun r50 f50 a50 b50 H locs hw K => ?_)
          refine gcV X K (n0 := 4) (As := [.int x2, .int x3, .int r44, .int r50]) (rest := []) (hM := (met_P_allow hl9 D ad ca sa _ x2 x3 r44 r50 f50 a50 b50 _ hw)) (o := 24) (ho := by decide) (hko := kS_o24) (hci := rfl) (hg := wl_good) (w1 := (tm2 (i := 164) rfl rfl)) (w2 := (tm2 (i := 165) rfl rfl)) (w3 := (tm2 (i := 166) rfl rfl)) (w4 := (tm1 (i := 2) rfl rfl)) (w5 := (tm2 (i := 167) rfl rfl)) (hd := ⟨rfl, by decide, by decide, by decide +kernel⟩) (hrc := rfl) (hrs := rfl) (hR := ⟨Nat.le_of_ble_eq_true rfl, Nat.le_of_ble_eq_true rfl⟩) (hn := rfl) (hsz := hl.1) (hst := rfl) (hW := Nat.le_of_ble_eq_true rfl) (hdg := dS_addNeed_53) (hf := ⟨Nat.le_of_ble_eq_true rfl, Nat.le_of_ble_eq_true rfl⟩) (fun _ _ _ _ _ _ _ _ hw => hw.elim) (fun f53 a53 b53 H locs hw K => ?_)
          exact LS_addNeed_56 X hex hr (wp_S_addNeed_11 po n) ih x1 x2 x3 f53 a53 b53 hw _ _ K _ (lv_sub hl [0, 1, 2, 3] rfl)
set_option maxHeartbeats 4000000 in
set_option maxRecDepth 100000 in
theorem met_S_addNeed {l : Launch} (hl9 : l.stackTraces = false) (D : va_G) (ad : Nat → Nat) (ca : Nat → ClassId) (sa : Nat → Nat) (sz : Nat) (x1 : Int32) (f : wF) (a : wA) (b : wB) (po : wF → wA → wB → Prop) (hw : wp_S_addNeed po x1 f a b) : mV nS kS (tyS ca) txS D vwCl l yS_addNeed (Cond.code yS_addNeed cS_addNeed 4 none :: Wl) ({ frames := 3, cells := 0, slots := 0, locals := 67 }) [.ref (ad 0), .int x1] ad ca sa sz f a b po (fun _ _ _ _ => False) 0 0 := by
  refine ofV (by decide) hl9 (Nat.le_of_ble_eq_true rfl) ?_
  intro p e s m below meth c ls X hex hr K hl
  obtain ⟨hx, hb, hml, hown, hts, hK, hA, hth, hlk, hl9⟩ := id X
  have hl : lv_has ls 4 [(0, .ref (ad 0)), (1, .int x1)] := hl
  dsimp only [wp_S_addNeed] at hw
  refine lv_aload_n hx hb dS_addNeed_0 rfl (lv_at hl 0 rfl) ?_
  refine gGet X K (o := 0) (k := 16) (v := .ref (ad 24)) (by decide) kS_o0 rfl inS_o0 (by decide) (tm1 (i := 98) rfl rfl) rfl dS_addNeed_1 ?_
  refine lv_iload_n hx hb dS_addNeed_4 rfl (lv_at hl 1 rfl) ?_
  refine gcI X K (n0 := 1) (As := [.int x1]) (rest := []) (hM := (met_P_addRow hl9 D ad ca sa _ x1 f a b _ hw)) (o := 24) (ho := by decide) (hko := kS_o24) (hci := rfl) (hg := wl_good) (w1 := (tm2 (i := 160) rfl rfl)) (w2 := (tm2 (i := 161) rfl rfl)) (w3 := (tm2 (i := 162) rfl rfl)) (w4 := (tm1 (i := 2) rfl rfl)) (w5 := (tm2 (i := 163) rfl rfl)) (hd := ⟨rfl, by decide, by decide, by decide +kernel⟩) (hrc := rfl) (hrs := rfl) (hR := ⟨Nat.le_of_ble_eq_true rfl, Nat.le_of_ble_eq_true rfl⟩) (hn := rfl) (hsz := hl.1) (hst := rfl) (hW := Nat.le_of_ble_eq_true rfl) (hdg := dS_addNeed_5) (hf := ⟨Nat.le_of_ble_eq_true rfl, Nat.le_of_ble_eq_true rfl⟩) (fun _ _ _ _ _ _ _ _ hw => hw.elim) (fun r5 f5 a5 b5 H locs hw K => ?_)
  refine lv_istore_n (lv' := [(2, .int r5), (0, .ref (ad 0)), (1, .int x1)]) hx hb dS_addNeed_8 rfl hl (by decide) rfl (fun ls hl => ?_)
  refine lv_iconst (v := (0 : Int32)) hx hb dS_addNeed_9 (by decide) ?_
  refine lv_istore_n (lv' := [(3, .int (0 : Int32)), (2, .int r5), (0, .ref (ad 0)), (1, .int x1)]) hx hb dS_addNeed_10 rfl hl (by decide) rfl (fun ls hl => ?_)
  obtain ⟨n9, hw⟩ := hw
  exact LS_addNeed_11 X hex hr n9 x1 r5 (0 : Int32) f5 a5 b5 hw _ _ K _ (lv_sub hl [2, 3, 1, 0] rfl)
