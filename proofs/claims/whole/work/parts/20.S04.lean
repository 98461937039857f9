set_option maxHeartbeats 4000000 in
set_option maxRecDepth 100000 in
theorem met_S_checkSent {l : Launch} (hl9 : l.stackTraces = false) (D : va_G) (ad : Nat → Nat) (ca : Nat → ClassId) (sa : Nat → Nat) (sz : Nat) (x1 : Int32) (f : wF) (a : wA) (b : wB) (po : wF → wA → wB → Prop) (px : String → wF → wA → wB → Prop) (hw : wp_S_checkSent po px x1 f a b) : mV nS kS (tyS ca) txS D vwCl l yS_checkSent (Cond.code yS_checkSent cS_checkSent 2 none :: Wl) ({ frames := 6, cells := 1, slots := 6, locals := 82 }) [.ref (ad 0), .int x1] ad ca sa sz f a b po px 1 6 := by
  refine ofV (by decide) hl9 (Nat.le_of_ble_eq_true rfl) ?_
  intro p e s m below meth c ls X hex hr K hl
  obtain ⟨hx, hb, hml, hown, hts, hK, hA, hth, hlk, hl9⟩ := id X
  have hl : lv_has ls 2 [(0, .ref (ad 0)), (1, .int x1)] := hl
  dsimp only [wp_S_checkSent] at hw
  refine lv_aload_n hx hb dS_checkSent_0 rfl (lv_at hl 0 rfl) ?_
  refine gGet X K (o := 0) (k := 4) (v := .ref (ad 4)) (by decide) kS_o0 rfl inS_o0 (by decide) (tm1 (i := 86) rfl rfl) rfl dS_checkSent_1 ?_
  refine lv_iload_n hx hb dS_checkSent_4 rfl (lv_at hl 1 rfl) ?_
  obtain ⟨hi, hw⟩ := hw
  refine gild X K (o := 4) (t0 := 0) (by decide) kS_c4 rfl hi dS_checkSent_5 ?_
  refine lv_iconst (v := (-1 : Int32)) hx hb dS_checkSent_6 (by decide) ?_
  refine lv_icmp_ne (tgt := 20) hx hb dS_checkSent_7 (by decide) (fun hc => ?_) (fun hc => ?_)
  · replace hw := hw.1 hc
    exact endV X K hr hw (by decide) (by decide) dS_checkSent_20
  · replace hw := hw.2 hc
    exact throwX X hex K (k := 15) (names := ["java/lang/RuntimeException", "java/lang/Exception"]) hw (by decide +kernel) (by decide +kernel) rfl (tm2 (i := 34) rfl rfl) (tm1 (i := 11) rfl rfl) xg_S_121 xb_S_121 xo_S_121_117 hl.1 dS_checkSent_10 dS_checkSent_13 dS_checkSent_14 dS_checkSent_16 dS_checkSent_19 (by decide) (by decide) (by decide) (by decide) (by decide) (by decide)
set_option maxHeartbeats 4000000 in
set_option maxRecDepth 100000 in
theorem met_S_stay {l : Launch} (hl9 : l.stackTraces = false) (D : va_G) (ad : Nat → Nat) (ca : Nat → ClassId) (sa : Nat → Nat) (sz : Nat) (x1 : Int32) (x2 : Int32) (f : wF) (a : wA) (b : wB) (po : wF → wA → wB → Prop) (px : String → wF → wA → wB → Prop) (hw : wp_S_stay po px x1 x2 f a b) : mV nS kS (tyS ca) txS D vwCl l yS_stay (Cond.code yS_stay cS_stay 3 none :: Wl) ({ frames := 7, cells := 3, slots := 18, locals := 103 }) [.ref (ad 0), .int x1, .int x2] ad ca sa sz f a b po px 3 18 := by
  refine ofV (by decide) hl9 (Nat.le_of_ble_eq_true rfl) ?_
  intro p e s m below meth c ls X hex hr K hl
  obtain ⟨hx, hb, hml, hown, hts, hK, hA, hth, hlk, hl9⟩ := id X
  have hl : lv_has ls 3 [(0, .ref (ad 0)), (1, .int x1), (2, .int x2)] := hl
  dsimp only [wp_S_stay] at hw
  refine lv_aload_n hx hb dS_stay_0 rfl (lv_at hl 0 rfl) ?_
  refine lv_iload_n hx hb dS_stay_1 rfl (lv_at hl 1 rfl) ?_
  refine gcV X K (n0 := 1) (As := [.int x1]) (rest := []) (hM := (met_S_checkUnit hl9 D ad ca sa _ x1 f a b _ _ hw)) (o := 0) (ho := by decide) (hko := kS_o0) (hci := rfl) (hg := wl_good) (w1 := (tm2 (i := 70) rfl rfl)) (w2 := (tm2 (i := 72) rfl rfl)) (w3 := (tm0 (i := 3) rfl rfl)) (w4 := (tm1 (i := 1) rfl rfl)) (w5 := (tm2 (i := 73) rfl rfl)) (hd := ⟨rfl, by decide, by decide, by decide +kernel⟩) (hrc := rfl) (hrs := rfl) (hR := ⟨Nat.le_of_ble_eq_true rfl, Nat.le_of_ble_eq_true rfl⟩) (hn := rfl) (hsz := hl.1) (hst := rfl) (hW := Nat.le_of_ble_eq_true rfl) (hdg := dS_stay_2) (hf := ⟨Nat.le_of_ble_eq_true rfl, Nat.le_of_ble_eq_true rfl⟩) (fun E ce q9 f1 a1 b1 H1 locs1 hw K hce hv hcl => outX X hex K hw hce hv hcl (by decide) (by decide)) (fun f2 a2 b2 H locs hw K => ?_)
  refine lv_aload_n hx hb dS_stay_5 rfl (lv_at hl 0 rfl) ?_
  refine lv_iload_n hx hb dS_stay_6 rfl (lv_at hl 1 rfl) ?_
  refine gcV X K (n0 := 1) (As := [.int x1]) (rest := []) (hM := (met_S_checkSent hl9 D ad ca sa _ x1 f2 a2 b2 _ _ hw)) (o := 0) (ho := by decide) (hko := kS_o0) (hci := rfl) (hg := wl_good) (w1 := (tm3 (i := 22) rfl rfl)) (w2 := (tm3 (i := 24) rfl rfl)) (w3 := (tm0 (i := 25) rfl rfl)) (w4 := (tm1 (i := 1) rfl rfl)) (w5 := (tm3 (i := 25) rfl rfl)) (hd := ⟨rfl, by decide, by decide, by decide +kernel⟩) (hrc := rfl) (hrs := rfl) (hR := ⟨Nat.le_of_ble_eq_true rfl, Nat.le_of_ble_eq_true rfl⟩) (hn := rfl) (hsz := hl.1) (hst := rfl) (hW := Nat.le_of_ble_eq_true rfl) (hdg := dS_stay_7) (hf := ⟨Nat.le_of_ble_eq_true rfl, Nat.le_of_ble_eq_true rfl⟩) (fun E ce q9 f1 a1 b1 H1 locs1 hw K hce hv hcl => outX X hex K hw hce hv hcl (by decide) (by decide)) (fun f7 a7 b7 H locs hw K => ?_)
  refine lv_aload_n hx hb dS_stay_10 rfl (lv_at hl 0 rfl) ?_
  refine gGet X K (o := 0) (k := 3) (v := .ref (ad 3)) (by decide) kS_o0 rfl inS_o0 (by decide) (tm1 (i := 85) rfl rfl) rfl dS_stay_11 ?_
  refine lv_iload_n hx hb dS_stay_14 rfl (lv_at hl 1 rfl) ?_
  obtain ⟨hi, hw⟩ := hw
  refine gzld X K (o := 3) (t0 := 1) (by decide) kS_c3 rfl hi dS_stay_15 ?_
  refine lv_iload_n hx hb dS_stay_16 rfl (lv_at hl 2 rfl) ?_
  refine lv_icmp_ne (tgt := 30) hx hb dS_stay_17 (by decide) (fun hc => ?_) (fun hc => ?_)
  · replace hw := hw.1 hc
    refine lv_aload_n hx hb dS_stay_30 rfl (lv_at hl 0 rfl) ?_
    refine gGet X K (o := 0) (k := 3) (v := .ref (ad 3)) (by decide) kS_o0 rfl inS_o0 (by decide) (tm1 (i := 85) rfl rfl) rfl dS_stay_31 ?_
    refine lv_iload_n hx hb dS_stay_34 rfl (lv_at hl 1 rfl) ?_
    refine lv_iload_n hx hb dS_stay_35 rfl (lv_at hl 2 rfl) ?_
    obtain ⟨hi, hw⟩ := hw
    refine gzst X K (o := 3) (t0 := 1) (by decide) kS_c3 rfl hi dS_stay_36 kS_p3 (fun H locs K => ?_)
    exact endV X K hr hw (by decide) (by decide) dS_stay_37
  · replace hw := hw.2 hc
    exact throwX X hex K (k := 13) (names := ["java/lang/RuntimeException", "java/lang/Exception"]) hw (by decide +kernel) (by decide +kernel) rfl (tm2 (i := 34) rfl rfl) (tm1 (i := 11) rfl rfl) xg_S_121 xb_S_121 xo_S_121_117 hl.1 dS_stay_20 dS_stay_23 dS_stay_24 dS_stay_26 dS_stay_29 (by decide) (by decide) (by decide) (by decide) (by decide) (by decide)
set_option maxHeartbeats 4000000 in
set_option maxRecDepth 100000 in
theorem met_S_recall {l : Launch} (hl9 : l.stackTraces = false) (D : va_G) (ad : Nat → Nat) (ca : Nat → ClassId) (sa : Nat → Nat) (sz : Nat) (x1 : Int32) (f : wF) (a : wA) (b : wB) (po : wF → wA → wB → Prop) (px : String → wF → wA → wB → Prop) (hw : wp_S_recall po px x1 f a b) : mV nS kS (tyS ca) txS D vwCl l yS_recall (Cond.code yS_recall cS_recall 2 none :: Wl) ({ frames := 7, cells := 2, slots := 12, locals := 103 }) [.ref (ad 0), .int x1] ad ca sa sz f a b po px 2 12 := by
  refine ofV (by decide) hl9 (Nat.le_of_ble_eq_true rfl) ?_
  intro p e s m below meth c ls X hex hr K hl
  obtain ⟨hx, hb, hml, hown, hts, hK, hA, hth, hlk, hl9⟩ := id X
  have hl : lv_has ls 2 [(0, .ref (ad 0)), (1, .int x1)] := hl
  dsimp only [wp_S_recall] at hw
  refine lv_aload_n hx hb dS_recall_0 rfl (lv_at hl 0 rfl) ?_
  refine lv_iload_n hx hb dS_recall_1 rfl (lv_at hl 1 rfl) ?_
  refine gcV X K (n0 := 1) (As := [.int x1]) (rest := []) (hM := (met_S_checkUnit hl9 D ad ca sa _ x1 f a b _ _ hw)) (o := 0) (ho := by decide) (hko := kS_o0) (hci := rfl) (hg := wl_good) (w1 := (tm2 (i := 70) rfl rfl)) (w2 := (tm2 (i := 72) rfl rfl)) (w3 := (tm0 (i := 3) rfl rfl)) (w4 := (tm1 (i := 1) rfl rfl)) (w5 := (tm2 (i := 73) rfl rfl)) (hd := ⟨rfl, by decide, by decide, by decide +kernel⟩) (hrc := rfl) (hrs := rfl) (hR := ⟨Nat.le_of_ble_eq_true rfl, Nat.le_of_ble_eq_true rfl⟩) (hn := rfl) (hsz := hl.1) (hst := rfl) (hW := Nat.le_of_ble_eq_true rfl) (hdg := dS_recall_2) (hf := ⟨Nat.le_of_ble_eq_true rfl, Nat.le_of_ble_eq_true rfl⟩) (fun E ce q9 f1 a1 b1 H1 locs1 hw K hce hv hcl => outX X hex K hw hce hv hcl (by decide) (by decide)) (fun f2 a2 b2 H locs hw K => ?_)
  refine lv_aload_n hx hb dS_recall_5 rfl (lv_at hl 0 rfl) ?_
  refine lv_iload_n hx hb dS_recall_6 rfl (lv_at hl 1 rfl) ?_
  refine gcV X K (n0 := 1) (As := [.int x1]) (rest := []) (hM := (met_S_checkSent hl9 D ad ca sa _ x1 f2 a2 b2 _ _ hw)) (o := 0) (ho := by decide) (hko := kS_o0) (hci := rfl) (hg := wl_good) (w1 := (tm3 (i := 22) rfl rfl)) (w2 := (tm3 (i := 24) rfl rfl)) (w3 := (tm0 (i := 25) rfl rfl)) (w4 := (tm1 (i := 1) rfl rfl)) (w5 := (tm3 (i := 25) rfl rfl)) (hd := ⟨rfl, by decide, by decide, by decide +kernel⟩) (hrc := rfl) (hrs := rfl) (hR := ⟨Nat.le_of_ble_eq_true rfl, Nat.le_of_ble_eq_true rfl⟩) (hn := rfl) (hsz := hl.1) (hst := rfl) (hW := Nat.le_of_ble_eq_true rfl) (hdg := dS_recall_7) (hf := ⟨Nat.le_of_ble_eq_true rfl, Nat.le_of_ble_eq_true rfl⟩) (fun E ce q9 f1 a1 b1 H1 locs1 hw K hce hv hcl => outX X hex K hw hce hv hcl (by decide) (by decide)) (fun f7 a7 b7 H locs hw K => ?_)
  refine lv_aload_n hx hb dS_recall_10 rfl (lv_at hl 0 rfl) ?_
  refine lv_iload_n hx hb dS_recall_11 rfl (lv_at hl 1 rfl) ?_
  refine gcV X K (n0 := 1) (As := [.int x1]) (rest := []) (hM := (met_S_free hl9 D ad ca sa _ x1 f7 a7 b7 _ hw)) (o := 0) (ho := by decide) (hko := kS_o0) (hci := rfl) (hg := wl_good) (w1 := (tm2 (i := 104) rfl rfl)) (w2 := (tm2 (i := 106) rfl rfl)) (w3 := (tm0 (i := 4) rfl rfl)) (w4 := (tm1 (i := 1) rfl rfl)) (w5 := (tm2 (i := 107) rfl rfl)) (hd := ⟨rfl, by decide, by decide, by decide +kernel⟩) (hrc := rfl) (hrs := rfl) (hR := ⟨Nat.le_of_ble_eq_true rfl, Nat.le_of_ble_eq_true rfl⟩) (hn := rfl) (hsz := hl.1) (hst := rfl) (hW := Nat.le_of_ble_eq_true rfl) (hdg := dS_recall_12) (hf := ⟨Nat.le_of_ble_eq_true rfl, Nat.le_of_ble_eq_true rfl⟩) (fun _ _ _ _ _ _ _ _ hw => hw.elim) (fun f12 a12 b12 H locs hw K => ?_)
  exact endV X K hr hw (by decide) (by decide) dS_recall_15
set_option maxHeartbeats 4000000 in
set_option maxRecDepth 100000 in
theorem LS_close_57 {p : Program} {l : Launch} {e : Env} {s : State} {m : MethodId} {below : List Frame} {meth : Method} {c : Code} {D : va_G} {sa : Nat → Nat} {ad : Nat → Nat} {ca : Nat → ClassId} {A : Nat → Prop} {y1 : Int32} {po : wF → wA → wB → Prop} {px : String → wF → wA → wB → Prop} (X : cx Wl (tyS ca) txS D vwCl sa A p l s m ([.ref (ad 0), .int y1] : List Value).toArray meth c cS_close 3 "SendBest") (hex : ∀ x ∈ c.exceptionTable.toList, False) (hr : meth.sig.returnType = none) (J19 : Int32 → Int32 → wF → wA → wB → Prop) (hJ19 : ∀ (x1 : Int32) (x2 : Int32) (f : wF) (a : wA) (b : wB), J19 x1 x2 f a b → ∀ (H : Heap) (locs : List Loc), wd nS kS D vwCl ad ca A s H locs f a b → ∀ (ls : Array Slot), lv_has ls 3 [(0, .ref (ad 0)), (1, .int x1), (2, .int x2)] → W p l e ({ frames := 7, cells := 2, slots := 12, locals := 103 }) s m ([.ref (ad 0), .int y1] : List Value).toArray below meth c H locs 2 12 (vx_MQ below (va_Qv (fun (u : wF × wA × wB) => po u.1 u.2.1 u.2.2) (sPost nS kS D vwCl ad ca A) A) (sX nS kS D vwCl ad ca A px) ([.ref (ad 0), .int y1] : List Value).toArray s 2 12 A) (F0 m 19 ls [])) : ∀ (x1 : Int32) (x2 : Int32) (f : wF) (a : wA) (b : wB), wp_S_close_57 po px J19 x1 x2 f a b → ∀ (H : Heap) (locs : List Loc), wd nS kS D vwCl ad ca A s H locs f a b → ∀ (ls : Array Slot), lv_has ls 3 [(0, .ref (ad 0)), (1, .int x1), (2, .int x2)] → W p l e ({ frames := 7, cells := 2, slots := 12, locals := 103 }) s m ([.ref (ad 0), .int y1] : List Value).toArray below meth c H locs 2 12 (vx_MQ below (va_Qv (fun (u : wF × wA × wB) => po u.1 u.2.1 u.2.2) (sPost nS kS D vwCl ad ca A) A) (sX nS kS D vwCl ad ca A px) ([.ref (ad 0), .int y1] : List Value).toArray s 2 12 A) (F0 m 57 ls []) := by
  obtain ⟨hx, hb, hml, hown, hts, hK, hA, hth, hlk, hl9⟩ := id X
  intro x1 x2 f a b hw H locs K ls hl
  dsimp only [wp_S_close_57] at hw
  refine lv_iinc (v := (x2 + (1 : Int32))) (lv' := [(2, .int (x2 + (1 : Int32))), (0, .ref (ad 0)), (1, .int x1)]) hx hb dS_close_57 hl (k := 2) rfl rfl (by decide) rfl (fun ls hl => ?_)
  refine lv_goto (tgt := 19) hx hb dS_close_60 (by decide) ?_
  exact hJ19 x1 (x2 + (1 : Int32)) f a b hw _ _ K _ (lv_sub hl [1, 2, 0] rfl)
set_option maxHeartbeats 4000000 in
set_option maxRecDepth 100000 in
theorem LS_close_19 {p : Program} {l : Launch} {e : Env} {s : State} {m : MethodId} {below : List Frame} {meth : Method} {c : Code} {D : va_G} {sa : Nat → Nat} {ad : Nat → Nat} {ca : Nat → ClassId} {A : Nat → Prop} {y1 : Int32} {po : wF → wA → wB → Prop} {px : String → wF → wA → wB → Prop} (X : cx Wl (tyS ca) txS D vwCl sa A p l s m ([.ref (ad 0), .int y1] : List Value).toArray meth c cS_close 3 "SendBest") (hex : ∀ x ∈ c.exceptionTable.toList, False) (hr : meth.sig.returnType = none) : ∀ n : Nat, ∀ (x1 : Int32) (x2 : Int32) (f : wF) (a : wA) (b : wB), wp_S_close_19 po px n x1 x2 f a b → ∀ (H : Heap) (locs : List Loc), wd nS kS D vwCl ad ca A s H locs f a b → ∀ (ls : Array Slot), lv_has ls 3 [(0, .ref (ad 0)), (1, .int x1), (2, .int x2)] → W p l e ({ frames := 7, cells := 2, slots := 12, locals := 103 }) s m ([.ref (ad 0), .int y1] : List Value).toArray below meth c H locs 2 12 (vx_MQ below (va_Qv (fun (u : wF × wA × wB) => po u.1 u.2.1 u.2.2) (sPost nS kS D vwCl ad ca A) A) (sX nS kS D vwCl ad ca A px) ([.ref (ad 0), .int y1] : List Value).toArray s 2 12 A) (F0 m 19 ls []) := by
  obtain ⟨hx, hb, hml, hown, hts, hK, hA, hth, hlk, hl9⟩ := id X
  intro n
  induction n with
  | zero => intro x1 x2 f a b hw; exact hw.elim
  | succ n ih =>
    intro x1 x2 f a b hw H locs K ls hl
    dsimp only [wp_S_close_19] at hw
    refine lv_iload_n hx hb dS_close_19 rfl (lv_at hl 2 rfl) ?_
    refine lv_aload_n hx hb dS_close_20 rfl (lv_at hl 0 rfl) ?_
    refine gGet X K (o := 0) (k := 9) (v := .int (f 2)) (by decide) kS_o0 rfl inS_o0 (by decide) (tm1 (i := 91) rfl rfl) rfl dS_close_21 ?_
    refine lv_icmp_ge (tgt := 63) hx hb dS_close_24 (by decide) (fun hc => ?_) (fun hc => ?_)
    · replace hw := hw.1 hc
      exact endV X K hr hw (by decide) (by decide) dS_close_63
    · replace hw := hw.2 hc
      refine lv_aload_n hx hb dS_close_27 rfl (lv_at hl 0 rfl) ?_
      refine gGet X K (o := 0) (k := 10) (v := .ref (ad 20)) (by decide) kS_o0 rfl inS_o0 (by decide) (tm1 (i := 92) rfl rfl) rfl dS_close_28 ?_
      refine lv_iload_n hx hb dS_close_31 rfl (lv_at hl 2 rfl) ?_
      obtain ⟨hi, hw⟩ := hw
      refine gild X K (o := 20) (t0 := 0) (by decide) kS_c20 rfl hi dS_close_32 ?_
      refine lv_iload_n hx hb dS_close_33 rfl (lv_at hl 1 rfl) ?_
      refine lv_icmp_ne (tgt := 57) hx hb dS_close_34 (by decide) (fun hc => ?_) (fun hc => ?_)
      · replace hw := hw.1 hc
        exact LS_close_57 X hex hr (wp_S_close_19 po px n) ih x1 x2 f a b hw _ _ K _ (lv_sub hl [0, 1, 2] rfl)
      · replace hw := hw.2 hc
        refine lv_aload_n hx hb dS_close_37 rfl (lv_at hl 0 rfl) ?_
        refine gGet X K (o := 0) (k := 12) (v := .ref (ad 22)) (by decide) kS_o0 rfl inS_o0 (by decide) (tm1 (i := 94) rfl rfl) rfl dS_close_38 ?_
        refine lv_iload_n hx hb dS_close_41 rfl (lv_at hl 2 rfl) ?_
        obtain ⟨hi, hw⟩ := hw
        refine gild X K (o := 22) (t0 := 0) (by decide) kS_c22 rfl hi dS_close_42 ?_
        refine lv_iconst (v := (-1 : Int32)) hx hb dS_close_43 (by decide) ?_
        refine lv_icmp_eq (tgt := 57) hx hb dS_close_44 (by decide) (fun hc => ?_) (fun hc => ?_)
        · replace hw := hw.1 hc
          exact LS_close_57 X hex hr (wp_S_close_19 po px n) ih x1 x2 f a b hw _ _ K _ (lv_sub hl [0, 1, 2] rfl)
        · replace hw := hw.2 hc
          refine lv_aload_n hx hb dS_close_47 rfl (lv_at hl 0 rfl) ?_
          refine lv_aload_n hx hb dS_close_48 rfl (lv_at hl 0 rfl) ?_
          refine gGet X K (o := 0) (k := 12) (v := .ref (ad 22)) (by decide) kS_o0 rfl inS_o0 (by decide) (tm1 (i := 94) rfl rfl) rfl dS_close_49 ?_
          refine lv_iload_n hx hb dS_close_52 rfl (lv_at hl 2 rfl) ?_
          obtain ⟨hi, hw⟩ := hw
          refine gild X K (o := 22) (t0 := 0) (by decide) kS_c22 rfl hi dS_close_53 ?_
          refine gcV X K (n0 := 1) (As := [.int (a 22 x2.toNatClampNeg)]) (rest := []) (hM := (met_S_free hl9 D ad ca sa _ (a 22 x2.toNatClampNeg) f a b _ hw)) (o := 0) (ho := by decide) (hko := kS_o0) (hci := rfl) (hg := wl_good) (w1 := (tm2 (i := 104) rfl rfl)) (w2 := (tm2 (i := 106) rfl rfl)) (w3 := (tm0 (i := 4) rfl rfl)) (w4 := (tm1 (i := 1) rfl rfl)) (w5 := (tm2 (i := 107) rfl rfl)) (hd := ⟨rfl, by decide, by decide, by decide +kernel⟩) (hrc := rfl) (hrs := rfl) (hR := ⟨Nat.le_of_ble_eq_true rfl, Nat.le_of_ble_eq_true rfl⟩) (hn := rfl) (hsz := hl.1) (hst := rfl) (hW := Nat.le_of_ble_eq_true rfl) (hdg := dS_close_54) (hf := ⟨Nat.le_of_ble_eq_true rfl, Nat.le_of_ble_eq_true rfl⟩) (fun _ _ _ _ _ _ _ _ hw => hw.elim) (fun f54 a54 b54 H locs hw K => ?_)
          exact LS_close_57 X hex hr (wp_S_close_19 po px n) ih x1 x2 f54 a54 b54 hw _ _ K _ (lv_sub hl [0, 1, 2] rfl)
set_option maxHeartbeats 4000000 in
set_option maxRecDepth 100000 in
theorem met_S_close {l : Launch} (hl9 : l.stackTraces = false) (D : va_G) (ad : Nat → Nat) (ca : Nat → ClassId) (sa : Nat → Nat) (sz : Nat) (x1 : Int32) (f : wF) (a : wA) (b : wB) (po : wF → wA → wB → Prop) (px : String → wF → wA → wB → Prop) (hw : wp_S_close po px x1 f a b) : mV nS kS (tyS ca) txS D vwCl l yS_close (Cond.code yS_close cS_close 3 none :: Wl) ({ frames := 7, cells := 2, slots := 12, locals := 103 }) [.ref (ad 0), .int x1] ad ca sa sz f a b po px 2 12 := by
  refine ofV (by decide) hl9 (Nat.le_of_ble_eq_true rfl) ?_
  intro p e s m below meth c ls X hex hr K hl
  obtain ⟨hx, hb, hml, hown, hts, hK, hA, hth, hlk, hl9⟩ := id X
  have hl : lv_has ls 3 [(0, .ref (ad 0)), (1, .int x1)] := hl
  dsimp only [wp_S_close] at hw
  refine lv_aload_n hx hb dS_close_0 rfl (lv_at hl 0 rfl) ?_
  refine lv_iload_n hx hb dS_close_1 rfl (lv_at hl 1 rfl) ?_
  refine gcV X K (n0 := 1) (As := [.int x1]) (rest := []) (hM := (met_S_checkIncident hl9 D ad ca sa _ x1 f a b _ _ hw)) (o := 0) (ho := by decide) (hko := kS_o0) (hci := rfl) (hg := wl_good) (w1 := (tm2 (i := 10) rfl rfl)) (w2 := (tm2 (i := 12) rfl rfl)) (w3 := (tm0 (i := 1) rfl rfl)) (w4 := (tm1 (i := 1) rfl rfl)) (w5 := (tm2 (i := 13) rfl rfl)) (hd := ⟨rfl, by decide, by decide, by decide +kernel⟩) (hrc := rfl) (hrs := rfl) (hR := ⟨Nat.le_of_ble_eq_true rfl, Nat.le_of_ble_eq_true rfl⟩) (hn := rfl) (hsz := hl.1) (hst := rfl) (hW := Nat.le_of_ble_eq_true rfl) (hdg := dS_close_2) (hf := ⟨Nat.le_of_ble_eq_true rfl, Nat.le_of_ble_eq_true rfl⟩) (fun E ce q9 f1 a1 b1 H1 locs1 hw K hce hv hcl => outX X hex K hw hce hv hcl (by decide) (by decide)) (fun f2 a2 b2 H locs hw K => ?_)
  refine lv_aload_n hx hb dS_close_5 rfl (lv_at hl 0 rfl) ?_
  refine lv_iload_n hx hb dS_close_6 rfl (lv_at hl 1 rfl) ?_
  refine gcV X K (n0 := 1) (As := [.int x1]) (rest := []) (hM := (met_S_checkOpen hl9 D ad ca sa _ x1 f2 a2 b2 _ _ hw)) (o := 0) (ho := by decide) (hko := kS_o0) (hci := rfl) (hg := wl_good) (w1 := (tm2 (i := 30) rfl rfl)) (w2 := (tm2 (i := 32) rfl rfl)) (w3 := (tm0 (i := 2) rfl rfl)) (w4 := (tm1 (i := 1) rfl rfl)) (w5 := (tm2 (i := 33) rfl rfl)) (hd := ⟨rfl, by decide, by decide, by decide +kernel⟩) (hrc := rfl) (hrs := rfl) (hR := ⟨Nat.le_of_ble_eq_true rfl, Nat.le_of_ble_eq_true rfl⟩) (hn := rfl) (hsz := hl.1) (hst := rfl) (hW := Nat.le_of_ble_eq_true rfl) (hdg := dS_close_7) (hf := ⟨Nat.le_of_ble_eq_true rfl, Nat.le_of_ble_eq_true rfl⟩) (fun E ce q9 f1 a1 b1 H1 locs1 hw K hce hv hcl => outX X hex K hw hce hv hcl (by decide) (by decide)) (fun f7 a7 b7 H locs hw K => ?_)
  refine lv_aload_n hx hb dS_close_10 rfl (lv_at hl 0 rfl) ?_
  refine gGet X K (o := 0) (k := 8) (v := .ref (ad 19)) (by decide) kS_o0 rfl inS_o0 (by decide) (tm1 (i := 90) rfl rfl) rfl dS_close_11 ?_
  refine lv_iload_n hx hb dS_close_14 rfl (lv_at hl 1 rfl) ?_
  refine lv_iconst (v := (0 : Int32)) hx hb dS_close_15 (by decide) ?_
  obtain ⟨hi, hw⟩ := hw
  refine gzst X K (o := 19) (t0 := 1) (by decide) kS_c19 rfl hi dS_close_16 kS_p19 (fun H locs K => ?_)
  refine lv_iconst (v := (0 : Int32)) hx hb dS_close_17 (by decide) ?_
  refine lv_istore_n (lv' := [(2, .int (0 : Int32)), (0, .ref (ad 0)), (1, .int x1)]) hx hb dS_close_18 rfl hl (by decide) rfl (fun ls hl => ?_)
  obtain ⟨n9, hw⟩ := hw
  exact LS_close_19 X hex hr n9 x1 (0 : Int32) f7 (va_up a7 19 (upd (a7 19) x1.toNatClampNeg (vp_nar .boolean (0 : Int32)))) b7 hw _ _ K _ (lv_sub hl [1, 2, 0] rfl)
set_option maxHeartbeats 4000000 in
set_option maxRecDepth 100000 in
theorem LS_checkNeed_12 {p : Program} {l : Launch} {e : Env} {s : State} {m : MethodId} {below : List Frame} {meth : Method} {c : Code} {D : va_G} {sa : Nat → Nat} {ad : Nat → Nat} {ca : Nat → ClassId} {A : Nat → Prop} {y1 : Int32} {po : wF → wA → wB → Prop} {px : String → wF → wA → wB → Prop} (X : cx Wl (tyS ca) txS D vwCl sa A p l s m ([.ref (ad 0), .int y1] : List Value).toArray meth c cS_checkNeed 2 "SendBest") (hex : ∀ x ∈ c.exceptionTable.toList, False) (hr : meth.sig.returnType = none) : ∀ (f : wF) (a : wA) (b : wB), wp_S_checkNeed_12 po px f a b → ∀ (H : Heap) (locs : List Loc), wd nS kS D vwCl ad ca A s H locs f a b → ∀ (ls : Array Slot), lv_has ls 2 [] → W p l e ({ frames := 6, cells := 1, slots := 6, locals := 82 }) s m ([.ref (ad 0), .int y1] : List Value).toArray below meth c H locs 0 0 (vx_MQ below (va_Qv (fun (u : wF × wA × wB) => po u.1 u.2.1 u.2.2) (sPost nS kS D vwCl ad ca A) A) (sX nS kS D vwCl ad ca A px) ([.ref (ad 0), .int y1] : List Value).toArray s 1 6 A) (F0 m 12 ls []) := by
  obtain ⟨hx, hb, hml, hown, hts, hK, hA, hth, hlk, hl9⟩ := id X
  intro  f a b hw H locs K ls hl
  dsimp only [wp_S_checkNeed_12] at hw
  exact throwX X hex K (k := 16) (names := ["java/lang/RuntimeException", "java/lang/Exception"]) hw (by decide +kernel) (by decide +kernel) rfl (tm2 (i := 14) rfl rfl) (tm1 (i := 10) rfl rfl) xg_S_168 xb_S_168 xo_S_168_164 hl.1 dS_checkNeed_12 dS_checkNeed_15 dS_checkNeed_16 dS_checkNeed_18 dS_checkNeed_21 (by decide) (by decide) (by decide) (by decide) (by decide) (by decide)
set_option maxHeartbeats 4000000 in
set_option maxRecDepth 100000 in
theorem met_S_checkNeed {l : Launch} (hl9 : l.stackTraces = false) (D : va_G) (ad : Nat → Nat) (ca : Nat → ClassId) (sa : Nat → Nat) (sz : Nat) (x1 : Int32) (f : wF) (a : wA) (b : wB) (po : wF → wA → wB → Prop) (px : String → wF → wA → wB → Prop) (hw : wp_S_checkNeed po px x1 f a b) : mV nS kS (tyS ca) txS D vwCl l yS_checkNeed (Cond.code yS_checkNeed cS_checkNeed 2 none :: Wl) ({ frames := 6, cells := 1, slots := 6, locals := 82 }) [.ref (ad 0), .int x1] ad ca sa sz f a b po px 1 6 := by
  refine ofV (by decide) hl9 (Nat.le_of_ble_eq_true rfl) ?_
  intro p e s m below meth c ls X hex hr K hl
  obtain ⟨hx, hb, hml, hown, hts, hK, hA, hth, hlk, hl9⟩ := id X
  have hl : lv_has ls 2 [(0, .ref (ad 0)), (1, .int x1)] := hl
  dsimp only [wp_S_checkNeed] at hw
  refine lv_iload_n hx hb dS_checkNeed_0 rfl (lv_at hl 1 rfl) ?_
  refine lv_if_lt (tgt := 12) hx hb dS_checkNeed_1 (by decide) (fun hc => ?_) (fun hc => ?_)
  · replace hw := hw.1 hc
    exact LS_checkNeed_12 X hex hr f a b hw _ _ K _ (lv_sub hl [] rfl)
  · replace hw := hw.2 hc
    refine lv_iload_n hx hb dS_checkNeed_4 rfl (lv_at hl 1 rfl) ?_
    refine lv_aload_n hx hb dS_checkNeed_5 rfl (lv_at hl 0 rfl) ?_
    refine gGet X K (o := 0) (k := 9) (v := .int (f 2)) (by decide) kS_o0 rfl inS_o0 (by decide) (tm1 (i := 91) rfl rfl) rfl dS_checkNeed_6 ?_
    refine lv_icmp_lt (tgt := 22) hx hb dS_checkNeed_9 (by decide) (fun hc => ?_) (fun hc => ?_)
    · replace hw := hw.1 hc
      exact endV X K hr hw (by decide) (by decide) dS_checkNeed_22
    · replace hw := hw.2 hc
      exact LS_checkNeed_12 X hex hr f a b hw _ _ K _ (lv_sub hl [] rfl)
set_option maxHeartbeats 4000000 in
set_option maxRecDepth 100000 in
theorem LS_needAt_70 {p : Program} {l : Launch} {e : Env} {s : State} {m : MethodId} {below : List Frame} {meth : Method} {c : Code} {D : va_G} {sa : Nat → Nat} {ad : Nat → Nat} {ca : Nat → ClassId} {A : Nat → Prop} {y1 : Int32} {y2 : Int32} {po : Int32 → wF → wA → wB → Prop} {px : String → wF → wA → wB → Prop} (X : cx Wl (tyS ca) txS D vwCl sa A p l s m ([.ref (ad 0), .int y1, .int y2] : List Value).toArray meth c cS_needAt 3 "SendBest") (hex : ∀ x ∈ c.exceptionTable.toList, False) (hr : meth.sig.returnType = (some .int)) : ∀ (k0 : Int32) (f : wF) (a : wA) (b : wB), wp_S_needAt_70 po px k0 f a b → ∀ (H : Heap) (locs : List Loc), wd nS kS D vwCl ad ca A s H locs f a b → ∀ (ls : Array Slot), lv_has ls 3 [] → W p l e ({ frames := 7, cells := 2, slots := 12, locals := 103 }) s m ([.ref (ad 0), .int y1, .int y2] : List Value).toArray below meth c H locs 1 6 (vx_MQ below (va_Qi (fun r (u : wF × wA × wB) => po r u.1 u.2.1 u.2.2) (sPost nS kS D vwCl ad ca A) A) (sX nS kS D vwCl ad ca A px) ([.ref (ad 0), .int y1, .int y2] : List Value).toArray s 2 12 A) (F0 m 70 ls [.int k0]) := by
  obtain ⟨hx, hb, hml, hown, hts, hK, hA, hth, hlk, hl9⟩ := id X
  intro k0 f a b hw H locs K ls hl
  dsimp only [wp_S_needAt_70] at hw
  exact endI X K hr rfl hw (by decide) (by decide) dS_needAt_70
set_option maxHeartbeats 4000000 in
set_option maxRecDepth 100000 in
theorem met_S_needAt {l : Launch} (hl9 : l.stackTraces = false) (D : va_G) (ad : Nat → Nat) (ca : Nat → ClassId) (sa : Nat → Nat) (sz : Nat) (x1 : Int32) (x2 : Int32) (f : wF) (a : wA) (b : wB) (po : Int32 → wF → wA → wB → Prop) (px : String → wF → wA → wB → Prop) (hw : wp_S_needAt po px x1 x2 f a b) : mI nS kS (tyS ca) txS D vwCl l yS_needAt (Cond.code yS_needAt cS_needAt 3 (some .int) :: Wl) ({ frames := 7, cells := 2, slots := 12, locals := 103 }) [.ref (ad 0), .int x1, .int x2] ad ca sa sz f a b po px 2 12 := by
  refine ofI (by decide) hl9 (Nat.le_of_ble_eq_true rfl) ?_
  intro p e s m below meth c ls X hex hr K hl
  obtain ⟨hx, hb, hml, hown, hts, hK, hA, hth, hlk, hl9⟩ := id X
  have hl : lv_has ls 3 [(0, .ref (ad 0)), (1, .int x1), (2, .int x2)] := hl
  dsimp only [wp_S_needAt] at hw
  refine lv_aload_n hx hb dS_needAt_0 rfl (lv_at hl 0 rfl) ?_
  refine lv_iload_n hx hb dS_needAt_1 rfl (lv_at hl 1 rfl) ?_
  refine gcV X K (n0 := 1) (As := [.int x1]) (rest := []) (hM := (met_S_checkNeed hl9 D ad ca sa _ x1 f a b _ _ hw)) (o := 0) (ho := by decide) (hko := kS_o0) (hci := rfl) (hg := wl_good) (w1 := (tm3 (i := 48) rfl rfl)) (w2 := (tm3 (i := 50) rfl rfl)) (w3 := (tm0 (i := 26) rfl rfl)) (w4 := (tm1 (i := 1) rfl rfl)) (w5 := (tm3 (i := 51) rfl rfl)) (hd := ⟨rfl, by decide, by decide, by decide +kernel⟩) (hrc := rfl) (hrs := rfl) (hR := ⟨Nat.le_of_ble_eq_true rfl, Nat.le_of_ble_eq_true rfl⟩) (hn := rfl) (hsz := hl.1) (hst := rfl) (hW := Nat.le_of_ble_eq_true rfl) (hdg := dS_needAt_2) (hf := ⟨Nat.le_of_ble_eq_true rfl, Nat.le_of_ble_eq_true rfl⟩) (fun E ce q9 f1 a1 b1 H1 locs1 hw K hce hv hcl => outX X hex K hw hce hv hcl (by decide) (by decide)) (fun f2 a2 b2 H locs hw K => ?_)
  refine lv_iload_n hx hb dS_needAt_5 rfl (lv_at hl 2 rfl) ?_
  by_cases hc0 : x2 = (0)
  · replace hw := hw.1 hc0
    refine lv_tableIn (tgt := 36) (off := 30) hx hb dS_needAt_6 (by rw [hc0]; decide) (by rw [hc0]; decide) (by rw [hc0]; decide) (by decide) ?_
    refine lv_aload_n hx hb dS_needAt_36 rfl (lv_at hl 0 rfl) ?_
    refine gGet X K (o := 0) (k := 10) (v := .ref (ad 20)) (by decide) kS_o0 rfl inS_o0 (by decide) (tm1 (i := 92) rfl rfl) rfl dS_needAt_37 ?_
    refine lv_iload_n hx hb dS_needAt_40 rfl (lv_at hl 1 rfl) ?_
    obtain ⟨hi, hw⟩ := hw
    refine gild X K (o := 20) (t0 := 0) (by decide) kS_c20 rfl hi dS_needAt_41 ?_
    exact endI X K hr rfl hw (by decide) (by decide) dS_needAt_42
  · by_cases hc1 : x2 = (1)
    · replace hw := hw.2.1 hc1
      refine lv_tableIn (tgt := 43) (off := 37) hx hb dS_needAt_6 (by rw [hc1]; decide) (by rw [hc1]; decide) (by rw [hc1]; decide) (by decide) ?_
      refine lv_aload_n hx hb dS_needAt_43 rfl (lv_at hl 0 rfl) ?_
      refine gGet X K (o := 0) (k := 11) (v := .ref (ad 21)) (by decide) kS_o0 rfl inS_o0 (by decide) (tm1 (i := 93) rfl rfl) rfl dS_needAt_44 ?_
      refine lv_iload_n hx hb dS_needAt_47 rfl (lv_at hl 1 rfl) ?_
      obtain ⟨hi, hw⟩ := hw
      refine gild X K (o := 21) (t0 := 0) (by decide) kS_c21 rfl hi dS_needAt_48 ?_
      exact endI X K hr rfl hw (by decide) (by decide) dS_needAt_49
    · by_cases hc2 : x2 = (2)
      · replace hw := hw.2.2.1 hc2
        refine lv_tableIn (tgt := 50) (off := 44) hx hb dS_needAt_6 (by rw [hc2]; decide) (by rw [hc2]; decide) (by rw [hc2]; decide) (by decide) ?_
        refine lv_aload_n hx hb dS_needAt_50 rfl (lv_at hl 0 rfl) ?_
        refine gGet X K (o := 0) (k := 12) (v := .ref (ad 22)) (by decide) kS_o0 rfl inS_o0 (by decide) (tm1 (i := 94) rfl rfl) rfl dS_needAt_51 ?_
        refine lv_iload_n hx hb dS_needAt_54 rfl (lv_at hl 1 rfl) ?_
        obtain ⟨hi, hw⟩ := hw
        refine gild X K (o := 22) (t0 := 0) (by decide) kS_c22 rfl hi dS_needAt_55 ?_
        exact endI X K hr rfl hw (by decide) (by decide) dS_needAt_56
      · by_cases hc3 : x2 = (3)
        · replace hw := hw.2.2.2.1 hc3
          refine lv_tableIn (tgt := 57) (off := 51) hx hb dS_needAt_6 (by rw [hc3]; decide) (by rw [hc3]; decide) (by rw [hc3]; decide) (by decide) ?_
          refine lv_aload_n hx hb dS_needAt_57 rfl (lv_at hl 0 rfl) ?_
          refine lv_iload_n hx hb dS_needAt_58 rfl (lv_at hl 1 rfl) ?_
          refine gcI X K (n0 := 1) (As := [.int x1]) (rest := []) (hM := (met_S_isOpenNeed hl9 D ad ca sa _ x1 f2 a2 b2 _ hw)) (o := 0) (ho := by decide) (hko := kS_o0) (hci := rfl) (hg := wl_good) (w1 := (tm2 (i := 132) rfl rfl)) (w2 := (tm2 (i := 134) rfl rfl)) (w3 := (tm0 (i := 7) rfl rfl)) (w4 := (tm1 (i := 1) rfl rfl)) (w5 := (tm2 (i := 135) rfl rfl)) (hd := ⟨rfl, by decide, by decide, by decide +kernel⟩) (hrc := rfl) (hrs := rfl) (hR := ⟨Nat.le_of_ble_eq_true rfl, Nat.le_of_ble_eq_true rfl⟩) (hn := rfl) (hsz := hl.1) (hst := rfl) (hW := Nat.le_of_ble_eq_true rfl) (hdg := dS_needAt_59) (hf := ⟨Nat.le_of_ble_eq_true rfl, Nat.le_of_ble_eq_true rfl⟩) (fun _ _ _ _ _ _ _ _ hw => hw.elim) (fun r59 f59 a59 b59 H locs hw K => ?_)
          refine lv_if_eq (tgt := 69) hx hb dS_needAt_62 (by decide) (fun hc => ?_) (fun hc => ?_)
          · replace hw := hw.1 hc
            refine lv_iconst (v := (0 : Int32)) hx hb dS_needAt_69 (by decide) ?_
            exact LS_needAt_70 X hex hr (0 : Int32) f59 a59 b59 hw _ _ K _ (lv_sub hl [] rfl)
          · replace hw := hw.2 hc
            refine lv_iconst (v := (1 : Int32)) hx hb dS_needAt_65 (by decide) ?_
            refine lv_goto (tgt := 70) hx hb dS_needAt_66 (by decide) ?_
            exact LS_needAt_70 X hex hr (1 : Int32) f59 a59 b59 hw _ _ K _ (lv_sub hl [] rfl)
        · replace hw := hw.2.2.2.2 hc0 hc1 hc2 hc3
          refine lv_tableOut (tgt := 71) hx hb dS_needAt_6 (swo hc0 hc1 hc2 hc3) (by decide) ?_
          exact throwX X hex K (k := 17) (names := ["java/lang/RuntimeException", "java/lang/Exception"]) hw (by decide +kernel) (by decide +kernel) rfl (tm2 (i := 14) rfl rfl) (tm1 (i := 10) rfl rfl) xg_S_168 xb_S_168 xo_S_168_164 hl.1 dS_needAt_71 dS_needAt_74 dS_needAt_75 dS_needAt_77 dS_needAt_80 (by decide) (by decide) (by decide) (by decide) (by decide) (by decide)
set_option maxHeartbeats 4000000 in
set_option maxRecDepth 100000 in
theorem met_S_fills {l : Launch} (hl9 : l.stackTraces = false) (D : va_G) (ad : Nat → Nat) (ca : Nat → ClassId) (sa : Nat → Nat) (sz : Nat) (x1 : Int32) (f : wF) (a : wA) (b : wB) (po : Int32 → wF → wA → wB → Prop) (px : String → wF → wA → wB → Prop) (hw : wp_S_fills po px x1 f a b) : mI nS kS (tyS ca) txS D vwCl l yS_fills (Cond.code yS_fills cS_fills 2 (some .int) :: Wl) ({ frames := 7, cells := 1, slots := 6, locals := 103 }) [.ref (ad 0), .int x1] ad ca sa sz f a b po px 1 6 := by
  refine ofI (by decide) hl9 (Nat.le_of_ble_eq_true rfl) ?_
  intro p e s m below meth c ls X hex hr K hl
  obtain ⟨hx, hb, hml, hown, hts, hK, hA, hth, hlk, hl9⟩ := id X
  have hl : lv_has ls 2 [(0, .ref (ad 0)), (1, .int x1)] := hl
  dsimp only [wp_S_fills] at hw
  refine lv_aload_n hx hb dS_fills_0 rfl (lv_at hl 0 rfl) ?_
  refine lv_iload_n hx hb dS_fills_1 rfl (lv_at hl 1 rfl) ?_
  refine gcV X K (n0 := 1) (As := [.int x1]) (rest := []) (hM := (met_S_checkUnit hl9 D ad ca sa _ x1 f a b _ _ hw)) (o := 0) (ho := by decide) (hko := kS_o0) (hci := rfl) (hg := wl_good) (w1 := (tm2 (i := 70) rfl rfl)) (w2 := (tm2 (i := 72) rfl rfl)) (w3 := (tm0 (i := 3) rfl rfl)) (w4 := (tm1 (i := 1) rfl rfl)) (w5 := (tm2 (i := 73) rfl rfl)) (hd := ⟨rfl, by decide, by decide, by decide +kernel⟩) (hrc := rfl) (hrs := rfl) (hR := ⟨Nat.le_of_ble_eq_true rfl, Nat.le_of_ble_eq_true rfl⟩) (hn := rfl) (hsz := hl.1) (hst := rfl) (hW := Nat.le_of_ble_eq_true rfl) (hdg := dS_fills_2) (hf := ⟨Nat.le_of_ble_eq_true rfl, Nat.le_of_ble_eq_true rfl⟩) (fun E ce q9 f1 a1 b1 H1 locs1 hw K hce hv hcl => outX X hex K hw hce hv hcl (by decide) (by decide)) (fun f2 a2 b2 H locs hw K => ?_)
  refine lv_aload_n hx hb dS_fills_5 rfl (lv_at hl 0 rfl) ?_
  refine gGet X K (o := 0) (k := 4) (v := .ref (ad 4)) (by decide) kS_o0 rfl inS_o0 (by decide) (tm1 (i := 86) rfl rfl) rfl dS_fills_6 ?_
  refine lv_iload_n hx hb dS_fills_9 rfl (lv_at hl 1 rfl) ?_
  obtain ⟨hi, hw⟩ := hw
  refine gild X K (o := 4) (t0 := 0) (by decide) kS_c4 rfl hi dS_fills_10 ?_
  exact endI X K hr rfl hw (by decide) (by decide) dS_fills_11
set_option maxHeartbeats 4000000 in
set_option maxRecDepth 100000 in
theorem LS_weightedSeconds_35 {p : Program} {l : Launch} {e : Env} {s : State} {m : MethodId} {below : List Frame} {meth : Method} {c : Code} {D : va_G} {sa : Nat → Nat} {ad : Nat → Nat} {ca : Nat → ClassId} {A : Nat → Prop} {y1 : Int32} {po : Int32 → wF → wA → wB → Prop} (X : cx Wl (tyS ca) txS D vwCl sa A p l s m ([.ref (ad 0), .int y1] : List Value).toArray meth c cS_weightedSeconds 2 "SendBest") (hex : ∀ x ∈ c.exceptionTable.toList, False) (hr : meth.sig.returnType = (some .int)) : ∀ (k0 : Int32) (f : wF) (a : wA) (b : wB), wp_S_weightedSeconds_35 po k0 f a b → ∀ (H : Heap) (locs : List Loc), wd nS kS D vwCl ad ca A s H locs f a b → ∀ (ls : Array Slot), lv_has ls 2 [] → W p l e ({ frames := 1, cells := 0, slots := 0, locals := 22 }) s m ([.ref (ad 0), .int y1] : List Value).toArray below meth c H locs 0 0 (vx_MQ below (va_Qi (fun r (u : wF × wA × wB) => po r u.1 u.2.1 u.2.2) (sPost nS kS D vwCl ad ca A) A) (sX nS kS D vwCl ad ca A (fun _ _ _ _ => False)) ([.ref (ad 0), .int y1] : List Value).toArray s 0 0 A) (F0 m 35 ls [.int k0]) := by
  obtain ⟨hx, hb, hml, hown, hts, hK, hA, hth, hlk, hl9⟩ := id X
  intro k0 f a b hw H locs K ls hl
  dsimp only [wp_S_weightedSeconds_35] at hw
  exact endI X K hr rfl hw (by decide) (by decide) dS_weightedSeconds_35
set_option maxHeartbeats 4000000 in
set_option maxRecDepth 100000 in
theorem met_S_weightedSeconds {l : Launch} (hl9 : l.stackTraces = false) (D : va_G) (ad : Nat → Nat) (ca : Nat → ClassId) (sa : Nat → Nat) (sz : Nat) (x1 : Int32) (f : wF) (a : wA) (b : wB) (po : Int32 → wF → wA → wB → Prop) (hw : wp_S_weightedSeconds po x1 f a b) : mI nS kS (tyS ca) txS D vwCl l yS_weightedSeconds (Cond.code yS_weightedSeconds cS_weightedSeconds 2 (some .int) :: Wl) ({ frames := 1, cells := 0, slots := 0, locals := 22 }) [.ref (ad 0), .int x1] ad ca sa sz f a b po (fun _ _ _ _ => False) 0 0 := by
  refine ofI (by decide) hl9 (Nat.le_of_ble_eq_true rfl) ?_
  intro p e s m below meth c ls X hex hr K hl
  obtain ⟨hx, hb, hml, hown, hts, hK, hA, hth, hlk, hl9⟩ := id X
  have hl : lv_has ls 2 [(0, .ref (ad 0)), (1, .int x1)] := hl
  dsimp only [wp_S_weightedSeconds] at hw
  refine lv_aload_n hx hb dS_weightedSeconds_0 rfl (lv_at hl 0 rfl) ?_
  refine gGet X K (o := 0) (k := 12) (v := .ref (ad 22)) (by decide) kS_o0 rfl inS_o0 (by decide) (tm1 (i := 94) rfl rfl) rfl dS_weightedSeconds_1 ?_
  refine lv_iload_n hx hb dS_weightedSeconds_4 rfl (lv_at hl 1 rfl) ?_
  obtain ⟨hi, hw⟩ := hw
  refine gild X K (o := 22) (t0 := 0) (by decide) kS_c22 rfl hi dS_weightedSeconds_5 ?_
  refine lv_iconst (v := (-1 : Int32)) hx hb dS_weightedSeconds_6 (by decide) ?_
  refine lv_icmp_ne (tgt := 14) hx hb dS_weightedSeconds_7 (by decide) (fun hc => ?_) (fun hc => ?_)
  · replace hw := hw.1 hc
    refine lv_aload_n hx hb dS_weightedSeconds_14 rfl (lv_at hl 0 rfl) ?_
    refine lv_iload_n hx hb dS_weightedSeconds_15 rfl (lv_at hl 1 rfl) ?_
    refine gcI X K (n0 := 1) (As := [.int x1]) (rest := []) (hM := (met_S_rankOfNeed hl9 D ad ca sa _ x1 f a b _ hw)) (o := 0) (ho := by decide) (hko := kS_o0) (hci := rfl) (hg := wl_good) (w1 := (tm2 (i := 152) rfl rfl)) (w2 := (tm2 (i := 154) rfl rfl)) (w3 := (tm0 (i := 12) rfl rfl)) (w4 := (tm1 (i := 1) rfl rfl)) (w5 := (tm2 (i := 155) rfl rfl)) (hd := ⟨rfl, by decide, by decide, by decide +kernel⟩) (hrc := rfl) (hrs := rfl) (hR := ⟨Nat.le_of_ble_eq_true rfl, Nat.le_of_ble_eq_true rfl⟩) (hn := rfl) (hsz := hl.1) (hst := rfl) (hW := Nat.le_of_ble_eq_true rfl) (hdg := dS_weightedSeconds_16) (hf := ⟨Nat.le_of_ble_eq_true rfl, Nat.le_of_ble_eq_true rfl⟩) (fun _ _ _ _ _ _ _ _ hw => hw.elim) (fun r16 f16 a16 b16 H locs hw K => ?_)
    refine lv_aload_n hx hb dS_weightedSeconds_19 rfl (lv_at hl 0 rfl) ?_
    refine lv_aload_n hx hb dS_weightedSeconds_20 rfl (lv_at hl 0 rfl) ?_
    refine gGet X K (o := 0) (k := 12) (v := .ref (ad 22)) (by decide) kS_o0 rfl inS_o0 (by decide) (tm1 (i := 94) rfl rfl) rfl dS_weightedSeconds_21 ?_
    refine lv_iload_n hx hb dS_weightedSeconds_24 rfl (lv_at hl 1 rfl) ?_
    obtain ⟨hi, hw⟩ := hw
    refine gild X K (o := 22) (t0 := 0) (by decide) kS_c22 rfl hi dS_weightedSeconds_25 ?_
    refine lv_iload_n hx hb dS_weightedSeconds_26 rfl (lv_at hl 1 rfl) ?_
    refine gcI X K (n0 := 2) (As := [.int (a16 22 x1.toNatClampNeg), .int x1]) (rest := [.int r16]) (hM := (met_S_secondsTo hl9 D ad ca sa _ (a16 22 x1.toNatClampNeg) x1 f16 a16 b16 _ hw)) (o := 0) (ho := by decide) (hko := kS_o0) (hci := rfl) (hg := wl_good) (w1 := (tm2 (i := 148) rfl rfl)) (w2 := (tm2 (i := 150) rfl rfl)) (w3 := (tm0 (i := 11) rfl rfl)) (w4 := (tm1 (i := 1) rfl rfl)) (w5 := (tm2 (i := 151) rfl rfl)) (hd := ⟨rfl, by decide, by decide, by decide +kernel⟩) (hrc := rfl) (hrs := rfl) (hR := ⟨Nat.le_of_ble_eq_true rfl, Nat.le_of_ble_eq_true rfl⟩) (hn := rfl) (hsz := hl.1) (hst := rfl) (hW := Nat.le_of_ble_eq_true rfl) (hdg := dS_weightedSeconds_27) (hf := ⟨Nat.le_of_ble_eq_true rfl, Nat.le_of_ble_eq_true rfl⟩) (fun _ _ _ _ _ _ _ _ hw => hw.elim) (fun r27 f27 a27 b27 H locs hw K => ?_)
    refine lv_iconst (v := (0 : Int32)) hx hb dS_weightedSeconds_30 (by decide) ?_
    refine va_mmax hx hb (hml.trans hl.1.symm) hown (hts _ (tm2 (i := 216) rfl rfl)) (hts _ (tm2 (i := 217) rfl rfl)) (hts _ (tm1 (i := 13) rfl rfl)) (hts _ (tm2 (i := 218) rfl rfl)) (Nat.le_of_ble_eq_true rfl) (Nat.le_of_ble_eq_true rfl) (Nat.le_of_ble_eq_true rfl) (Nat.le_of_ble_eq_true rfl) dS_weightedSeconds_31 ?_
    refine lv_imul hx hb dS_weightedSeconds_34 ?_
    exact LS_weightedSeconds_35 X hex hr (r16 * (if r27 < (0 : Int32) then (0 : Int32) else r27)) f27 a27 b27 hw _ _ K _ (lv_sub hl [] rfl)
  · replace hw := hw.2 hc
    refine lv_iconst (v := (0 : Int32)) hx hb dS_weightedSeconds_10 (by decide) ?_
    refine lv_goto (tgt := 35) hx hb dS_weightedSeconds_11 (by decide) ?_
    exact LS_weightedSeconds_35 X hex hr (0 : Int32) f a b hw _ _ K _ (lv_sub hl [] rfl)
set_option maxHeartbeats 4000000 in
set_option maxRecDepth 100000 in
theorem LS_ranksLacking_19 {p : Program} {l : Launch} {e : Env} {s : State} {m : MethodId} {below : List Frame} {meth : Method} {c : Code} {D : va_G} {sa : Nat → Nat} {ad : Nat → Nat} {ca : Nat → ClassId} {A : Nat → Prop} {y1 : Int32} {po : Int32 → wF → wA → wB → Prop} (X : cx Wl (tyS ca) txS D vwCl sa A p l s m ([.ref (ad 0), .int y1] : List Value).toArray meth c cS_ranksLacking 2 "SendBest") (hex : ∀ x ∈ c.exceptionTable.toList, False) (hr : meth.sig.returnType = (some .int)) : ∀ (k0 : Int32) (f : wF) (a : wA) (b : wB), wp_S_ranksLacking_19 po k0 f a b → ∀ (H : Heap) (locs : List Loc), wd nS kS D vwCl ad ca A s H locs f a b → ∀ (ls : Array Slot), lv_has ls 2 [] → W p l e ({ frames := 1, cells := 0, slots := 0, locals := 21 }) s m ([.ref (ad 0), .int y1] : List Value).toArray below meth c H locs 0 0 (vx_MQ below (va_Qi (fun r (u : wF × wA × wB) => po r u.1 u.2.1 u.2.2) (sPost nS kS D vwCl ad ca A) A) (sX nS kS D vwCl ad ca A (fun _ _ _ _ => False)) ([.ref (ad 0), .int y1] : List Value).toArray s 0 0 A) (F0 m 19 ls [.int k0]) := by
  obtain ⟨hx, hb, hml, hown, hts, hK, hA, hth, hlk, hl9⟩ := id X
  intro k0 f a b hw H locs K ls hl
  dsimp only [wp_S_ranksLacking_19] at hw
  exact endI X K hr rfl hw (by decide) (by decide) dS_ranksLacking_19
set_option maxHeartbeats 4000000 in
set_option maxRecDepth 100000 in
theorem met_S_ranksLacking {l : Launch} (hl9 : l.stackTraces = false) (D : va_G) (ad : Nat → Nat) (ca : Nat → ClassId) (sa : Nat → Nat) (sz : Nat) (x1 : Int32) (f : wF) (a : wA) (b : wB) (po : Int32 → wF → wA → wB → Prop) (hw : wp_S_ranksLacking po x1 f a b) : mI nS kS (tyS ca) txS D vwCl l yS_ranksLacking (Cond.code yS_ranksLacking cS_ranksLacking 2 (some .int) :: Wl) ({ frames := 1, cells := 0, slots := 0, locals := 21 }) [.ref (ad 0), .int x1] ad ca sa sz f a b po (fun _ _ _ _ => False) 0 0 := by
  refine ofI (by decide) hl9 (Nat.le_of_ble_eq_true rfl) ?_
  intro p e s m below meth c ls X hex hr K hl
  obtain ⟨hx, hb, hml, hown, hts, hK, hA, hth, hlk, hl9⟩ := id X
  have hl : lv_has ls 2 [(0, .ref (ad 0)), (1, .int x1)] := hl
  dsimp only [wp_S_ranksLacking] at hw
  refine lv_aload_n hx hb dS_ranksLacking_0 rfl (lv_at hl 0 rfl) ?_
  refine gGet X K (o := 0) (k := 12) (v := .ref (ad 22)) (by decide) kS_o0 rfl inS_o0 (by decide) (tm1 (i := 94) rfl rfl) rfl dS_ranksLacking_1 ?_
  refine lv_iload_n hx hb dS_ranksLacking_4 rfl (lv_at hl 1 rfl) ?_
  obtain ⟨hi, hw⟩ := hw
  refine gild X K (o := 22) (t0 := 0) (by decide) kS_c22 rfl hi dS_ranksLacking_5 ?_
  refine lv_iconst (v := (-1 : Int32)) hx hb dS_ranksLacking_6 (by decide) ?_
  refine lv_icmp_ne (tgt := 18) hx hb dS_ranksLacking_7 (by decide) (fun hc => ?_) (fun hc => ?_)
  · replace hw := hw.1 hc
    refine lv_iconst (v := (0 : Int32)) hx hb dS_ranksLacking_18 (by decide) ?_
    exact LS_ranksLacking_19 X hex hr (0 : Int32) f a b hw _ _ K _ (lv_sub hl [] rfl)
  · replace hw := hw.2 hc
    refine lv_aload_n hx hb dS_ranksLacking_10 rfl (lv_at hl 0 rfl) ?_
    refine lv_iload_n hx hb dS_ranksLacking_11 rfl (lv_at hl 1 rfl) ?_
    refine gcI X K (n0 := 1) (As := [.int x1]) (rest := []) (hM := (met_S_rankOfNeed hl9 D ad ca sa _ x1 f a b _ hw)) (o := 0) (ho := by decide) (hko := kS_o0) (hci := rfl) (hg := wl_good) (w1 := (tm2 (i := 152) rfl rfl)) (w2 := (tm2 (i := 154) rfl rfl)) (w3 := (tm0 (i := 12) rfl rfl)) (w4 := (tm1 (i := 1) rfl rfl)) (w5 := (tm2 (i := 155) rfl rfl)) (hd := ⟨rfl, by decide, by decide, by decide +kernel⟩) (hrc := rfl) (hrs := rfl) (hR := ⟨Nat.le_of_ble_eq_true rfl, Nat.le_of_ble_eq_true rfl⟩) (hn := rfl) (hsz := hl.1) (hst := rfl) (hW := Nat.le_of_ble_eq_true rfl) (hdg := dS_ranksLacking_12) (hf := ⟨Nat.le_of_ble_eq_true rfl, Nat.le_of_ble_eq_true rfl⟩) (fun _ _ _ _ _ _ _ _ hw => hw.elim) (fun r12 f12 a12 b12 H locs hw K => ?_)
    refine lv_goto (tgt := 19) hx hb dS_ranksLacking_15 (by decide) ?_
    exact LS_ranksLacking_19 X hex hr r12 f12 a12 b12 hw _ _ K _ (lv_sub hl [] rfl)
set_option maxHeartbeats 4000000 in
set_option maxRecDepth 100000 in
theorem LS_sum_59 {p : Program} {l : Launch} {e : Env} {s : State} {m : MethodId} {below : List Frame} {meth : Method} {c : Code} {D : va_G} {sa : Nat → Nat} {ad : Nat → Nat} {ca : Nat → ClassId} {A : Nat → Prop} {y1 : Int32} {po : Int32 → wF → wA → wB → Prop} {px : String → wF → wA → wB → Prop} (X : cx Wl (tyS ca) txS D vwCl sa A p l s m ([.ref (ad 0), .int y1] : List Value).toArray meth c cS_sum 4 "SendBest") (hex : ∀ x ∈ c.exceptionTable.toList, False) (hr : meth.sig.returnType = (some .int)) (J23 : Int32 → Int32 → Int32 → wF → wA → wB → Prop) (hJ23 : ∀ (x1 : Int32) (x2 : Int32) (x3 : Int32) (f : wF) (a : wA) (b : wB), J23 x1 x2 x3 f a b → ∀ (H : Heap) (locs : List Loc), wd nS kS D vwCl ad ca A s H locs f a b → ∀ (ls : Array Slot), lv_has ls 4 [(0, .ref (ad 0)), (1, .int x1), (2, .int x2), (3, .int x3)] → W p l e ({ frames := 6, cells := 1, slots := 6, locals := 82 }) s m ([.ref (ad 0), .int y1] : List Value).toArray below meth c H locs 0 0 (vx_MQ below (va_Qi (fun r (u : wF × wA × wB) => po r u.1 u.2.1 u.2.2) (sPost nS kS D vwCl ad ca A) A) (sX nS kS D vwCl ad ca A px) ([.ref (ad 0), .int y1] : List Value).toArray s 1 6 A) (F0 m 23 ls [])) : ∀ (x1 : Int32) (x2 : Int32) (x3 : Int32) (f : wF) (a : wA) (b : wB), wp_S_sum_59 po px J23 x1 x2 x3 f a b → ∀ (H : Heap) (locs : List Loc), wd nS kS D vwCl ad ca A s H locs f a b → ∀ (ls : Array Slot), lv_has ls 4 [(0, .ref (ad 0)), (1, .int x1), (2, .int x2), (3, .int x3)] → W p l e ({ frames := 6, cells := 1, slots := 6, locals := 82 }) s m ([.ref (ad 0), .int y1] : List Value).toArray below meth c H locs 0 0 (vx_MQ below (va_Qi (fun r (u : wF × wA × wB) => po r u.1 u.2.1 u.2.2) (sPost nS kS D vwCl ad ca A) A) (sX nS kS D vwCl ad ca A px) ([.ref (ad 0), .int y1] : List Value).toArray s 1 6 A) (F0 m 59 ls []) := by
  obtain ⟨hx, hb, hml, hown, hts, hK, hA, hth, hlk, hl9⟩ := id X
  intro x1 x2 x3 f a b hw H locs K ls hl
  dsimp only [wp_S_sum_59] at hw
  refine lv_iinc (v := (x3 + (1 : Int32))) (lv' := [(3, .int (x3 + (1 : Int32))), (0, .ref (ad 0)), (1, .int x1), (2, .int x2)]) hx hb dS_sum_59 hl (k := 3) rfl rfl (by decide) rfl (fun ls hl => ?_)
  refine lv_goto (tgt := 23) hx hb dS_sum_62 (by decide) ?_
  exact hJ23 x1 x2 (x3 + (1 : Int32)) f a b hw _ _ K _ (lv_sub hl [1, 2, 3, 0] rfl)
set_option maxHeartbeats 4000000 in
set_option maxRecDepth 100000 in
theorem LS_sum_57 {p : Program} {l : Launch} {e : Env} {s : State} {m : MethodId} {below : List Frame} {meth : Method} {c : Code} {D : va_G} {sa : Nat → Nat} {ad : Nat → Nat} {ca : Nat → ClassId} {A : Nat → Prop} {y1 : Int32} {po : Int32 → wF → wA → wB → Prop} {px : String → wF → wA → wB → Prop} (X : cx Wl (tyS ca) txS D vwCl sa A p l s m ([.ref (ad 0), .int y1] : List Value).toArray meth c cS_sum 4 "SendBest") (hex : ∀ x ∈ c.exceptionTable.toList, False) (hr : meth.sig.returnType = (some .int)) (J23 : Int32 → Int32 → Int32 → wF → wA → wB → Prop) (hJ23 : ∀ (x1 : Int32) (x2 : Int32) (x3 : Int32) (f : wF) (a : wA) (b : wB), J23 x1 x2 x3 f a b → ∀ (H : Heap) (locs : List Loc), wd nS kS D vwCl ad ca A s H locs f a b → ∀ (ls : Array Slot), lv_has ls 4 [(0, .ref (ad 0)), (1, .int x1), (2, .int x2), (3, .int x3)] → W p l e ({ frames := 6, cells := 1, slots := 6, locals := 82 }) s m ([.ref (ad 0), .int y1] : List Value).toArray below meth c H locs 0 0 (vx_MQ below (va_Qi (fun r (u : wF × wA × wB) => po r u.1 u.2.1 u.2.2) (sPost nS kS D vwCl ad ca A) A) (sX nS kS D vwCl ad ca A px) ([.ref (ad 0), .int y1] : List Value).toArray s 1 6 A) (F0 m 23 ls [])) : ∀ (k0 : Int32) (k1 : Int32) (x1 : Int32) (x3 : Int32) (f : wF) (a : wA) (b : wB), wp_S_sum_57 po px J23 k0 k1 x1 x3 f a b → ∀ (H : Heap) (locs : List Loc), wd nS kS D vwCl ad ca A s H locs f a b → ∀ (ls : Array Slot), lv_has ls 4 [(0, .ref (ad 0)), (1, .int x1), (3, .int x3)] → W p l e ({ frames := 6, cells := 1, slots := 6, locals := 82 }) s m ([.ref (ad 0), .int y1] : List Value).toArray below meth c H locs 0 0 (vx_MQ below (va_Qi (fun r (u : wF × wA × wB) => po r u.1 u.2.1 u.2.2) (sPost nS kS D vwCl ad ca A) A) (sX nS kS D vwCl ad ca A px) ([.ref (ad 0), .int y1] : List Value).toArray s 1 6 A) (F0 m 57 ls [.int k0, .int k1]) := by
  obtain ⟨hx, hb, hml, hown, hts, hK, hA, hth, hlk, hl9⟩ := id X
  intro k0 k1 x1 x3 f a b hw H locs K ls hl
  dsimp only [wp_S_sum_57] at hw
  refine lv_iadd hx hb dS_sum_57 ?_
  refine lv_istore_n (lv' := [(2, .int (k1 + k0)), (0, .ref (ad 0)), (1, .int x1), (3, .int x3)]) hx hb dS_sum_58 rfl hl (by decide) rfl (fun ls hl => ?_)
  exact LS_sum_59 X hex hr J23 hJ23 x1 (k1 + k0) x3 f a b hw _ _ K _ (lv_sub hl [1, 2, 0, 3] rfl)
set_option maxHeartbeats 4000000 in
set_option maxRecDepth 100000 in
theorem LS_sum_23 {p : Program} {l : Launch} {e : Env} {s : State} {m : MethodId} {below : List Frame} {meth : Method} {c : Code} {D : va_G} {sa : Nat → Nat} {ad : Nat → Nat} {ca : Nat → ClassId} {A : Nat → Prop} {y1 : Int32} {po : Int32 → wF → wA → wB → Prop} {px : String → wF → wA → wB → Prop} (X : cx Wl (tyS ca) txS D vwCl sa A p l s m ([.ref (ad 0), .int y1] : List Value).toArray meth c cS_sum 4 "SendBest") (hex : ∀ x ∈ c.exceptionTable.toList, False) (hr : meth.sig.returnType = (some .int)) : ∀ n : Nat, ∀ (x1 : Int32) (x2 : Int32) (x3 : Int32) (f : wF) (a : wA) (b : wB), wp_S_sum_23 po px n x1 x2 x3 f a b → ∀ (H : Heap) (locs : List Loc), wd nS kS D vwCl ad ca A s H locs f a b → ∀ (ls : Array Slot), lv_has ls 4 [(0, .ref (ad 0)), (1, .int x1), (2, .int x2), (3, .int x3)] → W p l e ({ frames := 6, cells := 1, slots := 6, locals := 82 }) s m ([.ref (ad 0), .int y1] : List Value).toArray below meth c H locs 0 0 (vx_MQ below (va_Qi (fun r (u : wF × wA × wB) => po r u.1 u.2.1 u.2.2) (sPost nS kS D vwCl ad ca A) A) (sX nS kS D vwCl ad ca A px) ([.ref (ad 0), .int y1] : List Value).toArray s 1 6 A) (F0 m 23 ls []) := by
  obtain ⟨hx, hb, hml, hown, hts, hK, hA, hth, hlk, hl9⟩ := id X
  intro n
  induction n with
  | zero => intro x1 x2 x3 f a b hw; exact hw.elim
  | succ n ih =>
    intro x1 x2 x3 f a b hw H locs K ls hl
    dsimp only [wp_S_sum_23] at hw
    refine lv_iload_n hx hb dS_sum_23 rfl (lv_at hl 3 rfl) ?_
    refine lv_aload_n hx hb dS_sum_24 rfl (lv_at hl 0 rfl) ?_
    refine gGet X K (o := 0) (k := 9) (v := .int (f 2)) (by decide) kS_o0 rfl inS_o0 (by decide) (tm1 (i := 91) rfl rfl) rfl dS_sum_25 ?_
    refine lv_icmp_ge (tgt := 65) hx hb dS_sum_28 (by decide) (fun hc => ?_) (fun hc => ?_)
    · replace hw := hw.1 hc
      refine lv_iload_n hx hb dS_sum_65 rfl (lv_at hl 2 rfl) ?_
      exact endI X K hr rfl hw (by decide) (by decide) dS_sum_66
    · replace hw := hw.2 hc
      refine lv_aload_n hx hb dS_sum_31 rfl (lv_at hl 0 rfl) ?_
      refine lv_iload_n hx hb dS_sum_32 rfl (lv_at hl 3 rfl) ?_
      refine gcI X K (n0 := 1) (As := [.int x3]) (rest := []) (hM := (met_S_isOpenNeed hl9 D ad ca sa _ x3 f a b _ hw)) (o := 0) (ho := by decide) (hko := kS_o0) (hci := rfl) (hg := wl_good) (w1 := (tm2 (i := 132) rfl rfl)) (w2 := (tm2 (i := 134) rfl rfl)) (w3 := (tm0 (i := 7) rfl rfl)) (w4 := (tm1 (i := 1) rfl rfl)) (w5 := (tm2 (i := 135) rfl rfl)) (hd := ⟨rfl, by decide, by decide, by decide +kernel⟩) (hrc := rfl) (hrs := rfl) (hR := ⟨Nat.le_of_ble_eq_true rfl, Nat.le_of_ble_eq_true rfl⟩) (hn := rfl) (hsz := hl.1) (hst := rfl) (hW := Nat.le_of_ble_eq_true rfl) (hdg := dS_sum_33) (hf := ⟨Nat.le_of_ble_eq_true rfl, Nat.le_of_ble_eq_true rfl⟩) (fun _ _ _ _ _ _ _ _ hw => hw.elim) (fun r33 f33 a33 b33 H locs hw K => ?_)
      refine lv_if_eq (tgt := 59) hx hb dS_sum_36 (by decide) (fun hc => ?_) (fun hc => ?_)
      · replace hw := hw.1 hc
        exact LS_sum_59 X hex hr (wp_S_sum_23 po px n) ih x1 x2 x3 f33 a33 b33 hw _ _ K _ (lv_sub hl [0, 1, 2, 3] rfl)
      · replace hw := hw.2 hc
        refine lv_iload_n hx hb dS_sum_39 rfl (lv_at hl 2 rfl) ?_
        refine lv_iload_n hx hb dS_sum_40 rfl (lv_at hl 1 rfl) ?_
        refine lv_if_ne (tgt := 52) hx hb dS_sum_41 (by decide) (fun hc => ?_) (fun hc => ?_)
        · replace hw := hw.1 hc
          refine lv_aload_n hx hb dS_sum_52 rfl (lv_at hl 0 rfl) ?_
          refine lv_iload_n hx hb dS_sum_53 rfl (lv_at hl 3 rfl) ?_
          refine gcI X K (n0 := 1) (As := [.int x3]) (rest := [.int x2]) (hM := (met_S_weightedSeconds hl9 D ad ca sa _ x3 f33 a33 b33 _ hw)) (o := 0) (ho := by decide) (hko := kS_o0) (hci := rfl) (hg := wl_good) (w1 := (tm3 (i := 73) rfl rfl)) (w2 := (tm3 (i := 75) rfl rfl)) (w3 := (tm0 (i := 28) rfl rfl)) (w4 := (tm1 (i := 1) rfl rfl)) (w5 := (tm3 (i := 76) rfl rfl)) (hd := ⟨rfl, by decide, by decide, by decide +kernel⟩) (hrc := rfl) (hrs := rfl) (hR := ⟨Nat.le_of_ble_eq_true rfl, Nat.le_of_ble_eq_true rfl⟩) (hn := rfl) (hsz := hl.1) (hst := rfl) (hW := Nat.le_of_ble_eq_true rfl) (hdg := dS_sum_54) (hf := ⟨Nat.le_of_ble_eq_true rfl, Nat.le_of_ble_eq_true rfl⟩) (fun _ _ _ _ _ _ _ _ hw => hw.elim) (fun r54 f54 a54 b54 H locs hw K => ?_)
          exact LS_sum_57 X hex hr (wp_S_sum_23 po px n) ih r54 x2 x1 x3 f54 a54 b54 hw _ _ K _ (lv_sub hl [0, 1, 3] rfl)
        · replace hw := hw.2 hc
          refine lv_aload_n hx hb dS_sum_44 rfl (lv_at hl 0 rfl) ?_
          refine lv_iload_n hx hb dS_sum_45 rfl (lv_at hl 3 rfl) ?_
          refine gcI X K (n0 := 1) (As := [.int x3]) (rest := [.int x2]) (hM := (met_S_ranksLacking hl9 D ad ca sa _ x3 f33 a33 b33 _ hw)) (o := 0) (ho := by decide) (hko := kS_o0) (hci := rfl) (hg := wl_good) (w1 := (tm3 (i := 69) rfl rfl)) (w2 := (tm3 (i := 71) rfl rfl)) (w3 := (tm0 (i := 27) rfl rfl)) (w4 := (tm1 (i := 1) rfl rfl)) (w5 := (tm3 (i := 72) rfl rfl)) (hd := ⟨rfl, by decide, by decide, by decide +kernel⟩) (hrc := rfl) (hrs := rfl) (hR := ⟨Nat.le_of_ble_eq_true rfl, Nat.le_of_ble_eq_true rfl⟩) (hn := rfl) (hsz := hl.1) (hst := rfl) (hW := Nat.le_of_ble_eq_true rfl) (hdg := dS_sum_46) (hf := ⟨Nat.le_of_ble_eq_true rfl, Nat.le_of_ble_eq_true rfl⟩) (fun _ _ _ _ _ _ _ _ hw => hw.elim) (fun r46 f46 a46 b46 H locs hw K => ?_)
          refine lv_goto (tgt := 57) hx hb dS_sum_49 (by decide) ?_
          exact LS_sum_57 X hex hr (wp_S_sum_23 po px n) ih r46 x2 x1 x3 f46 a46 b46 hw _ _ K _ (lv_sub hl [0, 1, 3] rfl)
set_option maxHeartbeats 4000000 in
set_option maxRecDepth 100000 in
theorem LS_sum_19 {p : Program} {l : Launch} {e : Env} {s : State} {m : MethodId} {below : List Frame} {meth : Method} {c : Code} {D : va_G} {sa : Nat → Nat} {ad : Nat → Nat} {ca : Nat → ClassId} {A : Nat → Prop} {y1 : Int32} {po : Int32 → wF → wA → wB → Prop} {px : String → wF → wA → wB → Prop} (X : cx Wl (tyS ca) txS D vwCl sa A p l s m ([.ref (ad 0), .int y1] : List Value).toArray meth c cS_sum 4 "SendBest") (hex : ∀ x ∈ c.exceptionTable.toList, False) (hr : meth.sig.returnType = (some .int)) : ∀ (x1 : Int32) (f : wF) (a : wA) (b : wB), wp_S_sum_19 po px x1 f a b → ∀ (H : Heap) (locs : List Loc), wd nS kS D vwCl ad ca A s H locs f a b → ∀ (ls : Array Slot), lv_has ls 4 [(0, .ref (ad 0)), (1, .int x1)] → W p l e ({ frames := 6, cells := 1, slots := 6, locals := 82 }) s m ([.ref (ad 0), .int y1] : List Value).toArray below meth c H locs 0 0 (vx_MQ below (va_Qi (fun r (u : wF × wA × wB) => po r u.1 u.2.1 u.2.2) (sPost nS kS D vwCl ad ca A) A) (sX nS kS D vwCl ad ca A px) ([.ref (ad 0), .int y1] : List Value).toArray s 1 6 A) (F0 m 19 ls []) := by
  obtain ⟨hx, hb, hml, hown, hts, hK, hA, hth, hlk, hl9⟩ := id X
  intro x1 f a b hw H locs K ls hl
  dsimp only [wp_S_sum_19] at hw
  refine lv_iconst (v := (0 : Int32)) hx hb dS_sum_19 (by decide) ?_
  refine lv_istore_n (lv' := [(2, .int (0 : Int32)), (0, .ref (ad 0)), (1, .int x1)]) hx hb dS_sum_20 rfl hl (by decide) rfl (fun ls hl => ?_)
  refine lv_iconst (v := (0 : Int32)) hx hb dS_sum_21 (by decide) ?_
  refine lv_istore_n (lv' := [(3, .int (0 : Int32)), (2, .int (0 : Int32)), (0, .ref (ad 0)), (1, .int x1)]) hx hb dS_sum_22 rfl hl (by decide) rfl (fun ls hl => ?_)
  obtain ⟨n9, hw⟩ := hw
  exact LS_sum_23 X hex hr n9 x1 (0 : Int32) (0 : Int32) f a b hw _ _ K _ (lv_sub hl [2, 3, 1, 0] rfl)
set_option maxHeartbeats 4000000 in
set_option maxRecDepth 100000 in
theorem met_S_sum {l : Launch} (hl9 : l.stackTraces = false) (D : va_G) (ad : Nat → Nat) (ca : Nat → ClassId) (sa : Nat → Nat) (sz : Nat) (x1 : Int32) (f : wF) (a : wA) (b : wB) (po : Int32 → wF → wA → wB → Prop) (px : String → wF → wA → wB → Prop) (hw : wp_S_sum po px x1 f a b) : mI nS kS (tyS ca) txS D vwCl l yS_sum (Cond.code yS_sum cS_sum 4 (some .int) :: Wl) ({ frames := 6, cells := 1, slots := 6, locals := 82 }) [.ref (ad 0), .int x1] ad ca sa sz f a b po px 1 6 := by
  refine ofI (by decide) hl9 (Nat.le_of_ble_eq_true rfl) ?_
  intro p e s m below meth c ls X hex hr K hl
  obtain ⟨hx, hb, hml, hown, hts, hK, hA, hth, hlk, hl9⟩ := id X
  have hl : lv_has ls 4 [(0, .ref (ad 0)), (1, .int x1)] := hl
  dsimp only [wp_S_sum] at hw
  refine lv_iload_n hx hb dS_sum_0 rfl (lv_at hl 1 rfl) ?_
  refine lv_if_eq (tgt := 19) hx hb dS_sum_1 (by decide) (fun hc => ?_) (fun hc => ?_)
  · replace hw := hw.1 hc
    exact LS_sum_19 X hex hr x1 f a b hw _ _ K _ (lv_sub hl [0, 1] rfl)
  · replace hw := hw.2 hc
    refine lv_iload_n hx hb dS_sum_4 rfl (lv_at hl 1 rfl) ?_
    refine lv_iconst (v := (1 : Int32)) hx hb dS_sum_5 (by decide) ?_
    refine lv_icmp_eq (tgt := 19) hx hb dS_sum_6 (by decide) (fun hc => ?_) (fun hc => ?_)
    · replace hw := hw.1 hc
      exact LS_sum_19 X hex hr x1 f a b hw _ _ K _ (lv_sub hl [0, 1] rfl)
    · replace hw := hw.2 hc
      exact throwX X hex K (k := 18) (names := ["java/lang/RuntimeException", "java/lang/Exception"]) hw (by decide +kernel) (by decide +kernel) rfl (tm2 (i := 14) rfl rfl) (tm1 (i := 10) rfl rfl) xg_S_168 xb_S_168 xo_S_168_164 hl.1 dS_sum_9 dS_sum_12 dS_sum_13 dS_sum_15 dS_sum_18 (by decide) (by decide) (by decide) (by decide) (by decide) (by decide)
set_option maxHeartbeats 4000000 in
set_option maxRecDepth 100000 in
theorem LS_alternative_68 {p : Program} {l : Launch} {e : Env} {s : State} {m : MethodId} {below : List Frame} {meth : Method} {c : Code} {D : va_G} {sa : Nat → Nat} {ad : Nat → Nat} {ca : Nat → ClassId} {A : Nat → Prop} {y1 : Int32} {po : Int32 → wF → wA → wB → Prop} {px : String → wF → wA → wB → Prop} (X : cx Wl (tyS ca) txS D vwCl sa A p l s m ([.ref (ad 0), .int y1] : List Value).toArray meth c cS_alternative 4 "SendBest") (hex : ∀ x ∈ c.exceptionTable.toList, False) (hr : meth.sig.returnType = (some .int)) (J19 : Int32 → Int32 → Int32 → wF → wA → wB → Prop) (hJ19 : ∀ (x1 : Int32) (x2 : Int32) (x3 : Int32) (f : wF) (a : wA) (b : wB), J19 x1 x2 x3 f a b → ∀ (H : Heap) (locs : List Loc), wd nS kS D vwCl ad ca A s H locs f a b → ∀ (ls : Array Slot), lv_has ls 4 [(0, .ref (ad 0)), (1, .int x1), (2, .int x2), (3, .int x3)] → W p l e ({ frames := 7, cells := 2, slots := 12, locals := 103 }) s m ([.ref (ad 0), .int y1] : List Value).toArray below meth c H locs 2 12 (vx_MQ below (va_Qi (fun r (u : wF × wA × wB) => po r u.1 u.2.1 u.2.2) (sPost nS kS D vwCl ad ca A) A) (sX nS kS D vwCl ad ca A px) ([.ref (ad 0), .int y1] : List Value).toArray s 2 12 A) (F0 m 19 ls [])) : ∀ (x1 : Int32) (x2 : Int32) (x3 : Int32) (f : wF) (a : wA) (b : wB), wp_S_alternative_68 po px J19 x1 x2 x3 f a b → ∀ (H : Heap) (locs : List Loc), wd nS kS D vwCl ad ca A s H locs f a b → ∀ (ls : Array Slot), lv_has ls 4 [(0, .ref (ad 0)), (1, .int x1), (2, .int x2), (3, .int x3)] → W p l e ({ frames := 7, cells := 2, slots := 12, locals := 103 }) s m ([.ref (ad 0), .int y1] : List Value).toArray below meth c H locs 2 12 (vx_MQ below (va_Qi (fun r (u : wF × wA × wB) => po r u.1 u.2.1 u.2.2) (sPost nS kS D vwCl ad ca A) A) (sX nS kS D vwCl ad ca A px) ([.ref (ad 0), .int y1] : List Value).toArray s 2 12 A) (F0 m 68 ls []) := by
  obtain ⟨hx, hb, hml, hown, hts, hK, hA, hth, hlk, hl9⟩ := id X
  intro x1 x2 x3 f a b hw H locs K ls hl
  dsimp only [wp_S_alternative_68] at hw
  refine lv_iinc (v := (x3 + (1 : Int32))) (lv' := [(3, .int (x3 + (1 : Int32))), (0, .ref (ad 0)), (1, .int x1), (2, .int x2)]) hx hb dS_alternative_68 hl (k := 3) rfl rfl (by decide) rfl (fun ls hl => ?_)
  refine lv_goto (tgt := 19) hx hb dS_alternative_71 (by decide) ?_
  exact hJ19 x1 x2 (x3 + (1 : Int32)) f a b hw _ _ K _ (lv_sub hl [1, 2, 3, 0] rfl)
set_option maxHeartbeats 4000000 in
set_option maxRecDepth 100000 in
theorem LS_alternative_66 {p : Program} {l : Launch} {e : Env} {s : State} {m : MethodId} {below : List Frame} {meth : Method} {c : Code} {D : va_G} {sa : Nat → Nat} {ad : Nat → Nat} {ca : Nat → ClassId} {A : Nat → Prop} {y1 : Int32} {po : Int32 → wF → wA → wB → Prop} {px : String → wF → wA → wB → Prop} (X : cx Wl (tyS ca) txS D vwCl sa A p l s m ([.ref (ad 0), .int y1] : List Value).toArray meth c cS_alternative 4 "SendBest") (hex : ∀ x ∈ c.exceptionTable.toList, False) (hr : meth.sig.returnType = (some .int)) (J19 : Int32 → Int32 → Int32 → wF → wA → wB → Prop) (hJ19 : ∀ (x1 : Int32) (x2 : Int32) (x3 : Int32) (f : wF) (a : wA) (b : wB), J19 x1 x2 x3 f a b → ∀ (H : Heap) (locs : List Loc), wd nS kS D vwCl ad ca A s H locs f a b → ∀ (ls : Array Slot), lv_has ls 4 [(0, .ref (ad 0)), (1, .int x1), (2, .int x2), (3, .int x3)] → W p l e ({ frames := 7, cells := 2, slots := 12, locals := 103 }) s m ([.ref (ad 0), .int y1] : List Value).toArray below meth c H locs 2 12 (vx_MQ below (va_Qi (fun r (u : wF × wA × wB) => po r u.1 u.2.1 u.2.2) (sPost nS kS D vwCl ad ca A) A) (sX nS kS D vwCl ad ca A px) ([.ref (ad 0), .int y1] : List Value).toArray s 2 12 A) (F0 m 19 ls [])) : ∀ (x1 : Int32) (x3 : Int32) (f : wF) (a : wA) (b : wB), wp_S_alternative_66 po px J19 x1 x3 f a b → ∀ (H : Heap) (locs : List Loc), wd nS kS D vwCl ad ca A s H locs f a b → ∀ (ls : Array Slot), lv_has ls 4 [(0, .ref (ad 0)), (1, .int x1), (3, .int x3)] → W p l e ({ frames := 7, cells := 2, slots := 12, locals := 103 }) s m ([.ref (ad 0), .int y1] : List Value).toArray below meth c H locs 2 12 (vx_MQ below (va_Qi (fun r (u : wF × wA × wB) => po r u.1 u.2.1 u.2.2) (sPost nS kS D vwCl ad ca A) A) (sX nS kS D vwCl ad ca A px) ([.ref (ad 0), .int y1] : List Value).toArray s 2 12 A) (F0 m 66 ls []) := by
  obtain ⟨hx, hb, hml, hown, hts, hK, hA, hth, hlk, hl9⟩ := id X
  intro x1 x3 f a b hw H locs K ls hl
  dsimp only [wp_S_alternative_66] at hw
  refine lv_iload_n hx hb dS_alternative_66 rfl (lv_at hl 2 rfl) ?_
  refine lv_istore_n (lv' := [(2, .int x3), (0, .ref (ad 0)), (1, .int x1), (3, .int x3)]) hx hb dS_alternative_67 rfl hl (by decide) rfl (fun ls hl => ?_)
  exact LS_alternative_68 X hex hr J19 hJ19 x1 x3 x3 f a b hw _ _ K _ (lv_sub hl [1, 2, 0, 3] rfl)
set_option maxHeartbeats 4000000 in
set_option maxRecDepth 100000 in
theorem LS_alternative_19 {p : Program} {l : Launch} {e : Env} {s : State} {m : MethodId} {below : List Frame} {meth : Method} {c : Code} {D : va_G} {sa : Nat → Nat} {ad : Nat → Nat} {ca : Nat → ClassId} {A : Nat → Prop} {y1 : Int32} {po : Int32 → wF → wA → wB → Prop} {px : String → wF → wA → wB → Prop} (X : cx Wl (tyS ca) txS D vwCl sa A p l s m ([.ref (ad 0), .int y1] : List Value).toArray meth c cS_alternative 4 "SendBest") (hex : ∀ x ∈ c.exceptionTable.toList, False) (hr : meth.sig.returnType = (some .int)) : ∀ n : Nat, ∀ (x1 : Int32) (x2 : Int32) (x3 : Int32) (f : wF) (a : wA) (b : wB), wp_S_alternative_19 po px n x1 x2 x3 f a b → ∀ (H : Heap) (locs : List Loc), wd nS kS D vwCl ad ca A s H locs f a b → ∀ (ls : Array Slot), lv_has ls 4 [(0, .ref (ad 0)), (1, .int x1), (2, .int x2), (3, .int x3)] → W p l e ({ frames := 7, cells := 2, slots := 12, locals := 103 }) s m ([.ref (ad 0), .int y1] : List Value).toArray below meth c H locs 2 12 (vx_MQ below (va_Qi (fun r (u : wF × wA × wB) => po r u.1 u.2.1 u.2.2) (sPost nS kS D vwCl ad ca A) A) (sX nS kS D vwCl ad ca A px) ([.ref (ad 0), .int y1] : List Value).toArray s 2 12 A) (F0 m 19 ls []) := by
  obtain ⟨hx, hb, hml, hown, hts, hK, hA, hth, hlk, hl9⟩ := id X
  intro n
  induction n with
  | zero => intro x1 x2 x3 f a b hw; exact hw.elim
  | succ n ih =>
    intro x1 x2 x3 f a b hw H locs K ls hl
    dsimp only [wp_S_alternative_19] at hw
    refine lv_iload_n hx hb dS_alternative_19 rfl (lv_at hl 3 rfl) ?_
    refine lv_aload_n hx hb dS_alternative_20 rfl (lv_at hl 0 rfl) ?_
    refine gGet X K (o := 0) (k := 0) (v := .int (f 0)) (by decide) kS_o0 rfl inS_o0 (by decide) (tm1 (i := 82) rfl rfl) rfl dS_alternative_21 ?_
    refine lv_icmp_ge (tgt := 74) hx hb dS_alternative_24 (by decide) (fun hc => ?_) (fun hc => ?_)
    · replace hw := hw.1 hc
      refine lv_iload_n hx hb dS_alternative_74 rfl (lv_at hl 2 rfl) ?_
      exact endI X K hr rfl hw (by decide) (by decide) dS_alternative_75
    · replace hw := hw.2 hc
      refine lv_aload_n hx hb dS_alternative_27 rfl (lv_at hl 0 rfl) ?_
      refine gGet X K (o := 0) (k := 4) (v := .ref (ad 4)) (by decide) kS_o0 rfl inS_o0 (by decide) (tm1 (i := 86) rfl rfl) rfl dS_alternative_28 ?_
      refine lv_iload_n hx hb dS_alternative_31 rfl (lv_at hl 3 rfl) ?_
      obtain ⟨hi, hw⟩ := hw
      refine gild X K (o := 4) (t0 := 0) (by decide) kS_c4 rfl hi dS_alternative_32 ?_
      refine lv_iconst (v := (-1 : Int32)) hx hb dS_alternative_33 (by decide) ?_
      refine lv_icmp_ne (tgt := 68) hx hb dS_alternative_34 (by decide) (fun hc => ?_) (fun hc => ?_)
      · replace hw := hw.1 hc
        exact LS_alternative_68 X hex hr (wp_S_alternative_19 po px n) ih x1 x2 x3 f a b hw _ _ K _ (lv_sub hl [0, 1, 2, 3] rfl)
      · replace hw := hw.2 hc
        refine lv_aload_n hx hb dS_alternative_37 rfl (lv_at hl 0 rfl) ?_
        refine lv_iload_n hx hb dS_alternative_38 rfl (lv_at hl 3 rfl) ?_
        refine lv_iload_n hx hb dS_alternative_39 rfl (lv_at hl 1 rfl) ?_
        refine gcI X K (n0 := 2) (As := [.int x3, .int x1]) (rest := []) (hM := (met_S_canFill hl9 D ad ca sa _ x3 x1 f a b _ hw)) (o := 0) (ho := by decide) (hko := kS_o0) (hci := rfl) (hg := wl_good) (w1 := (tm2 (i := 144) rfl rfl)) (w2 := (tm2 (i := 146) rfl rfl)) (w3 := (tm0 (i := 10) rfl rfl)) (w4 := (tm1 (i := 1) rfl rfl)) (w5 := (tm2 (i := 147) rfl rfl)) (hd := ⟨rfl, by decide, by decide, by decide +kernel⟩) (hrc := rfl) (hrs := rfl) (hR := ⟨Nat.le_of_ble_eq_true rfl, Nat.le_of_ble_eq_true rfl⟩) (hn := rfl) (hsz := hl.1) (hst := rfl) (hW := Nat.le_of_ble_eq_true rfl) (hdg := dS_alternative_40) (hf := ⟨Nat.le_of_ble_eq_true rfl, Nat.le_of_ble_eq_true rfl⟩) (fun _ _ _ _ _ _ _ _ hw => hw.elim) (fun r40 f40 a40 b40 H locs hw K => ?_)
        refine lv_if_eq (tgt := 68) hx hb dS_alternative_43 (by decide) (fun hc => ?_) (fun hc => ?_)
        · replace hw := hw.1 hc
          exact LS_alternative_68 X hex hr (wp_S_alternative_19 po px n) ih x1 x2 x3 f40 a40 b40 hw _ _ K _ (lv_sub hl [0, 1, 2, 3] rfl)
        · replace hw := hw.2 hc
          refine lv_iload_n hx hb dS_alternative_46 rfl (lv_at hl 2 rfl) ?_
          refine lv_iconst (v := (-1 : Int32)) hx hb dS_alternative_47 (by decide) ?_
          refine lv_icmp_eq (tgt := 66) hx hb dS_alternative_48 (by decide) (fun hc => ?_) (fun hc => ?_)
          · replace hw := hw.1 hc
            exact LS_alternative_66 X hex hr (wp_S_alternative_19 po px n) ih x1 x3 f40 a40 b40 hw _ _ K _ (lv_sub hl [0, 1, 3] rfl)
          · replace hw := hw.2 hc
            refine lv_aload_n hx hb dS_alternative_51 rfl (lv_at hl 0 rfl) ?_
            refine lv_iload_n hx hb dS_alternative_52 rfl (lv_at hl 3 rfl) ?_
            refine lv_iload_n hx hb dS_alternative_53 rfl (lv_at hl 1 rfl) ?_
            refine gcI X K (n0 := 2) (As := [.int x3, .int x1]) (rest := []) (hM := (met_S_secondsTo hl9 D ad ca sa _ x3 x1 f40 a40 b40 _ hw)) (o := 0) (ho := by decide) (hko := kS_o0) (hci := rfl) (hg := wl_good) (w1 := (tm2 (i := 148) rfl rfl)) (w2 := (tm2 (i := 150) rfl rfl)) (w3 := (tm0 (i := 11) rfl rfl)) (w4 := (tm1 (i := 1) rfl rfl)) (w5 := (tm2 (i := 151) rfl rfl)) (hd := ⟨rfl, by decide, by decide, by decide +kernel⟩) (hrc := rfl) (hrs := rfl) (hR := ⟨Nat.le_of_ble_eq_true rfl, Nat.le_of_ble_eq_true rfl⟩) (hn := rfl) (hsz := hl.1) (hst := rfl) (hW := Nat.le_of_ble_eq_true rfl) (hdg := dS_alternative_54) (hf := ⟨Nat.le_of_ble_eq_true rfl, Nat.le_of_ble_eq_true rfl⟩) (fun _ _ _ _ _ _ _ _ hw => hw.elim) (fun r54 f54 a54 b54 H locs hw K => ?_)
            refine lv_aload_n hx hb dS_alternative_57 rfl (lv_at hl 0 rfl) ?_
            refine lv_iload_n hx hb dS_alternative_58 rfl (lv_at hl 2 rfl) ?_
            refine lv_iload_n hx hb dS_alternative_59 rfl (lv_at hl 1 rfl) ?_
            refine gcI X K (n0 := 2) (As := [.int x2, .int x1]) (rest := [.int r54]) (hM := (met_S_secondsTo hl9 D ad ca sa _ x2 x1 f54 a54 b54 _ hw)) (o := 0) (ho := by decide) (hko := kS_o0) (hci := rfl) (hg := wl_good) (w1 := (tm2 (i := 148) rfl rfl)) (w2 := (tm2 (i := 150) rfl rfl)) (w3 := (tm0 (i := 11) rfl rfl)) (w4 := (tm1 (i := 1) rfl rfl)) (w5 := (tm2 (i := 151) rfl rfl)) (hd := ⟨rfl, by decide, by decide, by decide +kernel⟩) (hrc := rfl) (hrs := rfl) (hR := ⟨Nat.le_of_ble_eq_true rfl, Nat.le_of_ble_eq_true rfl⟩) (hn := rfl) (hsz := hl.1) (hst := rfl) (hW := Nat.le_of_ble_eq_true rfl) (hdg := dS_alternative_60) (hf := ⟨Nat.le_of_ble_eq_true rfl, Nat.le_of_ble_eq_true rfl⟩) (fun _ _ _ _ _ _ _ _ hw => hw.elim) (fun r60 f60 a60 b60 H locs hw K => ?_)
            refine lv_icmp_ge (tgt := 68) hx hb dS_alternative_63 (by decide) (fun hc => ?_) (fun hc => ?_)
            · replace hw := hw.1 hc
              exact LS_alternative_68 X hex hr (wp_S_alternative_19 po px n) ih x1 x2 x3 f60 a60 b60 hw _ _ K _ (lv_sub hl [0, 1, 2, 3] rfl)
            · replace hw := hw.2 hc
              exact LS_alternative_66 X hex hr (wp_S_alternative_19 po px n) ih x1 x3 f60 a60 b60 hw _ _ K _ (lv_sub hl [0, 1, 3] rfl)
set_option maxHeartbeats 4000000 in
set_option maxRecDepth 100000 in
theorem met_S_alternative {l : Launch} (hl9 : l.stackTraces = false) (D : va_G) (ad : Nat → Nat) (ca : Nat → ClassId) (sa : Nat → Nat) (sz : Nat) (x1 : Int32) (f : wF) (a : wA) (b : wB) (po : Int32 → wF → wA → wB → Prop) (px : String → wF → wA → wB → Prop) (hw : wp_S_alternative po px x1 f a b) : mI nS kS (tyS ca) txS D vwCl l yS_alternative (Cond.code yS_alternative cS_alternative 4 (some .int) :: Wl) ({ frames := 7, cells := 2, slots := 12, locals := 103 }) [.ref (ad 0), .int x1] ad ca sa sz f a b po px 2 12 := by
  refine ofI (by decide) hl9 (Nat.le_of_ble_eq_true rfl) ?_
  intro p e s m below meth c ls X hex hr K hl
  obtain ⟨hx, hb, hml, hown, hts, hK, hA, hth, hlk, hl9⟩ := id X
  have hl : lv_has ls 4 [(0, .ref (ad 0)), (1, .int x1)] := hl
  dsimp only [wp_S_alternative] at hw
  refine lv_aload_n hx hb dS_alternative_0 rfl (lv_at hl 0 rfl) ?_
  refine lv_iload_n hx hb dS_alternative_1 rfl (lv_at hl 1 rfl) ?_
  refine gcV X K (n0 := 1) (As := [.int x1]) (rest := []) (hM := (met_S_checkNeed hl9 D ad ca sa _ x1 f a b _ _ hw)) (o := 0) (ho := by decide) (hko := kS_o0) (hci := rfl) (hg := wl_good) (w1 := (tm3 (i := 48) rfl rfl)) (w2 := (tm3 (i := 50) rfl rfl)) (w3 := (tm0 (i := 26) rfl rfl)) (w4 := (tm1 (i := 1) rfl rfl)) (w5 := (tm3 (i := 51) rfl rfl)) (hd := ⟨rfl, by decide, by decide, by decide +kernel⟩) (hrc := rfl) (hrs := rfl) (hR := ⟨Nat.le_of_ble_eq_true rfl, Nat.le_of_ble_eq_true rfl⟩) (hn := rfl) (hsz := hl.1) (hst := rfl) (hW := Nat.le_of_ble_eq_true rfl) (hdg := dS_alternative_2) (hf := ⟨Nat.le_of_ble_eq_true rfl, Nat.le_of_ble_eq_true rfl⟩) (fun E ce q9 f1 a1 b1 H1 locs1 hw K hce hv hcl => outX X hex K hw hce hv hcl (by decide) (by decide)) (fun f2 a2 b2 H locs hw K => ?_)
  refine lv_aload_n hx hb dS_alternative_5 rfl (lv_at hl 0 rfl) ?_
  refine lv_aload_n hx hb dS_alternative_6 rfl (lv_at hl 0 rfl) ?_
  refine gGet X K (o := 0) (k := 10) (v := .ref (ad 20)) (by decide) kS_o0 rfl inS_o0 (by decide) (tm1 (i := 92) rfl rfl) rfl dS_alternative_7 ?_
  refine lv_iload_n hx hb dS_alternative_10 rfl (lv_at hl 1 rfl) ?_
  obtain ⟨hi, hw⟩ := hw
  refine gild X K (o := 20) (t0 := 0) (by decide) kS_c20 rfl hi dS_alternative_11 ?_
  refine gcV X K (n0 := 1) (As := [.int (a2 20 x1.toNatClampNeg)]) (rest := []) (hM := (met_S_checkOpen hl9 D ad ca sa _ (a2 20 x1.toNatClampNeg) f2 a2 b2 _ _ hw)) (o := 0) (ho := by decide) (hko := kS_o0) (hci := rfl) (hg := wl_good) (w1 := (tm2 (i := 30) rfl rfl)) (w2 := (tm2 (i := 32) rfl rfl)) (w3 := (tm0 (i := 2) rfl rfl)) (w4 := (tm1 (i := 1) rfl rfl)) (w5 := (tm2 (i := 33) rfl rfl)) (hd := ⟨rfl, by decide, by decide, by decide +kernel⟩) (hrc := rfl) (hrs := rfl) (hR := ⟨Nat.le_of_ble_eq_true rfl, Nat.le_of_ble_eq_true rfl⟩) (hn := rfl) (hsz := hl.1) (hst := rfl) (hW := Nat.le_of_ble_eq_true rfl) (hdg := dS_alternative_12) (hf := ⟨Nat.le_of_ble_eq_true rfl, Nat.le_of_ble_eq_true rfl⟩) (fun E ce q9 f1 a1 b1 H1 locs1 hw K hce hv hcl => outX X hex K hw hce hv hcl (by decide) (by decide)) (fun f12 a12 b12 H locs hw K => ?_)
  refine lv_iconst (v := (-1 : Int32)) hx hb dS_alternative_15 (by decide) ?_
  refine lv_istore_n (lv' := [(2, .int (-1 : Int32)), (0, .ref (ad 0)), (1, .int x1)]) hx hb dS_alternative_16 rfl hl (by decide) rfl (fun ls hl => ?_)
  refine lv_iconst (v := (0 : Int32)) hx hb dS_alternative_17 (by decide) ?_
  refine lv_istore_n (lv' := [(3, .int (0 : Int32)), (2, .int (-1 : Int32)), (0, .ref (ad 0)), (1, .int x1)]) hx hb dS_alternative_18 rfl hl (by decide) rfl (fun ls hl => ?_)
  obtain ⟨n9, hw⟩ := hw
  exact LS_alternative_19 X hex hr n9 x1 (-1 : Int32) (0 : Int32) f12 a12 b12 hw _ _ K _ (lv_sub hl [2, 3, 1, 0] rfl)
set_option maxHeartbeats 4000000 in
set_option maxRecDepth 100000 in
theorem LS_anyCanFill_2 {p : Program} {l : Launch} {e : Env} {s : State} {m : MethodId} {below : List Frame} {meth : Method} {c : Code} {D : va_G} {sa : Nat → Nat} {ad : Nat → Nat} {ca : Nat → ClassId} {A : Nat → Prop} {y1 : Int32} {po : Int32 → wF → wA → wB → Prop} (X : cx Wl (tyS ca) txS D vwCl sa A p l s m ([.ref (ad 0), .int y1] : List Value).toArray meth c cS_anyCanFill 3 "SendBest") (hex : ∀ x ∈ c.exceptionTable.toList, False) (hr : meth.sig.returnType = (some .boolean)) : ∀ n : Nat, ∀ (x1 : Int32) (x2 : Int32) (f : wF) (a : wA) (b : wB), wp_S_anyCanFill_2 po n x1 x2 f a b → ∀ (H : Heap) (locs : List Loc), wd nS kS D vwCl ad ca A s H locs f a b → ∀ (ls : Array Slot), lv_has ls 3 [(0, .ref (ad 0)), (1, .int x1), (2, .int x2)] → W p l e ({ frames := 2, cells := 0, slots := 0, locals := 46 }) s m ([.ref (ad 0), .int y1] : List Value).toArray below meth c H locs 0 0 (vx_MQ below (va_Qi (fun r (u : wF × wA × wB) => po r u.1 u.2.1 u.2.2) (sPost nS kS D vwCl ad ca A) A) (sX nS kS D vwCl ad ca A (fun _ _ _ _ => False)) ([.ref (ad 0), .int y1] : List Value).toArray s 0 0 A) (F0 m 2 ls []) := by
  obtain ⟨hx, hb, hml, hown, hts, hK, hA, hth, hlk, hl9⟩ := id X
  intro n
  induction n with
  | zero => intro x1 x2 f a b hw; exact hw.elim
  | succ n ih =>
    intro x1 x2 f a b hw H locs K ls hl
    dsimp only [wp_S_anyCanFill_2] at hw
    refine lv_iload_n hx hb dS_anyCanFill_2 rfl (lv_at hl 2 rfl) ?_
    refine lv_aload_n hx hb dS_anyCanFill_3 rfl (lv_at hl 0 rfl) ?_
    refine gGet X K (o := 0) (k := 0) (v := .int (f 0)) (by decide) kS_o0 rfl inS_o0 (by decide) (tm1 (i := 82) rfl rfl) rfl dS_anyCanFill_4 ?_
    refine lv_icmp_ge (tgt := 27) hx hb dS_anyCanFill_7 (by decide) (fun hc => ?_) (fun hc => ?_)
    · replace hw := hw.1 hc
      refine lv_iconst (v := (0 : Int32)) hx hb dS_anyCanFill_27 (by decide) ?_
      exact endI X K hr hw.1 hw.2 (by decide) (by decide) dS_anyCanFill_28
    · replace hw := hw.2 hc
      refine lv_aload_n hx hb dS_anyCanFill_10 rfl (lv_at hl 0 rfl) ?_
      refine lv_iload_n hx hb dS_anyCanFill_11 rfl (lv_at hl 2 rfl) ?_
      refine lv_iload_n hx hb dS_anyCanFill_12 rfl (lv_at hl 1 rfl) ?_
      refine gcI X K (n0 := 2) (As := [.int x2, .int x1]) (rest := []) (hM := (met_S_canFill hl9 D ad ca sa _ x2 x1 f a b _ hw)) (o := 0) (ho := by decide) (hko := kS_o0) (hci := rfl) (hg := wl_good) (w1 := (tm2 (i := 144) rfl rfl)) (w2 := (tm2 (i := 146) rfl rfl)) (w3 := (tm0 (i := 10) rfl rfl)) (w4 := (tm1 (i := 1) rfl rfl)) (w5 := (tm2 (i := 147) rfl rfl)) (hd := ⟨rfl, by decide, by decide, by decide +kernel⟩) (hrc := rfl) (hrs := rfl) (hR := ⟨Nat.le_of_ble_eq_true rfl, Nat.le_of_ble_eq_true rfl⟩) (hn := rfl) (hsz := hl.1) (hst := rfl) (hW := Nat.le_of_ble_eq_true rfl) (hdg := dS_anyCanFill_13) (hf := ⟨Nat.le_of_ble_eq_true rfl, Nat.le_of_ble_eq_true rfl⟩) (fun _ _ _ _ _ _ _ _ hw => hw.elim) (fun r13 f13 a13 b13 H locs hw K => ?_)
      refine lv_if_eq (tgt := 21) hx hb dS_anyCanFill_16 (by decide) (fun hc => ?_) (fun hc => ?_)
      · replace hw := hw.1 hc
        refine lv_iinc (v := (x2 + (1 : Int32))) (lv' := [(2, .int (x2 + (1 : Int32))), (0, .ref (ad 0)), (1, .int x1)]) hx hb dS_anyCanFill_21 hl (k := 2) rfl rfl (by decide) rfl (fun ls hl => ?_)
        refine lv_goto (tgt := 2) hx hb dS_anyCanFill_24 (by decide) ?_
        exact ih x1 (x2 + (1 : Int32)) f13 a13 b13 hw _ _ K _ (lv_sub hl [1, 2, 0] rfl)
      · replace hw := hw.2 hc
        refine lv_iconst (v := (1 : Int32)) hx hb dS_anyCanFill_19 (by decide) ?_
        exact endI X K hr hw.1 hw.2 (by decide) (by decide) dS_anyCanFill_20
set_option maxHeartbeats 4000000 in
set_option maxRecDepth 100000 in
theorem met_S_anyCanFill {l : Launch} (hl9 : l.stackTraces = false) (D : va_G) (ad : Nat → Nat) (ca : Nat → ClassId) (sa : Nat → Nat) (sz : Nat) (x1 : Int32) (f : wF) (a : wA) (b : wB) (po : Int32 → wF → wA → wB → Prop) (hw : wp_S_anyCanFill po x1 f a b) : mI nS kS (tyS ca) txS D vwCl l yS_anyCanFill (Cond.code yS_anyCanFill cS_anyCanFill 3 (some .boolean) :: Wl) ({ frames := 2, cells := 0, slots := 0, locals := 46 }) [.ref (ad 0), .int x1] ad ca sa sz f a b po (fun _ _ _ _ => False) 0 0 := by
  refine ofI (by decide) hl9 (Nat.le_of_ble_eq_true rfl) ?_
  intro p e s m below meth c ls X hex hr K hl
  obtain ⟨hx, hb, hml, hown, hts, hK, hA, hth, hlk, hl9⟩ := id X
  have hl : lv_has ls 3 [(0, .ref (ad 0)), (1, .int x1)] := hl
  dsimp only [wp_S_anyCanFill] at hw
  refine lv_iconst (v := (0 : Int32)) hx hb dS_anyCanFill_0 (by decide) ?_
  refine lv_istore_n (lv' := [(2, .int (0 : Int32)), (0, .ref (ad 0)), (1, .int x1)]) hx hb dS_anyCanFill_1 rfl hl (by decide) rfl (fun ls hl => ?_)
  obtain ⟨n9, hw⟩ := hw
  exact LS_anyCanFill_2 X hex hr n9 x1 (0 : Int32) f a b hw _ _ K _ (lv_sub hl [1, 2, 0] rfl)
set_option maxHeartbeats 4000000 in
set_option maxRecDepth 100000 in
theorem LS_never_52 {p : Program} {l : Launch} {e : Env} {s : State} {m : MethodId} {below : List Frame} {meth : Method} {c : Code} {D : va_G} {sa : Nat → Nat} {ad : Nat → Nat} {ca : Nat → ClassId} {A : Nat → Prop} {y1 : Int32} {po : Int32 → wF → wA → wB → Prop} {px : String → wF → wA → wB → Prop} (X : cx Wl (tyS ca) txS D vwCl sa A p l s m ([.ref (ad 0), .int y1] : List Value).toArray meth c cS_never 4 "SendBest") (hex : ∀ x ∈ c.exceptionTable.toList, False) (hr : meth.sig.returnType = (some .int)) (J18 : Int32 → Int32 → Int32 → wF → wA → wB → Prop) (hJ18 : ∀ (x1 : Int32) (x2 : Int32) (x3 : Int32) (f : wF) (a : wA) (b : wB), J18 x1 x2 x3 f a b → ∀ (H : Heap) (locs : List Loc), wd nS kS D vwCl ad ca A s H locs f a b → ∀ (ls : Array Slot), lv_has ls 4 [(0, .ref (ad 0)), (1, .int x1), (2, .int x2), (3, .int x3)] → W p l e ({ frames := 6, cells := 1, slots := 6, locals := 82 }) s m ([.ref (ad 0), .int y1] : List Value).toArray below meth c H locs 0 0 (vx_MQ below (va_Qi (fun r (u : wF × wA × wB) => po r u.1 u.2.1 u.2.2) (sPost nS kS D vwCl ad ca A) A) (sX nS kS D vwCl ad ca A px) ([.ref (ad 0), .int y1] : List Value).toArray s 1 6 A) (F0 m 18 ls [])) : ∀ (x1 : Int32) (x2 : Int32) (x3 : Int32) (f : wF) (a : wA) (b : wB), wp_S_never_52 po px J18 x1 x2 x3 f a b → ∀ (H : Heap) (locs : List Loc), wd nS kS D vwCl ad ca A s H locs f a b → ∀ (ls : Array Slot), lv_has ls 4 [(0, .ref (ad 0)), (1, .int x1), (2, .int x2), (3, .int x3)] → W p l e ({ frames := 6, cells := 1, slots := 6, locals := 82 }) s m ([.ref (ad 0), .int y1] : List Value).toArray below meth c H locs 0 0 (vx_MQ below (va_Qi (fun r (u : wF × wA × wB) => po r u.1 u.2.1 u.2.2) (sPost nS kS D vwCl ad ca A) A) (sX nS kS D vwCl ad ca A px) ([.ref (ad 0), .int y1] : List Value).toArray s 1 6 A) (F0 m 52 ls []) := by
  obtain ⟨hx, hb, hml, hown, hts, hK, hA, hth, hlk, hl9⟩ := id X
  intro x1 x2 x3 f a b hw H locs K ls hl
  dsimp only [wp_S_never_52] at hw
  refine lv_iinc (v := (x3 + (1 : Int32))) (lv' := [(3, .int (x3 + (1 : Int32))), (0, .ref (ad 0)), (1, .int x1), (2, .int x2)]) hx hb dS_never_52 hl (k := 3) rfl rfl (by decide) rfl (fun ls hl => ?_)
  refine lv_goto (tgt := 18) hx hb dS_never_55 (by decide) ?_
  exact hJ18 x1 x2 (x3 + (1 : Int32)) f a b hw _ _ K _ (lv_sub hl [1, 2, 3, 0] rfl)
set_option maxHeartbeats 4000000 in
set_option maxRecDepth 100000 in
theorem LS_never_18 {p : Program} {l : Launch} {e : Env} {s : State} {m : MethodId} {below : List Frame} {meth : Method} {c : Code} {D : va_G} {sa : Nat → Nat} {ad : Nat → Nat} {ca : Nat → ClassId} {A : Nat → Prop} {y1 : Int32} {po : Int32 → wF → wA → wB → Prop} {px : String → wF → wA → wB → Prop} (X : cx Wl (tyS ca) txS D vwCl sa A p l s m ([.ref (ad 0), .int y1] : List Value).toArray meth c cS_never 4 "SendBest") (hex : ∀ x ∈ c.exceptionTable.toList, False) (hr : meth.sig.returnType = (some .int)) : ∀ n : Nat, ∀ (x1 : Int32) (x2 : Int32) (x3 : Int32) (f : wF) (a : wA) (b : wB), wp_S_never_18 po px n x1 x2 x3 f a b → ∀ (H : Heap) (locs : List Loc), wd nS kS D vwCl ad ca A s H locs f a b → ∀ (ls : Array Slot), lv_has ls 4 [(0, .ref (ad 0)), (1, .int x1), (2, .int x2), (3, .int x3)] → W p l e ({ frames := 6, cells := 1, slots := 6, locals := 82 }) s m ([.ref (ad 0), .int y1] : List Value).toArray below meth c H locs 0 0 (vx_MQ below (va_Qi (fun r (u : wF × wA × wB) => po r u.1 u.2.1 u.2.2) (sPost nS kS D vwCl ad ca A) A) (sX nS kS D vwCl ad ca A px) ([.ref (ad 0), .int y1] : List Value).toArray s 1 6 A) (F0 m 18 ls []) := by
  obtain ⟨hx, hb, hml, hown, hts, hK, hA, hth, hlk, hl9⟩ := id X
  intro n
  induction n with
  | zero => intro x1 x2 x3 f a b hw; exact hw.elim
  | succ n ih =>
    intro x1 x2 x3 f a b hw H locs K ls hl
    dsimp only [wp_S_never_18] at hw
    refine lv_iload_n hx hb dS_never_18 rfl (lv_at hl 3 rfl) ?_
    refine lv_aload_n hx hb dS_never_19 rfl (lv_at hl 0 rfl) ?_
    refine gGet X K (o := 0) (k := 9) (v := .int (f 2)) (by decide) kS_o0 rfl inS_o0 (by decide) (tm1 (i := 91) rfl rfl) rfl dS_never_20 ?_
    refine lv_icmp_ge (tgt := 58) hx hb dS_never_23 (by decide) (fun hc => ?_) (fun hc => ?_)
    · replace hw := hw.1 hc
      refine lv_iconst (v := (-1 : Int32)) hx hb dS_never_58 (by decide) ?_
      exact endI X K hr rfl hw (by decide) (by decide) dS_never_59
    · replace hw := hw.2 hc
      refine lv_aload_n hx hb dS_never_26 rfl (lv_at hl 0 rfl) ?_
      refine lv_iload_n hx hb dS_never_27 rfl (lv_at hl 3 rfl) ?_
      refine gcI X K (n0 := 1) (As := [.int x3]) (rest := []) (hM := (met_S_isOpenNeed hl9 D ad ca sa _ x3 f a b _ hw)) (o := 0) (ho := by decide) (hko := kS_o0) (hci := rfl) (hg := wl_good) (w1 := (tm2 (i := 132) rfl rfl)) (w2 := (tm2 (i := 134) rfl rfl)) (w3 := (tm0 (i := 7) rfl rfl)) (w4 := (tm1 (i := 1) rfl rfl)) (w5 := (tm2 (i := 135) rfl rfl)) (hd := ⟨rfl, by decide, by decide, by decide +kernel⟩) (hrc := rfl) (hrs := rfl) (hR := ⟨Nat.le_of_ble_eq_true rfl, Nat.le_of_ble_eq_true rfl⟩) (hn := rfl) (hsz := hl.1) (hst := rfl) (hW := Nat.le_of_ble_eq_true rfl) (hdg := dS_never_28) (hf := ⟨Nat.le_of_ble_eq_true rfl, Nat.le_of_ble_eq_true rfl⟩) (fun _ _ _ _ _ _ _ _ hw => hw.elim) (fun r28 f28 a28 b28 H locs hw K => ?_)
      refine lv_if_eq (tgt := 52) hx hb dS_never_31 (by decide) (fun hc => ?_) (fun hc => ?_)
      · replace hw := hw.1 hc
        exact LS_never_52 X hex hr (wp_S_never_18 po px n) ih x1 x2 x3 f28 a28 b28 hw _ _ K _ (lv_sub hl [0, 1, 2, 3] rfl)
      · replace hw := hw.2 hc
        refine lv_aload_n hx hb dS_never_34 rfl (lv_at hl 0 rfl) ?_
        refine lv_iload_n hx hb dS_never_35 rfl (lv_at hl 3 rfl) ?_
        refine gcI X K (n0 := 1) (As := [.int x3]) (rest := []) (hM := (met_S_anyCanFill hl9 D ad ca sa _ x3 f28 a28 b28 _ hw)) (o := 0) (ho := by decide) (hko := kS_o0) (hci := rfl) (hg := wl_good) (w1 := (tm3 (i := 92) rfl rfl)) (w2 := (tm3 (i := 94) rfl rfl)) (w3 := (tm0 (i := 29) rfl rfl)) (w4 := (tm1 (i := 1) rfl rfl)) (w5 := (tm3 (i := 95) rfl rfl)) (hd := ⟨rfl, by decide, by decide, by decide +kernel⟩) (hrc := rfl) (hrs := rfl) (hR := ⟨Nat.le_of_ble_eq_true rfl, Nat.le_of_ble_eq_true rfl⟩) (hn := rfl) (hsz := hl.1) (hst := rfl) (hW := Nat.le_of_ble_eq_true rfl) (hdg := dS_never_36) (hf := ⟨Nat.le_of_ble_eq_true rfl, Nat.le_of_ble_eq_true rfl⟩) (fun _ _ _ _ _ _ _ _ hw => hw.elim) (fun r36 f36 a36 b36 H locs hw K => ?_)
        refine lv_if_ne (tgt := 52) hx hb dS_never_39 (by decide) (fun hc => ?_) (fun hc => ?_)
        · replace hw := hw.1 hc
          exact LS_never_52 X hex hr (wp_S_never_18 po px n) ih x1 x2 x3 f36 a36 b36 hw _ _ K _ (lv_sub hl [0, 1, 2, 3] rfl)
        · replace hw := hw.2 hc
          refine lv_iload_n hx hb dS_never_42 rfl (lv_at hl 2 rfl) ?_
          refine lv_iload_n hx hb dS_never_43 rfl (lv_at hl 1 rfl) ?_
          refine lv_icmp_ne (tgt := 49) hx hb dS_never_44 (by decide) (fun hc => ?_) (fun hc => ?_)
          · replace hw := hw.1 hc
            refine lv_iinc (v := (x2 + (1 : Int32))) (lv' := [(2, .int (x2 + (1 : Int32))), (0, .ref (ad 0)), (1, .int x1), (3, .int x3)]) hx hb dS_never_49 hl (k := 2) rfl rfl (by decide) rfl (fun ls hl => ?_)
            exact LS_never_52 X hex hr (wp_S_never_18 po px n) ih x1 (x2 + (1 : Int32)) x3 f36 a36 b36 hw _ _ K _ (lv_sub hl [1, 2, 0, 3] rfl)
          · replace hw := hw.2 hc
            refine lv_iload_n hx hb dS_never_47 rfl (lv_at hl 3 rfl) ?_
            exact endI X K hr rfl hw (by decide) (by decide) dS_never_48
set_option maxHeartbeats 4000000 in
set_option maxRecDepth 100000 in
theorem met_S_never {l : Launch} (hl9 : l.stackTraces = false) (D : va_G) (ad : Nat → Nat) (ca : Nat → ClassId) (sa : Nat → Nat) (sz : Nat) (x1 : Int32) (f : wF) (a : wA) (b : wB) (po : Int32 → wF → wA → wB → Prop) (px : String → wF → wA → wB → Prop) (hw : wp_S_never po px x1 f a b) : mI nS kS (tyS ca) txS D vwCl l yS_never (Cond.code yS_never cS_never 4 (some .int) :: Wl) ({ frames := 6, cells := 1, slots := 6, locals := 82 }) [.ref (ad 0), .int x1] ad ca sa sz f a b po px 1 6 := by
  refine ofI (by decide) hl9 (Nat.le_of_ble_eq_true rfl) ?_
  intro p e s m below meth c ls X hex hr K hl
  obtain ⟨hx, hb, hml, hown, hts, hK, hA, hth, hlk, hl9⟩ := id X
  have hl : lv_has ls 4 [(0, .ref (ad 0)), (1, .int x1)] := hl
  dsimp only [wp_S_never] at hw
  refine lv_iload_n hx hb dS_never_0 rfl (lv_at hl 1 rfl) ?_
  refine lv_if_ge (tgt := 14) hx hb dS_never_1 (by decide) (fun hc => ?_) (fun hc => ?_)
  · replace hw := hw.1 hc
    refine lv_iconst (v := (0 : Int32)) hx hb dS_never_14 (by decide) ?_
    refine lv_istore_n (lv' := [(2, .int (0 : Int32)), (0, .ref (ad 0)), (1, .int x1)]) hx hb dS_never_15 rfl hl (by decide) rfl (fun ls hl => ?_)
    refine lv_iconst (v := (0 : Int32)) hx hb dS_never_16 (by decide) ?_
    refine lv_istore_n (lv' := [(3, .int (0 : Int32)), (2, .int (0 : Int32)), (0, .ref (ad 0)), (1, .int x1)]) hx hb dS_never_17 rfl hl (by decide) rfl (fun ls hl => ?_)
    obtain ⟨n9, hw⟩ := hw
    exact LS_never_18 X hex hr n9 x1 (0 : Int32) (0 : Int32) f a b hw _ _ K _ (lv_sub hl [2, 3, 1, 0] rfl)
  · replace hw := hw.2 hc
    exact throwX X hex K (k := 19) (names := ["java/lang/RuntimeException", "java/lang/Exception"]) hw (by decide +kernel) (by decide +kernel) rfl (tm1 (i := 144) rfl rfl) (tm1 (i := 8) rfl rfl) xg_S_71 xb_S_71 xo_S_71_67 hl.1 dS_never_4 dS_never_7 dS_never_8 dS_never_10 dS_never_13 (by decide) (by decide) (by decide) (by decide) (by decide) (by decide)
