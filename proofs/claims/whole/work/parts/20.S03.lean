set_option maxHeartbeats 4000000 in
set_option maxRecDepth 100000 in
theorem LP_total_26_50_34 {p : Program} {l : Launch} {e : Env} {s : State} {m : MethodId} {below : List Frame} {meth : Method} {c : Code} {D : va_G} {sa : Nat → Nat} {ad : Nat → Nat} {ca : Nat → ClassId} {A : Nat → Prop} {po : Int64 → wF → wA → wB → Prop} (X : cx Wl (tyS ca) txS D vwCl sa A p l s m ([.ref (ad 24), .ref (ad 26), .ref (ad 50)] : List Value).toArray meth c cP_total 6 "SendBest$Pairing") (hex : ∀ x ∈ c.exceptionTable.toList, False) (hr : meth.sig.returnType = (some .long)) (J5 : Int64 → Int32 → wF → wA → wB → Prop) (hJ5 : ∀ (x3 : Int64) (x5 : Int32) (f : wF) (a : wA) (b : wB), J5 x3 x5 f a b → ∀ (H : Heap) (locs : List Loc), wd nS kS D vwCl ad ca A s H locs f a b → ∀ (ls : Array Slot), lv_has ls 6 [(0, .ref (ad 24)), (1, .ref (ad 26)), (2, .ref (ad 50)), (3, .long x3), (5, .int x5)] → W p l e ({ frames := 0, cells := 0, slots := 0, locals := 0 }) s m ([.ref (ad 24), .ref (ad 26), .ref (ad 50)] : List Value).toArray below meth c H locs 0 0 (vx_MQ below (va_Ql (fun r (u : wF × wA × wB) => po r u.1 u.2.1 u.2.2) (sPost nS kS D vwCl ad ca A) A) (sX nS kS D vwCl ad ca A (fun _ _ _ _ => False)) ([.ref (ad 24), .ref (ad 26), .ref (ad 50)] : List Value).toArray s 0 0 A) (F0 m 5 ls [])) : ∀ (x3 : Int64) (x5 : Int32) (f : wF) (a : wA) (b : wB), wp_P_total_26_50_34 po J5 x3 x5 f a b → ∀ (H : Heap) (locs : List Loc), wd nS kS D vwCl ad ca A s H locs f a b → ∀ (ls : Array Slot), lv_has ls 6 [(0, .ref (ad 24)), (1, .ref (ad 26)), (2, .ref (ad 50)), (3, .long x3), (5, .int x5)] → W p l e ({ frames := 0, cells := 0, slots := 0, locals := 0 }) s m ([.ref (ad 24), .ref (ad 26), .ref (ad 50)] : List Value).toArray below meth c H locs 0 0 (vx_MQ below (va_Ql (fun r (u : wF × wA × wB) => po r u.1 u.2.1 u.2.2) (sPost nS kS D vwCl ad ca A) A) (sX nS kS D vwCl ad ca A (fun _ _ _ _ => False)) ([.ref (ad 24), .ref (ad 26), .ref (ad 50)] : List Value).toArray s 0 0 A) (F0 m 34 ls []) := by
  obtain ⟨hx, hb, hml, hown, hts, hK, hA, hth, hlk, hl9⟩ := id X
  intro x3 x5 f a b hw H locs K ls hl
  dsimp only [wp_P_total_26_50_34] at hw
  refine lv_iinc (v := (x5 + (1 : Int32))) (lv' := [(5, .int (x5 + (1 : Int32))), (0, .ref (ad 24)), (1, .ref (ad 26)), (2, .ref (ad 50)), (3, .long x3)]) hx hb dP_total_34 hl (k := 4) rfl rfl (by decide) rfl (fun ls hl => ?_)
  refine lv_goto (tgt := 5) hx hb dP_total_37 (by decide) ?_
  exact hJ5 x3 (x5 + (1 : Int32)) f a b hw _ _ K _ (lv_sub hl [1, 2, 3, 4, 0] rfl)
set_option maxHeartbeats 4000000 in
set_option maxRecDepth 100000 in
theorem LP_total_26_50_5 {p : Program} {l : Launch} {e : Env} {s : State} {m : MethodId} {below : List Frame} {meth : Method} {c : Code} {D : va_G} {sa : Nat → Nat} {ad : Nat → Nat} {ca : Nat → ClassId} {A : Nat → Prop} {po : Int64 → wF → wA → wB → Prop} (X : cx Wl (tyS ca) txS D vwCl sa A p l s m ([.ref (ad 24), .ref (ad 26), .ref (ad 50)] : List Value).toArray meth c cP_total 6 "SendBest$Pairing") (hex : ∀ x ∈ c.exceptionTable.toList, False) (hr : meth.sig.returnType = (some .long)) : ∀ n : Nat, ∀ (x3 : Int64) (x5 : Int32) (f : wF) (a : wA) (b : wB), wp_P_total_26_50_5 po n x3 x5 f a b → ∀ (H : Heap) (locs : List Loc), wd nS kS D vwCl ad ca A s H locs f a b → ∀ (ls : Array Slot), lv_has ls 6 [(0, .ref (ad 24)), (1, .ref (ad 26)), (2, .ref (ad 50)), (3, .long x3), (5, .int x5)] → W p l e ({ frames := 0, cells := 0, slots := 0, locals := 0 }) s m ([.ref (ad 24), .ref (ad 26), .ref (ad 50)] : List Value).toArray below meth c H locs 0 0 (vx_MQ below (va_Ql (fun r (u : wF × wA × wB) => po r u.1 u.2.1 u.2.2) (sPost nS kS D vwCl ad ca A) A) (sX nS kS D vwCl ad ca A (fun _ _ _ _ => False)) ([.ref (ad 24), .ref (ad 26), .ref (ad 50)] : List Value).toArray s 0 0 A) (F0 m 5 ls []) := by
  obtain ⟨hx, hb, hml, hown, hts, hK, hA, hth, hlk, hl9⟩ := id X
  intro n
  induction n with
  | zero => intro x3 x5 f a b hw; exact hw.elim
  | succ n ih =>
    intro x3 x5 f a b hw H locs K ls hl
    dsimp only [wp_P_total_26_50_5] at hw
    refine lv_iload hx hb dP_total_5 (lv_at hl 4 rfl) ?_
    refine lv_aload_n hx hb dP_total_7 rfl (lv_at hl 0 rfl) ?_
    refine gGet X K (o := 24) (k := 0) (v := .int (f 5)) (by decide) kS_o24 rfl inS_o24 (by decide) (tm1 (i := 33) rfl rfl) rfl dP_total_8 ?_
    refine lv_icmp_ge (tgt := 40) hx hb dP_total_11 (by decide) (fun hc => ?_) (fun hc => ?_)
    · replace hw := hw.1 hc
      refine lv_lload_n hx hb dP_total_40 rfl (lv_at hl 3 rfl) ?_
      exact endL X K hr hw (by decide) (by decide) dP_total_41
    · replace hw := hw.2 hc
      refine lv_aload_n hx hb dP_total_14 rfl (lv_at hl 2 rfl) ?_
      refine lv_iload hx hb dP_total_15 (lv_at hl 4 rfl) ?_
      obtain ⟨hi, hw⟩ := hw
      refine gild X K (o := 50) (t0 := 0) (by decide) kS_c50 rfl hi dP_total_17 ?_
      refine lv_iconst (v := (-1 : Int32)) hx hb dP_total_18 (by decide) ?_
      refine lv_icmp_eq (tgt := 34) hx hb dP_total_19 (by decide) (fun hc => ?_) (fun hc => ?_)
      · replace hw := hw.1 hc
        exact LP_total_26_50_34 X hex hr (wp_P_total_26_50_5 po n) ih x3 x5 f a b hw _ _ K _ (lv_sub hl [0, 1, 2, 3, 4] rfl)
      · replace hw := hw.2 hc
        refine lv_lload_n hx hb dP_total_22 rfl (lv_at hl 3 rfl) ?_
        refine lv_aload_n hx hb dP_total_23 rfl (lv_at hl 1 rfl) ?_
        refine lv_iload hx hb dP_total_24 (lv_at hl 4 rfl) ?_
        obtain ⟨hi_cost, hw⟩ := hw
        refine gald X K (o := 26) (t0 := 4) (by decide) kS_c26 rfl hi_cost dP_total_26 ?_
        refine lv_aload_n hx hb dP_total_27 rfl (lv_at hl 2 rfl) ?_
        refine lv_iload hx hb dP_total_28 (lv_at hl 4 rfl) ?_
        obtain ⟨hi, hw⟩ := hw
        refine gild X K (o := 50) (t0 := 0) (by decide) kS_c50 rfl hi dP_total_30 ?_
        obtain ⟨hi, hw⟩ := hw
        refine glld X K (o := (27 + x5.toNatClampNeg)) (t0 := 2) (rS_cost_lt hi_cost) (kS_r_cost hi_cost) rfl hi dP_total_31 ?_
        refine lv_ladd hx hb dP_total_32 ?_
        refine lv_lstore_n (lv' := [(3, .long (x3 + (b (27 + x5.toNatClampNeg) (a 50 x5.toNatClampNeg).toNatClampNeg))), (0, .ref (ad 24)), (1, .ref (ad 26)), (2, .ref (ad 50)), (5, .int x5)]) hx hb dP_total_33 rfl hl (by decide) rfl (fun ls hl => ?_)
        exact LP_total_26_50_34 X hex hr (wp_P_total_26_50_5 po n) ih (x3 + (b (27 + x5.toNatClampNeg) (a 50 x5.toNatClampNeg).toNatClampNeg)) x5 f a b hw _ _ K _ (lv_sub hl [1, 2, 3, 0, 4] rfl)
set_option maxHeartbeats 4000000 in
set_option maxRecDepth 100000 in
theorem met_P_total_26_50 {l : Launch} (hl9 : l.stackTraces = false) (D : va_G) (ad : Nat → Nat) (ca : Nat → ClassId) (sa : Nat → Nat) (sz : Nat)  (f : wF) (a : wA) (b : wB) (po : Int64 → wF → wA → wB → Prop) (hw : wp_P_total_26_50 po f a b) : mL nS kS (tyS ca) txS D vwCl l yP_total (Cond.code yP_total cP_total 6 (some .long) :: Wl) ({ frames := 0, cells := 0, slots := 0, locals := 0 }) [.ref (ad 24), .ref (ad 26), .ref (ad 50)] ad ca sa sz f a b po (fun _ _ _ _ => False) 0 0 := by
  refine ofL (by decide) hl9 (Nat.le_of_ble_eq_true rfl) ?_
  intro p e s m below meth c ls X hex hr K hl
  obtain ⟨hx, hb, hml, hown, hts, hK, hA, hth, hlk, hl9⟩ := id X
  have hl : lv_has ls 6 [(0, .ref (ad 24)), (1, .ref (ad 26)), (2, .ref (ad 50))] := hl
  dsimp only [wp_P_total_26_50] at hw
  refine lv_lconst (v := (0 : Int64)) hx hb dP_total_0 (by decide) ?_
  refine lv_lstore_n (lv' := [(3, .long (0 : Int64)), (0, .ref (ad 24)), (1, .ref (ad 26)), (2, .ref (ad 50))]) hx hb dP_total_1 rfl hl (by decide) rfl (fun ls hl => ?_)
  refine lv_iconst (v := (0 : Int32)) hx hb dP_total_2 (by decide) ?_
  refine lv_istore (lv' := [(5, .int (0 : Int32)), (3, .long (0 : Int64)), (0, .ref (ad 24)), (1, .ref (ad 26)), (2, .ref (ad 50))]) hx hb dP_total_3 hl (by decide) rfl (fun ls hl => ?_)
  obtain ⟨n9, hw⟩ := hw
  exact LP_total_26_50_5 X hex hr n9 (0 : Int64) (0 : Int32) f a b hw _ _ K _ (lv_sub hl [2, 3, 4, 1, 0] rfl)
set_option maxHeartbeats 4000000 in
set_option maxRecDepth 100000 in
theorem LP_total_37_50_34 {p : Program} {l : Launch} {e : Env} {s : State} {m : MethodId} {below : List Frame} {meth : Method} {c : Code} {D : va_G} {sa : Nat → Nat} {ad : Nat → Nat} {ca : Nat → ClassId} {A : Nat → Prop} {po : Int64 → wF → wA → wB → Prop} (X : cx Wl (tyS ca) txS D vwCl sa A p l s m ([.ref (ad 24), .ref (ad 37), .ref (ad 50)] : List Value).toArray meth c cP_total 6 "SendBest$Pairing") (hex : ∀ x ∈ c.exceptionTable.toList, False) (hr : meth.sig.returnType = (some .long)) (J5 : Int64 → Int32 → wF → wA → wB → Prop) (hJ5 : ∀ (x3 : Int64) (x5 : Int32) (f : wF) (a : wA) (b : wB), J5 x3 x5 f a b → ∀ (H : Heap) (locs : List Loc), wd nS kS D vwCl ad ca A s H locs f a b → ∀ (ls : Array Slot), lv_has ls 6 [(0, .ref (ad 24)), (1, .ref (ad 37)), (2, .ref (ad 50)), (3, .long x3), (5, .int x5)] → W p l e ({ frames := 0, cells := 0, slots := 0, locals := 0 }) s m ([.ref (ad 24), .ref (ad 37), .ref (ad 50)] : List Value).toArray below meth c H locs 0 0 (vx_MQ below (va_Ql (fun r (u : wF × wA × wB) => po r u.1 u.2.1 u.2.2) (sPost nS kS D vwCl ad ca A) A) (sX nS kS D vwCl ad ca A (fun _ _ _ _ => False)) ([.ref (ad 24), .ref (ad 37), .ref (ad 50)] : List Value).toArray s 0 0 A) (F0 m 5 ls [])) : ∀ (x3 : Int64) (x5 : Int32) (f : wF) (a : wA) (b : wB), wp_P_total_37_50_34 po J5 x3 x5 f a b → ∀ (H : Heap) (locs : List Loc), wd nS kS D vwCl ad ca A s H locs f a b → ∀ (ls : Array Slot), lv_has ls 6 [(0, .ref (ad 24)), (1, .ref (ad 37)), (2, .ref (ad 50)), (3, .long x3), (5, .int x5)] → W p l e ({ frames := 0, cells := 0, slots := 0, locals := 0 }) s m ([.ref (ad 24), .ref (ad 37), .ref (ad 50)] : List Value).toArray below meth c H locs 0 0 (vx_MQ below (va_Ql (fun r (u : wF × wA × wB) => po r u.1 u.2.1 u.2.2) (sPost nS kS D vwCl ad ca A) A) (sX nS kS D vwCl ad ca A (fun _ _ _ _ => False)) ([.ref (ad 24), .ref (ad 37), .ref (ad 50)] : List Value).toArray s 0 0 A) (F0 m 34 ls []) := by
  obtain ⟨hx, hb, hml, hown, hts, hK, hA, hth, hlk, hl9⟩ := id X
  intro x3 x5 f a b hw H locs K ls hl
  dsimp only [wp_P_total_37_50_34] at hw
  refine lv_iinc (v := (x5 + (1 : Int32))) (lv' := [(5, .int (x5 + (1 : Int32))), (0, .ref (ad 24)), (1, .ref (ad 37)), (2, .ref (ad 50)), (3, .long x3)]) hx hb dP_total_34 hl (k := 4) rfl rfl (by decide) rfl (fun ls hl => ?_)
  refine lv_goto (tgt := 5) hx hb dP_total_37 (by decide) ?_
  exact hJ5 x3 (x5 + (1 : Int32)) f a b hw _ _ K _ (lv_sub hl [1, 2, 3, 4, 0] rfl)
set_option maxHeartbeats 4000000 in
set_option maxRecDepth 100000 in
theorem LP_total_37_50_5 {p : Program} {l : Launch} {e : Env} {s : State} {m : MethodId} {below : List Frame} {meth : Method} {c : Code} {D : va_G} {sa : Nat → Nat} {ad : Nat → Nat} {ca : Nat → ClassId} {A : Nat → Prop} {po : Int64 → wF → wA → wB → Prop} (X : cx Wl (tyS ca) txS D vwCl sa A p l s m ([.ref (ad 24), .ref (ad 37), .ref (ad 50)] : List Value).toArray meth c cP_total 6 "SendBest$Pairing") (hex : ∀ x ∈ c.exceptionTable.toList, False) (hr : meth.sig.returnType = (some .long)) : ∀ n : Nat, ∀ (x3 : Int64) (x5 : Int32) (f : wF) (a : wA) (b : wB), wp_P_total_37_50_5 po n x3 x5 f a b → ∀ (H : Heap) (locs : List Loc), wd nS kS D vwCl ad ca A s H locs f a b → ∀ (ls : Array Slot), lv_has ls 6 [(0, .ref (ad 24)), (1, .ref (ad 37)), (2, .ref (ad 50)), (3, .long x3), (5, .int x5)] → W p l e ({ frames := 0, cells := 0, slots := 0, locals := 0 }) s m ([.ref (ad 24), .ref (ad 37), .ref (ad 50)] : List Value).toArray below meth c H locs 0 0 (vx_MQ below (va_Ql (fun r (u : wF × wA × wB) => po r u.1 u.2.1 u.2.2) (sPost nS kS D vwCl ad ca A) A) (sX nS kS D vwCl ad ca A (fun _ _ _ _ => False)) ([.ref (ad 24), .ref (ad 37), .ref (ad 50)] : List Value).toArray s 0 0 A) (F0 m 5 ls []) := by
  obtain ⟨hx, hb, hml, hown, hts, hK, hA, hth, hlk, hl9⟩ := id X
  intro n
  induction n with
  | zero => intro x3 x5 f a b hw; exact hw.elim
  | succ n ih =>
    intro x3 x5 f a b hw H locs K ls hl
    dsimp only [wp_P_total_37_50_5] at hw
    refine lv_iload hx hb dP_total_5 (lv_at hl 4 rfl) ?_
    refine lv_aload_n hx hb dP_total_7 rfl (lv_at hl 0 rfl) ?_
    refine gGet X K (o := 24) (k := 0) (v := .int (f 5)) (by decide) kS_o24 rfl inS_o24 (by decide) (tm1 (i := 33) rfl rfl) rfl dP_total_8 ?_
    refine lv_icmp_ge (tgt := 40) hx hb dP_total_11 (by decide) (fun hc => ?_) (fun hc => ?_)
    · replace hw := hw.1 hc
      refine lv_lload_n hx hb dP_total_40 rfl (lv_at hl 3 rfl) ?_
      exact endL X K hr hw (by decide) (by decide) dP_total_41
    · replace hw := hw.2 hc
      refine lv_aload_n hx hb dP_total_14 rfl (lv_at hl 2 rfl) ?_
      refine lv_iload hx hb dP_total_15 (lv_at hl 4 rfl) ?_
      obtain ⟨hi, hw⟩ := hw
      refine gild X K (o := 50) (t0 := 0) (by decide) kS_c50 rfl hi dP_total_17 ?_
      refine lv_iconst (v := (-1 : Int32)) hx hb dP_total_18 (by decide) ?_
      refine lv_icmp_eq (tgt := 34) hx hb dP_total_19 (by decide) (fun hc => ?_) (fun hc => ?_)
      · replace hw := hw.1 hc
        exact LP_total_37_50_34 X hex hr (wp_P_total_37_50_5 po n) ih x3 x5 f a b hw _ _ K _ (lv_sub hl [0, 1, 2, 3, 4] rfl)
      · replace hw := hw.2 hc
        refine lv_lload_n hx hb dP_total_22 rfl (lv_at hl 3 rfl) ?_
        refine lv_aload_n hx hb dP_total_23 rfl (lv_at hl 1 rfl) ?_
        refine lv_iload hx hb dP_total_24 (lv_at hl 4 rfl) ?_
        obtain ⟨hi_tie, hw⟩ := hw
        refine gald X K (o := 37) (t0 := 4) (by decide) kS_c37 rfl hi_tie dP_total_26 ?_
        refine lv_aload_n hx hb dP_total_27 rfl (lv_at hl 2 rfl) ?_
        refine lv_iload hx hb dP_total_28 (lv_at hl 4 rfl) ?_
        obtain ⟨hi, hw⟩ := hw
        refine gild X K (o := 50) (t0 := 0) (by decide) kS_c50 rfl hi dP_total_30 ?_
        obtain ⟨hi, hw⟩ := hw
        refine glld X K (o := (38 + x5.toNatClampNeg)) (t0 := 2) (rS_tie_lt hi_tie) (kS_r_tie hi_tie) rfl hi dP_total_31 ?_
        refine lv_ladd hx hb dP_total_32 ?_
        refine lv_lstore_n (lv' := [(3, .long (x3 + (b (38 + x5.toNatClampNeg) (a 50 x5.toNatClampNeg).toNatClampNeg))), (0, .ref (ad 24)), (1, .ref (ad 37)), (2, .ref (ad 50)), (5, .int x5)]) hx hb dP_total_33 rfl hl (by decide) rfl (fun ls hl => ?_)
        exact LP_total_37_50_34 X hex hr (wp_P_total_37_50_5 po n) ih (x3 + (b (38 + x5.toNatClampNeg) (a 50 x5.toNatClampNeg).toNatClampNeg)) x5 f a b hw _ _ K _ (lv_sub hl [1, 2, 3, 0, 4] rfl)
set_option maxHeartbeats 4000000 in
set_option maxRecDepth 100000 in
theorem met_P_total_37_50 {l : Launch} (hl9 : l.stackTraces = false) (D : va_G) (ad : Nat → Nat) (ca : Nat → ClassId) (sa : Nat → Nat) (sz : Nat)  (f : wF) (a : wA) (b : wB) (po : Int64 → wF → wA → wB → Prop) (hw : wp_P_total_37_50 po f a b) : mL nS kS (tyS ca) txS D vwCl l yP_total (Cond.code yP_total cP_total 6 (some .long) :: Wl) ({ frames := 0, cells := 0, slots := 0, locals := 0 }) [.ref (ad 24), .ref (ad 37), .ref (ad 50)] ad ca sa sz f a b po (fun _ _ _ _ => False) 0 0 := by
  refine ofL (by decide) hl9 (Nat.le_of_ble_eq_true rfl) ?_
  intro p e s m below meth c ls X hex hr K hl
  obtain ⟨hx, hb, hml, hown, hts, hK, hA, hth, hlk, hl9⟩ := id X
  have hl : lv_has ls 6 [(0, .ref (ad 24)), (1, .ref (ad 37)), (2, .ref (ad 50))] := hl
  dsimp only [wp_P_total_37_50] at hw
  refine lv_lconst (v := (0 : Int64)) hx hb dP_total_0 (by decide) ?_
  refine lv_lstore_n (lv' := [(3, .long (0 : Int64)), (0, .ref (ad 24)), (1, .ref (ad 37)), (2, .ref (ad 50))]) hx hb dP_total_1 rfl hl (by decide) rfl (fun ls hl => ?_)
  refine lv_iconst (v := (0 : Int32)) hx hb dP_total_2 (by decide) ?_
  refine lv_istore (lv' := [(5, .int (0 : Int32)), (3, .long (0 : Int64)), (0, .ref (ad 24)), (1, .ref (ad 37)), (2, .ref (ad 50))]) hx hb dP_total_3 hl (by decide) rfl (fun ls hl => ?_)
  obtain ⟨n9, hw⟩ := hw
  exact LP_total_37_50_5 X hex hr n9 (0 : Int64) (0 : Int32) f a b hw _ _ K _ (lv_sub hl [2, 3, 4, 1, 0] rfl)
set_option maxHeartbeats 4000000 in
set_option maxRecDepth 100000 in
theorem LP_total_26_48_34 {p : Program} {l : Launch} {e : Env} {s : State} {m : MethodId} {below : List Frame} {meth : Method} {c : Code} {D : va_G} {sa : Nat → Nat} {ad : Nat → Nat} {ca : Nat → ClassId} {A : Nat → Prop} {po : Int64 → wF → wA → wB → Prop} (X : cx Wl (tyS ca) txS D vwCl sa A p l s m ([.ref (ad 24), .ref (ad 26), .ref (ad 48)] : List Value).toArray meth c cP_total 6 "SendBest$Pairing") (hex : ∀ x ∈ c.exceptionTable.toList, False) (hr : meth.sig.returnType = (some .long)) (J5 : Int64 → Int32 → wF → wA → wB → Prop) (hJ5 : ∀ (x3 : Int64) (x5 : Int32) (f : wF) (a : wA) (b : wB), J5 x3 x5 f a b → ∀ (H : Heap) (locs : List Loc), wd nS kS D vwCl ad ca A s H locs f a b → ∀ (ls : Array Slot), lv_has ls 6 [(0, .ref (ad 24)), (1, .ref (ad 26)), (2, .ref (ad 48)), (3, .long x3), (5, .int x5)] → W p l e ({ frames := 0, cells := 0, slots := 0, locals := 0 }) s m ([.ref (ad 24), .ref (ad 26), .ref (ad 48)] : List Value).toArray below meth c H locs 0 0 (vx_MQ below (va_Ql (fun r (u : wF × wA × wB) => po r u.1 u.2.1 u.2.2) (sPost nS kS D vwCl ad ca A) A) (sX nS kS D vwCl ad ca A (fun _ _ _ _ => False)) ([.ref (ad 24), .ref (ad 26), .ref (ad 48)] : List Value).toArray s 0 0 A) (F0 m 5 ls [])) : ∀ (x3 : Int64) (x5 : Int32) (f : wF) (a : wA) (b : wB), wp_P_total_26_48_34 po J5 x3 x5 f a b → ∀ (H : Heap) (locs : List Loc), wd nS kS D vwCl ad ca A s H locs f a b → ∀ (ls : Array Slot), lv_has ls 6 [(0, .ref (ad 24)), (1, .ref (ad 26)), (2, .ref (ad 48)), (3, .long x3), (5, .int x5)] → W p l e ({ frames := 0, cells := 0, slots := 0, locals := 0 }) s m ([.ref (ad 24), .ref (ad 26), .ref (ad 48)] : List Value).toArray below meth c H locs 0 0 (vx_MQ below (va_Ql (fun r (u : wF × wA × wB) => po r u.1 u.2.1 u.2.2) (sPost nS kS D vwCl ad ca A) A) (sX nS kS D vwCl ad ca A (fun _ _ _ _ => False)) ([.ref (ad 24), .ref (ad 26), .ref (ad 48)] : List Value).toArray s 0 0 A) (F0 m 34 ls []) := by
  obtain ⟨hx, hb, hml, hown, hts, hK, hA, hth, hlk, hl9⟩ := id X
  intro x3 x5 f a b hw H locs K ls hl
  dsimp only [wp_P_total_26_48_34] at hw
  refine lv_iinc (v := (x5 + (1 : Int32))) (lv' := [(5, .int (x5 + (1 : Int32))), (0, .ref (ad 24)), (1, .ref (ad 26)), (2, .ref (ad 48)), (3, .long x3)]) hx hb dP_total_34 hl (k := 4) rfl rfl (by decide) rfl (fun ls hl => ?_)
  refine lv_goto (tgt := 5) hx hb dP_total_37 (by decide) ?_
  exact hJ5 x3 (x5 + (1 : Int32)) f a b hw _ _ K _ (lv_sub hl [1, 2, 3, 4, 0] rfl)
set_option maxHeartbeats 4000000 in
set_option maxRecDepth 100000 in
theorem LP_total_26_48_5 {p : Program} {l : Launch} {e : Env} {s : State} {m : MethodId} {below : List Frame} {meth : Method} {c : Code} {D : va_G} {sa : Nat → Nat} {ad : Nat → Nat} {ca : Nat → ClassId} {A : Nat → Prop} {po : Int64 → wF → wA → wB → Prop} (X : cx Wl (tyS ca) txS D vwCl sa A p l s m ([.ref (ad 24), .ref (ad 26), .ref (ad 48)] : List Value).toArray meth c cP_total 6 "SendBest$Pairing") (hex : ∀ x ∈ c.exceptionTable.toList, False) (hr : meth.sig.returnType = (some .long)) : ∀ n : Nat, ∀ (x3 : Int64) (x5 : Int32) (f : wF) (a : wA) (b : wB), wp_P_total_26_48_5 po n x3 x5 f a b → ∀ (H : Heap) (locs : List Loc), wd nS kS D vwCl ad ca A s H locs f a b → ∀ (ls : Array Slot), lv_has ls 6 [(0, .ref (ad 24)), (1, .ref (ad 26)), (2, .ref (ad 48)), (3, .long x3), (5, .int x5)] → W p l e ({ frames := 0, cells := 0, slots := 0, locals := 0 }) s m ([.ref (ad 24), .ref (ad 26), .ref (ad 48)] : List Value).toArray below meth c H locs 0 0 (vx_MQ below (va_Ql (fun r (u : wF × wA × wB) => po r u.1 u.2.1 u.2.2) (sPost nS kS D vwCl ad ca A) A) (sX nS kS D vwCl ad ca A (fun _ _ _ _ => False)) ([.ref (ad 24), .ref (ad 26), .ref (ad 48)] : List Value).toArray s 0 0 A) (F0 m 5 ls []) := by
  obtain ⟨hx, hb, hml, hown, hts, hK, hA, hth, hlk, hl9⟩ := id X
  intro n
  induction n with
  | zero => intro x3 x5 f a b hw; exact hw.elim
  | succ n ih =>
    intro x3 x5 f a b hw H locs K ls hl
    dsimp only [wp_P_total_26_48_5] at hw
    refine lv_iload hx hb dP_total_5 (lv_at hl 4 rfl) ?_
    refine lv_aload_n hx hb dP_total_7 rfl (lv_at hl 0 rfl) ?_
    refine gGet X K (o := 24) (k := 0) (v := .int (f 5)) (by decide) kS_o24 rfl inS_o24 (by decide) (tm1 (i := 33) rfl rfl) rfl dP_total_8 ?_
    refine lv_icmp_ge (tgt := 40) hx hb dP_total_11 (by decide) (fun hc => ?_) (fun hc => ?_)
    · replace hw := hw.1 hc
      refine lv_lload_n hx hb dP_total_40 rfl (lv_at hl 3 rfl) ?_
      exact endL X K hr hw (by decide) (by decide) dP_total_41
    · replace hw := hw.2 hc
      refine lv_aload_n hx hb dP_total_14 rfl (lv_at hl 2 rfl) ?_
      refine lv_iload hx hb dP_total_15 (lv_at hl 4 rfl) ?_
      obtain ⟨hi, hw⟩ := hw
      refine gild X K (o := 48) (t0 := 0) (by decide) kS_c48 rfl hi dP_total_17 ?_
      refine lv_iconst (v := (-1 : Int32)) hx hb dP_total_18 (by decide) ?_
      refine lv_icmp_eq (tgt := 34) hx hb dP_total_19 (by decide) (fun hc => ?_) (fun hc => ?_)
      · replace hw := hw.1 hc
        exact LP_total_26_48_34 X hex hr (wp_P_total_26_48_5 po n) ih x3 x5 f a b hw _ _ K _ (lv_sub hl [0, 1, 2, 3, 4] rfl)
      · replace hw := hw.2 hc
        refine lv_lload_n hx hb dP_total_22 rfl (lv_at hl 3 rfl) ?_
        refine lv_aload_n hx hb dP_total_23 rfl (lv_at hl 1 rfl) ?_
        refine lv_iload hx hb dP_total_24 (lv_at hl 4 rfl) ?_
        obtain ⟨hi_cost, hw⟩ := hw
        refine gald X K (o := 26) (t0 := 4) (by decide) kS_c26 rfl hi_cost dP_total_26 ?_
        refine lv_aload_n hx hb dP_total_27 rfl (lv_at hl 2 rfl) ?_
        refine lv_iload hx hb dP_total_28 (lv_at hl 4 rfl) ?_
        obtain ⟨hi, hw⟩ := hw
        refine gild X K (o := 48) (t0 := 0) (by decide) kS_c48 rfl hi dP_total_30 ?_
        obtain ⟨hi, hw⟩ := hw
        refine glld X K (o := (27 + x5.toNatClampNeg)) (t0 := 2) (rS_cost_lt hi_cost) (kS_r_cost hi_cost) rfl hi dP_total_31 ?_
        refine lv_ladd hx hb dP_total_32 ?_
        refine lv_lstore_n (lv' := [(3, .long (x3 + (b (27 + x5.toNatClampNeg) (a 48 x5.toNatClampNeg).toNatClampNeg))), (0, .ref (ad 24)), (1, .ref (ad 26)), (2, .ref (ad 48)), (5, .int x5)]) hx hb dP_total_33 rfl hl (by decide) rfl (fun ls hl => ?_)
        exact LP_total_26_48_34 X hex hr (wp_P_total_26_48_5 po n) ih (x3 + (b (27 + x5.toNatClampNeg) (a 48 x5.toNatClampNeg).toNatClampNeg)) x5 f a b hw _ _ K _ (lv_sub hl [1, 2, 3, 0, 4] rfl)
set_option maxHeartbeats 4000000 in
set_option maxRecDepth 100000 in
theorem met_P_total_26_48 {l : Launch} (hl9 : l.stackTraces = false) (D : va_G) (ad : Nat → Nat) (ca : Nat → ClassId) (sa : Nat → Nat) (sz : Nat)  (f : wF) (a : wA) (b : wB) (po : Int64 → wF → wA → wB → Prop) (hw : wp_P_total_26_48 po f a b) : mL nS kS (tyS ca) txS D vwCl l yP_total (Cond.code yP_total cP_total 6 (some .long) :: Wl) ({ frames := 0, cells := 0, slots := 0, locals := 0 }) [.ref (ad 24), .ref (ad 26), .ref (ad 48)] ad ca sa sz f a b po (fun _ _ _ _ => False) 0 0 := by
  refine ofL (by decide) hl9 (Nat.le_of_ble_eq_true rfl) ?_
  intro p e s m below meth c ls X hex hr K hl
  obtain ⟨hx, hb, hml, hown, hts, hK, hA, hth, hlk, hl9⟩ := id X
  have hl : lv_has ls 6 [(0, .ref (ad 24)), (1, .ref (ad 26)), (2, .ref (ad 48))] := hl
  dsimp only [wp_P_total_26_48] at hw
  refine lv_lconst (v := (0 : Int64)) hx hb dP_total_0 (by decide) ?_
  refine lv_lstore_n (lv' := [(3, .long (0 : Int64)), (0, .ref (ad 24)), (1, .ref (ad 26)), (2, .ref (ad 48))]) hx hb dP_total_1 rfl hl (by decide) rfl (fun ls hl => ?_)
  refine lv_iconst (v := (0 : Int32)) hx hb dP_total_2 (by decide) ?_
  refine lv_istore (lv' := [(5, .int (0 : Int32)), (3, .long (0 : Int64)), (0, .ref (ad 24)), (1, .ref (ad 26)), (2, .ref (ad 48))]) hx hb dP_total_3 hl (by decide) rfl (fun ls hl => ?_)
  obtain ⟨n9, hw⟩ := hw
  exact LP_total_26_48_5 X hex hr n9 (0 : Int64) (0 : Int32) f a b hw _ _ K _ (lv_sub hl [2, 3, 4, 1, 0] rfl)
set_option maxHeartbeats 4000000 in
set_option maxRecDepth 100000 in
theorem LP_total_37_48_34 {p : Program} {l : Launch} {e : Env} {s : State} {m : MethodId} {below : List Frame} {meth : Method} {c : Code} {D : va_G} {sa : Nat → Nat} {ad : Nat → Nat} {ca : Nat → ClassId} {A : Nat → Prop} {po : Int64 → wF → wA → wB → Prop} (X : cx Wl (tyS ca) txS D vwCl sa A p l s m ([.ref (ad 24), .ref (ad 37), .ref (ad 48)] : List Value).toArray meth c cP_total 6 "SendBest$Pairing") (hex : ∀ x ∈ c.exceptionTable.toList, False) (hr : meth.sig.returnType = (some .long)) (J5 : Int64 → Int32 → wF → wA → wB → Prop) (hJ5 : ∀ (x3 : Int64) (x5 : Int32) (f : wF) (a : wA) (b : wB), J5 x3 x5 f a b → ∀ (H : Heap) (locs : List Loc), wd nS kS D vwCl ad ca A s H locs f a b → ∀ (ls : Array Slot), lv_has ls 6 [(0, .ref (ad 24)), (1, .ref (ad 37)), (2, .ref (ad 48)), (3, .long x3), (5, .int x5)] → W p l e ({ frames := 0, cells := 0, slots := 0, locals := 0 }) s m ([.ref (ad 24), .ref (ad 37), .ref (ad 48)] : List Value).toArray below meth c H locs 0 0 (vx_MQ below (va_Ql (fun r (u : wF × wA × wB) => po r u.1 u.2.1 u.2.2) (sPost nS kS D vwCl ad ca A) A) (sX nS kS D vwCl ad ca A (fun _ _ _ _ => False)) ([.ref (ad 24), .ref (ad 37), .ref (ad 48)] : List Value).toArray s 0 0 A) (F0 m 5 ls [])) : ∀ (x3 : Int64) (x5 : Int32) (f : wF) (a : wA) (b : wB), wp_P_total_37_48_34 po J5 x3 x5 f a b → ∀ (H : Heap) (locs : List Loc), wd nS kS D vwCl ad ca A s H locs f a b → ∀ (ls : Array Slot), lv_has ls 6 [(0, .ref (ad 24)), (1, .ref (ad 37)), (2, .ref (ad 48)), (3, .long x3), (5, .int x5)] → W p l e ({ frames := 0, cells := 0, slots := 0, locals := 0 }) s m ([.ref (ad 24), .ref (ad 37), .ref (ad 48)] : List Value).toArray below meth c H locs 0 0 (vx_MQ below (va_Ql (fun r (u : wF × wA × wB) => po r u.1 u.2.1 u.2.2) (sPost nS kS D vwCl ad ca A) A) (sX nS kS D vwCl ad ca A (fun _ _ _ _ => False)) ([.ref (ad 24), .ref (ad 37), .ref (ad 48)] : List Value).toArray s 0 0 A) (F0 m 34 ls []) := by
  obtain ⟨hx, hb, hml, hown, hts, hK, hA, hth, hlk, hl9⟩ := id X
  intro x3 x5 f a b hw H locs K ls hl
  dsimp only [wp_P_total_37_48_34] at hw
  refine lv_iinc (v := (x5 + (1 : Int32))) (lv' := [(5, .int (x5 + (1 : Int32))), (0, .ref (ad 24)), (1, .ref (ad 37)), (2, .ref (ad 48)), (3, .long x3)]) hx hb dP_total_34 hl (k := 4) rfl rfl (by decide) rfl (fun ls hl => ?_)
  refine lv_goto (tgt := 5) hx hb dP_total_37 (by decide) ?_
  exact hJ5 x3 (x5 + (1 : Int32)) f a b hw _ _ K _ (lv_sub hl [1, 2, 3, 4, 0] rfl)
set_option maxHeartbeats 4000000 in
set_option maxRecDepth 100000 in
theorem LP_total_37_48_5 {p : Program} {l : Launch} {e : Env} {s : State} {m : MethodId} {below : List Frame} {meth : Method} {c : Code} {D : va_G} {sa : Nat → Nat} {ad : Nat → Nat} {ca : Nat → ClassId} {A : Nat → Prop} {po : Int64 → wF → wA → wB → Prop} (X : cx Wl (tyS ca) txS D vwCl sa A p l s m ([.ref (ad 24), .ref (ad 37), .ref (ad 48)] : List Value).toArray meth c cP_total 6 "SendBest$Pairing") (hex : ∀ x ∈ c.exceptionTable.toList, False) (hr : meth.sig.returnType = (some .long)) : ∀ n : Nat, ∀ (x3 : Int64) (x5 : Int32) (f : wF) (a : wA) (b : wB), wp_P_total_37_48_5 po n x3 x5 f a b → ∀ (H : Heap) (locs : List Loc), wd nS kS D vwCl ad ca A s H locs f a b → ∀ (ls : Array Slot), lv_has ls 6 [(0, .ref (ad 24)), (1, .ref (ad 37)), (2, .ref (ad 48)), (3, .long x3), (5, .int x5)] → W p l e ({ frames := 0, cells := 0, slots := 0, locals := 0 }) s m ([.ref (ad 24), .ref (ad 37), .ref (ad 48)] : List Value).toArray below meth c H locs 0 0 (vx_MQ below (va_Ql (fun r (u : wF × wA × wB) => po r u.1 u.2.1 u.2.2) (sPost nS kS D vwCl ad ca A) A) (sX nS kS D vwCl ad ca A (fun _ _ _ _ => False)) ([.ref (ad 24), .ref (ad 37), .ref (ad 48)] : List Value).toArray s 0 0 A) (F0 m 5 ls []) := by
  obtain ⟨hx, hb, hml, hown, hts, hK, hA, hth, hlk, hl9⟩ := id X
  intro n
  induction n with
  | zero => intro x3 x5 f a b hw; exact hw.elim
  | succ n ih =>
    intro x3 x5 f a b hw H locs K ls hl
    dsimp only [wp_P_total_37_48_5] at hw
    refine lv_iload hx hb dP_total_5 (lv_at hl 4 rfl) ?_
    refine lv_aload_n hx hb dP_total_7 rfl (lv_at hl 0 rfl) ?_
    refine gGet X K (o := 24) (k := 0) (v := .int (f 5)) (by decide) kS_o24 rfl inS_o24 (by decide) (tm1 (i := 33) rfl rfl) rfl dP_total_8 ?_
    refine lv_icmp_ge (tgt := 40) hx hb dP_total_11 (by decide) (fun hc => ?_) (fun hc => ?_)
    · replace hw := hw.1 hc
      refine lv_lload_n hx hb dP_total_40 rfl (lv_at hl 3 rfl) ?_
      exact endL X K hr hw (by decide) (by decide) dP_total_41
    · replace hw := hw.2 hc
      refine lv_aload_n hx hb dP_total_14 rfl (lv_at hl 2 rfl) ?_
      refine lv_iload hx hb dP_total_15 (lv_at hl 4 rfl) ?_
      obtain ⟨hi, hw⟩ := hw
      refine gild X K (o := 48) (t0 := 0) (by decide) kS_c48 rfl hi dP_total_17 ?_
      refine lv_iconst (v := (-1 : Int32)) hx hb dP_total_18 (by decide) ?_
      refine lv_icmp_eq (tgt := 34) hx hb dP_total_19 (by decide) (fun hc => ?_) (fun hc => ?_)
      · replace hw := hw.1 hc
        exact LP_total_37_48_34 X hex hr (wp_P_total_37_48_5 po n) ih x3 x5 f a b hw _ _ K _ (lv_sub hl [0, 1, 2, 3, 4] rfl)
      · replace hw := hw.2 hc
        refine lv_lload_n hx hb dP_total_22 rfl (lv_at hl 3 rfl) ?_
        refine lv_aload_n hx hb dP_total_23 rfl (lv_at hl 1 rfl) ?_
        refine lv_iload hx hb dP_total_24 (lv_at hl 4 rfl) ?_
        obtain ⟨hi_tie, hw⟩ := hw
        refine gald X K (o := 37) (t0 := 4) (by decide) kS_c37 rfl hi_tie dP_total_26 ?_
        refine lv_aload_n hx hb dP_total_27 rfl (lv_at hl 2 rfl) ?_
        refine lv_iload hx hb dP_total_28 (lv_at hl 4 rfl) ?_
        obtain ⟨hi, hw⟩ := hw
        refine gild X K (o := 48) (t0 := 0) (by decide) kS_c48 rfl hi dP_total_30 ?_
        obtain ⟨hi, hw⟩ := hw
        refine glld X K (o := (38 + x5.toNatClampNeg)) (t0 := 2) (rS_tie_lt hi_tie) (kS_r_tie hi_tie) rfl hi dP_total_31 ?_
        refine lv_ladd hx hb dP_total_32 ?_
        refine lv_lstore_n (lv' := [(3, .long (x3 + (b (38 + x5.toNatClampNeg) (a 48 x5.toNatClampNeg).toNatClampNeg))), (0, .ref (ad 24)), (1, .ref (ad 37)), (2, .ref (ad 48)), (5, .int x5)]) hx hb dP_total_33 rfl hl (by decide) rfl (fun ls hl => ?_)
        exact LP_total_37_48_34 X hex hr (wp_P_total_37_48_5 po n) ih (x3 + (b (38 + x5.toNatClampNeg) (a 48 x5.toNatClampNeg).toNatClampNeg)) x5 f a b hw _ _ K _ (lv_sub hl [1, 2, 3, 0, 4] rfl)
set_option maxHeartbeats 4000000 in
set_option maxRecDepth 100000 in
theorem met_P_total_37_48 {l : Launch} (hl9 : l.stackTraces = false) (D : va_G) (ad : Nat → Nat) (ca : Nat → ClassId) (sa : Nat → Nat) (sz : Nat)  (f : wF) (a : wA) (b : wB) (po : Int64 → wF → wA → wB → Prop) (hw : wp_P_total_37_48 po f a b) : mL nS kS (tyS ca) txS D vwCl l yP_total (Cond.code yP_total cP_total 6 (some .long) :: Wl) ({ frames := 0, cells := 0, slots := 0, locals := 0 }) [.ref (ad 24), .ref (ad 37), .ref (ad 48)] ad ca sa sz f a b po (fun _ _ _ _ => False) 0 0 := by
  refine ofL (by decide) hl9 (Nat.le_of_ble_eq_true rfl) ?_
  intro p e s m below meth c ls X hex hr K hl
  obtain ⟨hx, hb, hml, hown, hts, hK, hA, hth, hlk, hl9⟩ := id X
  have hl : lv_has ls 6 [(0, .ref (ad 24)), (1, .ref (ad 37)), (2, .ref (ad 48))] := hl
  dsimp only [wp_P_total_37_48] at hw
  refine lv_lconst (v := (0 : Int64)) hx hb dP_total_0 (by decide) ?_
  refine lv_lstore_n (lv' := [(3, .long (0 : Int64)), (0, .ref (ad 24)), (1, .ref (ad 37)), (2, .ref (ad 48))]) hx hb dP_total_1 rfl hl (by decide) rfl (fun ls hl => ?_)
  refine lv_iconst (v := (0 : Int32)) hx hb dP_total_2 (by decide) ?_
  refine lv_istore (lv' := [(5, .int (0 : Int32)), (3, .long (0 : Int64)), (0, .ref (ad 24)), (1, .ref (ad 37)), (2, .ref (ad 48))]) hx hb dP_total_3 hl (by decide) rfl (fun ls hl => ?_)
  obtain ⟨n9, hw⟩ := hw
  exact LP_total_37_48_5 X hex hr n9 (0 : Int64) (0 : Int32) f a b hw _ _ K _ (lv_sub hl [2, 3, 4, 1, 0] rfl)
set_option maxHeartbeats 4000000 in
set_option maxRecDepth 100000 in
theorem LP_findBest_114 {p : Program} {l : Launch} {e : Env} {s : State} {m : MethodId} {below : List Frame} {meth : Method} {c : Code} {D : va_G} {sa : Nat → Nat} {ad : Nat → Nat} {ca : Nat → ClassId} {A : Nat → Prop} {y1 : Int32} {po : wF → wA → wB → Prop} (X : cx Wl (tyS ca) txS D vwCl sa A p l s m ([.ref (ad 24), .int y1] : List Value).toArray meth c cP_findBest 2 "SendBest$Pairing") (hex : ∀ x ∈ c.exceptionTable.toList, False) (hr : meth.sig.returnType = none) : ∀ (f : wF) (a : wA) (b : wB), wp_P_findBest_114 po f a b → ∀ (H : Heap) (locs : List Loc), wd nS kS D vwCl ad ca A s H locs f a b → ∀ (ls : Array Slot), lv_has ls 2 [] → W p l e ({ frames := 5, cells := 0, slots := 0, locals := 124 }) s m ([.ref (ad 24), .int y1] : List Value).toArray below meth c H locs 0 0 (vx_MQ below (va_Qv (fun (u : wF × wA × wB) => po u.1 u.2.1 u.2.2) (sPost nS kS D vwCl ad ca A) A) (sX nS kS D vwCl ad ca A (fun _ _ _ _ => False)) ([.ref (ad 24), .int y1] : List Value).toArray s 0 0 A) (F0 m 114 ls []) := by
  obtain ⟨hx, hb, hml, hown, hts, hK, hA, hth, hlk, hl9⟩ := id X
  intro  f a b hw H locs K ls hl
  dsimp only [wp_P_findBest_114] at hw
  exact endV X K hr hw (by decide) (by decide) dP_findBest_114
set_option maxHeartbeats 4000000 in
set_option maxRecDepth 100000 in
theorem met_P_findBest {l : Launch} (hl9 : l.stackTraces = false) (D : va_G) (ad : Nat → Nat) (ca : Nat → ClassId) (sa : Nat → Nat) (sz : Nat) (x1 : Int32) (f : wF) (a : wA) (b : wB) (po : wF → wA → wB → Prop) (hw : wp_P_findBest po x1 f a b) : mV nS kS (tyS ca) txS D vwCl l yP_findBest (Cond.code yP_findBest cP_findBest 2 none :: Wl) ({ frames := 5, cells := 0, slots := 0, locals := 124 }) [.ref (ad 24), .int x1] ad ca sa sz f a b po (fun _ _ _ _ => False) 0 0 := by
  refine ofV (by decide) hl9 (Nat.le_of_ble_eq_true rfl) ?_
  intro p e s m below meth c ls X hex hr K hl
  obtain ⟨hx, hb, hml, hown, hts, hK, hA, hth, hlk, hl9⟩ := id X
  have hl : lv_has ls 2 [(0, .ref (ad 24)), (1, .int x1)] := hl
  dsimp only [wp_P_findBest] at hw
  refine lv_aload_n hx hb dP_findBest_0 rfl (lv_at hl 0 rfl) ?_
  refine lv_aload_n hx hb dP_findBest_1 rfl (lv_at hl 0 rfl) ?_
  refine gGet X K (o := 24) (k := 0) (v := .int (f 5)) (by decide) kS_o24 rfl inS_o24 (by decide) (tm1 (i := 33) rfl rfl) rfl dP_findBest_2 ?_
  refine lv_iload_n hx hb dP_findBest_5 rfl (lv_at hl 1 rfl) ?_
  refine gcV X K (n0 := 2) (As := [.int (f 5), .int x1]) (rest := []) (hM := (met_P_pair hl9 D ad ca sa _ (f 5) x1 f a b _ hw)) (o := 24) (ho := by decide) (hko := kS_o24) (hci := rfl) (hg := wl_good) (w1 := (tm2 (i := 181) rfl rfl)) (w2 := (tm2 (i := 183) rfl rfl)) (w3 := (tm0 (i := 15) rfl rfl)) (w4 := (tm1 (i := 2) rfl rfl)) (w5 := (tm2 (i := 184) rfl rfl)) (hd := ⟨rfl, by decide, by decide, by decide +kernel⟩) (hrc := rfl) (hrs := rfl) (hR := ⟨Nat.le_of_ble_eq_true rfl, Nat.le_of_ble_eq_true rfl⟩) (hn := rfl) (hsz := hl.1) (hst := rfl) (hW := Nat.le_of_ble_eq_true rfl) (hdg := dP_findBest_6) (hf := ⟨Nat.le_of_ble_eq_true rfl, Nat.le_of_ble_eq_true rfl⟩) (fun _ _ _ _ _ _ _ _ hw => hw.elim) (fun f6 a6 b6 H locs hw K => ?_)
  refine lv_aload_n hx hb dP_findBest_9 rfl (lv_at hl 0 rfl) ?_
  refine gGet X K (o := 24) (k := 1) (v := .int (f6 6)) (by decide) kS_o24 rfl inS_o24 (by decide) (tm1 (i := 34) rfl rfl) rfl dP_findBest_10 ?_
  refine lv_iload_n hx hb dP_findBest_13 rfl (lv_at hl 1 rfl) ?_
  refine lv_icmp_gt (tgt := 18) hx hb dP_findBest_14 (by decide) (fun hc => ?_) (fun hc => ?_)
  · replace hw := hw.1 hc
    refine lv_aload_n hx hb dP_findBest_18 rfl (lv_at hl 0 rfl) ?_
    refine gGet X K (o := 24) (k := 5) (v := .ref (ad 48)) (by decide) kS_o24 rfl inS_o24 (by decide) (tm1 (i := 38) rfl rfl) rfl dP_findBest_19 ?_
    refine lv_iconst (v := (0 : Int32)) hx hb dP_findBest_22 (by decide) ?_
    refine lv_aload_n hx hb dP_findBest_23 rfl (lv_at hl 0 rfl) ?_
    refine gGet X K (o := 24) (k := 7) (v := .ref (ad 50)) (by decide) kS_o24 rfl inS_o24 (by decide) (tm1 (i := 40) rfl rfl) rfl dP_findBest_24 ?_
    refine lv_iconst (v := (0 : Int32)) hx hb dP_findBest_27 (by decide) ?_
    refine lv_bipush (v := (10 : Int32)) hx hb dP_findBest_28 (by decide) ?_
    refine gcopy X K (o := 48) (o2 := 50) (t0 := 0) (by decide) (by decide) kS_c48 kS_c50 rfl (tm2 (i := 209) rfl rfl) (tm2 (i := 211) rfl rfl) (tm2 (i := 210) rfl rfl) (tm1 (i := 12) rfl rfl) (by decide) (by decide) (by decide) (by decide) (by decide) hl.1 (Nat.le_of_ble_eq_true rfl) (by decide) dP_findBest_30 kS_p50 (fun H locs K => ?_)
    refine lv_aload_n hx hb dP_findBest_33 rfl (lv_at hl 0 rfl) ?_
    refine lv_aload_n hx hb dP_findBest_34 rfl (lv_at hl 0 rfl) ?_
    refine gGet X K (o := 24) (k := 1) (v := .int (f6 6)) (by decide) kS_o24 rfl inS_o24 (by decide) (tm1 (i := 34) rfl rfl) rfl dP_findBest_35 ?_
    refine lv_aload_n hx hb dP_findBest_38 rfl (lv_at hl 0 rfl) ?_
    refine gGet X K (o := 24) (k := 1) (v := .int (f6 6)) (by decide) kS_o24 rfl inS_o24 (by decide) (tm1 (i := 34) rfl rfl) rfl dP_findBest_39 ?_
    refine gcV X K (n0 := 2) (As := [.int (f6 6), .int (f6 6)]) (rest := []) (hM := (met_P_pair hl9 D ad ca sa _ (f6 6) (f6 6) f6 (va_up a6 50 (va_cpy (a6 48) (a6 50) (0 : Int32).toNatClampNeg (0 : Int32).toNatClampNeg (10 : Int32).toNatClampNeg)) b6 _ hw)) (o := 24) (ho := by decide) (hko := kS_o24) (hci := rfl) (hg := wl_good) (w1 := (tm2 (i := 181) rfl rfl)) (w2 := (tm2 (i := 183) rfl rfl)) (w3 := (tm0 (i := 15) rfl rfl)) (w4 := (tm1 (i := 2) rfl rfl)) (w5 := (tm2 (i := 184) rfl rfl)) (hd := ⟨rfl, by decide, by decide, by decide +kernel⟩) (hrc := rfl) (hrs := rfl) (hR := ⟨Nat.le_of_ble_eq_true rfl, Nat.le_of_ble_eq_true rfl⟩) (hn := rfl) (hsz := hl.1) (hst := rfl) (hW := Nat.le_of_ble_eq_true rfl) (hdg := dP_findBest_42) (hf := ⟨Nat.le_of_ble_eq_true rfl, Nat.le_of_ble_eq_true rfl⟩) (fun _ _ _ _ _ _ _ _ hw => hw.elim) (fun f42 a42 b42 H locs hw K => ?_)
    refine lv_aload_n hx hb dP_findBest_45 rfl (lv_at hl 0 rfl) ?_
    refine lv_aload_n hx hb dP_findBest_46 rfl (lv_at hl 0 rfl) ?_
    refine gGet X K (o := 24) (k := 3) (v := .ref (ad 26)) (by decide) kS_o24 rfl inS_o24 (by decide) (tm1 (i := 36) rfl rfl) rfl dP_findBest_47 ?_
    refine lv_aload_n hx hb dP_findBest_50 rfl (lv_at hl 0 rfl) ?_
    refine gGet X K (o := 24) (k := 7) (v := .ref (ad 50)) (by decide) kS_o24 rfl inS_o24 (by decide) (tm1 (i := 40) rfl rfl) rfl dP_findBest_51 ?_
    refine gcL X K (n0 := 2) (As := [.ref (ad 26), .ref (ad 50)]) (rest := []) (hM := (met_P_total_26_50 hl9 D ad ca sa _ f42 a42 b42 _ hw)) (o := 24) (ho := by decide) (hko := kS_o24) (hci := rfl) (hg := wl_good) (w1 := (tm2 (i := 212) rfl rfl)) (w2 := (tm2 (i := 214) rfl rfl)) (w3 := (tm0 (i := 21) rfl rfl)) (w4 := (tm1 (i := 2) rfl rfl)) (w5 := (tm2 (i := 215) rfl rfl)) (hd := ⟨rfl, by decide, by decide, by decide +kernel⟩) (hrc := rfl) (hrs := rfl) (hR := ⟨Nat.le_of_ble_eq_true rfl, Nat.le_of_ble_eq_true rfl⟩) (hn := rfl) (hsz := hl.1) (hst := rfl) (hW := Nat.le_of_ble_eq_true rfl) (hdg := dP_findBest_54) (hf := ⟨Nat.le_of_ble_eq_true rfl, Nat.le_of_ble_eq_true rfl⟩) (fun _ _ _ _ _ _ _ _ hw => hw.elim) (fun r54 f54 a54 b54 H locs hw K => ?_)
    refine lv_aload_n hx hb dP_findBest_57 rfl (lv_at hl 0 rfl) ?_
    refine lv_aload_n hx hb dP_findBest_58 rfl (lv_at hl 0 rfl) ?_
    refine gGet X K (o := 24) (k := 4) (v := .ref (ad 37)) (by decide) kS_o24 rfl inS_o24 (by decide) (tm1 (i := 37) rfl rfl) rfl dP_findBest_59 ?_
    refine lv_aload_n hx hb dP_findBest_62 rfl (lv_at hl 0 rfl) ?_
    refine gGet X K (o := 24) (k := 7) (v := .ref (ad 50)) (by decide) kS_o24 rfl inS_o24 (by decide) (tm1 (i := 40) rfl rfl) rfl dP_findBest_63 ?_
    refine gcL X K (n0 := 2) (As := [.ref (ad 37), .ref (ad 50)]) (rest := [.long r54]) (hM := (met_P_total_37_50 hl9 D ad ca sa _ f54 a54 b54 _ hw)) (o := 24) (ho := by decide) (hko := kS_o24) (hci := rfl) (hg := wl_good) (w1 := (tm2 (i := 212) rfl rfl)) (w2 := (tm2 (i := 214) rfl rfl)) (w3 := (tm0 (i := 21) rfl rfl)) (w4 := (tm1 (i := 2) rfl rfl)) (w5 := (tm2 (i := 215) rfl rfl)) (hd := ⟨rfl, by decide, by decide, by decide +kernel⟩) (hrc := rfl) (hrs := rfl) (hR := ⟨Nat.le_of_ble_eq_true rfl, Nat.le_of_ble_eq_true rfl⟩) (hn := rfl) (hsz := hl.1) (hst := rfl) (hW := Nat.le_of_ble_eq_true rfl) (hdg := dP_findBest_66) (hf := ⟨Nat.le_of_ble_eq_true rfl, Nat.le_of_ble_eq_true rfl⟩) (fun _ _ _ _ _ _ _ _ hw => hw.elim) (fun r66 f66 a66 b66 H locs hw K => ?_)
    refine lv_aload_n hx hb dP_findBest_69 rfl (lv_at hl 0 rfl) ?_
    refine lv_aload_n hx hb dP_findBest_70 rfl (lv_at hl 0 rfl) ?_
    refine gGet X K (o := 24) (k := 3) (v := .ref (ad 26)) (by decide) kS_o24 rfl inS_o24 (by decide) (tm1 (i := 36) rfl rfl) rfl dP_findBest_71 ?_
    refine lv_aload_n hx hb dP_findBest_74 rfl (lv_at hl 0 rfl) ?_
    refine gGet X K (o := 24) (k := 5) (v := .ref (ad 48)) (by decide) kS_o24 rfl inS_o24 (by decide) (tm1 (i := 38) rfl rfl) rfl dP_findBest_75 ?_
    refine gcL X K (n0 := 2) (As := [.ref (ad 26), .ref (ad 48)]) (rest := [.long r66, .long r54]) (hM := (met_P_total_26_48 hl9 D ad ca sa _ f66 a66 b66 _ hw)) (o := 24) (ho := by decide) (hko := kS_o24) (hci := rfl) (hg := wl_good) (w1 := (tm2 (i := 212) rfl rfl)) (w2 := (tm2 (i := 214) rfl rfl)) (w3 := (tm0 (i := 21) rfl rfl)) (w4 := (tm1 (i := 2) rfl rfl)) (w5 := (tm2 (i := 215) rfl rfl)) (hd := ⟨rfl, by decide, by decide, by decide +kernel⟩) (hrc := rfl) (hrs := rfl) (hR := ⟨Nat.le_of_ble_eq_true rfl, Nat.le_of_ble_eq_true rfl⟩) (hn := rfl) (hsz := hl.1) (hst := rfl) (hW := Nat.le_of_ble_eq_true rfl) (hdg := dP_findBest_78) (hf := ⟨Nat.le_of_ble_eq_true rfl, Nat.le_of_ble_eq_true rfl⟩) (fun _ _ _ _ _ _ _ _ hw => hw.elim) (fun r78 f78 a78 b78 H locs hw K => ?_)
    refine lv_aload_n hx hb dP_findBest_81 rfl (lv_at hl 0 rfl) ?_
    refine lv_aload_n hx hb dP_findBest_82 rfl (lv_at hl 0 rfl) ?_
    refine gGet X K (o := 24) (k := 4) (v := .ref (ad 37)) (by decide) kS_o24 rfl inS_o24 (by decide) (tm1 (i := 37) rfl rfl) rfl dP_findBest_83 ?_
    refine lv_aload_n hx hb dP_findBest_86 rfl (lv_at hl 0 rfl) ?_
    refine gGet X K (o := 24) (k := 5) (v := .ref (ad 48)) (by decide) kS_o24 rfl inS_o24 (by decide) (tm1 (i := 38) rfl rfl) rfl dP_findBest_87 ?_
    refine gcL X K (n0 := 2) (As := [.ref (ad 37), .ref (ad 48)]) (rest := [.long r78, .long r66, .long r54]) (hM := (met_P_total_37_48 hl9 D ad ca sa _ f78 a78 b78 _ hw)) (o := 24) (ho := by decide) (hko := kS_o24) (hci := rfl) (hg := wl_good) (w1 := (tm2 (i := 212) rfl rfl)) (w2 := (tm2 (i := 214) rfl rfl)) (w3 := (tm0 (i := 21) rfl rfl)) (w4 := (tm1 (i := 2) rfl rfl)) (w5 := (tm2 (i := 215) rfl rfl)) (hd := ⟨rfl, by decide, by decide, by decide +kernel⟩) (hrc := rfl) (hrs := rfl) (hR := ⟨Nat.le_of_ble_eq_true rfl, Nat.le_of_ble_eq_true rfl⟩) (hn := rfl) (hsz := hl.1) (hst := rfl) (hW := Nat.le_of_ble_eq_true rfl) (hdg := dP_findBest_90) (hf := ⟨Nat.le_of_ble_eq_true rfl, Nat.le_of_ble_eq_true rfl⟩) (fun _ _ _ _ _ _ _ _ hw => hw.elim) (fun r90 f90 a90 b90 H locs hw K => ?_)
    refine gcSI X K (n0 := 4) (As := [.long r54, .long r66, .long r78, .long r90]) (rest := []) (hM := (met_P_isLess hl9 D ad ca sa _ r54 r66 r78 r90 f90 a90 b90 _ hw)) (hg := wl_good) (w1 := (tm2 (i := 198) rfl rfl)) (w2 := (tm2 (i := 199) rfl rfl)) (w4 := (tm1 (i := 2) rfl rfl)) (w5 := (tm2 (i := 200) rfl rfl)) (hd := ⟨by decide, by decide, by decide +kernel⟩) (hrc := rfl) (hrs := rfl) (hR := ⟨Nat.le_of_ble_eq_true rfl, Nat.le_of_ble_eq_true rfl⟩) (hn := rfl) (hsz := hl.1) (hst := rfl) (hW := Nat.le_of_ble_eq_true rfl) (hdg := dP_findBest_93) (hf := ⟨Nat.le_of_ble_eq_true rfl, Nat.le_of_ble_eq_true rfl⟩) (fun _ _ _ _ _ _ _ _ hw => hw.elim) (fun r93 f93 a93 b93 H locs hw K => ?_)
    refine lv_if_eq (tgt := 114) hx hb dP_findBest_96 (by decide) (fun hc => ?_) (fun hc => ?_)
    · replace hw := hw.1 hc
      exact LP_findBest_114 X hex hr f93 a93 b93 hw _ _ K _ (lv_sub hl [] rfl)
    · replace hw := hw.2 hc
      refine lv_aload_n hx hb dP_findBest_99 rfl (lv_at hl 0 rfl) ?_
      refine gGet X K (o := 24) (k := 7) (v := .ref (ad 50)) (by decide) kS_o24 rfl inS_o24 (by decide) (tm1 (i := 40) rfl rfl) rfl dP_findBest_100 ?_
      refine lv_iconst (v := (0 : Int32)) hx hb dP_findBest_103 (by decide) ?_
      refine lv_aload_n hx hb dP_findBest_104 rfl (lv_at hl 0 rfl) ?_
      refine gGet X K (o := 24) (k := 5) (v := .ref (ad 48)) (by decide) kS_o24 rfl inS_o24 (by decide) (tm1 (i := 38) rfl rfl) rfl dP_findBest_105 ?_
      refine lv_iconst (v := (0 : Int32)) hx hb dP_findBest_108 (by decide) ?_
      refine lv_bipush (v := (10 : Int32)) hx hb dP_findBest_109 (by decide) ?_
      refine gcopy X K (o := 50) (o2 := 48) (t0 := 0) (by decide) (by decide) kS_c50 kS_c48 rfl (tm2 (i := 209) rfl rfl) (tm2 (i := 211) rfl rfl) (tm2 (i := 210) rfl rfl) (tm1 (i := 12) rfl rfl) (by decide) (by decide) (by decide) (by decide) (by decide) hl.1 (Nat.le_of_ble_eq_true rfl) (by decide) dP_findBest_111 kS_p48 (fun H locs K => ?_)
      exact LP_findBest_114 X hex hr f93 (va_up a93 48 (va_cpy (a93 50) (a93 48) (0 : Int32).toNatClampNeg (0 : Int32).toNatClampNeg (10 : Int32).toNatClampNeg)) b93 hw _ _ K _ (lv_sub hl [] rfl)
  · replace hw := hw.2 hc
    exact endV X K hr hw (by decide) (by decide) dP_findBest_17
set_option maxHeartbeats 4000000 in
set_option maxRecDepth 100000 in
theorem met_P_rows {l : Launch} (hl9 : l.stackTraces = false) (D : va_G) (ad : Nat → Nat) (ca : Nat → ClassId) (sa : Nat → Nat) (sz : Nat)  (f : wF) (a : wA) (b : wB) (po : Int32 → wF → wA → wB → Prop) (hw : wp_P_rows po f a b) : mI nS kS (tyS ca) txS D vwCl l yP_rows (Cond.code yP_rows cP_rows 1 (some .int) :: Wl) ({ frames := 0, cells := 0, slots := 0, locals := 0 }) [.ref (ad 24)] ad ca sa sz f a b po (fun _ _ _ _ => False) 0 0 := by
  refine ofI (by decide) hl9 (Nat.le_of_ble_eq_true rfl) ?_
  intro p e s m below meth c ls X hex hr K hl
  obtain ⟨hx, hb, hml, hown, hts, hK, hA, hth, hlk, hl9⟩ := id X
  have hl : lv_has ls 1 [(0, .ref (ad 24))] := hl
  dsimp only [wp_P_rows] at hw
  refine lv_aload_n hx hb dP_rows_0 rfl (lv_at hl 0 rfl) ?_
  refine gGet X K (o := 24) (k := 0) (v := .int (f 5)) (by decide) kS_o24 rfl inS_o24 (by decide) (tm1 (i := 33) rfl rfl) rfl dP_rows_1 ?_
  exact endI X K hr rfl hw (by decide) (by decide) dP_rows_4
set_option maxHeartbeats 4000000 in
set_option maxRecDepth 100000 in
theorem LP_presentIsPlan_88 {p : Program} {l : Launch} {e : Env} {s : State} {m : MethodId} {below : List Frame} {meth : Method} {c : Code} {D : va_G} {sa : Nat → Nat} {ad : Nat → Nat} {ca : Nat → ClassId} {A : Nat → Prop} {y1 : Int32} {po : Int32 → wF → wA → wB → Prop} (X : cx Wl (tyS ca) txS D vwCl sa A p l s m ([.ref (ad 24), .int y1] : List Value).toArray meth c cP_presentIsPlan 6 "SendBest$Pairing") (hex : ∀ x ∈ c.exceptionTable.toList, False) (hr : meth.sig.returnType = (some .boolean)) : ∀ (k0 : Int32) (f : wF) (a : wA) (b : wB), wp_P_presentIsPlan_88 po k0 f a b → ∀ (H : Heap) (locs : List Loc), wd nS kS D vwCl ad ca A s H locs f a b → ∀ (ls : Array Slot), lv_has ls 6 [] → W p l e ({ frames := 0, cells := 0, slots := 0, locals := 0 }) s m ([.ref (ad 24), .int y1] : List Value).toArray below meth c H locs 0 0 (vx_MQ below (va_Qi (fun r (u : wF × wA × wB) => po r u.1 u.2.1 u.2.2) (sPost nS kS D vwCl ad ca A) A) (sX nS kS D vwCl ad ca A (fun _ _ _ _ => False)) ([.ref (ad 24), .int y1] : List Value).toArray s 0 0 A) (F0 m 88 ls [.int k0]) := by
  obtain ⟨hx, hb, hml, hown, hts, hK, hA, hth, hlk, hl9⟩ := id X
  intro k0 f a b hw H locs K ls hl
  dsimp only [wp_P_presentIsPlan_88] at hw
  exact endI X K hr hw.1 hw.2 (by decide) (by decide) dP_presentIsPlan_88
set_option maxHeartbeats 4000000 in
set_option maxRecDepth 100000 in
theorem LP_presentIsPlan_83 {p : Program} {l : Launch} {e : Env} {s : State} {m : MethodId} {below : List Frame} {meth : Method} {c : Code} {D : va_G} {sa : Nat → Nat} {ad : Nat → Nat} {ca : Nat → ClassId} {A : Nat → Prop} {y1 : Int32} {po : Int32 → wF → wA → wB → Prop} (X : cx Wl (tyS ca) txS D vwCl sa A p l s m ([.ref (ad 24), .int y1] : List Value).toArray meth c cP_presentIsPlan 6 "SendBest$Pairing") (hex : ∀ x ∈ c.exceptionTable.toList, False) (hr : meth.sig.returnType = (some .boolean)) : ∀ (f : wF) (a : wA) (b : wB), wp_P_presentIsPlan_83 po f a b → ∀ (H : Heap) (locs : List Loc), wd nS kS D vwCl ad ca A s H locs f a b → ∀ (ls : Array Slot), lv_has ls 6 [] → W p l e ({ frames := 0, cells := 0, slots := 0, locals := 0 }) s m ([.ref (ad 24), .int y1] : List Value).toArray below meth c H locs 0 0 (vx_MQ below (va_Qi (fun r (u : wF × wA × wB) => po r u.1 u.2.1 u.2.2) (sPost nS kS D vwCl ad ca A) A) (sX nS kS D vwCl ad ca A (fun _ _ _ _ => False)) ([.ref (ad 24), .int y1] : List Value).toArray s 0 0 A) (F0 m 83 ls []) := by
  obtain ⟨hx, hb, hml, hown, hts, hK, hA, hth, hlk, hl9⟩ := id X
  intro  f a b hw H locs K ls hl
  dsimp only [wp_P_presentIsPlan_83] at hw
  refine lv_iconst (v := (1 : Int32)) hx hb dP_presentIsPlan_83 (by decide) ?_
  refine lv_goto (tgt := 88) hx hb dP_presentIsPlan_84 (by decide) ?_
  exact LP_presentIsPlan_88 X hex hr (1 : Int32) f a b hw _ _ K _ (lv_sub hl [] rfl)
set_option maxHeartbeats 4000000 in
set_option maxRecDepth 100000 in
theorem LP_presentIsPlan_68 {p : Program} {l : Launch} {e : Env} {s : State} {m : MethodId} {below : List Frame} {meth : Method} {c : Code} {D : va_G} {sa : Nat → Nat} {ad : Nat → Nat} {ca : Nat → ClassId} {A : Nat → Prop} {y1 : Int32} {po : Int32 → wF → wA → wB → Prop} (X : cx Wl (tyS ca) txS D vwCl sa A p l s m ([.ref (ad 24), .int y1] : List Value).toArray meth c cP_presentIsPlan 6 "SendBest$Pairing") (hex : ∀ x ∈ c.exceptionTable.toList, False) (hr : meth.sig.returnType = (some .boolean)) (J7 : Int32 → Int32 → Int32 → Int32 → wF → wA → wB → Prop) (hJ7 : ∀ (x1 : Int32) (x2 : Int32) (x3 : Int32) (x4 : Int32) (f : wF) (a : wA) (b : wB), J7 x1 x2 x3 x4 f a b → ∀ (H : Heap) (locs : List Loc), wd nS kS D vwCl ad ca A s H locs f a b → ∀ (ls : Array Slot), lv_has ls 6 [(0, .ref (ad 24)), (1, .int x1), (2, .int x2), (3, .int x3), (4, .int x4)] → W p l e ({ frames := 0, cells := 0, slots := 0, locals := 0 }) s m ([.ref (ad 24), .int y1] : List Value).toArray below meth c H locs 0 0 (vx_MQ below (va_Qi (fun r (u : wF × wA × wB) => po r u.1 u.2.1 u.2.2) (sPost nS kS D vwCl ad ca A) A) (sX nS kS D vwCl ad ca A (fun _ _ _ _ => False)) ([.ref (ad 24), .int y1] : List Value).toArray s 0 0 A) (F0 m 7 ls [])) : ∀ (x1 : Int32) (x2 : Int32) (x3 : Int32) (x4 : Int32) (f : wF) (a : wA) (b : wB), wp_P_presentIsPlan_68 po J7 x1 x2 x3 x4 f a b → ∀ (H : Heap) (locs : List Loc), wd nS kS D vwCl ad ca A s H locs f a b → ∀ (ls : Array Slot), lv_has ls 6 [(0, .ref (ad 24)), (1, .int x1), (2, .int x2), (3, .int x3), (4, .int x4)] → W p l e ({ frames := 0, cells := 0, slots := 0, locals := 0 }) s m ([.ref (ad 24), .int y1] : List Value).toArray below meth c H locs 0 0 (vx_MQ below (va_Qi (fun r (u : wF × wA × wB) => po r u.1 u.2.1 u.2.2) (sPost nS kS D vwCl ad ca A) A) (sX nS kS D vwCl ad ca A (fun _ _ _ _ => False)) ([.ref (ad 24), .int y1] : List Value).toArray s 0 0 A) (F0 m 68 ls []) := by
  obtain ⟨hx, hb, hml, hown, hts, hK, hA, hth, hlk, hl9⟩ := id X
  intro x1 x2 x3 x4 f a b hw H locs K ls hl
  dsimp only [wp_P_presentIsPlan_68] at hw
  refine lv_iinc (v := (x4 + (1 : Int32))) (lv' := [(4, .int (x4 + (1 : Int32))), (0, .ref (ad 24)), (1, .int x1), (2, .int x2), (3, .int x3)]) hx hb dP_presentIsPlan_68 hl (k := 4) rfl rfl (by decide) rfl (fun ls hl => ?_)
  refine lv_goto (tgt := 7) hx hb dP_presentIsPlan_71 (by decide) ?_
  exact hJ7 x1 x2 x3 (x4 + (1 : Int32)) f a b hw _ _ K _ (lv_sub hl [1, 2, 3, 4, 0] rfl)
set_option maxHeartbeats 4000000 in
set_option maxRecDepth 100000 in
theorem LP_presentIsPlan_66 {p : Program} {l : Launch} {e : Env} {s : State} {m : MethodId} {below : List Frame} {meth : Method} {c : Code} {D : va_G} {sa : Nat → Nat} {ad : Nat → Nat} {ca : Nat → ClassId} {A : Nat → Prop} {y1 : Int32} {po : Int32 → wF → wA → wB → Prop} (X : cx Wl (tyS ca) txS D vwCl sa A p l s m ([.ref (ad 24), .int y1] : List Value).toArray meth c cP_presentIsPlan 6 "SendBest$Pairing") (hex : ∀ x ∈ c.exceptionTable.toList, False) (hr : meth.sig.returnType = (some .boolean)) (J7 : Int32 → Int32 → Int32 → Int32 → wF → wA → wB → Prop) (hJ7 : ∀ (x1 : Int32) (x2 : Int32) (x3 : Int32) (x4 : Int32) (f : wF) (a : wA) (b : wB), J7 x1 x2 x3 x4 f a b → ∀ (H : Heap) (locs : List Loc), wd nS kS D vwCl ad ca A s H locs f a b → ∀ (ls : Array Slot), lv_has ls 6 [(0, .ref (ad 24)), (1, .int x1), (2, .int x2), (3, .int x3), (4, .int x4)] → W p l e ({ frames := 0, cells := 0, slots := 0, locals := 0 }) s m ([.ref (ad 24), .int y1] : List Value).toArray below meth c H locs 0 0 (vx_MQ below (va_Qi (fun r (u : wF × wA × wB) => po r u.1 u.2.1 u.2.2) (sPost nS kS D vwCl ad ca A) A) (sX nS kS D vwCl ad ca A (fun _ _ _ _ => False)) ([.ref (ad 24), .int y1] : List Value).toArray s 0 0 A) (F0 m 7 ls [])) : ∀ (k0 : Int32) (k1 : Int32) (x1 : Int32) (x2 : Int32) (x4 : Int32) (f : wF) (a : wA) (b : wB), wp_P_presentIsPlan_66 po J7 k0 k1 x1 x2 x4 f a b → ∀ (H : Heap) (locs : List Loc), wd nS kS D vwCl ad ca A s H locs f a b → ∀ (ls : Array Slot), lv_has ls 6 [(0, .ref (ad 24)), (1, .int x1), (2, .int x2), (4, .int x4)] → W p l e ({ frames := 0, cells := 0, slots := 0, locals := 0 }) s m ([.ref (ad 24), .int y1] : List Value).toArray below meth c H locs 0 0 (vx_MQ below (va_Qi (fun r (u : wF × wA × wB) => po r u.1 u.2.1 u.2.2) (sPost nS kS D vwCl ad ca A) A) (sX nS kS D vwCl ad ca A (fun _ _ _ _ => False)) ([.ref (ad 24), .int y1] : List Value).toArray s 0 0 A) (F0 m 66 ls [.int k0, .int k1]) := by
  obtain ⟨hx, hb, hml, hown, hts, hK, hA, hth, hlk, hl9⟩ := id X
  intro k0 k1 x1 x2 x4 f a b hw H locs K ls hl
  dsimp only [wp_P_presentIsPlan_66] at hw
  refine lv_iadd hx hb dP_presentIsPlan_66 ?_
  refine lv_istore_n (lv' := [(3, .int (k1 + k0)), (0, .ref (ad 24)), (1, .int x1), (2, .int x2), (4, .int x4)]) hx hb dP_presentIsPlan_67 rfl hl (by decide) rfl (fun ls hl => ?_)
  exact LP_presentIsPlan_68 X hex hr J7 hJ7 x1 x2 (k1 + k0) x4 f a b hw _ _ K _ (lv_sub hl [1, 2, 3, 0, 4] rfl)
set_option maxHeartbeats 4000000 in
set_option maxRecDepth 100000 in
theorem LP_presentIsPlan_7 {p : Program} {l : Launch} {e : Env} {s : State} {m : MethodId} {below : List Frame} {meth : Method} {c : Code} {D : va_G} {sa : Nat → Nat} {ad : Nat → Nat} {ca : Nat → ClassId} {A : Nat → Prop} {y1 : Int32} {po : Int32 → wF → wA → wB → Prop} (X : cx Wl (tyS ca) txS D vwCl sa A p l s m ([.ref (ad 24), .int y1] : List Value).toArray meth c cP_presentIsPlan 6 "SendBest$Pairing") (hex : ∀ x ∈ c.exceptionTable.toList, False) (hr : meth.sig.returnType = (some .boolean)) : ∀ n : Nat, ∀ (x1 : Int32) (x2 : Int32) (x3 : Int32) (x4 : Int32) (f : wF) (a : wA) (b : wB), wp_P_presentIsPlan_7 po n x1 x2 x3 x4 f a b → ∀ (H : Heap) (locs : List Loc), wd nS kS D vwCl ad ca A s H locs f a b → ∀ (ls : Array Slot), lv_has ls 6 [(0, .ref (ad 24)), (1, .int x1), (2, .int x2), (3, .int x3), (4, .int x4)] → W p l e ({ frames := 0, cells := 0, slots := 0, locals := 0 }) s m ([.ref (ad 24), .int y1] : List Value).toArray below meth c H locs 0 0 (vx_MQ below (va_Qi (fun r (u : wF × wA × wB) => po r u.1 u.2.1 u.2.2) (sPost nS kS D vwCl ad ca A) A) (sX nS kS D vwCl ad ca A (fun _ _ _ _ => False)) ([.ref (ad 24), .int y1] : List Value).toArray s 0 0 A) (F0 m 7 ls []) := by
  obtain ⟨hx, hb, hml, hown, hts, hK, hA, hth, hlk, hl9⟩ := id X
  intro n
  induction n with
  | zero => intro x1 x2 x3 x4 f a b hw; exact hw.elim
  | succ n ih =>
    intro x1 x2 x3 x4 f a b hw H locs K ls hl
    dsimp only [wp_P_presentIsPlan_7] at hw
    refine lv_iload hx hb dP_presentIsPlan_7 (lv_at hl 4 rfl) ?_
    refine lv_aload_n hx hb dP_presentIsPlan_9 rfl (lv_at hl 0 rfl) ?_
    refine gGet X K (o := 24) (k := 0) (v := .int (f 5)) (by decide) kS_o24 rfl inS_o24 (by decide) (tm1 (i := 33) rfl rfl) rfl dP_presentIsPlan_10 ?_
    refine lv_icmp_ge (tgt := 74) hx hb dP_presentIsPlan_13 (by decide) (fun hc => ?_) (fun hc => ?_)
    · replace hw := hw.1 hc
      refine lv_iload_n hx hb dP_presentIsPlan_74 rfl (lv_at hl 3 rfl) ?_
      refine lv_if_eq (tgt := 83) hx hb dP_presentIsPlan_75 (by decide) (fun hc => ?_) (fun hc => ?_)
      · replace hw := hw.1 hc
        exact LP_presentIsPlan_83 X hex hr f a b hw _ _ K _ (lv_sub hl [] rfl)
      · replace hw := hw.2 hc
        refine lv_iload_n hx hb dP_presentIsPlan_78 rfl (lv_at hl 2 rfl) ?_
        refine lv_iload_n hx hb dP_presentIsPlan_79 rfl (lv_at hl 1 rfl) ?_
        refine lv_icmp_gt (tgt := 87) hx hb dP_presentIsPlan_80 (by decide) (fun hc => ?_) (fun hc => ?_)
        · replace hw := hw.1 hc
          refine lv_iconst (v := (0 : Int32)) hx hb dP_presentIsPlan_87 (by decide) ?_
          exact LP_presentIsPlan_88 X hex hr (0 : Int32) f a b hw _ _ K _ (lv_sub hl [] rfl)
        · replace hw := hw.2 hc
          exact LP_presentIsPlan_83 X hex hr f a b hw _ _ K _ (lv_sub hl [] rfl)
    · replace hw := hw.2 hc
      refine lv_aload_n hx hb dP_presentIsPlan_16 rfl (lv_at hl 0 rfl) ?_
      refine gGet X K (o := 24) (k := 7) (v := .ref (ad 50)) (by decide) kS_o24 rfl inS_o24 (by decide) (tm1 (i := 40) rfl rfl) rfl dP_presentIsPlan_17 ?_
      refine lv_iload hx hb dP_presentIsPlan_20 (lv_at hl 4 rfl) ?_
      obtain ⟨hi, hw⟩ := hw
      refine gild X K (o := 50) (t0 := 0) (by decide) kS_c50 rfl hi dP_presentIsPlan_22 ?_
      refine lv_istore (lv' := [(5, .int (a 50 x4.toNatClampNeg)), (0, .ref (ad 24)), (1, .int x1), (2, .int x2), (3, .int x3), (4, .int x4)]) hx hb dP_presentIsPlan_23 hl (by decide) rfl (fun ls hl => ?_)
      refine lv_iload hx hb dP_presentIsPlan_25 (lv_at hl 0 rfl) ?_
      refine lv_iconst (v := (-1 : Int32)) hx hb dP_presentIsPlan_27 (by decide) ?_
      refine lv_icmp_eq (tgt := 68) hx hb dP_presentIsPlan_28 (by decide) (fun hc => ?_) (fun hc => ?_)
      · replace hw := hw.1 hc
        exact LP_presentIsPlan_68 X hex hr (wp_P_presentIsPlan_7 po n) ih x1 x2 x3 x4 f a b hw _ _ K _ (lv_sub hl [1, 2, 3, 4, 5] rfl)
      · replace hw := hw.2 hc
        refine lv_aload_n hx hb dP_presentIsPlan_31 rfl (lv_at hl 1 rfl) ?_
        refine gGet X K (o := 24) (k := 3) (v := .ref (ad 26)) (by decide) kS_o24 rfl inS_o24 (by decide) (tm1 (i := 36) rfl rfl) rfl dP_presentIsPlan_32 ?_
        refine lv_iload hx hb dP_presentIsPlan_35 (lv_at hl 5 rfl) ?_
        obtain ⟨hi_cost, hw⟩ := hw
        refine gald X K (o := 26) (t0 := 4) (by decide) kS_c26 rfl hi_cost dP_presentIsPlan_37 ?_
        refine lv_iload hx hb dP_presentIsPlan_38 (lv_at hl 0 rfl) ?_
        obtain ⟨hi, hw⟩ := hw
        refine glld X K (o := (27 + x4.toNatClampNeg)) (t0 := 2) (rS_cost_lt hi_cost) (kS_r_cost hi_cost) rfl hi dP_presentIsPlan_40 ?_
        refine lv_lconst (v := (0 : Int64)) hx hb dP_presentIsPlan_41 (by decide) ?_
        refine W.lcmp hx hb dP_presentIsPlan_42 ?_
        refine lv_if_ne (tgt := 48) hx hb dP_presentIsPlan_43 (by decide) (fun hc => ?_) (fun hc => ?_)
        · replace hw := hw.1 hc
          refine lv_iinc (v := (x2 + (1 : Int32))) (lv' := [(2, .int (x2 + (1 : Int32))), (5, .int (a 50 x4.toNatClampNeg)), (0, .ref (ad 24)), (1, .int x1), (3, .int x3), (4, .int x4)]) hx hb dP_presentIsPlan_48 hl (k := 3) rfl rfl (by decide) rfl (fun ls hl => ?_)
          refine lv_iload_n hx hb dP_presentIsPlan_51 rfl (lv_at hl 4 rfl) ?_
          refine lv_iload hx hb dP_presentIsPlan_52 (lv_at hl 5 rfl) ?_
          refine lv_aload_n hx hb dP_presentIsPlan_54 rfl (lv_at hl 2 rfl) ?_
          refine gGet X K (o := 24) (k := 1) (v := .int (f 6)) (by decide) kS_o24 rfl inS_o24 (by decide) (tm1 (i := 34) rfl rfl) rfl dP_presentIsPlan_55 ?_
          refine lv_icmp_lt (tgt := 65) hx hb dP_presentIsPlan_58 (by decide) (fun hc => ?_) (fun hc => ?_)
          · replace hw := hw.1 hc
            refine lv_iconst (v := (0 : Int32)) hx hb dP_presentIsPlan_65 (by decide) ?_
            exact LP_presentIsPlan_66 X hex hr (wp_P_presentIsPlan_7 po n) ih (0 : Int32) x3 x1 (x2 + (1 : Int32)) x4 f a b hw _ _ K _ (lv_sub hl [2, 3, 0, 5] rfl)
          · replace hw := hw.2 hc
            refine lv_iconst (v := (1 : Int32)) hx hb dP_presentIsPlan_61 (by decide) ?_
            refine lv_goto (tgt := 66) hx hb dP_presentIsPlan_62 (by decide) ?_
            exact LP_presentIsPlan_66 X hex hr (wp_P_presentIsPlan_7 po n) ih (1 : Int32) x3 x1 (x2 + (1 : Int32)) x4 f a b hw _ _ K _ (lv_sub hl [2, 3, 0, 5] rfl)
        · replace hw := hw.2 hc
          refine lv_iconst (v := (0 : Int32)) hx hb dP_presentIsPlan_46 (by decide) ?_
          exact endI X K hr hw.1 hw.2 (by decide) (by decide) dP_presentIsPlan_47
set_option maxHeartbeats 4000000 in
set_option maxRecDepth 100000 in
theorem met_P_presentIsPlan {l : Launch} (hl9 : l.stackTraces = false) (D : va_G) (ad : Nat → Nat) (ca : Nat → ClassId) (sa : Nat → Nat) (sz : Nat) (x1 : Int32) (f : wF) (a : wA) (b : wB) (po : Int32 → wF → wA → wB → Prop) (hw : wp_P_presentIsPlan po x1 f a b) : mI nS kS (tyS ca) txS D vwCl l yP_presentIsPlan (Cond.code yP_presentIsPlan cP_presentIsPlan 6 (some .boolean) :: Wl) ({ frames := 0, cells := 0, slots := 0, locals := 0 }) [.ref (ad 24), .int x1] ad ca sa sz f a b po (fun _ _ _ _ => False) 0 0 := by
  refine ofI (by decide) hl9 (Nat.le_of_ble_eq_true rfl) ?_
  intro p e s m below meth c ls X hex hr K hl
  obtain ⟨hx, hb, hml, hown, hts, hK, hA, hth, hlk, hl9⟩ := id X
  have hl : lv_has ls 6 [(0, .ref (ad 24)), (1, .int x1)] := hl
  dsimp only [wp_P_presentIsPlan] at hw
  refine lv_iconst (v := (0 : Int32)) hx hb dP_presentIsPlan_0 (by decide) ?_
  refine lv_istore_n (lv' := [(2, .int (0 : Int32)), (0, .ref (ad 24)), (1, .int x1)]) hx hb dP_presentIsPlan_1 rfl hl (by decide) rfl (fun ls hl => ?_)
  refine lv_iconst (v := (0 : Int32)) hx hb dP_presentIsPlan_2 (by decide) ?_
  refine lv_istore_n (lv' := [(3, .int (0 : Int32)), (2, .int (0 : Int32)), (0, .ref (ad 24)), (1, .int x1)]) hx hb dP_presentIsPlan_3 rfl hl (by decide) rfl (fun ls hl => ?_)
  refine lv_iconst (v := (0 : Int32)) hx hb dP_presentIsPlan_4 (by decide) ?_
  refine lv_istore (lv' := [(4, .int (0 : Int32)), (3, .int (0 : Int32)), (2, .int (0 : Int32)), (0, .ref (ad 24)), (1, .int x1)]) hx hb dP_presentIsPlan_5 hl (by decide) rfl (fun ls hl => ?_)
  obtain ⟨n9, hw⟩ := hw
  exact LP_presentIsPlan_7 X hex hr n9 x1 (0 : Int32) (0 : Int32) (0 : Int32) f a b hw _ _ K _ (lv_sub hl [3, 4, 2, 1, 0] rfl)
set_option maxHeartbeats 4000000 in
set_option maxRecDepth 100000 in
theorem met_P_savedByBest {l : Launch} (hl9 : l.stackTraces = false) (D : va_G) (ad : Nat → Nat) (ca : Nat → ClassId) (sa : Nat → Nat) (sz : Nat)  (f : wF) (a : wA) (b : wB) (po : Int64 → wF → wA → wB → Prop) (hw : wp_P_savedByBest po f a b) : mL nS kS (tyS ca) txS D vwCl l yP_savedByBest (Cond.code yP_savedByBest cP_savedByBest 1 (some .long) :: Wl) ({ frames := 1, cells := 0, slots := 0, locals := 25 }) [.ref (ad 24)] ad ca sa sz f a b po (fun _ _ _ _ => False) 0 0 := by
  refine ofL (by decide) hl9 (Nat.le_of_ble_eq_true rfl) ?_
  intro p e s m below meth c ls X hex hr K hl
  obtain ⟨hx, hb, hml, hown, hts, hK, hA, hth, hlk, hl9⟩ := id X
  have hl : lv_has ls 1 [(0, .ref (ad 24))] := hl
  dsimp only [wp_P_savedByBest] at hw
  refine lv_aload_n hx hb dP_savedByBest_0 rfl (lv_at hl 0 rfl) ?_
  refine lv_aload_n hx hb dP_savedByBest_1 rfl (lv_at hl 0 rfl) ?_
  refine gGet X K (o := 24) (k := 3) (v := .ref (ad 26)) (by decide) kS_o24 rfl inS_o24 (by decide) (tm1 (i := 36) rfl rfl) rfl dP_savedByBest_2 ?_
  refine lv_aload_n hx hb dP_savedByBest_5 rfl (lv_at hl 0 rfl) ?_
  refine gGet X K (o := 24) (k := 7) (v := .ref (ad 50)) (by decide) kS_o24 rfl inS_o24 (by decide) (tm1 (i := 40) rfl rfl) rfl dP_savedByBest_6 ?_
  refine gcL X K (n0 := 2) (As := [.ref (ad 26), .ref (ad 50)]) (rest := []) (hM := (met_P_total_26_50 hl9 D ad ca sa _ f a b _ hw)) (o := 24) (ho := by decide) (hko := kS_o24) (hci := rfl) (hg := wl_good) (w1 := (tm2 (i := 212) rfl rfl)) (w2 := (tm2 (i := 214) rfl rfl)) (w3 := (tm0 (i := 21) rfl rfl)) (w4 := (tm1 (i := 2) rfl rfl)) (w5 := (tm2 (i := 215) rfl rfl)) (hd := ⟨rfl, by decide, by decide, by decide +kernel⟩) (hrc := rfl) (hrs := rfl) (hR := ⟨Nat.le_of_ble_eq_true rfl, Nat.le_of_ble_eq_true rfl⟩) (hn := rfl) (hsz := hl.1) (hst := rfl) (hW := Nat.le_of_ble_eq_true rfl) (hdg := dP_savedByBest_9) (hf := ⟨Nat.le_of_ble_eq_true rfl, Nat.le_of_ble_eq_true rfl⟩) (fun _ _ _ _ _ _ _ _ hw => hw.elim) (fun r9 f9 a9 b9 H locs hw K => ?_)
  refine lv_aload_n hx hb dP_savedByBest_12 rfl (lv_at hl 0 rfl) ?_
  refine lv_aload_n hx hb dP_savedByBest_13 rfl (lv_at hl 0 rfl) ?_
  refine gGet X K (o := 24) (k := 3) (v := .ref (ad 26)) (by decide) kS_o24 rfl inS_o24 (by decide) (tm1 (i := 36) rfl rfl) rfl dP_savedByBest_14 ?_
  refine lv_aload_n hx hb dP_savedByBest_17 rfl (lv_at hl 0 rfl) ?_
  refine gGet X K (o := 24) (k := 5) (v := .ref (ad 48)) (by decide) kS_o24 rfl inS_o24 (by decide) (tm1 (i := 38) rfl rfl) rfl dP_savedByBest_18 ?_
  refine gcL X K (n0 := 2) (As := [.ref (ad 26), .ref (ad 48)]) (rest := [.long r9]) (hM := (met_P_total_26_48 hl9 D ad ca sa _ f9 a9 b9 _ hw)) (o := 24) (ho := by decide) (hko := kS_o24) (hci := rfl) (hg := wl_good) (w1 := (tm2 (i := 212) rfl rfl)) (w2 := (tm2 (i := 214) rfl rfl)) (w3 := (tm0 (i := 21) rfl rfl)) (w4 := (tm1 (i := 2) rfl rfl)) (w5 := (tm2 (i := 215) rfl rfl)) (hd := ⟨rfl, by decide, by decide, by decide +kernel⟩) (hrc := rfl) (hrs := rfl) (hR := ⟨Nat.le_of_ble_eq_true rfl, Nat.le_of_ble_eq_true rfl⟩) (hn := rfl) (hsz := hl.1) (hst := rfl) (hW := Nat.le_of_ble_eq_true rfl) (hdg := dP_savedByBest_21) (hf := ⟨Nat.le_of_ble_eq_true rfl, Nat.le_of_ble_eq_true rfl⟩) (fun _ _ _ _ _ _ _ _ hw => hw.elim) (fun r21 f21 a21 b21 H locs hw K => ?_)
  refine lv_lsub hx hb dP_savedByBest_24 ?_
  exact endL X K hr hw (by decide) (by decide) dP_savedByBest_25
set_option maxHeartbeats 4000000 in
set_option maxRecDepth 100000 in
theorem met_P_needOfRow {l : Launch} (hl9 : l.stackTraces = false) (D : va_G) (ad : Nat → Nat) (ca : Nat → ClassId) (sa : Nat → Nat) (sz : Nat) (x1 : Int32) (f : wF) (a : wA) (b : wB) (po : Int32 → wF → wA → wB → Prop) (hw : wp_P_needOfRow po x1 f a b) : mI nS kS (tyS ca) txS D vwCl l yP_needOfRow (Cond.code yP_needOfRow cP_needOfRow 2 (some .int) :: Wl) ({ frames := 0, cells := 0, slots := 0, locals := 0 }) [.ref (ad 24), .int x1] ad ca sa sz f a b po (fun _ _ _ _ => False) 0 0 := by
  refine ofI (by decide) hl9 (Nat.le_of_ble_eq_true rfl) ?_
  intro p e s m below meth c ls X hex hr K hl
  obtain ⟨hx, hb, hml, hown, hts, hK, hA, hth, hlk, hl9⟩ := id X
  have hl : lv_has ls 2 [(0, .ref (ad 24)), (1, .int x1)] := hl
  dsimp only [wp_P_needOfRow] at hw
  refine lv_aload_n hx hb dP_needOfRow_0 rfl (lv_at hl 0 rfl) ?_
  refine gGet X K (o := 24) (k := 2) (v := .ref (ad 25)) (by decide) kS_o24 rfl inS_o24 (by decide) (tm1 (i := 35) rfl rfl) rfl dP_needOfRow_1 ?_
  refine lv_iload_n hx hb dP_needOfRow_4 rfl (lv_at hl 1 rfl) ?_
  obtain ⟨hi, hw⟩ := hw
  refine gild X K (o := 25) (t0 := 0) (by decide) kS_c25 rfl hi dP_needOfRow_5 ?_
  exact endI X K hr rfl hw (by decide) (by decide) dP_needOfRow_6
set_option maxHeartbeats 4000000 in
set_option maxRecDepth 100000 in
theorem met_P_setPresent {l : Launch} (hl9 : l.stackTraces = false) (D : va_G) (ad : Nat → Nat) (ca : Nat → ClassId) (sa : Nat → Nat) (sz : Nat) (x1 : Int32) (x2 : Int32) (f : wF) (a : wA) (b : wB) (po : wF → wA → wB → Prop) (hw : wp_P_setPresent po x1 x2 f a b) : mV nS kS (tyS ca) txS D vwCl l yP_setPresent (Cond.code yP_setPresent cP_setPresent 3 none :: Wl) ({ frames := 0, cells := 0, slots := 0, locals := 0 }) [.ref (ad 24), .int x1, .int x2] ad ca sa sz f a b po (fun _ _ _ _ => False) 0 0 := by
  refine ofV (by decide) hl9 (Nat.le_of_ble_eq_true rfl) ?_
  intro p e s m below meth c ls X hex hr K hl
  obtain ⟨hx, hb, hml, hown, hts, hK, hA, hth, hlk, hl9⟩ := id X
  have hl : lv_has ls 3 [(0, .ref (ad 24)), (1, .int x1), (2, .int x2)] := hl
  dsimp only [wp_P_setPresent] at hw
  refine lv_aload_n hx hb dP_setPresent_0 rfl (lv_at hl 0 rfl) ?_
  refine gGet X K (o := 24) (k := 7) (v := .ref (ad 50)) (by decide) kS_o24 rfl inS_o24 (by decide) (tm1 (i := 40) rfl rfl) rfl dP_setPresent_1 ?_
  refine lv_iload_n hx hb dP_setPresent_4 rfl (lv_at hl 1 rfl) ?_
  refine lv_iload_n hx hb dP_setPresent_5 rfl (lv_at hl 2 rfl) ?_
  obtain ⟨hi, hw⟩ := hw
  refine gist X K (o := 50) (t0 := 0) (by decide) kS_c50 rfl hi dP_setPresent_6 kS_p50 (fun H locs K => ?_)
  exact endV X K hr hw (by decide) (by decide) dP_setPresent_7
set_option maxHeartbeats 4000000 in
set_option maxRecDepth 100000 in
theorem LS_presentStays_69 {p : Program} {l : Launch} {e : Env} {s : State} {m : MethodId} {below : List Frame} {meth : Method} {c : Code} {D : va_G} {sa : Nat → Nat} {ad : Nat → Nat} {ca : Nat → ClassId} {A : Nat → Prop} {y1 : Int32} {y2 : Int32} {po : Int32 → wF → wA → wB → Prop} (X : cx Wl (tyS ca) txS D vwCl sa A p l s m ([.ref (ad 0), .int y1, .int y2] : List Value).toArray meth c cS_presentStays 4 "SendBest") (hex : ∀ x ∈ c.exceptionTable.toList, False) (hr : meth.sig.returnType = (some .boolean)) : ∀ (k0 : Int32) (f : wF) (a : wA) (b : wB), wp_S_presentStays_69 po k0 f a b → ∀ (H : Heap) (locs : List Loc), wd nS kS D vwCl ad ca A s H locs f a b → ∀ (ls : Array Slot), lv_has ls 4 [] → W p l e ({ frames := 2, cells := 0, slots := 0, locals := 45 }) s m ([.ref (ad 0), .int y1, .int y2] : List Value).toArray below meth c H locs 0 0 (vx_MQ below (va_Qi (fun r (u : wF × wA × wB) => po r u.1 u.2.1 u.2.2) (sPost nS kS D vwCl ad ca A) A) (sX nS kS D vwCl ad ca A (fun _ _ _ _ => False)) ([.ref (ad 0), .int y1, .int y2] : List Value).toArray s 0 0 A) (F0 m 69 ls [.int k0]) := by
  obtain ⟨hx, hb, hml, hown, hts, hK, hA, hth, hlk, hl9⟩ := id X
  intro k0 f a b hw H locs K ls hl
  dsimp only [wp_S_presentStays_69] at hw
  exact endI X K hr hw.1 hw.2 (by decide) (by decide) dS_presentStays_69
set_option maxHeartbeats 4000000 in
set_option maxRecDepth 100000 in
theorem LS_presentStays_68 {p : Program} {l : Launch} {e : Env} {s : State} {m : MethodId} {below : List Frame} {meth : Method} {c : Code} {D : va_G} {sa : Nat → Nat} {ad : Nat → Nat} {ca : Nat → ClassId} {A : Nat → Prop} {y1 : Int32} {y2 : Int32} {po : Int32 → wF → wA → wB → Prop} (X : cx Wl (tyS ca) txS D vwCl sa A p l s m ([.ref (ad 0), .int y1, .int y2] : List Value).toArray meth c cS_presentStays 4 "SendBest") (hex : ∀ x ∈ c.exceptionTable.toList, False) (hr : meth.sig.returnType = (some .boolean)) : ∀ (f : wF) (a : wA) (b : wB), wp_S_presentStays_68 po f a b → ∀ (H : Heap) (locs : List Loc), wd nS kS D vwCl ad ca A s H locs f a b → ∀ (ls : Array Slot), lv_has ls 4 [] → W p l e ({ frames := 2, cells := 0, slots := 0, locals := 45 }) s m ([.ref (ad 0), .int y1, .int y2] : List Value).toArray below meth c H locs 0 0 (vx_MQ below (va_Qi (fun r (u : wF × wA × wB) => po r u.1 u.2.1 u.2.2) (sPost nS kS D vwCl ad ca A) A) (sX nS kS D vwCl ad ca A (fun _ _ _ _ => False)) ([.ref (ad 0), .int y1, .int y2] : List Value).toArray s 0 0 A) (F0 m 68 ls []) := by
  obtain ⟨hx, hb, hml, hown, hts, hK, hA, hth, hlk, hl9⟩ := id X
  intro  f a b hw H locs K ls hl
  dsimp only [wp_S_presentStays_68] at hw
  refine lv_iconst (v := (0 : Int32)) hx hb dS_presentStays_68 (by decide) ?_
  exact LS_presentStays_69 X hex hr (0 : Int32) f a b hw _ _ K _ (lv_sub hl [] rfl)
set_option maxHeartbeats 4000000 in
set_option maxRecDepth 100000 in
theorem LS_presentStays_2 {p : Program} {l : Launch} {e : Env} {s : State} {m : MethodId} {below : List Frame} {meth : Method} {c : Code} {D : va_G} {sa : Nat → Nat} {ad : Nat → Nat} {ca : Nat → ClassId} {A : Nat → Prop} {y1 : Int32} {y2 : Int32} {po : Int32 → wF → wA → wB → Prop} (X : cx Wl (tyS ca) txS D vwCl sa A p l s m ([.ref (ad 0), .int y1, .int y2] : List Value).toArray meth c cS_presentStays 4 "SendBest") (hex : ∀ x ∈ c.exceptionTable.toList, False) (hr : meth.sig.returnType = (some .boolean)) : ∀ n : Nat, ∀ (x1 : Int32) (x2 : Int32) (x3 : Int32) (f : wF) (a : wA) (b : wB), wp_S_presentStays_2 po n x1 x2 x3 f a b → ∀ (H : Heap) (locs : List Loc), wd nS kS D vwCl ad ca A s H locs f a b → ∀ (ls : Array Slot), lv_has ls 4 [(0, .ref (ad 0)), (1, .int x1), (2, .int x2), (3, .int x3)] → W p l e ({ frames := 2, cells := 0, slots := 0, locals := 45 }) s m ([.ref (ad 0), .int y1, .int y2] : List Value).toArray below meth c H locs 0 0 (vx_MQ below (va_Qi (fun r (u : wF × wA × wB) => po r u.1 u.2.1 u.2.2) (sPost nS kS D vwCl ad ca A) A) (sX nS kS D vwCl ad ca A (fun _ _ _ _ => False)) ([.ref (ad 0), .int y1, .int y2] : List Value).toArray s 0 0 A) (F0 m 2 ls []) := by
  obtain ⟨hx, hb, hml, hown, hts, hK, hA, hth, hlk, hl9⟩ := id X
  intro n
  induction n with
  | zero => intro x1 x2 x3 f a b hw; exact hw.elim
  | succ n ih =>
    intro x1 x2 x3 f a b hw H locs K ls hl
    dsimp only [wp_S_presentStays_2] at hw
    refine lv_iload_n hx hb dS_presentStays_2 rfl (lv_at hl 3 rfl) ?_
    refine lv_aload_n hx hb dS_presentStays_3 rfl (lv_at hl 0 rfl) ?_
    refine gGet X K (o := 0) (k := 16) (v := .ref (ad 24)) (by decide) kS_o0 rfl inS_o0 (by decide) (tm1 (i := 98) rfl rfl) rfl dS_presentStays_4 ?_
    refine gcI X K (n0 := 0) (As := []) (rest := [.int x3]) (hM := (met_P_rows hl9 D ad ca sa _ f a b _ hw)) (o := 24) (ho := by decide) (hko := kS_o24) (hci := rfl) (hg := wl_good) (w1 := (tm2 (i := 223) rfl rfl)) (w2 := (tm2 (i := 224) rfl rfl)) (w3 := (tm2 (i := 225) rfl rfl)) (w4 := (tm1 (i := 2) rfl rfl)) (w5 := (tm2 (i := 226) rfl rfl)) (hd := ⟨rfl, by decide, by decide, by decide +kernel⟩) (hrc := rfl) (hrs := rfl) (hR := ⟨Nat.le_of_ble_eq_true rfl, Nat.le_of_ble_eq_true rfl⟩) (hn := rfl) (hsz := hl.1) (hst := rfl) (hW := Nat.le_of_ble_eq_true rfl) (hdg := dS_presentStays_7) (hf := ⟨Nat.le_of_ble_eq_true rfl, Nat.le_of_ble_eq_true rfl⟩) (fun _ _ _ _ _ _ _ _ hw => hw.elim) (fun r7 f7 a7 b7 H locs hw K => ?_)
    refine lv_icmp_ge (tgt := 40) hx hb dS_presentStays_10 (by decide) (fun hc => ?_) (fun hc => ?_)
    · replace hw := hw.1 hc
      refine lv_aload_n hx hb dS_presentStays_40 rfl (lv_at hl 0 rfl) ?_
      refine gGet X K (o := 0) (k := 16) (v := .ref (ad 24)) (by decide) kS_o0 rfl inS_o0 (by decide) (tm1 (i := 98) rfl rfl) rfl dS_presentStays_41 ?_
      refine lv_iload_n hx hb dS_presentStays_44 rfl (lv_at hl 1 rfl) ?_
      refine gcI X K (n0 := 1) (As := [.int x1]) (rest := []) (hM := (met_P_presentIsPlan hl9 D ad ca sa _ x1 f7 a7 b7 _ hw)) (o := 24) (ho := by decide) (hko := kS_o24) (hci := rfl) (hg := wl_good) (w1 := (tm2 (i := 235) rfl rfl)) (w2 := (tm2 (i := 236) rfl rfl)) (w3 := (tm2 (i := 237) rfl rfl)) (w4 := (tm1 (i := 2) rfl rfl)) (w5 := (tm2 (i := 238) rfl rfl)) (hd := ⟨rfl, by decide, by decide, by decide +kernel⟩) (hrc := rfl) (hrs := rfl) (hR := ⟨Nat.le_of_ble_eq_true rfl, Nat.le_of_ble_eq_true rfl⟩) (hn := rfl) (hsz := hl.1) (hst := rfl) (hW := Nat.le_of_ble_eq_true rfl) (hdg := dS_presentStays_45) (hf := ⟨Nat.le_of_ble_eq_true rfl, Nat.le_of_ble_eq_true rfl⟩) (fun _ _ _ _ _ _ _ _ hw => hw.elim) (fun r45 f45 a45 b45 H locs hw K => ?_)
      refine lv_if_eq (tgt := 68) hx hb dS_presentStays_48 (by decide) (fun hc => ?_) (fun hc => ?_)
      · replace hw := hw.1 hc
        exact LS_presentStays_68 X hex hr f45 a45 b45 hw _ _ K _ (lv_sub hl [] rfl)
      · replace hw := hw.2 hc
        refine lv_aload_n hx hb dS_presentStays_51 rfl (lv_at hl 0 rfl) ?_
        refine gGet X K (o := 0) (k := 16) (v := .ref (ad 24)) (by decide) kS_o0 rfl inS_o0 (by decide) (tm1 (i := 98) rfl rfl) rfl dS_presentStays_52 ?_
        refine gcL X K (n0 := 0) (As := []) (rest := []) (hM := (met_P_savedByBest hl9 D ad ca sa _ f45 a45 b45 _ hw)) (o := 24) (ho := by decide) (hko := kS_o24) (hci := rfl) (hg := wl_good) (w1 := (tm2 (i := 239) rfl rfl)) (w2 := (tm3 (i := 0) rfl rfl)) (w3 := (tm3 (i := 1) rfl rfl)) (w4 := (tm1 (i := 2) rfl rfl)) (w5 := (tm3 (i := 2) rfl rfl)) (hd := ⟨rfl, by decide, by decide, by decide +kernel⟩) (hrc := rfl) (hrs := rfl) (hR := ⟨Nat.le_of_ble_eq_true rfl, Nat.le_of_ble_eq_true rfl⟩) (hn := rfl) (hsz := hl.1) (hst := rfl) (hW := Nat.le_of_ble_eq_true rfl) (hdg := dS_presentStays_55) (hf := ⟨Nat.le_of_ble_eq_true rfl, Nat.le_of_ble_eq_true rfl⟩) (fun _ _ _ _ _ _ _ _ hw => hw.elim) (fun r55 f55 a55 b55 H locs hw K => ?_)
        refine lv_iload_n hx hb dS_presentStays_58 rfl (lv_at hl 2 rfl) ?_
        refine lv_i2l (v := x2.toInt64) hx hb dS_presentStays_59 rfl ?_
        refine W.lcmp hx hb dS_presentStays_60 ?_
        refine lv_if_ge (tgt := 68) hx hb dS_presentStays_61 (by decide) (fun hc => ?_) (fun hc => ?_)
        · replace hw := hw.1 hc
          exact LS_presentStays_68 X hex hr f55 a55 b55 hw _ _ K _ (lv_sub hl [] rfl)
        · replace hw := hw.2 hc
          refine lv_iconst (v := (1 : Int32)) hx hb dS_presentStays_64 (by decide) ?_
          refine lv_goto (tgt := 69) hx hb dS_presentStays_65 (by decide) ?_
          exact LS_presentStays_69 X hex hr (1 : Int32) f55 a55 b55 hw _ _ K _ (lv_sub hl [] rfl)
    · replace hw := hw.2 hc
      refine lv_aload_n hx hb dS_presentStays_13 rfl (lv_at hl 0 rfl) ?_
      refine gGet X K (o := 0) (k := 16) (v := .ref (ad 24)) (by decide) kS_o0 rfl inS_o0 (by decide) (tm1 (i := 98) rfl rfl) rfl dS_presentStays_14 ?_
      refine lv_iload_n hx hb dS_presentStays_17 rfl (lv_at hl 3 rfl) ?_
      refine lv_aload_n hx hb dS_presentStays_18 rfl (lv_at hl 0 rfl) ?_
      refine gGet X K (o := 0) (k := 12) (v := .ref (ad 22)) (by decide) kS_o0 rfl inS_o0 (by decide) (tm1 (i := 94) rfl rfl) rfl dS_presentStays_19 ?_
      refine lv_aload_n hx hb dS_presentStays_22 rfl (lv_at hl 0 rfl) ?_
      refine gGet X K (o := 0) (k := 16) (v := .ref (ad 24)) (by decide) kS_o0 rfl inS_o0 (by decide) (tm1 (i := 98) rfl rfl) rfl dS_presentStays_23 ?_
      refine lv_iload_n hx hb dS_presentStays_26 rfl (lv_at hl 3 rfl) ?_
      refine gcI X K (n0 := 1) (As := [.int x3]) (rest := [.ref (ad 22), .int x3, .ref (ad 24)]) (hM := (met_P_needOfRow hl9 D ad ca sa _ x3 f7 a7 b7 _ hw)) (o := 24) (ho := by decide) (hko := kS_o24) (hci := rfl) (hg := wl_good) (w1 := (tm2 (i := 227) rfl rfl)) (w2 := (tm2 (i := 228) rfl rfl)) (w3 := (tm2 (i := 229) rfl rfl)) (w4 := (tm1 (i := 2) rfl rfl)) (w5 := (tm2 (i := 230) rfl rfl)) (hd := ⟨rfl, by decide, by decide, by decide +kernel⟩) (hrc := rfl) (hrs := rfl) (hR := ⟨Nat.le_of_ble_eq_true rfl, Nat.le_of_ble_eq_true rfl⟩) (hn := rfl) (hsz := hl.1) (hst := rfl) (hW := Nat.le_of_ble_eq_true rfl) (hdg := dS_presentStays_27) (hf := ⟨Nat.le_of_ble_eq_true rfl, Nat.le_of_ble_eq_true rfl⟩) (fun _ _ _ _ _ _ _ _ hw => hw.elim) (fun r27 f27 a27 b27 H locs hw K => ?_)
      obtain ⟨hi, hw⟩ := hw
      refine gild X K (o := 22) (t0 := 0) (by decide) kS_c22 rfl hi dS_presentStays_30 ?_
      refine gcV X K (n0 := 2) (As := [.int x3, .int (a27 22 r27.toNatClampNeg)]) (rest := []) (hM := (met_P_setPresent hl9 D ad ca sa _ x3 (a27 22 r27.toNatClampNeg) f27 a27 b27 _ hw)) (o := 24) (ho := by decide) (hko := kS_o24) (hci := rfl) (hg := wl_good) (w1 := (tm2 (i := 231) rfl rfl)) (w2 := (tm2 (i := 232) rfl rfl)) (w3 := (tm2 (i := 233) rfl rfl)) (w4 := (tm1 (i := 2) rfl rfl)) (w5 := (tm2 (i := 234) rfl rfl)) (hd := ⟨rfl, by decide, by decide, by decide +kernel⟩) (hrc := rfl) (hrs := rfl) (hR := ⟨Nat.le_of_ble_eq_true rfl, Nat.le_of_ble_eq_true rfl⟩) (hn := rfl) (hsz := hl.1) (hst := rfl) (hW := Nat.le_of_ble_eq_true rfl) (hdg := dS_presentStays_31) (hf := ⟨Nat.le_of_ble_eq_true rfl, Nat.le_of_ble_eq_true rfl⟩) (fun _ _ _ _ _ _ _ _ hw => hw.elim) (fun f31 a31 b31 H locs hw K => ?_)
      refine lv_iinc (v := (x3 + (1 : Int32))) (lv' := [(3, .int (x3 + (1 : Int32))), (0, .ref (ad 0)), (1, .int x1), (2, .int x2)]) hx hb dS_presentStays_34 hl (k := 3) rfl rfl (by decide) rfl (fun ls hl => ?_)
      refine lv_goto (tgt := 2) hx hb dS_presentStays_37 (by decide) ?_
      exact ih x1 x2 (x3 + (1 : Int32)) f31 a31 b31 hw _ _ K _ (lv_sub hl [1, 2, 3, 0] rfl)
set_option maxHeartbeats 4000000 in
set_option maxRecDepth 100000 in
theorem met_S_presentStays {l : Launch} (hl9 : l.stackTraces = false) (D : va_G) (ad : Nat → Nat) (ca : Nat → ClassId) (sa : Nat → Nat) (sz : Nat) (x1 : Int32) (x2 : Int32) (f : wF) (a : wA) (b : wB) (po : Int32 → wF → wA → wB → Prop) (hw : wp_S_presentStays po x1 x2 f a b) : mI nS kS (tyS ca) txS D vwCl l yS_presentStays (Cond.code yS_presentStays cS_presentStays 4 (some .boolean) :: Wl) ({ frames := 2, cells := 0, slots := 0, locals := 45 }) [.ref (ad 0), .int x1, .int x2] ad ca sa sz f a b po (fun _ _ _ _ => False) 0 0 := by
  refine ofI (by decide) hl9 (Nat.le_of_ble_eq_true rfl) ?_
  intro p e s m below meth c ls X hex hr K hl
  obtain ⟨hx, hb, hml, hown, hts, hK, hA, hth, hlk, hl9⟩ := id X
  have hl : lv_has ls 4 [(0, .ref (ad 0)), (1, .int x1), (2, .int x2)] := hl
  dsimp only [wp_S_presentStays] at hw
  refine lv_iconst (v := (0 : Int32)) hx hb dS_presentStays_0 (by decide) ?_
  refine lv_istore_n (lv' := [(3, .int (0 : Int32)), (0, .ref (ad 0)), (1, .int x1), (2, .int x2)]) hx hb dS_presentStays_1 rfl hl (by decide) rfl (fun ls hl => ?_)
  obtain ⟨n9, hw⟩ := hw
  exact LS_presentStays_2 X hex hr n9 x1 x2 (0 : Int32) f a b hw _ _ K _ (lv_sub hl [1, 2, 3, 0] rfl)
set_option maxHeartbeats 4000000 in
set_option maxRecDepth 100000 in
theorem LS_countFilled_25 {p : Program} {l : Launch} {e : Env} {s : State} {m : MethodId} {below : List Frame} {meth : Method} {c : Code} {D : va_G} {sa : Nat → Nat} {ad : Nat → Nat} {ca : Nat → ClassId} {A : Nat → Prop} {po : Int32 → wF → wA → wB → Prop} (X : cx Wl (tyS ca) txS D vwCl sa A p l s m ([.ref (ad 0)] : List Value).toArray meth c cS_countFilled 3 "SendBest") (hex : ∀ x ∈ c.exceptionTable.toList, False) (hr : meth.sig.returnType = (some .int)) (J4 : Int32 → Int32 → wF → wA → wB → Prop) (hJ4 : ∀ (x1 : Int32) (x2 : Int32) (f : wF) (a : wA) (b : wB), J4 x1 x2 f a b → ∀ (H : Heap) (locs : List Loc), wd nS kS D vwCl ad ca A s H locs f a b → ∀ (ls : Array Slot), lv_has ls 3 [(0, .ref (ad 0)), (1, .int x1), (2, .int x2)] → W p l e ({ frames := 0, cells := 0, slots := 0, locals := 0 }) s m ([.ref (ad 0)] : List Value).toArray below meth c H locs 0 0 (vx_MQ below (va_Qi (fun r (u : wF × wA × wB) => po r u.1 u.2.1 u.2.2) (sPost nS kS D vwCl ad ca A) A) (sX nS kS D vwCl ad ca A (fun _ _ _ _ => False)) ([.ref (ad 0)] : List Value).toArray s 0 0 A) (F0 m 4 ls [])) : ∀ (x1 : Int32) (x2 : Int32) (f : wF) (a : wA) (b : wB), wp_S_countFilled_25 po J4 x1 x2 f a b → ∀ (H : Heap) (locs : List Loc), wd nS kS D vwCl ad ca A s H locs f a b → ∀ (ls : Array Slot), lv_has ls 3 [(0, .ref (ad 0)), (1, .int x1), (2, .int x2)] → W p l e ({ frames := 0, cells := 0, slots := 0, locals := 0 }) s m ([.ref (ad 0)] : List Value).toArray below meth c H locs 0 0 (vx_MQ below (va_Qi (fun r (u : wF × wA × wB) => po r u.1 u.2.1 u.2.2) (sPost nS kS D vwCl ad ca A) A) (sX nS kS D vwCl ad ca A (fun _ _ _ _ => False)) ([.ref (ad 0)] : List Value).toArray s 0 0 A) (F0 m 25 ls []) := by
  obtain ⟨hx, hb, hml, hown, hts, hK, hA, hth, hlk, hl9⟩ := id X
  intro x1 x2 f a b hw H locs K ls hl
  dsimp only [wp_S_countFilled_25] at hw
  refine lv_iinc (v := (x2 + (1 : Int32))) (lv' := [(2, .int (x2 + (1 : Int32))), (0, .ref (ad 0)), (1, .int x1)]) hx hb dS_countFilled_25 hl (k := 2) rfl rfl (by decide) rfl (fun ls hl => ?_)
  refine lv_goto (tgt := 4) hx hb dS_countFilled_28 (by decide) ?_
  exact hJ4 x1 (x2 + (1 : Int32)) f a b hw _ _ K _ (lv_sub hl [1, 2, 0] rfl)
set_option maxHeartbeats 4000000 in
set_option maxRecDepth 100000 in
theorem LS_countFilled_4 {p : Program} {l : Launch} {e : Env} {s : State} {m : MethodId} {below : List Frame} {meth : Method} {c : Code} {D : va_G} {sa : Nat → Nat} {ad : Nat → Nat} {ca : Nat → ClassId} {A : Nat → Prop} {po : Int32 → wF → wA → wB → Prop} (X : cx Wl (tyS ca) txS D vwCl sa A p l s m ([.ref (ad 0)] : List Value).toArray meth c cS_countFilled 3 "SendBest") (hex : ∀ x ∈ c.exceptionTable.toList, False) (hr : meth.sig.returnType = (some .int)) : ∀ n : Nat, ∀ (x1 : Int32) (x2 : Int32) (f : wF) (a : wA) (b : wB), wp_S_countFilled_4 po n x1 x2 f a b → ∀ (H : Heap) (locs : List Loc), wd nS kS D vwCl ad ca A s H locs f a b → ∀ (ls : Array Slot), lv_has ls 3 [(0, .ref (ad 0)), (1, .int x1), (2, .int x2)] → W p l e ({ frames := 0, cells := 0, slots := 0, locals := 0 }) s m ([.ref (ad 0)] : List Value).toArray below meth c H locs 0 0 (vx_MQ below (va_Qi (fun r (u : wF × wA × wB) => po r u.1 u.2.1 u.2.2) (sPost nS kS D vwCl ad ca A) A) (sX nS kS D vwCl ad ca A (fun _ _ _ _ => False)) ([.ref (ad 0)] : List Value).toArray s 0 0 A) (F0 m 4 ls []) := by
  obtain ⟨hx, hb, hml, hown, hts, hK, hA, hth, hlk, hl9⟩ := id X
  intro n
  induction n with
  | zero => intro x1 x2 f a b hw; exact hw.elim
  | succ n ih =>
    intro x1 x2 f a b hw H locs K ls hl
    dsimp only [wp_S_countFilled_4] at hw
    refine lv_iload_n hx hb dS_countFilled_4 rfl (lv_at hl 2 rfl) ?_
    refine lv_aload_n hx hb dS_countFilled_5 rfl (lv_at hl 0 rfl) ?_
    refine gGet X K (o := 0) (k := 9) (v := .int (f 2)) (by decide) kS_o0 rfl inS_o0 (by decide) (tm1 (i := 91) rfl rfl) rfl dS_countFilled_6 ?_
    refine lv_icmp_ge (tgt := 31) hx hb dS_countFilled_9 (by decide) (fun hc => ?_) (fun hc => ?_)
    · replace hw := hw.1 hc
      refine lv_iload_n hx hb dS_countFilled_31 rfl (lv_at hl 1 rfl) ?_
      exact endI X K hr rfl hw (by decide) (by decide) dS_countFilled_32
    · replace hw := hw.2 hc
      refine lv_aload_n hx hb dS_countFilled_12 rfl (lv_at hl 0 rfl) ?_
      refine gGet X K (o := 0) (k := 12) (v := .ref (ad 22)) (by decide) kS_o0 rfl inS_o0 (by decide) (tm1 (i := 94) rfl rfl) rfl dS_countFilled_13 ?_
      refine lv_iload_n hx hb dS_countFilled_16 rfl (lv_at hl 2 rfl) ?_
      obtain ⟨hi, hw⟩ := hw
      refine gild X K (o := 22) (t0 := 0) (by decide) kS_c22 rfl hi dS_countFilled_17 ?_
      refine lv_iconst (v := (-1 : Int32)) hx hb dS_countFilled_18 (by decide) ?_
      refine lv_icmp_eq (tgt := 25) hx hb dS_countFilled_19 (by decide) (fun hc => ?_) (fun hc => ?_)
      · replace hw := hw.1 hc
        exact LS_countFilled_25 X hex hr (wp_S_countFilled_4 po n) ih x1 x2 f a b hw _ _ K _ (lv_sub hl [0, 1, 2] rfl)
      · replace hw := hw.2 hc
        refine lv_iinc (v := (x1 + (1 : Int32))) (lv' := [(1, .int (x1 + (1 : Int32))), (0, .ref (ad 0)), (2, .int x2)]) hx hb dS_countFilled_22 hl (k := 1) rfl rfl (by decide) rfl (fun ls hl => ?_)
        exact LS_countFilled_25 X hex hr (wp_S_countFilled_4 po n) ih (x1 + (1 : Int32)) x2 f a b hw _ _ K _ (lv_sub hl [1, 0, 2] rfl)
set_option maxHeartbeats 4000000 in
set_option maxRecDepth 100000 in
theorem met_S_countFilled {l : Launch} (hl9 : l.stackTraces = false) (D : va_G) (ad : Nat → Nat) (ca : Nat → ClassId) (sa : Nat → Nat) (sz : Nat)  (f : wF) (a : wA) (b : wB) (po : Int32 → wF → wA → wB → Prop) (hw : wp_S_countFilled po f a b) : mI nS kS (tyS ca) txS D vwCl l yS_countFilled (Cond.code yS_countFilled cS_countFilled 3 (some .int) :: Wl) ({ frames := 0, cells := 0, slots := 0, locals := 0 }) [.ref (ad 0)] ad ca sa sz f a b po (fun _ _ _ _ => False) 0 0 := by
  refine ofI (by decide) hl9 (Nat.le_of_ble_eq_true rfl) ?_
  intro p e s m below meth c ls X hex hr K hl
  obtain ⟨hx, hb, hml, hown, hts, hK, hA, hth, hlk, hl9⟩ := id X
  have hl : lv_has ls 3 [(0, .ref (ad 0))] := hl
  dsimp only [wp_S_countFilled] at hw
  refine lv_iconst (v := (0 : Int32)) hx hb dS_countFilled_0 (by decide) ?_
  refine lv_istore_n (lv' := [(1, .int (0 : Int32)), (0, .ref (ad 0))]) hx hb dS_countFilled_1 rfl hl (by decide) rfl (fun ls hl => ?_)
  refine lv_iconst (v := (0 : Int32)) hx hb dS_countFilled_2 (by decide) ?_
  refine lv_istore_n (lv' := [(2, .int (0 : Int32)), (1, .int (0 : Int32)), (0, .ref (ad 0))]) hx hb dS_countFilled_3 rfl hl (by decide) rfl (fun ls hl => ?_)
  obtain ⟨n9, hw⟩ := hw
  exact LS_countFilled_4 X hex hr n9 (0 : Int32) (0 : Int32) f a b hw _ _ K _ (lv_sub hl [2, 1, 0] rfl)
set_option maxHeartbeats 4000000 in
set_option maxRecDepth 100000 in
theorem met_P_bestUnit {l : Launch} (hl9 : l.stackTraces = false) (D : va_G) (ad : Nat → Nat) (ca : Nat → ClassId) (sa : Nat → Nat) (sz : Nat) (x1 : Int32) (f : wF) (a : wA) (b : wB) (po : Int32 → wF → wA → wB → Prop) (hw : wp_P_bestUnit po x1 f a b) : mI nS kS (tyS ca) txS D vwCl l yP_bestUnit (Cond.code yP_bestUnit cP_bestUnit 2 (some .int) :: Wl) ({ frames := 0, cells := 0, slots := 0, locals := 0 }) [.ref (ad 24), .int x1] ad ca sa sz f a b po (fun _ _ _ _ => False) 0 0 := by
  refine ofI (by decide) hl9 (Nat.le_of_ble_eq_true rfl) ?_
  intro p e s m below meth c ls X hex hr K hl
  obtain ⟨hx, hb, hml, hown, hts, hK, hA, hth, hlk, hl9⟩ := id X
  have hl : lv_has ls 2 [(0, .ref (ad 24)), (1, .int x1)] := hl
  dsimp only [wp_P_bestUnit] at hw
  refine lv_aload_n hx hb dP_bestUnit_0 rfl (lv_at hl 0 rfl) ?_
  refine gGet X K (o := 24) (k := 5) (v := .ref (ad 48)) (by decide) kS_o24 rfl inS_o24 (by decide) (tm1 (i := 38) rfl rfl) rfl dP_bestUnit_1 ?_
  refine lv_iload_n hx hb dP_bestUnit_4 rfl (lv_at hl 1 rfl) ?_
  obtain ⟨hi, hw⟩ := hw
  refine gild X K (o := 48) (t0 := 0) (by decide) kS_c48 rfl hi dP_bestUnit_5 ?_
  exact endI X K hr rfl hw (by decide) (by decide) dP_bestUnit_6
set_option maxHeartbeats 4000000 in
set_option maxRecDepth 100000 in
theorem LS_takeBest_98 {p : Program} {l : Launch} {e : Env} {s : State} {m : MethodId} {below : List Frame} {meth : Method} {c : Code} {D : va_G} {sa : Nat → Nat} {ad : Nat → Nat} {ca : Nat → ClassId} {A : Nat → Prop} {po : wF → wA → wB → Prop} (X : cx Wl (tyS ca) txS D vwCl sa A p l s m ([.ref (ad 0)] : List Value).toArray meth c cS_takeBest 3 "SendBest") (hex : ∀ x ∈ c.exceptionTable.toList, False) (hr : meth.sig.returnType = none) (J45 : Int32 → wF → wA → wB → Prop) (hJ45 : ∀ (x1 : Int32) (f : wF) (a : wA) (b : wB), J45 x1 f a b → ∀ (H : Heap) (locs : List Loc), wd nS kS D vwCl ad ca A s H locs f a b → ∀ (ls : Array Slot), lv_has ls 3 [(0, .ref (ad 0)), (1, .int x1)] → W p l e ({ frames := 1, cells := 0, slots := 0, locals := 21 }) s m ([.ref (ad 0)] : List Value).toArray below meth c H locs 0 0 (vx_MQ below (va_Qv (fun (u : wF × wA × wB) => po u.1 u.2.1 u.2.2) (sPost nS kS D vwCl ad ca A) A) (sX nS kS D vwCl ad ca A (fun _ _ _ _ => False)) ([.ref (ad 0)] : List Value).toArray s 0 0 A) (F0 m 45 ls [])) : ∀ (x1 : Int32) (f : wF) (a : wA) (b : wB), wp_S_takeBest_98 po J45 x1 f a b → ∀ (H : Heap) (locs : List Loc), wd nS kS D vwCl ad ca A s H locs f a b → ∀ (ls : Array Slot), lv_has ls 3 [(0, .ref (ad 0)), (1, .int x1)] → W p l e ({ frames := 1, cells := 0, slots := 0, locals := 21 }) s m ([.ref (ad 0)] : List Value).toArray below meth c H locs 0 0 (vx_MQ below (va_Qv (fun (u : wF × wA × wB) => po u.1 u.2.1 u.2.2) (sPost nS kS D vwCl ad ca A) A) (sX nS kS D vwCl ad ca A (fun _ _ _ _ => False)) ([.ref (ad 0)] : List Value).toArray s 0 0 A) (F0 m 98 ls []) := by
  obtain ⟨hx, hb, hml, hown, hts, hK, hA, hth, hlk, hl9⟩ := id X
  intro x1 f a b hw H locs K ls hl
  dsimp only [wp_S_takeBest_98] at hw
  refine lv_iinc (v := (x1 + (1 : Int32))) (lv' := [(1, .int (x1 + (1 : Int32))), (0, .ref (ad 0))]) hx hb dS_takeBest_98 hl (k := 1) rfl rfl (by decide) rfl (fun ls hl => ?_)
  refine lv_goto (tgt := 45) hx hb dS_takeBest_101 (by decide) ?_
  exact hJ45 (x1 + (1 : Int32)) f a b hw _ _ K _ (lv_sub hl [1, 0] rfl)
set_option maxHeartbeats 4000000 in
set_option maxRecDepth 100000 in
theorem LS_takeBest_45 {p : Program} {l : Launch} {e : Env} {s : State} {m : MethodId} {below : List Frame} {meth : Method} {c : Code} {D : va_G} {sa : Nat → Nat} {ad : Nat → Nat} {ca : Nat → ClassId} {A : Nat → Prop} {po : wF → wA → wB → Prop} (X : cx Wl (tyS ca) txS D vwCl sa A p l s m ([.ref (ad 0)] : List Value).toArray meth c cS_takeBest 3 "SendBest") (hex : ∀ x ∈ c.exceptionTable.toList, False) (hr : meth.sig.returnType = none) : ∀ n : Nat, ∀ (x1 : Int32) (f : wF) (a : wA) (b : wB), wp_S_takeBest_45 po n x1 f a b → ∀ (H : Heap) (locs : List Loc), wd nS kS D vwCl ad ca A s H locs f a b → ∀ (ls : Array Slot), lv_has ls 3 [(0, .ref (ad 0)), (1, .int x1)] → W p l e ({ frames := 1, cells := 0, slots := 0, locals := 21 }) s m ([.ref (ad 0)] : List Value).toArray below meth c H locs 0 0 (vx_MQ below (va_Qv (fun (u : wF × wA × wB) => po u.1 u.2.1 u.2.2) (sPost nS kS D vwCl ad ca A) A) (sX nS kS D vwCl ad ca A (fun _ _ _ _ => False)) ([.ref (ad 0)] : List Value).toArray s 0 0 A) (F0 m 45 ls []) := by
  obtain ⟨hx, hb, hml, hown, hts, hK, hA, hth, hlk, hl9⟩ := id X
  intro n
  induction n with
  | zero => intro x1 f a b hw; exact hw.elim
  | succ n ih =>
    intro x1 f a b hw H locs K ls hl
    dsimp only [wp_S_takeBest_45] at hw
    refine lv_iload_n hx hb dS_takeBest_45 rfl (lv_at hl 1 rfl) ?_
    refine lv_aload_n hx hb dS_takeBest_46 rfl (lv_at hl 0 rfl) ?_
    refine gGet X K (o := 0) (k := 16) (v := .ref (ad 24)) (by decide) kS_o0 rfl inS_o0 (by decide) (tm1 (i := 98) rfl rfl) rfl dS_takeBest_47 ?_
    refine gcI X K (n0 := 0) (As := []) (rest := [.int x1]) (hM := (met_P_rows hl9 D ad ca sa _ f a b _ hw)) (o := 24) (ho := by decide) (hko := kS_o24) (hci := rfl) (hg := wl_good) (w1 := (tm2 (i := 223) rfl rfl)) (w2 := (tm2 (i := 224) rfl rfl)) (w3 := (tm2 (i := 225) rfl rfl)) (w4 := (tm1 (i := 2) rfl rfl)) (w5 := (tm2 (i := 226) rfl rfl)) (hd := ⟨rfl, by decide, by decide, by decide +kernel⟩) (hrc := rfl) (hrs := rfl) (hR := ⟨Nat.le_of_ble_eq_true rfl, Nat.le_of_ble_eq_true rfl⟩) (hn := rfl) (hsz := hl.1) (hst := rfl) (hW := Nat.le_of_ble_eq_true rfl) (hdg := dS_takeBest_50) (hf := ⟨Nat.le_of_ble_eq_true rfl, Nat.le_of_ble_eq_true rfl⟩) (fun _ _ _ _ _ _ _ _ hw => hw.elim) (fun r50 f50 a50 b50 H locs hw K => ?_)
    refine lv_icmp_ge (tgt := 104) hx hb dS_takeBest_53 (by decide) (fun hc => ?_) (fun hc => ?_)
    · replace hw := hw.1 hc
      exact endV X K hr hw (by decide) (by decide) dS_takeBest_104
    · replace hw := hw.2 hc
      refine lv_aload_n hx hb dS_takeBest_56 rfl (lv_at hl 0 rfl) ?_
      refine gGet X K (o := 0) (k := 16) (v := .ref (ad 24)) (by decide) kS_o0 rfl inS_o0 (by decide) (tm1 (i := 98) rfl rfl) rfl dS_takeBest_57 ?_
      refine lv_iload_n hx hb dS_takeBest_60 rfl (lv_at hl 1 rfl) ?_
      refine gcI X K (n0 := 1) (As := [.int x1]) (rest := []) (hM := (met_P_bestUnit hl9 D ad ca sa _ x1 f50 a50 b50 _ hw)) (o := 24) (ho := by decide) (hko := kS_o24) (hci := rfl) (hg := wl_good) (w1 := (tm3 (i := 7) rfl rfl)) (w2 := (tm3 (i := 8) rfl rfl)) (w3 := (tm3 (i := 9) rfl rfl)) (w4 := (tm1 (i := 2) rfl rfl)) (w5 := (tm3 (i := 10) rfl rfl)) (hd := ⟨rfl, by decide, by decide, by decide +kernel⟩) (hrc := rfl) (hrs := rfl) (hR := ⟨Nat.le_of_ble_eq_true rfl, Nat.le_of_ble_eq_true rfl⟩) (hn := rfl) (hsz := hl.1) (hst := rfl) (hW := Nat.le_of_ble_eq_true rfl) (hdg := dS_takeBest_61) (hf := ⟨Nat.le_of_ble_eq_true rfl, Nat.le_of_ble_eq_true rfl⟩) (fun _ _ _ _ _ _ _ _ hw => hw.elim) (fun r61 f61 a61 b61 H locs hw K => ?_)
      refine lv_istore_n (lv' := [(2, .int r61), (0, .ref (ad 0)), (1, .int x1)]) hx hb dS_takeBest_64 rfl hl (by decide) rfl (fun ls hl => ?_)
      refine lv_iload_n hx hb dS_takeBest_65 rfl (lv_at hl 0 rfl) ?_
      refine lv_iconst (v := (-1 : Int32)) hx hb dS_takeBest_66 (by decide) ?_
      refine lv_icmp_eq (tgt := 98) hx hb dS_takeBest_67 (by decide) (fun hc => ?_) (fun hc => ?_)
      · replace hw := hw.1 hc
        exact LS_takeBest_98 X hex hr (wp_S_takeBest_45 po n) ih x1 f61 a61 b61 hw _ _ K _ (lv_sub hl [1, 2] rfl)
      · replace hw := hw.2 hc
        refine lv_aload_n hx hb dS_takeBest_70 rfl (lv_at hl 1 rfl) ?_
        refine gGet X K (o := 0) (k := 12) (v := .ref (ad 22)) (by decide) kS_o0 rfl inS_o0 (by decide) (tm1 (i := 94) rfl rfl) rfl dS_takeBest_71 ?_
        refine lv_aload_n hx hb dS_takeBest_74 rfl (lv_at hl 1 rfl) ?_
        refine gGet X K (o := 0) (k := 16) (v := .ref (ad 24)) (by decide) kS_o0 rfl inS_o0 (by decide) (tm1 (i := 98) rfl rfl) rfl dS_takeBest_75 ?_
        refine lv_iload_n hx hb dS_takeBest_78 rfl (lv_at hl 2 rfl) ?_
        refine gcI X K (n0 := 1) (As := [.int x1]) (rest := [.ref (ad 22)]) (hM := (met_P_needOfRow hl9 D ad ca sa _ x1 f61 a61 b61 _ hw)) (o := 24) (ho := by decide) (hko := kS_o24) (hci := rfl) (hg := wl_good) (w1 := (tm2 (i := 227) rfl rfl)) (w2 := (tm2 (i := 228) rfl rfl)) (w3 := (tm2 (i := 229) rfl rfl)) (w4 := (tm1 (i := 2) rfl rfl)) (w5 := (tm2 (i := 230) rfl rfl)) (hd := ⟨rfl, by decide, by decide, by decide +kernel⟩) (hrc := rfl) (hrs := rfl) (hR := ⟨Nat.le_of_ble_eq_true rfl, Nat.le_of_ble_eq_true rfl⟩) (hn := rfl) (hsz := hl.1) (hst := rfl) (hW := Nat.le_of_ble_eq_true rfl) (hdg := dS_takeBest_79) (hf := ⟨Nat.le_of_ble_eq_true rfl, Nat.le_of_ble_eq_true rfl⟩) (fun _ _ _ _ _ _ _ _ hw => hw.elim) (fun r79 f79 a79 b79 H locs hw K => ?_)
        refine lv_iload_n hx hb dS_takeBest_82 rfl (lv_at hl 0 rfl) ?_
        obtain ⟨hi, hw⟩ := hw
        refine gist X K (o := 22) (t0 := 0) (by decide) kS_c22 rfl hi dS_takeBest_83 kS_p22 (fun H locs K => ?_)
        refine lv_aload_n hx hb dS_takeBest_84 rfl (lv_at hl 1 rfl) ?_
        refine gGet X K (o := 0) (k := 4) (v := .ref (ad 4)) (by decide) kS_o0 rfl inS_o0 (by decide) (tm1 (i := 86) rfl rfl) rfl dS_takeBest_85 ?_
        refine lv_iload_n hx hb dS_takeBest_88 rfl (lv_at hl 0 rfl) ?_
        refine lv_aload_n hx hb dS_takeBest_89 rfl (lv_at hl 1 rfl) ?_
        refine gGet X K (o := 0) (k := 16) (v := .ref (ad 24)) (by decide) kS_o0 rfl inS_o0 (by decide) (tm1 (i := 98) rfl rfl) rfl dS_takeBest_90 ?_
        refine lv_iload_n hx hb dS_takeBest_93 rfl (lv_at hl 2 rfl) ?_
        refine gcI X K (n0 := 1) (As := [.int x1]) (rest := [.int r61, .ref (ad 4)]) (hM := (met_P_needOfRow hl9 D ad ca sa _ x1 f79 (va_up a79 22 (upd (a79 22) r79.toNatClampNeg r61)) b79 _ hw)) (o := 24) (ho := by decide) (hko := kS_o24) (hci := rfl) (hg := wl_good) (w1 := (tm2 (i := 227) rfl rfl)) (w2 := (tm2 (i := 228) rfl rfl)) (w3 := (tm2 (i := 229) rfl rfl)) (w4 := (tm1 (i := 2) rfl rfl)) (w5 := (tm2 (i := 230) rfl rfl)) (hd := ⟨rfl, by decide, by decide, by decide +kernel⟩) (hrc := rfl) (hrs := rfl) (hR := ⟨Nat.le_of_ble_eq_true rfl, Nat.le_of_ble_eq_true rfl⟩) (hn := rfl) (hsz := hl.1) (hst := rfl) (hW := Nat.le_of_ble_eq_true rfl) (hdg := dS_takeBest_94) (hf := ⟨Nat.le_of_ble_eq_true rfl, Nat.le_of_ble_eq_true rfl⟩) (fun _ _ _ _ _ _ _ _ hw => hw.elim) (fun r94 f94 a94 b94 H locs hw K => ?_)
        obtain ⟨hi, hw⟩ := hw
        refine gist X K (o := 4) (t0 := 0) (by decide) kS_c4 rfl hi dS_takeBest_97 kS_p4 (fun H locs K => ?_)
        exact LS_takeBest_98 X hex hr (wp_S_takeBest_45 po n) ih x1 f94 (va_up a94 4 (upd (a94 4) r61.toNatClampNeg r94)) b94 hw _ _ K _ (lv_sub hl [1, 2] rfl)
set_option maxHeartbeats 4000000 in
set_option maxRecDepth 100000 in
theorem LS_takeBest_37 {p : Program} {l : Launch} {e : Env} {s : State} {m : MethodId} {below : List Frame} {meth : Method} {c : Code} {D : va_G} {sa : Nat → Nat} {ad : Nat → Nat} {ca : Nat → ClassId} {A : Nat → Prop} {po : wF → wA → wB → Prop} (X : cx Wl (tyS ca) txS D vwCl sa A p l s m ([.ref (ad 0)] : List Value).toArray meth c cS_takeBest 3 "SendBest") (hex : ∀ x ∈ c.exceptionTable.toList, False) (hr : meth.sig.returnType = none) (J2 : Int32 → wF → wA → wB → Prop) (hJ2 : ∀ (x1 : Int32) (f : wF) (a : wA) (b : wB), J2 x1 f a b → ∀ (H : Heap) (locs : List Loc), wd nS kS D vwCl ad ca A s H locs f a b → ∀ (ls : Array Slot), lv_has ls 3 [(0, .ref (ad 0)), (1, .int x1)] → W p l e ({ frames := 1, cells := 0, slots := 0, locals := 21 }) s m ([.ref (ad 0)] : List Value).toArray below meth c H locs 0 0 (vx_MQ below (va_Qv (fun (u : wF × wA × wB) => po u.1 u.2.1 u.2.2) (sPost nS kS D vwCl ad ca A) A) (sX nS kS D vwCl ad ca A (fun _ _ _ _ => False)) ([.ref (ad 0)] : List Value).toArray s 0 0 A) (F0 m 2 ls [])) : ∀ (x1 : Int32) (f : wF) (a : wA) (b : wB), wp_S_takeBest_37 po J2 x1 f a b → ∀ (H : Heap) (locs : List Loc), wd nS kS D vwCl ad ca A s H locs f a b → ∀ (ls : Array Slot), lv_has ls 3 [(0, .ref (ad 0)), (1, .int x1)] → W p l e ({ frames := 1, cells := 0, slots := 0, locals := 21 }) s m ([.ref (ad 0)] : List Value).toArray below meth c H locs 0 0 (vx_MQ below (va_Qv (fun (u : wF × wA × wB) => po u.1 u.2.1 u.2.2) (sPost nS kS D vwCl ad ca A) A) (sX nS kS D vwCl ad ca A (fun _ _ _ _ => False)) ([.ref (ad 0)] : List Value).toArray s 0 0 A) (F0 m 37 ls []) := by
  obtain ⟨hx, hb, hml, hown, hts, hK, hA, hth, hlk, hl9⟩ := id X
  intro x1 f a b hw H locs K ls hl
  dsimp only [wp_S_takeBest_37] at hw
  refine lv_iinc (v := (x1 + (1 : Int32))) (lv' := [(1, .int (x1 + (1 : Int32))), (0, .ref (ad 0))]) hx hb dS_takeBest_37 hl (k := 1) rfl rfl (by decide) rfl (fun ls hl => ?_)
  refine lv_goto (tgt := 2) hx hb dS_takeBest_40 (by decide) ?_
  exact hJ2 (x1 + (1 : Int32)) f a b hw _ _ K _ (lv_sub hl [1, 0] rfl)
set_option maxHeartbeats 4000000 in
set_option maxRecDepth 100000 in
theorem LS_takeBest_2 {p : Program} {l : Launch} {e : Env} {s : State} {m : MethodId} {below : List Frame} {meth : Method} {c : Code} {D : va_G} {sa : Nat → Nat} {ad : Nat → Nat} {ca : Nat → ClassId} {A : Nat → Prop} {po : wF → wA → wB → Prop} (X : cx Wl (tyS ca) txS D vwCl sa A p l s m ([.ref (ad 0)] : List Value).toArray meth c cS_takeBest 3 "SendBest") (hex : ∀ x ∈ c.exceptionTable.toList, False) (hr : meth.sig.returnType = none) : ∀ n : Nat, ∀ (x1 : Int32) (f : wF) (a : wA) (b : wB), wp_S_takeBest_2 po n x1 f a b → ∀ (H : Heap) (locs : List Loc), wd nS kS D vwCl ad ca A s H locs f a b → ∀ (ls : Array Slot), lv_has ls 3 [(0, .ref (ad 0)), (1, .int x1)] → W p l e ({ frames := 1, cells := 0, slots := 0, locals := 21 }) s m ([.ref (ad 0)] : List Value).toArray below meth c H locs 0 0 (vx_MQ below (va_Qv (fun (u : wF × wA × wB) => po u.1 u.2.1 u.2.2) (sPost nS kS D vwCl ad ca A) A) (sX nS kS D vwCl ad ca A (fun _ _ _ _ => False)) ([.ref (ad 0)] : List Value).toArray s 0 0 A) (F0 m 2 ls []) := by
  obtain ⟨hx, hb, hml, hown, hts, hK, hA, hth, hlk, hl9⟩ := id X
  intro n
  induction n with
  | zero => intro x1 f a b hw; exact hw.elim
  | succ n ih =>
    intro x1 f a b hw H locs K ls hl
    dsimp only [wp_S_takeBest_2] at hw
    refine lv_iload_n hx hb dS_takeBest_2 rfl (lv_at hl 1 rfl) ?_
    refine lv_aload_n hx hb dS_takeBest_3 rfl (lv_at hl 0 rfl) ?_
    refine gGet X K (o := 0) (k := 16) (v := .ref (ad 24)) (by decide) kS_o0 rfl inS_o0 (by decide) (tm1 (i := 98) rfl rfl) rfl dS_takeBest_4 ?_
    refine gcI X K (n0 := 0) (As := []) (rest := [.int x1]) (hM := (met_P_rows hl9 D ad ca sa _ f a b _ hw)) (o := 24) (ho := by decide) (hko := kS_o24) (hci := rfl) (hg := wl_good) (w1 := (tm2 (i := 223) rfl rfl)) (w2 := (tm2 (i := 224) rfl rfl)) (w3 := (tm2 (i := 225) rfl rfl)) (w4 := (tm1 (i := 2) rfl rfl)) (w5 := (tm2 (i := 226) rfl rfl)) (hd := ⟨rfl, by decide, by decide, by decide +kernel⟩) (hrc := rfl) (hrs := rfl) (hR := ⟨Nat.le_of_ble_eq_true rfl, Nat.le_of_ble_eq_true rfl⟩) (hn := rfl) (hsz := hl.1) (hst := rfl) (hW := Nat.le_of_ble_eq_true rfl) (hdg := dS_takeBest_7) (hf := ⟨Nat.le_of_ble_eq_true rfl, Nat.le_of_ble_eq_true rfl⟩) (fun _ _ _ _ _ _ _ _ hw => hw.elim) (fun r7 f7 a7 b7 H locs hw K => ?_)
    refine lv_icmp_ge (tgt := 43) hx hb dS_takeBest_10 (by decide) (fun hc => ?_) (fun hc => ?_)
    · replace hw := hw.1 hc
      refine lv_iconst (v := (0 : Int32)) hx hb dS_takeBest_43 (by decide) ?_
      refine lv_istore_n (lv' := [(1, .int (0 : Int32)), (0, .ref (ad 0))]) hx hb dS_takeBest_44 rfl hl (by decide) rfl (fun ls hl => ?_)
      obtain ⟨n9, hw⟩ := hw
      exact LS_takeBest_45 X hex hr n9 (0 : Int32) f7 a7 b7 hw _ _ K _ (lv_sub hl [1, 0] rfl)
    · replace hw := hw.2 hc
      refine lv_aload_n hx hb dS_takeBest_13 rfl (lv_at hl 0 rfl) ?_
      refine gGet X K (o := 0) (k := 12) (v := .ref (ad 22)) (by decide) kS_o0 rfl inS_o0 (by decide) (tm1 (i := 94) rfl rfl) rfl dS_takeBest_14 ?_
      refine lv_aload_n hx hb dS_takeBest_17 rfl (lv_at hl 0 rfl) ?_
      refine gGet X K (o := 0) (k := 16) (v := .ref (ad 24)) (by decide) kS_o0 rfl inS_o0 (by decide) (tm1 (i := 98) rfl rfl) rfl dS_takeBest_18 ?_
      refine lv_iload_n hx hb dS_takeBest_21 rfl (lv_at hl 1 rfl) ?_
      refine gcI X K (n0 := 1) (As := [.int x1]) (rest := [.ref (ad 22)]) (hM := (met_P_needOfRow hl9 D ad ca sa _ x1 f7 a7 b7 _ hw)) (o := 24) (ho := by decide) (hko := kS_o24) (hci := rfl) (hg := wl_good) (w1 := (tm2 (i := 227) rfl rfl)) (w2 := (tm2 (i := 228) rfl rfl)) (w3 := (tm2 (i := 229) rfl rfl)) (w4 := (tm1 (i := 2) rfl rfl)) (w5 := (tm2 (i := 230) rfl rfl)) (hd := ⟨rfl, by decide, by decide, by decide +kernel⟩) (hrc := rfl) (hrs := rfl) (hR := ⟨Nat.le_of_ble_eq_true rfl, Nat.le_of_ble_eq_true rfl⟩) (hn := rfl) (hsz := hl.1) (hst := rfl) (hW := Nat.le_of_ble_eq_true rfl) (hdg := dS_takeBest_22) (hf := ⟨Nat.le_of_ble_eq_true rfl, Nat.le_of_ble_eq_true rfl⟩) (fun _ _ _ _ _ _ _ _ hw => hw.elim) (fun r22 f22 a22 b22 H locs hw K => ?_)
      obtain ⟨hi, hw⟩ := hw
      refine gild X K (o := 22) (t0 := 0) (by decide) kS_c22 rfl hi dS_takeBest_25 ?_
      refine lv_istore_n (lv' := [(2, .int (a22 22 r22.toNatClampNeg)), (0, .ref (ad 0)), (1, .int x1)]) hx hb dS_takeBest_26 rfl hl (by decide) rfl (fun ls hl => ?_)
      refine lv_iload_n hx hb dS_takeBest_27 rfl (lv_at hl 0 rfl) ?_
      refine lv_iconst (v := (-1 : Int32)) hx hb dS_takeBest_28 (by decide) ?_
      refine lv_icmp_eq (tgt := 37) hx hb dS_takeBest_29 (by decide) (fun hc => ?_) (fun hc => ?_)
      · replace hw := hw.1 hc
        exact LS_takeBest_37 X hex hr (wp_S_takeBest_2 po n) ih x1 f22 a22 b22 hw _ _ K _ (lv_sub hl [1, 2] rfl)
      · replace hw := hw.2 hc
        refine lv_aload_n hx hb dS_takeBest_32 rfl (lv_at hl 1 rfl) ?_
        refine lv_iload_n hx hb dS_takeBest_33 rfl (lv_at hl 0 rfl) ?_
        refine gcV X K (n0 := 1) (As := [.int (a22 22 r22.toNatClampNeg)]) (rest := []) (hM := (met_S_free hl9 D ad ca sa _ (a22 22 r22.toNatClampNeg) f22 a22 b22 _ hw)) (o := 0) (ho := by decide) (hko := kS_o0) (hci := rfl) (hg := wl_good) (w1 := (tm2 (i := 104) rfl rfl)) (w2 := (tm2 (i := 106) rfl rfl)) (w3 := (tm0 (i := 4) rfl rfl)) (w4 := (tm1 (i := 1) rfl rfl)) (w5 := (tm2 (i := 107) rfl rfl)) (hd := ⟨rfl, by decide, by decide, by decide +kernel⟩) (hrc := rfl) (hrs := rfl) (hR := ⟨Nat.le_of_ble_eq_true rfl, Nat.le_of_ble_eq_true rfl⟩) (hn := rfl) (hsz := hl.1) (hst := rfl) (hW := Nat.le_of_ble_eq_true rfl) (hdg := dS_takeBest_34) (hf := ⟨Nat.le_of_ble_eq_true rfl, Nat.le_of_ble_eq_true rfl⟩) (fun _ _ _ _ _ _ _ _ hw => hw.elim) (fun f34 a34 b34 H locs hw K => ?_)
        exact LS_takeBest_37 X hex hr (wp_S_takeBest_2 po n) ih x1 f34 a34 b34 hw _ _ K _ (lv_sub hl [1, 2] rfl)
set_option maxHeartbeats 4000000 in
set_option maxRecDepth 100000 in
theorem met_S_takeBest {l : Launch} (hl9 : l.stackTraces = false) (D : va_G) (ad : Nat → Nat) (ca : Nat → ClassId) (sa : Nat → Nat) (sz : Nat)  (f : wF) (a : wA) (b : wB) (po : wF → wA → wB → Prop) (hw : wp_S_takeBest po f a b) : mV nS kS (tyS ca) txS D vwCl l yS_takeBest (Cond.code yS_takeBest cS_takeBest 3 none :: Wl) ({ frames := 1, cells := 0, slots := 0, locals := 21 }) [.ref (ad 0)] ad ca sa sz f a b po (fun _ _ _ _ => False) 0 0 := by
  refine ofV (by decide) hl9 (Nat.le_of_ble_eq_true rfl) ?_
  intro p e s m below meth c ls X hex hr K hl
  obtain ⟨hx, hb, hml, hown, hts, hK, hA, hth, hlk, hl9⟩ := id X
  have hl : lv_has ls 3 [(0, .ref (ad 0))] := hl
  dsimp only [wp_S_takeBest] at hw
  refine lv_iconst (v := (0 : Int32)) hx hb dS_takeBest_0 (by decide) ?_
  refine lv_istore_n (lv' := [(1, .int (0 : Int32)), (0, .ref (ad 0))]) hx hb dS_takeBest_1 rfl hl (by decide) rfl (fun ls hl => ?_)
  obtain ⟨n9, hw⟩ := hw
  exact LS_takeBest_2 X hex hr n9 (0 : Int32) f a b hw _ _ K _ (lv_sub hl [1, 0] rfl)
set_option maxHeartbeats 4000000 in
set_option maxRecDepth 100000 in
theorem LS_send_54 {p : Program} {l : Launch} {e : Env} {s : State} {m : MethodId} {below : List Frame} {meth : Method} {c : Code} {D : va_G} {sa : Nat → Nat} {ad : Nat → Nat} {ca : Nat → ClassId} {A : Nat → Prop} {y1 : Int32} {po : Int32 → wF → wA → wB → Prop} {px : String → wF → wA → wB → Prop} (X : cx Wl (tyS ca) txS D vwCl sa A p l s m ([.ref (ad 0), .int y1] : List Value).toArray meth c cS_send 3 "SendBest") (hex : ∀ x ∈ c.exceptionTable.toList, False) (hr : meth.sig.returnType = (some .int)) : ∀ (f : wF) (a : wA) (b : wB), wp_S_send_54 po px f a b → ∀ (H : Heap) (locs : List Loc), wd nS kS D vwCl ad ca A s H locs f a b → ∀ (ls : Array Slot), lv_has ls 3 [(0, .ref (ad 0))] → W p l e ({ frames := 6, cells := 1, slots := 6, locals := 145 }) s m ([.ref (ad 0), .int y1] : List Value).toArray below meth c H locs 0 0 (vx_MQ below (va_Qi (fun r (u : wF × wA × wB) => po r u.1 u.2.1 u.2.2) (sPost nS kS D vwCl ad ca A) A) (sX nS kS D vwCl ad ca A px) ([.ref (ad 0), .int y1] : List Value).toArray s 1 6 A) (F0 m 54 ls []) := by
  obtain ⟨hx, hb, hml, hown, hts, hK, hA, hth, hlk, hl9⟩ := id X
  intro  f a b hw H locs K ls hl
  dsimp only [wp_S_send_54] at hw
  refine lv_aload_n hx hb dS_send_54 rfl (lv_at hl 0 rfl) ?_
  refine gcI X K (n0 := 0) (As := []) (rest := []) (hM := (met_S_countFilled hl9 D ad ca sa _ f a b _ hw)) (o := 0) (ho := by decide) (hko := kS_o0) (hci := rfl) (hg := wl_good) (w1 := (tm3 (i := 11) rfl rfl)) (w2 := (tm3 (i := 13) rfl rfl)) (w3 := (tm0 (i := 24) rfl rfl)) (w4 := (tm1 (i := 1) rfl rfl)) (w5 := (tm3 (i := 14) rfl rfl)) (hd := ⟨rfl, by decide, by decide, by decide +kernel⟩) (hrc := rfl) (hrs := rfl) (hR := ⟨Nat.le_of_ble_eq_true rfl, Nat.le_of_ble_eq_true rfl⟩) (hn := rfl) (hsz := hl.1) (hst := rfl) (hW := Nat.le_of_ble_eq_true rfl) (hdg := dS_send_55) (hf := ⟨Nat.le_of_ble_eq_true rfl, Nat.le_of_ble_eq_true rfl⟩) (fun _ _ _ _ _ _ _ _ hw => hw.elim) (fun r55 f55 a55 b55 H locs hw K => ?_)
  exact endI X K hr rfl hw (by decide) (by decide) dS_send_58
set_option maxHeartbeats 4000000 in
set_option maxRecDepth 100000 in
theorem LS_send_10 {p : Program} {l : Launch} {e : Env} {s : State} {m : MethodId} {below : List Frame} {meth : Method} {c : Code} {D : va_G} {sa : Nat → Nat} {ad : Nat → Nat} {ca : Nat → ClassId} {A : Nat → Prop} {y1 : Int32} {po : Int32 → wF → wA → wB → Prop} {px : String → wF → wA → wB → Prop} (X : cx Wl (tyS ca) txS D vwCl sa A p l s m ([.ref (ad 0), .int y1] : List Value).toArray meth c cS_send 3 "SendBest") (hex : ∀ x ∈ c.exceptionTable.toList, False) (hr : meth.sig.returnType = (some .int)) : ∀ (f : wF) (a : wA) (b : wB), wp_S_send_10 po px f a b → ∀ (H : Heap) (locs : List Loc), wd nS kS D vwCl ad ca A s H locs f a b → ∀ (ls : Array Slot), lv_has ls 3 [] → W p l e ({ frames := 6, cells := 1, slots := 6, locals := 145 }) s m ([.ref (ad 0), .int y1] : List Value).toArray below meth c H locs 0 0 (vx_MQ below (va_Qi (fun r (u : wF × wA × wB) => po r u.1 u.2.1 u.2.2) (sPost nS kS D vwCl ad ca A) A) (sX nS kS D vwCl ad ca A px) ([.ref (ad 0), .int y1] : List Value).toArray s 1 6 A) (F0 m 10 ls []) := by
  obtain ⟨hx, hb, hml, hown, hts, hK, hA, hth, hlk, hl9⟩ := id X
  intro  f a b hw H locs K ls hl
  dsimp only [wp_S_send_10] at hw
  exact throwX X hex K (k := 14) (names := ["java/lang/RuntimeException", "java/lang/Exception"]) hw (by decide +kernel) (by decide +kernel) rfl (tm1 (i := 144) rfl rfl) (tm1 (i := 8) rfl rfl) xg_S_71 xb_S_71 xo_S_71_67 hl.1 dS_send_10 dS_send_13 dS_send_14 dS_send_16 dS_send_19 (by decide) (by decide) (by decide) (by decide) (by decide) (by decide)
set_option maxHeartbeats 4000000 in
set_option maxRecDepth 100000 in
theorem met_S_send {l : Launch} (hl9 : l.stackTraces = false) (D : va_G) (ad : Nat → Nat) (ca : Nat → ClassId) (sa : Nat → Nat) (sz : Nat) (x1 : Int32) (f : wF) (a : wA) (b : wB) (po : Int32 → wF → wA → wB → Prop) (px : String → wF → wA → wB → Prop) (hw : wp_S_send po px x1 f a b) : mI nS kS (tyS ca) txS D vwCl l yS_send (Cond.code yS_send cS_send 3 (some .int) :: Wl) ({ frames := 6, cells := 1, slots := 6, locals := 145 }) [.ref (ad 0), .int x1] ad ca sa sz f a b po px 1 6 := by
  refine ofI (by decide) hl9 (Nat.le_of_ble_eq_true rfl) ?_
  intro p e s m below meth c ls X hex hr K hl
  obtain ⟨hx, hb, hml, hown, hts, hK, hA, hth, hlk, hl9⟩ := id X
  have hl : lv_has ls 3 [(0, .ref (ad 0)), (1, .int x1)] := hl
  dsimp only [wp_S_send] at hw
  refine lv_iload_n hx hb dS_send_0 rfl (lv_at hl 1 rfl) ?_
  refine lv_if_lt (tgt := 10) hx hb dS_send_1 (by decide) (fun hc => ?_) (fun hc => ?_)
  · replace hw := hw.1 hc
    exact LS_send_10 X hex hr f a b hw _ _ K _ (lv_sub hl [] rfl)
  · replace hw := hw.2 hc
    refine lv_iload_n hx hb dS_send_4 rfl (lv_at hl 1 rfl) ?_
    refine lv_ldc (v := (1000000 : Int32)) hx hb hown (hts _ (tm2 (i := 115) rfl rfl)) dS_send_5 ?_
    refine lv_icmp_le (tgt := 20) hx hb dS_send_7 (by decide) (fun hc => ?_) (fun hc => ?_)
    · replace hw := hw.1 hc
      refine lv_aload_n hx hb dS_send_20 rfl (lv_at hl 0 rfl) ?_
      refine gcV X K (n0 := 0) (As := []) (rest := []) (hM := (met_S_layOutNeeds hl9 D ad ca sa _ f a b _ hw)) (o := 0) (ho := by decide) (hko := kS_o0) (hci := rfl) (hg := wl_good) (w1 := (tm2 (i := 117) rfl rfl)) (w2 := (tm2 (i := 119) rfl rfl)) (w3 := (tm0 (i := 5) rfl rfl)) (w4 := (tm1 (i := 1) rfl rfl)) (w5 := (tm2 (i := 120) rfl rfl)) (hd := ⟨rfl, by decide, by decide, by decide +kernel⟩) (hrc := rfl) (hrs := rfl) (hR := ⟨Nat.le_of_ble_eq_true rfl, Nat.le_of_ble_eq_true rfl⟩) (hn := rfl) (hsz := hl.1) (hst := rfl) (hW := Nat.le_of_ble_eq_true rfl) (hdg := dS_send_21) (hf := ⟨Nat.le_of_ble_eq_true rfl, Nat.le_of_ble_eq_true rfl⟩) (fun _ _ _ _ _ _ _ _ hw => hw.elim) (fun f21 a21 b21 H locs hw K => ?_)
      refine lv_aload_n hx hb dS_send_24 rfl (lv_at hl 0 rfl) ?_
      refine gcI X K (n0 := 0) (As := []) (rest := []) (hM := (met_S_spareUnits hl9 D ad ca sa _ f21 a21 b21 _ hw)) (o := 0) (ho := by decide) (hko := kS_o0) (hci := rfl) (hg := wl_good) (w1 := (tm2 (i := 173) rfl rfl)) (w2 := (tm2 (i := 175) rfl rfl)) (w3 := (tm0 (i := 14) rfl rfl)) (w4 := (tm1 (i := 1) rfl rfl)) (w5 := (tm2 (i := 176) rfl rfl)) (hd := ⟨rfl, by decide, by decide, by decide +kernel⟩) (hrc := rfl) (hrs := rfl) (hR := ⟨Nat.le_of_ble_eq_true rfl, Nat.le_of_ble_eq_true rfl⟩) (hn := rfl) (hsz := hl.1) (hst := rfl) (hW := Nat.le_of_ble_eq_true rfl) (hdg := dS_send_25) (hf := ⟨Nat.le_of_ble_eq_true rfl, Nat.le_of_ble_eq_true rfl⟩) (fun _ _ _ _ _ _ _ _ hw => hw.elim) (fun r25 f25 a25 b25 H locs hw K => ?_)
      refine lv_istore_n (lv' := [(2, .int r25), (0, .ref (ad 0)), (1, .int x1)]) hx hb dS_send_28 rfl hl (by decide) rfl (fun ls hl => ?_)
      refine lv_aload_n hx hb dS_send_29 rfl (lv_at hl 1 rfl) ?_
      refine gGet X K (o := 0) (k := 16) (v := .ref (ad 24)) (by decide) kS_o0 rfl inS_o0 (by decide) (tm1 (i := 98) rfl rfl) rfl dS_send_30 ?_
      refine lv_iload_n hx hb dS_send_33 rfl (lv_at hl 0 rfl) ?_
      refine gcV X K (n0 := 1) (As := [.int r25]) (rest := []) (hM := (met_P_findBest hl9 D ad ca sa _ r25 f25 a25 b25 _ hw)) (o := 24) (ho := by decide) (hko := kS_o24) (hci := rfl) (hg := wl_good) (w1 := (tm2 (i := 177) rfl rfl)) (w2 := (tm2 (i := 178) rfl rfl)) (w3 := (tm2 (i := 179) rfl rfl)) (w4 := (tm1 (i := 2) rfl rfl)) (w5 := (tm2 (i := 180) rfl rfl)) (hd := ⟨rfl, by decide, by decide, by decide +kernel⟩) (hrc := rfl) (hrs := rfl) (hR := ⟨Nat.le_of_ble_eq_true rfl, Nat.le_of_ble_eq_true rfl⟩) (hn := rfl) (hsz := hl.1) (hst := rfl) (hW := Nat.le_of_ble_eq_true rfl) (hdg := dS_send_34) (hf := ⟨Nat.le_of_ble_eq_true rfl, Nat.le_of_ble_eq_true rfl⟩) (fun _ _ _ _ _ _ _ _ hw => hw.elim) (fun f34 a34 b34 H locs hw K => ?_)
      refine lv_aload_n hx hb dS_send_37 rfl (lv_at hl 1 rfl) ?_
      refine lv_iload_n hx hb dS_send_38 rfl (lv_at hl 0 rfl) ?_
      refine lv_iload_n hx hb dS_send_39 rfl (lv_at hl 2 rfl) ?_
      refine lv_iconst (v := (1 : Int32)) hx hb dS_send_40 (by decide) ?_
      refine va_mmax hx hb (hml.trans hl.1.symm) hown (hts _ (tm2 (i := 216) rfl rfl)) (hts _ (tm2 (i := 217) rfl rfl)) (hts _ (tm1 (i := 13) rfl rfl)) (hts _ (tm2 (i := 218) rfl rfl)) (Nat.le_of_ble_eq_true rfl) (Nat.le_of_ble_eq_true rfl) (Nat.le_of_ble_eq_true rfl) (Nat.le_of_ble_eq_true rfl) dS_send_41 ?_
      refine gcI X K (n0 := 2) (As := [.int r25, .int (if x1 < (1 : Int32) then (1 : Int32) else x1)]) (rest := []) (hM := (met_S_presentStays hl9 D ad ca sa _ r25 (if x1 < (1 : Int32) then (1 : Int32) else x1) f34 a34 b34 _ hw)) (o := 0) (ho := by decide) (hko := kS_o0) (hci := rfl) (hg := wl_good) (w1 := (tm2 (i := 219) rfl rfl)) (w2 := (tm2 (i := 221) rfl rfl)) (w3 := (tm0 (i := 22) rfl rfl)) (w4 := (tm1 (i := 1) rfl rfl)) (w5 := (tm2 (i := 222) rfl rfl)) (hd := ⟨rfl, by decide, by decide, by decide +kernel⟩) (hrc := rfl) (hrs := rfl) (hR := ⟨Nat.le_of_ble_eq_true rfl, Nat.le_of_ble_eq_true rfl⟩) (hn := rfl) (hsz := hl.1) (hst := rfl) (hW := Nat.le_of_ble_eq_true rfl) (hdg := dS_send_44) (hf := ⟨Nat.le_of_ble_eq_true rfl, Nat.le_of_ble_eq_true rfl⟩) (fun _ _ _ _ _ _ _ _ hw => hw.elim) (fun r44 f44 a44 b44 H locs hw K => ?_)
      refine lv_if_ne (tgt := 54) hx hb dS_send_47 (by decide) (fun hc => ?_) (fun hc => ?_)
      · replace hw := hw.1 hc
        exact LS_send_54 X hex hr f44 a44 b44 hw _ _ K _ (lv_sub hl [1] rfl)
      · replace hw := hw.2 hc
        refine lv_aload_n hx hb dS_send_50 rfl (lv_at hl 1 rfl) ?_
        refine gcV X K (n0 := 0) (As := []) (rest := []) (hM := (met_S_takeBest hl9 D ad ca sa _ f44 a44 b44 _ hw)) (o := 0) (ho := by decide) (hko := kS_o0) (hci := rfl) (hg := wl_good) (w1 := (tm3 (i := 3) rfl rfl)) (w2 := (tm3 (i := 5) rfl rfl)) (w3 := (tm0 (i := 23) rfl rfl)) (w4 := (tm1 (i := 1) rfl rfl)) (w5 := (tm3 (i := 6) rfl rfl)) (hd := ⟨rfl, by decide, by decide, by decide +kernel⟩) (hrc := rfl) (hrs := rfl) (hR := ⟨Nat.le_of_ble_eq_true rfl, Nat.le_of_ble_eq_true rfl⟩) (hn := rfl) (hsz := hl.1) (hst := rfl) (hW := Nat.le_of_ble_eq_true rfl) (hdg := dS_send_51) (hf := ⟨Nat.le_of_ble_eq_true rfl, Nat.le_of_ble_eq_true rfl⟩) (fun _ _ _ _ _ _ _ _ hw => hw.elim) (fun f51 a51 b51 H locs hw K => ?_)
        exact LS_send_54 X hex hr f51 a51 b51 hw _ _ K _ (lv_sub hl [1] rfl)
    · replace hw := hw.2 hc
      exact LS_send_10 X hex hr f a b hw _ _ K _ (lv_sub hl [] rfl)
