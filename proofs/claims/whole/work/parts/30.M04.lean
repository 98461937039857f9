set_option maxHeartbeats 4000000 in
set_option maxRecDepth 100000 in
theorem LM_sum_133 {p : Program} {l : Launch} {e : Env} {s : State} {m : MethodId} {below : List Frame} {meth : Method} {c : Code} {D : va_G} {sa : Nat → Nat} {ad : Nat → Nat} {ca : Nat → ClassId} {A : Nat → Prop} {y1 : Int32} {po : Int32 → wF → wA → wB → Prop} (X : cx Wl (tyS ca) txS D vwCl sa A p l s m ([.ref (ad 0), .int y1] : List Value).toArray meth c cM_sum 6 "SendBestModel") (hex : ∀ x ∈ c.exceptionTable.toList, False) (hr : meth.sig.returnType = (some .int)) (J30 : Int32 → Int32 → Int32 → wF → wA → wB → Prop) (hJ30 : ∀ (x1 : Int32) (x2 : Int32) (x3 : Int32) (f : wF) (a : wA) (b : wB), J30 x1 x2 x3 f a b → ∀ (H : Heap) (locs : List Loc), wd nM kM D vwCl ad ca A s H locs f a b → ∀ (ls : Array Slot), lv_has ls 6 [(0, .ref (ad 0)), (1, .int x1), (2, .int x2), (3, .int x3)] → W p l e ({ frames := 1, cells := 0, slots := 0, locals := 24 }) s m ([.ref (ad 0), .int y1] : List Value).toArray below meth c H locs 0 0 (vx_MQ below (va_Qi (fun r (u : wF × wA × wB) => po r u.1 u.2.1 u.2.2) (sPost nM kM D vwCl ad ca A) A) (sX nM kM D vwCl ad ca A (fun _ _ _ _ => False)) ([.ref (ad 0), .int y1] : List Value).toArray s 0 0 A) (F0 m 30 ls [])) : ∀ (x1 : Int32) (x2 : Int32) (x3 : Int32) (f : wF) (a : wA) (b : wB), wp_M_sum_133 po J30 x1 x2 x3 f a b → ∀ (H : Heap) (locs : List Loc), wd nM kM D vwCl ad ca A s H locs f a b → ∀ (ls : Array Slot), lv_has ls 6 [(0, .ref (ad 0)), (1, .int x1), (2, .int x2), (3, .int x3)] → W p l e ({ frames := 1, cells := 0, slots := 0, locals := 24 }) s m ([.ref (ad 0), .int y1] : List Value).toArray below meth c H locs 0 0 (vx_MQ below (va_Qi (fun r (u : wF × wA × wB) => po r u.1 u.2.1 u.2.2) (sPost nM kM D vwCl ad ca A) A) (sX nM kM D vwCl ad ca A (fun _ _ _ _ => False)) ([.ref (ad 0), .int y1] : List Value).toArray s 0 0 A) (F0 m 133 ls []) := by
  obtain ⟨hx, hb, hml, hown, hts, hK, hA, hth, hlk, hl9⟩ := id X
  intro x1 x2 x3 f a b hw H locs K ls hl
  dsimp only [wp_M_sum_133] at hw
  refine lv_iinc (v := (x3 + (1 : Int32))) (lv' := [(3, .int (x3 + (1 : Int32))), (0, .ref (ad 0)), (1, .int x1), (2, .int x2)]) hx hb dM_sum_133 hl (k := 3) rfl rfl (by decide) rfl (fun ls hl => ?_)
  refine lv_goto (tgt := 30) hx hb dM_sum_136 (by decide) ?_
  exact hJ30 x1 x2 (x3 + (1 : Int32)) f a b hw _ _ K _ (lv_sub hl [1, 2, 3, 0] rfl)
set_option maxHeartbeats 4000000 in
set_option maxRecDepth 100000 in
theorem LM_sum_99 {p : Program} {l : Launch} {e : Env} {s : State} {m : MethodId} {below : List Frame} {meth : Method} {c : Code} {D : va_G} {sa : Nat → Nat} {ad : Nat → Nat} {ca : Nat → ClassId} {A : Nat → Prop} {y1 : Int32} {po : Int32 → wF → wA → wB → Prop} (X : cx Wl (tyS ca) txS D vwCl sa A p l s m ([.ref (ad 0), .int y1] : List Value).toArray meth c cM_sum 6 "SendBestModel") (hex : ∀ x ∈ c.exceptionTable.toList, False) (hr : meth.sig.returnType = (some .int)) (J30 : Int32 → Int32 → Int32 → wF → wA → wB → Prop) (hJ30 : ∀ (x1 : Int32) (x2 : Int32) (x3 : Int32) (f : wF) (a : wA) (b : wB), J30 x1 x2 x3 f a b → ∀ (H : Heap) (locs : List Loc), wd nM kM D vwCl ad ca A s H locs f a b → ∀ (ls : Array Slot), lv_has ls 6 [(0, .ref (ad 0)), (1, .int x1), (2, .int x2), (3, .int x3)] → W p l e ({ frames := 1, cells := 0, slots := 0, locals := 24 }) s m ([.ref (ad 0), .int y1] : List Value).toArray below meth c H locs 0 0 (vx_MQ below (va_Qi (fun r (u : wF × wA × wB) => po r u.1 u.2.1 u.2.2) (sPost nM kM D vwCl ad ca A) A) (sX nM kM D vwCl ad ca A (fun _ _ _ _ => False)) ([.ref (ad 0), .int y1] : List Value).toArray s 0 0 A) (F0 m 30 ls [])) : ∀ (x1 : Int32) (x2 : Int32) (x3 : Int32) (x4 : Int32) (x5 : Int32) (f : wF) (a : wA) (b : wB), wp_M_sum_99 po J30 x1 x2 x3 x4 x5 f a b → ∀ (H : Heap) (locs : List Loc), wd nM kM D vwCl ad ca A s H locs f a b → ∀ (ls : Array Slot), lv_has ls 6 [(0, .ref (ad 0)), (1, .int x1), (2, .int x2), (3, .int x3), (4, .int x4), (5, .int x5)] → W p l e ({ frames := 1, cells := 0, slots := 0, locals := 24 }) s m ([.ref (ad 0), .int y1] : List Value).toArray below meth c H locs 0 0 (vx_MQ below (va_Qi (fun r (u : wF × wA × wB) => po r u.1 u.2.1 u.2.2) (sPost nM kM D vwCl ad ca A) A) (sX nM kM D vwCl ad ca A (fun _ _ _ _ => False)) ([.ref (ad 0), .int y1] : List Value).toArray s 0 0 A) (F0 m 99 ls []) := by
  obtain ⟨hx, hb, hml, hown, hts, hK, hA, hth, hlk, hl9⟩ := id X
  intro x1 x2 x3 x4 x5 f a b hw H locs K ls hl
  dsimp only [wp_M_sum_99] at hw
  refine lv_aload_n hx hb dM_sum_99 rfl (lv_at hl 0 rfl) ?_
  refine lv_iload_n hx hb dM_sum_100 rfl (lv_at hl 3 rfl) ?_
  refine gcI X K (n0 := 1) (As := [.int x3]) (rest := []) (hM := (met_M_isOpen hl9 D ad ca sa _ x3 f a b _ hw)) (o := 0) (ho := by decide) (hko := kM_o0) (hci := rfl) (hg := wl_good) (w1 := (tm3 (i := 239) rfl rfl)) (w2 := (tm4 (i := 1) rfl rfl)) (w3 := (tm0 (i := 38) rfl rfl)) (w4 := (tm1 (i := 4) rfl rfl)) (w5 := (tm4 (i := 2) rfl rfl)) (hd := ⟨rfl, by decide, by decide, by decide +kernel⟩) (hrc := rfl) (hrs := rfl) (hR := ⟨Nat.le_of_ble_eq_true rfl, Nat.le_of_ble_eq_true rfl⟩) (hn := rfl) (hsz := hl.1) (hst := rfl) (hW := Nat.le_of_ble_eq_true rfl) (hdg := dM_sum_101) (hf := ⟨Nat.le_of_ble_eq_true rfl, Nat.le_of_ble_eq_true rfl⟩) (fun _ _ _ _ _ _ _ _ hw => hw.elim) (fun r101 f101 a101 b101 H locs hw K => ?_)
  refine lv_if_eq (tgt := 133) hx hb dM_sum_104 (by decide) (fun hc => ?_) (fun hc => ?_)
  · replace hw := hw.1 hc
    exact LM_sum_133 X hex hr J30 hJ30 x1 x2 x3 f101 a101 b101 hw _ _ K _ (lv_sub hl [0, 1, 2, 3] rfl)
  · replace hw := hw.2 hc
    refine lv_iload_n hx hb dM_sum_107 rfl (lv_at hl 1 rfl) ?_
    refine lv_iconst (v := (1 : Int32)) hx hb dM_sum_108 (by decide) ?_
    refine lv_icmp_ne (tgt := 133) hx hb dM_sum_109 (by decide) (fun hc => ?_) (fun hc => ?_)
    · replace hw := hw.1 hc
      exact LM_sum_133 X hex hr J30 hJ30 x1 x2 x3 f101 a101 b101 hw _ _ K _ (lv_sub hl [0, 1, 2, 3] rfl)
    · replace hw := hw.2 hc
      refine lv_iload hx hb dM_sum_112 (lv_at hl 4 rfl) ?_
      refine lv_if_lt (tgt := 133) hx hb dM_sum_114 (by decide) (fun hc => ?_) (fun hc => ?_)
      · replace hw := hw.1 hc
        exact LM_sum_133 X hex hr J30 hJ30 x1 x2 x3 f101 a101 b101 hw _ _ K _ (lv_sub hl [0, 1, 2, 3] rfl)
      · replace hw := hw.2 hc
        refine lv_iload hx hb dM_sum_117 (lv_at hl 5 rfl) ?_
        refine lv_if_le (tgt := 133) hx hb dM_sum_119 (by decide) (fun hc => ?_) (fun hc => ?_)
        · replace hw := hw.1 hc
          exact LM_sum_133 X hex hr J30 hJ30 x1 x2 x3 f101 a101 b101 hw _ _ K _ (lv_sub hl [0, 1, 2, 3] rfl)
        · replace hw := hw.2 hc
          refine lv_iload_n hx hb dM_sum_122 rfl (lv_at hl 2 rfl) ?_
          refine lv_aload_n hx hb dM_sum_123 rfl (lv_at hl 0 rfl) ?_
          refine lv_iload_n hx hb dM_sum_124 rfl (lv_at hl 3 rfl) ?_
          refine gcI X K (n0 := 1) (As := [.int x3]) (rest := [.int x2]) (hM := (met_M_rankOf hl9 D ad ca sa _ x3 f101 a101 b101 _ hw)) (o := 0) (ho := by decide) (hko := kM_o0) (hci := rfl) (hg := wl_good) (w1 := (tm3 (i := 235) rfl rfl)) (w2 := (tm3 (i := 237) rfl rfl)) (w3 := (tm0 (i := 37) rfl rfl)) (w4 := (tm1 (i := 4) rfl rfl)) (w5 := (tm3 (i := 238) rfl rfl)) (hd := ⟨rfl, by decide, by decide, by decide +kernel⟩) (hrc := rfl) (hrs := rfl) (hR := ⟨Nat.le_of_ble_eq_true rfl, Nat.le_of_ble_eq_true rfl⟩) (hn := rfl) (hsz := hl.1) (hst := rfl) (hW := Nat.le_of_ble_eq_true rfl) (hdg := dM_sum_125) (hf := ⟨Nat.le_of_ble_eq_true rfl, Nat.le_of_ble_eq_true rfl⟩) (fun _ _ _ _ _ _ _ _ hw => hw.elim) (fun r125 f125 a125 b125 H locs hw K => ?_)
          refine lv_iload hx hb dM_sum_128 (lv_at hl 5 rfl) ?_
          refine lv_imul hx hb dM_sum_130 ?_
          refine lv_iadd hx hb dM_sum_131 ?_
          refine lv_istore_n (lv' := [(2, .int (x2 + (r125 * x5))), (0, .ref (ad 0)), (1, .int x1), (3, .int x3), (4, .int x4), (5, .int x5)]) hx hb dM_sum_132 rfl hl (by decide) rfl (fun ls hl => ?_)
          exact LM_sum_133 X hex hr J30 hJ30 x1 (x2 + (r125 * x5)) x3 f125 a125 b125 hw _ _ K _ (lv_sub hl [1, 2, 0, 3] rfl)
set_option maxHeartbeats 4000000 in
set_option maxRecDepth 100000 in
theorem LM_sum_72 {p : Program} {l : Launch} {e : Env} {s : State} {m : MethodId} {below : List Frame} {meth : Method} {c : Code} {D : va_G} {sa : Nat → Nat} {ad : Nat → Nat} {ca : Nat → ClassId} {A : Nat → Prop} {y1 : Int32} {po : Int32 → wF → wA → wB → Prop} (X : cx Wl (tyS ca) txS D vwCl sa A p l s m ([.ref (ad 0), .int y1] : List Value).toArray meth c cM_sum 6 "SendBestModel") (hex : ∀ x ∈ c.exceptionTable.toList, False) (hr : meth.sig.returnType = (some .int)) (J30 : Int32 → Int32 → Int32 → wF → wA → wB → Prop) (hJ30 : ∀ (x1 : Int32) (x2 : Int32) (x3 : Int32) (f : wF) (a : wA) (b : wB), J30 x1 x2 x3 f a b → ∀ (H : Heap) (locs : List Loc), wd nM kM D vwCl ad ca A s H locs f a b → ∀ (ls : Array Slot), lv_has ls 6 [(0, .ref (ad 0)), (1, .int x1), (2, .int x2), (3, .int x3)] → W p l e ({ frames := 1, cells := 0, slots := 0, locals := 24 }) s m ([.ref (ad 0), .int y1] : List Value).toArray below meth c H locs 0 0 (vx_MQ below (va_Qi (fun r (u : wF × wA × wB) => po r u.1 u.2.1 u.2.2) (sPost nM kM D vwCl ad ca A) A) (sX nM kM D vwCl ad ca A (fun _ _ _ _ => False)) ([.ref (ad 0), .int y1] : List Value).toArray s 0 0 A) (F0 m 30 ls [])) : ∀ (k0 : Int32) (x1 : Int32) (x2 : Int32) (x3 : Int32) (x4 : Int32) (f : wF) (a : wA) (b : wB), wp_M_sum_72 po J30 k0 x1 x2 x3 x4 f a b → ∀ (H : Heap) (locs : List Loc), wd nM kM D vwCl ad ca A s H locs f a b → ∀ (ls : Array Slot), lv_has ls 6 [(0, .ref (ad 0)), (1, .int x1), (2, .int x2), (3, .int x3), (4, .int x4)] → W p l e ({ frames := 1, cells := 0, slots := 0, locals := 24 }) s m ([.ref (ad 0), .int y1] : List Value).toArray below meth c H locs 0 0 (vx_MQ below (va_Qi (fun r (u : wF × wA × wB) => po r u.1 u.2.1 u.2.2) (sPost nM kM D vwCl ad ca A) A) (sX nM kM D vwCl ad ca A (fun _ _ _ _ => False)) ([.ref (ad 0), .int y1] : List Value).toArray s 0 0 A) (F0 m 72 ls [.int k0]) := by
  obtain ⟨hx, hb, hml, hown, hts, hK, hA, hth, hlk, hl9⟩ := id X
  intro k0 x1 x2 x3 x4 f a b hw H locs K ls hl
  dsimp only [wp_M_sum_72] at hw
  refine lv_istore (lv' := [(5, .int k0), (0, .ref (ad 0)), (1, .int x1), (2, .int x2), (3, .int x3), (4, .int x4)]) hx hb dM_sum_72 hl (by decide) rfl (fun ls hl => ?_)
  refine lv_aload_n hx hb dM_sum_74 rfl (lv_at hl 1 rfl) ?_
  refine lv_iload_n hx hb dM_sum_75 rfl (lv_at hl 4 rfl) ?_
  refine gcI X K (n0 := 1) (As := [.int x3]) (rest := []) (hM := (met_M_isOpen hl9 D ad ca sa _ x3 f a b _ hw)) (o := 0) (ho := by decide) (hko := kM_o0) (hci := rfl) (hg := wl_good) (w1 := (tm3 (i := 239) rfl rfl)) (w2 := (tm4 (i := 1) rfl rfl)) (w3 := (tm0 (i := 38) rfl rfl)) (w4 := (tm1 (i := 4) rfl rfl)) (w5 := (tm4 (i := 2) rfl rfl)) (hd := ⟨rfl, by decide, by decide, by decide +kernel⟩) (hrc := rfl) (hrs := rfl) (hR := ⟨Nat.le_of_ble_eq_true rfl, Nat.le_of_ble_eq_true rfl⟩) (hn := rfl) (hsz := hl.1) (hst := rfl) (hW := Nat.le_of_ble_eq_true rfl) (hdg := dM_sum_76) (hf := ⟨Nat.le_of_ble_eq_true rfl, Nat.le_of_ble_eq_true rfl⟩) (fun _ _ _ _ _ _ _ _ hw => hw.elim) (fun r76 f76 a76 b76 H locs hw K => ?_)
  refine lv_if_eq (tgt := 99) hx hb dM_sum_79 (by decide) (fun hc => ?_) (fun hc => ?_)
  · replace hw := hw.1 hc
    exact LM_sum_99 X hex hr J30 hJ30 x1 x2 x3 x4 k0 f76 a76 b76 hw _ _ K _ (lv_sub hl [1, 2, 3, 4, 5, 0] rfl)
  · replace hw := hw.2 hc
    refine lv_iload_n hx hb dM_sum_82 rfl (lv_at hl 2 rfl) ?_
    refine lv_if_ne (tgt := 99) hx hb dM_sum_83 (by decide) (fun hc => ?_) (fun hc => ?_)
    · replace hw := hw.1 hc
      exact LM_sum_99 X hex hr J30 hJ30 x1 x2 x3 x4 k0 f76 a76 b76 hw _ _ K _ (lv_sub hl [1, 2, 3, 4, 5, 0] rfl)
    · replace hw := hw.2 hc
      refine lv_iload hx hb dM_sum_86 (lv_at hl 5 rfl) ?_
      refine lv_if_ge (tgt := 99) hx hb dM_sum_88 (by decide) (fun hc => ?_) (fun hc => ?_)
      · replace hw := hw.1 hc
        exact LM_sum_99 X hex hr J30 hJ30 x1 x2 x3 x4 k0 f76 a76 b76 hw _ _ K _ (lv_sub hl [1, 2, 3, 4, 5, 0] rfl)
      · replace hw := hw.2 hc
        refine lv_iload_n hx hb dM_sum_91 rfl (lv_at hl 3 rfl) ?_
        refine lv_aload_n hx hb dM_sum_92 rfl (lv_at hl 1 rfl) ?_
        refine lv_iload_n hx hb dM_sum_93 rfl (lv_at hl 4 rfl) ?_
        refine gcI X K (n0 := 1) (As := [.int x3]) (rest := [.int x2]) (hM := (met_M_rankOf hl9 D ad ca sa _ x3 f76 a76 b76 _ hw)) (o := 0) (ho := by decide) (hko := kM_o0) (hci := rfl) (hg := wl_good) (w1 := (tm3 (i := 235) rfl rfl)) (w2 := (tm3 (i := 237) rfl rfl)) (w3 := (tm0 (i := 37) rfl rfl)) (w4 := (tm1 (i := 4) rfl rfl)) (w5 := (tm3 (i := 238) rfl rfl)) (hd := ⟨rfl, by decide, by decide, by decide +kernel⟩) (hrc := rfl) (hrs := rfl) (hR := ⟨Nat.le_of_ble_eq_true rfl, Nat.le_of_ble_eq_true rfl⟩) (hn := rfl) (hsz := hl.1) (hst := rfl) (hW := Nat.le_of_ble_eq_true rfl) (hdg := dM_sum_94) (hf := ⟨Nat.le_of_ble_eq_true rfl, Nat.le_of_ble_eq_true rfl⟩) (fun _ _ _ _ _ _ _ _ hw => hw.elim) (fun r94 f94 a94 b94 H locs hw K => ?_)
        refine lv_iadd hx hb dM_sum_97 ?_
        refine lv_istore_n (lv' := [(2, .int (x2 + r94)), (5, .int k0), (0, .ref (ad 0)), (1, .int x1), (3, .int x3), (4, .int x4)]) hx hb dM_sum_98 rfl hl (by decide) rfl (fun ls hl => ?_)
        exact LM_sum_99 X hex hr J30 hJ30 x1 (x2 + r94) x3 x4 k0 f94 a94 b94 hw _ _ K _ (lv_sub hl [2, 3, 0, 4, 5, 1] rfl)
set_option maxHeartbeats 4000000 in
set_option maxRecDepth 100000 in
theorem LM_sum_30 {p : Program} {l : Launch} {e : Env} {s : State} {m : MethodId} {below : List Frame} {meth : Method} {c : Code} {D : va_G} {sa : Nat → Nat} {ad : Nat → Nat} {ca : Nat → ClassId} {A : Nat → Prop} {y1 : Int32} {po : Int32 → wF → wA → wB → Prop} (X : cx Wl (tyS ca) txS D vwCl sa A p l s m ([.ref (ad 0), .int y1] : List Value).toArray meth c cM_sum 6 "SendBestModel") (hex : ∀ x ∈ c.exceptionTable.toList, False) (hr : meth.sig.returnType = (some .int)) : ∀ n : Nat, ∀ (x1 : Int32) (x2 : Int32) (x3 : Int32) (f : wF) (a : wA) (b : wB), wp_M_sum_30 po n x1 x2 x3 f a b → ∀ (H : Heap) (locs : List Loc), wd nM kM D vwCl ad ca A s H locs f a b → ∀ (ls : Array Slot), lv_has ls 6 [(0, .ref (ad 0)), (1, .int x1), (2, .int x2), (3, .int x3)] → W p l e ({ frames := 1, cells := 0, slots := 0, locals := 24 }) s m ([.ref (ad 0), .int y1] : List Value).toArray below meth c H locs 0 0 (vx_MQ below (va_Qi (fun r (u : wF × wA × wB) => po r u.1 u.2.1 u.2.2) (sPost nM kM D vwCl ad ca A) A) (sX nM kM D vwCl ad ca A (fun _ _ _ _ => False)) ([.ref (ad 0), .int y1] : List Value).toArray s 0 0 A) (F0 m 30 ls []) := by
  obtain ⟨hx, hb, hml, hown, hts, hK, hA, hth, hlk, hl9⟩ := id X
  intro n
  induction n with
  | zero => intro x1 x2 x3 f a b hw; exact hw.elim
  | succ n ih =>
    intro x1 x2 x3 f a b hw H locs K ls hl
    dsimp only [wp_M_sum_30] at hw
    refine lv_iload_n hx hb dM_sum_30 rfl (lv_at hl 3 rfl) ?_
    refine lv_aload_n hx hb dM_sum_31 rfl (lv_at hl 0 rfl) ?_
    refine gGet X K (o := 0) (k := 8) (v := .int (f 3)) (by decide) kM_o0 rfl inM_o0 (by decide) (tm3 (i := 111) rfl rfl) rfl dM_sum_32 ?_
    refine lv_icmp_ge (tgt := 139) hx hb dM_sum_35 (by decide) (fun hc => ?_) (fun hc => ?_)
    · replace hw := hw.1 hc
      refine lv_iload_n hx hb dM_sum_139 rfl (lv_at hl 2 rfl) ?_
      exact endI X K hr rfl hw (by decide) (by decide) dM_sum_140
    · replace hw := hw.2 hc
      refine lv_aload_n hx hb dM_sum_38 rfl (lv_at hl 0 rfl) ?_
      refine gGet X K (o := 0) (k := 11) (v := .ref (ad 8)) (by decide) kM_o0 rfl inM_o0 (by decide) (tm3 (i := 114) rfl rfl) rfl dM_sum_39 ?_
      refine lv_iload_n hx hb dM_sum_42 rfl (lv_at hl 3 rfl) ?_
      obtain ⟨hi, hw⟩ := hw
      refine gild X K (o := 8) (t0 := 0) (by decide) kM_c8 rfl hi dM_sum_43 ?_
      refine lv_istore (lv' := [(4, .int (a 8 x3.toNatClampNeg)), (0, .ref (ad 0)), (1, .int x1), (2, .int x2), (3, .int x3)]) hx hb dM_sum_44 hl (by decide) rfl (fun ls hl => ?_)
      refine lv_iload hx hb dM_sum_46 (lv_at hl 0 rfl) ?_
      refine lv_if_lt (tgt := 71) hx hb dM_sum_48 (by decide) (fun hc => ?_) (fun hc => ?_)
      · replace hw := hw.1 hc
        refine lv_iconst (v := (0 : Int32)) hx hb dM_sum_71 (by decide) ?_
        exact LM_sum_72 X hex hr (wp_M_sum_30 po n) ih (0 : Int32) x1 x2 x3 (a 8 x3.toNatClampNeg) f a b hw _ _ K _ (lv_sub hl [1, 2, 3, 4, 0] rfl)
      · replace hw := hw.2 hc
        refine lv_aload_n hx hb dM_sum_51 rfl (lv_at hl 1 rfl) ?_
        refine gGet X K (o := 0) (k := 4) (v := .ref (ad 3)) (by decide) kM_o0 rfl inM_o0 (by decide) (tm3 (i := 107) rfl rfl) rfl dM_sum_52 ?_
        refine lv_bipush (v := (6 : Int32)) hx hb dM_sum_55 (by decide) ?_
        refine lv_iload hx hb dM_sum_57 (lv_at hl 0 rfl) ?_
        refine lv_imul hx hb dM_sum_59 ?_
        refine lv_aload_n hx hb dM_sum_60 rfl (lv_at hl 1 rfl) ?_
        refine gGet X K (o := 0) (k := 9) (v := .ref (ad 6)) (by decide) kM_o0 rfl inM_o0 (by decide) (tm3 (i := 112) rfl rfl) rfl dM_sum_61 ?_
        refine lv_iload_n hx hb dM_sum_64 rfl (lv_at hl 4 rfl) ?_
        obtain ⟨hi, hw⟩ := hw
        refine gild X K (o := 6) (t0 := 0) (by decide) kM_c6 rfl hi dM_sum_65 ?_
        refine lv_iadd hx hb dM_sum_66 ?_
        obtain ⟨hi, hw⟩ := hw
        refine gild X K (o := 3) (t0 := 0) (by decide) kM_c3 rfl hi dM_sum_67 ?_
        refine lv_goto (tgt := 72) hx hb dM_sum_68 (by decide) ?_
        exact LM_sum_72 X hex hr (wp_M_sum_30 po n) ih (a 3 (((6 : Int32) * (a 8 x3.toNatClampNeg)) + (a 6 x3.toNatClampNeg)).toNatClampNeg) x1 x2 x3 (a 8 x3.toNatClampNeg) f a b hw _ _ K _ (lv_sub hl [1, 2, 3, 4, 0] rfl)
set_option maxHeartbeats 4000000 in
set_option maxRecDepth 100000 in
theorem LM_sum_15 {p : Program} {l : Launch} {e : Env} {s : State} {m : MethodId} {below : List Frame} {meth : Method} {c : Code} {D : va_G} {sa : Nat → Nat} {ad : Nat → Nat} {ca : Nat → ClassId} {A : Nat → Prop} {y1 : Int32} {po : Int32 → wF → wA → wB → Prop} (X : cx Wl (tyS ca) txS D vwCl sa A p l s m ([.ref (ad 0), .int y1] : List Value).toArray meth c cM_sum 6 "SendBestModel") (hex : ∀ x ∈ c.exceptionTable.toList, False) (hr : meth.sig.returnType = (some .int)) : ∀ (k0 : Int32) (x1 : Int32) (f : wF) (a : wA) (b : wB), wp_M_sum_15 po k0 x1 f a b → ∀ (H : Heap) (locs : List Loc), wd nM kM D vwCl ad ca A s H locs f a b → ∀ (ls : Array Slot), lv_has ls 6 [(0, .ref (ad 0)), (1, .int x1)] → W p l e ({ frames := 1, cells := 0, slots := 0, locals := 24 }) s m ([.ref (ad 0), .int y1] : List Value).toArray below meth c H locs 0 0 (vx_MQ below (va_Qi (fun r (u : wF × wA × wB) => po r u.1 u.2.1 u.2.2) (sPost nM kM D vwCl ad ca A) A) (sX nM kM D vwCl ad ca A (fun _ _ _ _ => False)) ([.ref (ad 0), .int y1] : List Value).toArray s 0 0 A) (F0 m 15 ls [.int k0, .ref (ad 0)]) := by
  obtain ⟨hx, hb, hml, hown, hts, hK, hA, hth, hlk, hl9⟩ := id X
  intro k0 x1 f a b hw H locs K ls hl
  dsimp only [wp_M_sum_15] at hw
  refine lv_iconst (v := (0 : Int32)) hx hb dM_sum_15 (by decide) ?_
  refine lv_iconst (v := (0 : Int32)) hx hb dM_sum_16 (by decide) ?_
  refine lv_iconst (v := (0 : Int32)) hx hb dM_sum_17 (by decide) ?_
  refine gcI X K (n0 := 4) (As := [.int k0, .int (0 : Int32), .int (0 : Int32), .int (0 : Int32)]) (rest := []) (hM := (met_M_throwing hl9 D ad ca sa _ k0 (0 : Int32) (0 : Int32) (0 : Int32) f a b _ hw)) (o := 0) (ho := by decide) (hko := kM_o0) (hci := rfl) (hg := wl_good) (w1 := (tm3 (i := 173) rfl rfl)) (w2 := (tm3 (i := 175) rfl rfl)) (w3 := (tm0 (i := 30) rfl rfl)) (w4 := (tm1 (i := 4) rfl rfl)) (w5 := (tm3 (i := 176) rfl rfl)) (hd := ⟨rfl, by decide, by decide, by decide +kernel⟩) (hrc := rfl) (hrs := rfl) (hR := ⟨Nat.le_of_ble_eq_true rfl, Nat.le_of_ble_eq_true rfl⟩) (hn := rfl) (hsz := hl.1) (hst := rfl) (hW := Nat.le_of_ble_eq_true rfl) (hdg := dM_sum_18) (hf := ⟨Nat.le_of_ble_eq_true rfl, Nat.le_of_ble_eq_true rfl⟩) (fun _ _ _ _ _ _ _ _ hw => hw.elim) (fun r18 f18 a18 b18 H locs hw K => ?_)
  refine lv_if_eq (tgt := 26) hx hb dM_sum_21 (by decide) (fun hc => ?_) (fun hc => ?_)
  · replace hw := hw.1 hc
    refine lv_iconst (v := (0 : Int32)) hx hb dM_sum_26 (by decide) ?_
    refine lv_istore_n (lv' := [(2, .int (0 : Int32)), (0, .ref (ad 0)), (1, .int x1)]) hx hb dM_sum_27 rfl hl (by decide) rfl (fun ls hl => ?_)
    refine lv_iconst (v := (0 : Int32)) hx hb dM_sum_28 (by decide) ?_
    refine lv_istore_n (lv' := [(3, .int (0 : Int32)), (2, .int (0 : Int32)), (0, .ref (ad 0)), (1, .int x1)]) hx hb dM_sum_29 rfl hl (by decide) rfl (fun ls hl => ?_)
    obtain ⟨n9, hw⟩ := hw
    exact LM_sum_30 X hex hr n9 x1 (0 : Int32) (0 : Int32) f18 a18 b18 hw _ _ K _ (lv_sub hl [2, 3, 1, 0] rfl)
  · replace hw := hw.2 hc
    refine lv_iconst (v := (0 : Int32)) hx hb dM_sum_24 (by decide) ?_
    exact endI X K hr rfl hw (by decide) (by decide) dM_sum_25
set_option maxHeartbeats 4000000 in
set_option maxRecDepth 100000 in
theorem met_M_sum {l : Launch} (hl9 : l.stackTraces = false) (D : va_G) (ad : Nat → Nat) (ca : Nat → ClassId) (sa : Nat → Nat) (sz : Nat) (x1 : Int32) (f : wF) (a : wA) (b : wB) (po : Int32 → wF → wA → wB → Prop) (hw : wp_M_sum po x1 f a b) : mI nM kM (tyS ca) txS D vwCl l yM_sum (Cond.code yM_sum cM_sum 6 (some .int) :: Wl) ({ frames := 1, cells := 0, slots := 0, locals := 24 }) [.ref (ad 0), .int x1] ad ca sa sz f a b po (fun _ _ _ _ => False) 0 0 := by
  refine ofI (by decide) hl9 (Nat.le_of_ble_eq_true rfl) ?_
  intro p e s m below meth c ls X hex hr K hl
  obtain ⟨hx, hb, hml, hown, hts, hK, hA, hth, hlk, hl9⟩ := id X
  have hl : lv_has ls 6 [(0, .ref (ad 0)), (1, .int x1)] := hl
  dsimp only [wp_M_sum] at hw
  refine lv_aload_n hx hb dM_sum_0 rfl (lv_at hl 0 rfl) ?_
  refine lv_iload_n hx hb dM_sum_1 rfl (lv_at hl 1 rfl) ?_
  refine lv_iconst (v := (0 : Int32)) hx hb dM_sum_2 (by decide) ?_
  refine lv_iconst (v := (1 : Int32)) hx hb dM_sum_3 (by decide) ?_
  refine gcSI X K (n0 := 3) (As := [.int x1, .int (0 : Int32), .int (1 : Int32)]) (rest := [.ref (ad 0)]) (hM := (met_M_in hl9 D ad ca sa _ x1 (0 : Int32) (1 : Int32) f a b _ hw)) (hg := wl_good) (w1 := (tm3 (i := 170) rfl rfl)) (w2 := (tm3 (i := 171) rfl rfl)) (w4 := (tm1 (i := 4) rfl rfl)) (w5 := (tm3 (i := 172) rfl rfl)) (hd := ⟨by decide, by decide, by decide +kernel⟩) (hrc := rfl) (hrs := rfl) (hR := ⟨Nat.le_of_ble_eq_true rfl, Nat.le_of_ble_eq_true rfl⟩) (hn := rfl) (hsz := hl.1) (hst := rfl) (hW := Nat.le_of_ble_eq_true rfl) (hdg := dM_sum_4) (hf := ⟨Nat.le_of_ble_eq_true rfl, Nat.le_of_ble_eq_true rfl⟩) (fun _ _ _ _ _ _ _ _ hw => hw.elim) (fun r4 f4 a4 b4 H locs hw K => ?_)
  refine lv_if_ne (tgt := 14) hx hb dM_sum_7 (by decide) (fun hc => ?_) (fun hc => ?_)
  · replace hw := hw.1 hc
    refine lv_iconst (v := (0 : Int32)) hx hb dM_sum_14 (by decide) ?_
    exact LM_sum_15 X hex hr (0 : Int32) x1 f4 a4 b4 hw _ _ K _ (lv_sub hl [0, 1] rfl)
  · replace hw := hw.2 hc
    refine lv_iconst (v := (1 : Int32)) hx hb dM_sum_10 (by decide) ?_
    refine lv_goto (tgt := 15) hx hb dM_sum_11 (by decide) ?_
    exact LM_sum_15 X hex hr (1 : Int32) x1 f4 a4 b4 hw _ _ K _ (lv_sub hl [0, 1] rfl)
set_option maxHeartbeats 4000000 in
set_option maxRecDepth 100000 in
theorem LM_alternative_137 {p : Program} {l : Launch} {e : Env} {s : State} {m : MethodId} {below : List Frame} {meth : Method} {c : Code} {D : va_G} {sa : Nat → Nat} {ad : Nat → Nat} {ca : Nat → ClassId} {A : Nat → Prop} {y1 : Int32} {po : Int32 → wF → wA → wB → Prop} (X : cx Wl (tyS ca) txS D vwCl sa A p l s m ([.ref (ad 0), .int y1] : List Value).toArray meth c cM_alternative 6 "SendBestModel") (hex : ∀ x ∈ c.exceptionTable.toList, False) (hr : meth.sig.returnType = (some .int)) (J54 : Int32 → Int32 → Int32 → wF → wA → wB → Prop) (hJ54 : ∀ (x1 : Int32) (x3 : Int32) (x4 : Int32) (f : wF) (a : wA) (b : wB), J54 x1 x3 x4 f a b → ∀ (H : Heap) (locs : List Loc), wd nM kM D vwCl ad ca A s H locs f a b → ∀ (ls : Array Slot), lv_has ls 6 [(0, .ref (ad 0)), (1, .int x1), (3, .int x3), (4, .int x4)] → W p l e ({ frames := 1, cells := 0, slots := 0, locals := 24 }) s m ([.ref (ad 0), .int y1] : List Value).toArray below meth c H locs 0 0 (vx_MQ below (va_Qi (fun r (u : wF × wA × wB) => po r u.1 u.2.1 u.2.2) (sPost nM kM D vwCl ad ca A) A) (sX nM kM D vwCl ad ca A (fun _ _ _ _ => False)) ([.ref (ad 0), .int y1] : List Value).toArray s 0 0 A) (F0 m 54 ls [])) : ∀ (x1 : Int32) (x3 : Int32) (x4 : Int32) (f : wF) (a : wA) (b : wB), wp_M_alternative_137 po J54 x1 x3 x4 f a b → ∀ (H : Heap) (locs : List Loc), wd nM kM D vwCl ad ca A s H locs f a b → ∀ (ls : Array Slot), lv_has ls 6 [(0, .ref (ad 0)), (1, .int x1), (3, .int x3), (4, .int x4)] → W p l e ({ frames := 1, cells := 0, slots := 0, locals := 24 }) s m ([.ref (ad 0), .int y1] : List Value).toArray below meth c H locs 0 0 (vx_MQ below (va_Qi (fun r (u : wF × wA × wB) => po r u.1 u.2.1 u.2.2) (sPost nM kM D vwCl ad ca A) A) (sX nM kM D vwCl ad ca A (fun _ _ _ _ => False)) ([.ref (ad 0), .int y1] : List Value).toArray s 0 0 A) (F0 m 137 ls []) := by
  obtain ⟨hx, hb, hml, hown, hts, hK, hA, hth, hlk, hl9⟩ := id X
  intro x1 x3 x4 f a b hw H locs K ls hl
  dsimp only [wp_M_alternative_137] at hw
  refine lv_iinc (v := (x4 + (1 : Int32))) (lv' := [(4, .int (x4 + (1 : Int32))), (0, .ref (ad 0)), (1, .int x1), (3, .int x3)]) hx hb dM_alternative_137 hl (k := 3) rfl rfl (by decide) rfl (fun ls hl => ?_)
  refine lv_goto (tgt := 54) hx hb dM_alternative_140 (by decide) ?_
  exact hJ54 x1 x3 (x4 + (1 : Int32)) f a b hw _ _ K _ (lv_sub hl [1, 2, 3, 0] rfl)
set_option maxHeartbeats 4000000 in
set_option maxRecDepth 100000 in
theorem LM_alternative_134 {p : Program} {l : Launch} {e : Env} {s : State} {m : MethodId} {below : List Frame} {meth : Method} {c : Code} {D : va_G} {sa : Nat → Nat} {ad : Nat → Nat} {ca : Nat → ClassId} {A : Nat → Prop} {y1 : Int32} {po : Int32 → wF → wA → wB → Prop} (X : cx Wl (tyS ca) txS D vwCl sa A p l s m ([.ref (ad 0), .int y1] : List Value).toArray meth c cM_alternative 6 "SendBestModel") (hex : ∀ x ∈ c.exceptionTable.toList, False) (hr : meth.sig.returnType = (some .int)) (J54 : Int32 → Int32 → Int32 → wF → wA → wB → Prop) (hJ54 : ∀ (x1 : Int32) (x3 : Int32) (x4 : Int32) (f : wF) (a : wA) (b : wB), J54 x1 x3 x4 f a b → ∀ (H : Heap) (locs : List Loc), wd nM kM D vwCl ad ca A s H locs f a b → ∀ (ls : Array Slot), lv_has ls 6 [(0, .ref (ad 0)), (1, .int x1), (3, .int x3), (4, .int x4)] → W p l e ({ frames := 1, cells := 0, slots := 0, locals := 24 }) s m ([.ref (ad 0), .int y1] : List Value).toArray below meth c H locs 0 0 (vx_MQ below (va_Qi (fun r (u : wF × wA × wB) => po r u.1 u.2.1 u.2.2) (sPost nM kM D vwCl ad ca A) A) (sX nM kM D vwCl ad ca A (fun _ _ _ _ => False)) ([.ref (ad 0), .int y1] : List Value).toArray s 0 0 A) (F0 m 54 ls [])) : ∀ (x1 : Int32) (x4 : Int32) (f : wF) (a : wA) (b : wB), wp_M_alternative_134 po J54 x1 x4 f a b → ∀ (H : Heap) (locs : List Loc), wd nM kM D vwCl ad ca A s H locs f a b → ∀ (ls : Array Slot), lv_has ls 6 [(0, .ref (ad 0)), (1, .int x1), (4, .int x4)] → W p l e ({ frames := 1, cells := 0, slots := 0, locals := 24 }) s m ([.ref (ad 0), .int y1] : List Value).toArray below meth c H locs 0 0 (vx_MQ below (va_Qi (fun r (u : wF × wA × wB) => po r u.1 u.2.1 u.2.2) (sPost nM kM D vwCl ad ca A) A) (sX nM kM D vwCl ad ca A (fun _ _ _ _ => False)) ([.ref (ad 0), .int y1] : List Value).toArray s 0 0 A) (F0 m 134 ls []) := by
  obtain ⟨hx, hb, hml, hown, hts, hK, hA, hth, hlk, hl9⟩ := id X
  intro x1 x4 f a b hw H locs K ls hl
  dsimp only [wp_M_alternative_134] at hw
  refine lv_iload hx hb dM_alternative_134 (lv_at hl 2 rfl) ?_
  refine lv_istore_n (lv' := [(3, .int x4), (0, .ref (ad 0)), (1, .int x1), (4, .int x4)]) hx hb dM_alternative_136 rfl hl (by decide) rfl (fun ls hl => ?_)
  exact LM_alternative_137 X hex hr J54 hJ54 x1 x4 x4 f a b hw _ _ K _ (lv_sub hl [1, 2, 0, 3] rfl)
set_option maxHeartbeats 4000000 in
set_option maxRecDepth 100000 in
theorem LM_alternative_87 {p : Program} {l : Launch} {e : Env} {s : State} {m : MethodId} {below : List Frame} {meth : Method} {c : Code} {D : va_G} {sa : Nat → Nat} {ad : Nat → Nat} {ca : Nat → ClassId} {A : Nat → Prop} {y1 : Int32} {po : Int32 → wF → wA → wB → Prop} (X : cx Wl (tyS ca) txS D vwCl sa A p l s m ([.ref (ad 0), .int y1] : List Value).toArray meth c cM_alternative 6 "SendBestModel") (hex : ∀ x ∈ c.exceptionTable.toList, False) (hr : meth.sig.returnType = (some .int)) (J54 : Int32 → Int32 → Int32 → wF → wA → wB → Prop) (hJ54 : ∀ (x1 : Int32) (x3 : Int32) (x4 : Int32) (f : wF) (a : wA) (b : wB), J54 x1 x3 x4 f a b → ∀ (H : Heap) (locs : List Loc), wd nM kM D vwCl ad ca A s H locs f a b → ∀ (ls : Array Slot), lv_has ls 6 [(0, .ref (ad 0)), (1, .int x1), (3, .int x3), (4, .int x4)] → W p l e ({ frames := 1, cells := 0, slots := 0, locals := 24 }) s m ([.ref (ad 0), .int y1] : List Value).toArray below meth c H locs 0 0 (vx_MQ below (va_Qi (fun r (u : wF × wA × wB) => po r u.1 u.2.1 u.2.2) (sPost nM kM D vwCl ad ca A) A) (sX nM kM D vwCl ad ca A (fun _ _ _ _ => False)) ([.ref (ad 0), .int y1] : List Value).toArray s 0 0 A) (F0 m 54 ls [])) : ∀ (k0 : Int32) (x1 : Int32) (x3 : Int32) (x4 : Int32) (f : wF) (a : wA) (b : wB), wp_M_alternative_87 po J54 k0 x1 x3 x4 f a b → ∀ (H : Heap) (locs : List Loc), wd nM kM D vwCl ad ca A s H locs f a b → ∀ (ls : Array Slot), lv_has ls 6 [(0, .ref (ad 0)), (1, .int x1), (3, .int x3), (4, .int x4)] → W p l e ({ frames := 1, cells := 0, slots := 0, locals := 24 }) s m ([.ref (ad 0), .int y1] : List Value).toArray below meth c H locs 0 0 (vx_MQ below (va_Qi (fun r (u : wF × wA × wB) => po r u.1 u.2.1 u.2.2) (sPost nM kM D vwCl ad ca A) A) (sX nM kM D vwCl ad ca A (fun _ _ _ _ => False)) ([.ref (ad 0), .int y1] : List Value).toArray s 0 0 A) (F0 m 87 ls [.int k0]) := by
  obtain ⟨hx, hb, hml, hown, hts, hK, hA, hth, hlk, hl9⟩ := id X
  intro k0 x1 x3 x4 f a b hw H locs K ls hl
  dsimp only [wp_M_alternative_87] at hw
  refine lv_istore (lv' := [(5, .int k0), (0, .ref (ad 0)), (1, .int x1), (3, .int x3), (4, .int x4)]) hx hb dM_alternative_87 hl (by decide) rfl (fun ls hl => ?_)
  refine lv_iload hx hb dM_alternative_89 (lv_at hl 0 rfl) ?_
  refine lv_if_eq (tgt := 137) hx hb dM_alternative_91 (by decide) (fun hc => ?_) (fun hc => ?_)
  · replace hw := hw.1 hc
    exact LM_alternative_137 X hex hr J54 hJ54 x1 x3 x4 f a b hw _ _ K _ (lv_sub hl [1, 2, 3, 4] rfl)
  · replace hw := hw.2 hc
    refine lv_iload_n hx hb dM_alternative_94 rfl (lv_at hl 3 rfl) ?_
    refine lv_if_lt (tgt := 134) hx hb dM_alternative_95 (by decide) (fun hc => ?_) (fun hc => ?_)
    · replace hw := hw.1 hc
      exact LM_alternative_134 X hex hr J54 hJ54 x1 x4 f a b hw _ _ K _ (lv_sub hl [1, 2, 4] rfl)
    · replace hw := hw.2 hc
      refine lv_aload_n hx hb dM_alternative_98 rfl (lv_at hl 1 rfl) ?_
      refine gGet X K (o := 0) (k := 4) (v := .ref (ad 3)) (by decide) kM_o0 rfl inM_o0 (by decide) (tm3 (i := 107) rfl rfl) rfl dM_alternative_99 ?_
      refine lv_bipush (v := (6 : Int32)) hx hb dM_alternative_102 (by decide) ?_
      refine lv_iload hx hb dM_alternative_104 (lv_at hl 4 rfl) ?_
      refine lv_imul hx hb dM_alternative_106 ?_
      refine lv_aload_n hx hb dM_alternative_107 rfl (lv_at hl 1 rfl) ?_
      refine gGet X K (o := 0) (k := 9) (v := .ref (ad 6)) (by decide) kM_o0 rfl inM_o0 (by decide) (tm3 (i := 112) rfl rfl) rfl dM_alternative_108 ?_
      refine lv_iload_n hx hb dM_alternative_111 rfl (lv_at hl 2 rfl) ?_
      obtain ⟨hi, hw⟩ := hw
      refine gild X K (o := 6) (t0 := 0) (by decide) kM_c6 rfl hi dM_alternative_112 ?_
      refine lv_iadd hx hb dM_alternative_113 ?_
      obtain ⟨hi, hw⟩ := hw
      refine gild X K (o := 3) (t0 := 0) (by decide) kM_c3 rfl hi dM_alternative_114 ?_
      refine lv_aload_n hx hb dM_alternative_115 rfl (lv_at hl 1 rfl) ?_
      refine gGet X K (o := 0) (k := 4) (v := .ref (ad 3)) (by decide) kM_o0 rfl inM_o0 (by decide) (tm3 (i := 107) rfl rfl) rfl dM_alternative_116 ?_
      refine lv_bipush (v := (6 : Int32)) hx hb dM_alternative_119 (by decide) ?_
      refine lv_iload_n hx hb dM_alternative_121 rfl (lv_at hl 3 rfl) ?_
      refine lv_imul hx hb dM_alternative_122 ?_
      refine lv_aload_n hx hb dM_alternative_123 rfl (lv_at hl 1 rfl) ?_
      refine gGet X K (o := 0) (k := 9) (v := .ref (ad 6)) (by decide) kM_o0 rfl inM_o0 (by decide) (tm3 (i := 112) rfl rfl) rfl dM_alternative_124 ?_
      refine lv_iload_n hx hb dM_alternative_127 rfl (lv_at hl 2 rfl) ?_
      obtain ⟨hi, hw⟩ := hw
      refine gild X K (o := 6) (t0 := 0) (by decide) kM_c6 rfl hi dM_alternative_128 ?_
      refine lv_iadd hx hb dM_alternative_129 ?_
      obtain ⟨hi, hw⟩ := hw
      refine gild X K (o := 3) (t0 := 0) (by decide) kM_c3 rfl hi dM_alternative_130 ?_
      refine lv_icmp_ge (tgt := 137) hx hb dM_alternative_131 (by decide) (fun hc => ?_) (fun hc => ?_)
      · replace hw := hw.1 hc
        exact LM_alternative_137 X hex hr J54 hJ54 x1 x3 x4 f a b hw _ _ K _ (lv_sub hl [1, 2, 3, 4] rfl)
      · replace hw := hw.2 hc
        exact LM_alternative_134 X hex hr J54 hJ54 x1 x4 f a b hw _ _ K _ (lv_sub hl [1, 2, 4] rfl)
set_option maxHeartbeats 4000000 in
set_option maxRecDepth 100000 in
theorem LM_alternative_86 {p : Program} {l : Launch} {e : Env} {s : State} {m : MethodId} {below : List Frame} {meth : Method} {c : Code} {D : va_G} {sa : Nat → Nat} {ad : Nat → Nat} {ca : Nat → ClassId} {A : Nat → Prop} {y1 : Int32} {po : Int32 → wF → wA → wB → Prop} (X : cx Wl (tyS ca) txS D vwCl sa A p l s m ([.ref (ad 0), .int y1] : List Value).toArray meth c cM_alternative 6 "SendBestModel") (hex : ∀ x ∈ c.exceptionTable.toList, False) (hr : meth.sig.returnType = (some .int)) (J54 : Int32 → Int32 → Int32 → wF → wA → wB → Prop) (hJ54 : ∀ (x1 : Int32) (x3 : Int32) (x4 : Int32) (f : wF) (a : wA) (b : wB), J54 x1 x3 x4 f a b → ∀ (H : Heap) (locs : List Loc), wd nM kM D vwCl ad ca A s H locs f a b → ∀ (ls : Array Slot), lv_has ls 6 [(0, .ref (ad 0)), (1, .int x1), (3, .int x3), (4, .int x4)] → W p l e ({ frames := 1, cells := 0, slots := 0, locals := 24 }) s m ([.ref (ad 0), .int y1] : List Value).toArray below meth c H locs 0 0 (vx_MQ below (va_Qi (fun r (u : wF × wA × wB) => po r u.1 u.2.1 u.2.2) (sPost nM kM D vwCl ad ca A) A) (sX nM kM D vwCl ad ca A (fun _ _ _ _ => False)) ([.ref (ad 0), .int y1] : List Value).toArray s 0 0 A) (F0 m 54 ls [])) : ∀ (x1 : Int32) (x3 : Int32) (x4 : Int32) (f : wF) (a : wA) (b : wB), wp_M_alternative_86 po J54 x1 x3 x4 f a b → ∀ (H : Heap) (locs : List Loc), wd nM kM D vwCl ad ca A s H locs f a b → ∀ (ls : Array Slot), lv_has ls 6 [(0, .ref (ad 0)), (1, .int x1), (3, .int x3), (4, .int x4)] → W p l e ({ frames := 1, cells := 0, slots := 0, locals := 24 }) s m ([.ref (ad 0), .int y1] : List Value).toArray below meth c H locs 0 0 (vx_MQ below (va_Qi (fun r (u : wF × wA × wB) => po r u.1 u.2.1 u.2.2) (sPost nM kM D vwCl ad ca A) A) (sX nM kM D vwCl ad ca A (fun _ _ _ _ => False)) ([.ref (ad 0), .int y1] : List Value).toArray s 0 0 A) (F0 m 86 ls []) := by
  obtain ⟨hx, hb, hml, hown, hts, hK, hA, hth, hlk, hl9⟩ := id X
  intro x1 x3 x4 f a b hw H locs K ls hl
  dsimp only [wp_M_alternative_86] at hw
  refine lv_iconst (v := (0 : Int32)) hx hb dM_alternative_86 (by decide) ?_
  exact LM_alternative_87 X hex hr J54 hJ54 (0 : Int32) x1 x3 x4 f a b hw _ _ K _ (lv_sub hl [0, 1, 2, 3] rfl)
set_option maxHeartbeats 4000000 in
set_option maxRecDepth 100000 in
theorem LM_alternative_54 {p : Program} {l : Launch} {e : Env} {s : State} {m : MethodId} {below : List Frame} {meth : Method} {c : Code} {D : va_G} {sa : Nat → Nat} {ad : Nat → Nat} {ca : Nat → ClassId} {A : Nat → Prop} {y1 : Int32} {po : Int32 → wF → wA → wB → Prop} (X : cx Wl (tyS ca) txS D vwCl sa A p l s m ([.ref (ad 0), .int y1] : List Value).toArray meth c cM_alternative 6 "SendBestModel") (hex : ∀ x ∈ c.exceptionTable.toList, False) (hr : meth.sig.returnType = (some .int)) : ∀ n : Nat, ∀ (x1 : Int32) (x3 : Int32) (x4 : Int32) (f : wF) (a : wA) (b : wB), wp_M_alternative_54 po n x1 x3 x4 f a b → ∀ (H : Heap) (locs : List Loc), wd nM kM D vwCl ad ca A s H locs f a b → ∀ (ls : Array Slot), lv_has ls 6 [(0, .ref (ad 0)), (1, .int x1), (3, .int x3), (4, .int x4)] → W p l e ({ frames := 1, cells := 0, slots := 0, locals := 24 }) s m ([.ref (ad 0), .int y1] : List Value).toArray below meth c H locs 0 0 (vx_MQ below (va_Qi (fun r (u : wF × wA × wB) => po r u.1 u.2.1 u.2.2) (sPost nM kM D vwCl ad ca A) A) (sX nM kM D vwCl ad ca A (fun _ _ _ _ => False)) ([.ref (ad 0), .int y1] : List Value).toArray s 0 0 A) (F0 m 54 ls []) := by
  obtain ⟨hx, hb, hml, hown, hts, hK, hA, hth, hlk, hl9⟩ := id X
  intro n
  induction n with
  | zero => intro x1 x3 x4 f a b hw; exact hw.elim
  | succ n ih =>
    intro x1 x3 x4 f a b hw H locs K ls hl
    dsimp only [wp_M_alternative_54] at hw
    refine lv_iload hx hb dM_alternative_54 (lv_at hl 3 rfl) ?_
    refine lv_aload_n hx hb dM_alternative_56 rfl (lv_at hl 0 rfl) ?_
    refine gGet X K (o := 0) (k := 1) (v := .int (f 1)) (by decide) kM_o0 rfl inM_o0 (by decide) (tm3 (i := 104) rfl rfl) rfl dM_alternative_57 ?_
    refine lv_icmp_ge (tgt := 143) hx hb dM_alternative_60 (by decide) (fun hc => ?_) (fun hc => ?_)
    · replace hw := hw.1 hc
      refine lv_iload_n hx hb dM_alternative_143 rfl (lv_at hl 2 rfl) ?_
      exact endI X K hr rfl hw (by decide) (by decide) dM_alternative_144
    · replace hw := hw.2 hc
      refine lv_aload_n hx hb dM_alternative_63 rfl (lv_at hl 0 rfl) ?_
      refine lv_iload hx hb dM_alternative_64 (lv_at hl 3 rfl) ?_
      refine lv_iload_n hx hb dM_alternative_66 rfl (lv_at hl 1 rfl) ?_
      refine gcI X K (n0 := 2) (As := [.int x4, .int x1]) (rest := []) (hM := (met_M_canFill hl9 D ad ca sa _ x4 x1 f a b _ hw)) (o := 0) (ho := by decide) (hko := kM_o0) (hci := rfl) (hg := wl_good) (w1 := (tm4 (i := 7) rfl rfl)) (w2 := (tm4 (i := 9) rfl rfl)) (w3 := (tm0 (i := 40) rfl rfl)) (w4 := (tm1 (i := 4) rfl rfl)) (w5 := (tm4 (i := 10) rfl rfl)) (hd := ⟨rfl, by decide, by decide, by decide +kernel⟩) (hrc := rfl) (hrs := rfl) (hR := ⟨Nat.le_of_ble_eq_true rfl, Nat.le_of_ble_eq_true rfl⟩) (hn := rfl) (hsz := hl.1) (hst := rfl) (hW := Nat.le_of_ble_eq_true rfl) (hdg := dM_alternative_67) (hf := ⟨Nat.le_of_ble_eq_true rfl, Nat.le_of_ble_eq_true rfl⟩) (fun _ _ _ _ _ _ _ _ hw => hw.elim) (fun r67 f67 a67 b67 H locs hw K => ?_)
      refine lv_if_eq (tgt := 86) hx hb dM_alternative_70 (by decide) (fun hc => ?_) (fun hc => ?_)
      · replace hw := hw.1 hc
        exact LM_alternative_86 X hex hr (wp_M_alternative_54 po n) ih x1 x3 x4 f67 a67 b67 hw _ _ K _ (lv_sub hl [0, 1, 2, 3] rfl)
      · replace hw := hw.2 hc
        refine lv_aload_n hx hb dM_alternative_73 rfl (lv_at hl 0 rfl) ?_
        refine lv_iload hx hb dM_alternative_74 (lv_at hl 3 rfl) ?_
        refine gcI X K (n0 := 1) (As := [.int x4]) (rest := []) (hM := (met_M_needOf hl9 D ad ca sa _ x4 f67 a67 b67 _ hw)) (o := 0) (ho := by decide) (hko := kM_o0) (hci := rfl) (hg := wl_good) (w1 := (tm3 (i := 214) rfl rfl)) (w2 := (tm3 (i := 216) rfl rfl)) (w3 := (tm0 (i := 33) rfl rfl)) (w4 := (tm1 (i := 4) rfl rfl)) (w5 := (tm3 (i := 217) rfl rfl)) (hd := ⟨rfl, by decide, by decide, by decide +kernel⟩) (hrc := rfl) (hrs := rfl) (hR := ⟨Nat.le_of_ble_eq_true rfl, Nat.le_of_ble_eq_true rfl⟩) (hn := rfl) (hsz := hl.1) (hst := rfl) (hW := Nat.le_of_ble_eq_true rfl) (hdg := dM_alternative_76) (hf := ⟨Nat.le_of_ble_eq_true rfl, Nat.le_of_ble_eq_true rfl⟩) (fun _ _ _ _ _ _ _ _ hw => hw.elim) (fun r76 f76 a76 b76 H locs hw K => ?_)
        refine lv_if_ge (tgt := 86) hx hb dM_alternative_79 (by decide) (fun hc => ?_) (fun hc => ?_)
        · replace hw := hw.1 hc
          exact LM_alternative_86 X hex hr (wp_M_alternative_54 po n) ih x1 x3 x4 f76 a76 b76 hw _ _ K _ (lv_sub hl [0, 1, 2, 3] rfl)
        · replace hw := hw.2 hc
          refine lv_iconst (v := (1 : Int32)) hx hb dM_alternative_82 (by decide) ?_
          refine lv_goto (tgt := 87) hx hb dM_alternative_83 (by decide) ?_
          exact LM_alternative_87 X hex hr (wp_M_alternative_54 po n) ih (1 : Int32) x1 x3 x4 f76 a76 b76 hw _ _ K _ (lv_sub hl [0, 1, 2, 3] rfl)
set_option maxHeartbeats 4000000 in
set_option maxRecDepth 100000 in
theorem LM_alternative_39 {p : Program} {l : Launch} {e : Env} {s : State} {m : MethodId} {below : List Frame} {meth : Method} {c : Code} {D : va_G} {sa : Nat → Nat} {ad : Nat → Nat} {ca : Nat → ClassId} {A : Nat → Prop} {y1 : Int32} {po : Int32 → wF → wA → wB → Prop} (X : cx Wl (tyS ca) txS D vwCl sa A p l s m ([.ref (ad 0), .int y1] : List Value).toArray meth c cM_alternative 6 "SendBestModel") (hex : ∀ x ∈ c.exceptionTable.toList, False) (hr : meth.sig.returnType = (some .int)) : ∀ (k0 : Int32) (k1 : Int32) (x1 : Int32) (f : wF) (a : wA) (b : wB), wp_M_alternative_39 po k0 k1 x1 f a b → ∀ (H : Heap) (locs : List Loc), wd nM kM D vwCl ad ca A s H locs f a b → ∀ (ls : Array Slot), lv_has ls 6 [(0, .ref (ad 0)), (1, .int x1)] → W p l e ({ frames := 1, cells := 0, slots := 0, locals := 24 }) s m ([.ref (ad 0), .int y1] : List Value).toArray below meth c H locs 0 0 (vx_MQ below (va_Qi (fun r (u : wF × wA × wB) => po r u.1 u.2.1 u.2.2) (sPost nM kM D vwCl ad ca A) A) (sX nM kM D vwCl ad ca A (fun _ _ _ _ => False)) ([.ref (ad 0), .int y1] : List Value).toArray s 0 0 A) (F0 m 39 ls [.int k0, .int k1, .ref (ad 0)]) := by
  obtain ⟨hx, hb, hml, hown, hts, hK, hA, hth, hlk, hl9⟩ := id X
  intro k0 k1 x1 f a b hw H locs K ls hl
  dsimp only [wp_M_alternative_39] at hw
  refine lv_iconst (v := (0 : Int32)) hx hb dM_alternative_39 (by decide) ?_
  refine lv_iconst (v := (0 : Int32)) hx hb dM_alternative_40 (by decide) ?_
  refine gcI X K (n0 := 4) (As := [.int k1, .int k0, .int (0 : Int32), .int (0 : Int32)]) (rest := []) (hM := (met_M_throwing hl9 D ad ca sa _ k1 k0 (0 : Int32) (0 : Int32) f a b _ hw)) (o := 0) (ho := by decide) (hko := kM_o0) (hci := rfl) (hg := wl_good) (w1 := (tm3 (i := 173) rfl rfl)) (w2 := (tm3 (i := 175) rfl rfl)) (w3 := (tm0 (i := 30) rfl rfl)) (w4 := (tm1 (i := 4) rfl rfl)) (w5 := (tm3 (i := 176) rfl rfl)) (hd := ⟨rfl, by decide, by decide, by decide +kernel⟩) (hrc := rfl) (hrs := rfl) (hR := ⟨Nat.le_of_ble_eq_true rfl, Nat.le_of_ble_eq_true rfl⟩) (hn := rfl) (hsz := hl.1) (hst := rfl) (hW := Nat.le_of_ble_eq_true rfl) (hdg := dM_alternative_41) (hf := ⟨Nat.le_of_ble_eq_true rfl, Nat.le_of_ble_eq_true rfl⟩) (fun _ _ _ _ _ _ _ _ hw => hw.elim) (fun r41 f41 a41 b41 H locs hw K => ?_)
  refine lv_if_eq (tgt := 49) hx hb dM_alternative_44 (by decide) (fun hc => ?_) (fun hc => ?_)
  · replace hw := hw.1 hc
    refine lv_iconst (v := (-1 : Int32)) hx hb dM_alternative_49 (by decide) ?_
    refine lv_istore_n (lv' := [(3, .int (-1 : Int32)), (0, .ref (ad 0)), (1, .int x1)]) hx hb dM_alternative_50 rfl hl (by decide) rfl (fun ls hl => ?_)
    refine lv_iconst (v := (0 : Int32)) hx hb dM_alternative_51 (by decide) ?_
    refine lv_istore (lv' := [(4, .int (0 : Int32)), (3, .int (-1 : Int32)), (0, .ref (ad 0)), (1, .int x1)]) hx hb dM_alternative_52 hl (by decide) rfl (fun ls hl => ?_)
    obtain ⟨n9, hw⟩ := hw
    exact LM_alternative_54 X hex hr n9 x1 (-1 : Int32) (0 : Int32) f41 a41 b41 hw _ _ K _ (lv_sub hl [2, 3, 1, 0] rfl)
  · replace hw := hw.2 hc
    refine lv_iconst (v := (0 : Int32)) hx hb dM_alternative_47 (by decide) ?_
    exact endI X K hr rfl hw (by decide) (by decide) dM_alternative_48
set_option maxHeartbeats 4000000 in
set_option maxRecDepth 100000 in
theorem LM_alternative_38 {p : Program} {l : Launch} {e : Env} {s : State} {m : MethodId} {below : List Frame} {meth : Method} {c : Code} {D : va_G} {sa : Nat → Nat} {ad : Nat → Nat} {ca : Nat → ClassId} {A : Nat → Prop} {y1 : Int32} {po : Int32 → wF → wA → wB → Prop} (X : cx Wl (tyS ca) txS D vwCl sa A p l s m ([.ref (ad 0), .int y1] : List Value).toArray meth c cM_alternative 6 "SendBestModel") (hex : ∀ x ∈ c.exceptionTable.toList, False) (hr : meth.sig.returnType = (some .int)) : ∀ (k0 : Int32) (x1 : Int32) (f : wF) (a : wA) (b : wB), wp_M_alternative_38 po k0 x1 f a b → ∀ (H : Heap) (locs : List Loc), wd nM kM D vwCl ad ca A s H locs f a b → ∀ (ls : Array Slot), lv_has ls 6 [(0, .ref (ad 0)), (1, .int x1)] → W p l e ({ frames := 1, cells := 0, slots := 0, locals := 24 }) s m ([.ref (ad 0), .int y1] : List Value).toArray below meth c H locs 0 0 (vx_MQ below (va_Qi (fun r (u : wF × wA × wB) => po r u.1 u.2.1 u.2.2) (sPost nM kM D vwCl ad ca A) A) (sX nM kM D vwCl ad ca A (fun _ _ _ _ => False)) ([.ref (ad 0), .int y1] : List Value).toArray s 0 0 A) (F0 m 38 ls [.int k0, .ref (ad 0)]) := by
  obtain ⟨hx, hb, hml, hown, hts, hK, hA, hth, hlk, hl9⟩ := id X
  intro k0 x1 f a b hw H locs K ls hl
  dsimp only [wp_M_alternative_38] at hw
  refine lv_iconst (v := (0 : Int32)) hx hb dM_alternative_38 (by decide) ?_
  exact LM_alternative_39 X hex hr (0 : Int32) k0 x1 f a b hw _ _ K _ (lv_sub hl [0, 1] rfl)
set_option maxHeartbeats 4000000 in
set_option maxRecDepth 100000 in
theorem LM_alternative_19 {p : Program} {l : Launch} {e : Env} {s : State} {m : MethodId} {below : List Frame} {meth : Method} {c : Code} {D : va_G} {sa : Nat → Nat} {ad : Nat → Nat} {ca : Nat → ClassId} {A : Nat → Prop} {y1 : Int32} {po : Int32 → wF → wA → wB → Prop} (X : cx Wl (tyS ca) txS D vwCl sa A p l s m ([.ref (ad 0), .int y1] : List Value).toArray meth c cM_alternative 6 "SendBestModel") (hex : ∀ x ∈ c.exceptionTable.toList, False) (hr : meth.sig.returnType = (some .int)) : ∀ (k0 : Int32) (x1 : Int32) (f : wF) (a : wA) (b : wB), wp_M_alternative_19 po k0 x1 f a b → ∀ (H : Heap) (locs : List Loc), wd nM kM D vwCl ad ca A s H locs f a b → ∀ (ls : Array Slot), lv_has ls 6 [(0, .ref (ad 0)), (1, .int x1)] → W p l e ({ frames := 1, cells := 0, slots := 0, locals := 24 }) s m ([.ref (ad 0), .int y1] : List Value).toArray below meth c H locs 0 0 (vx_MQ below (va_Qi (fun r (u : wF × wA × wB) => po r u.1 u.2.1 u.2.2) (sPost nM kM D vwCl ad ca A) A) (sX nM kM D vwCl ad ca A (fun _ _ _ _ => False)) ([.ref (ad 0), .int y1] : List Value).toArray s 0 0 A) (F0 m 19 ls [.int k0]) := by
  obtain ⟨hx, hb, hml, hown, hts, hK, hA, hth, hlk, hl9⟩ := id X
  intro k0 x1 f a b hw H locs K ls hl
  dsimp only [wp_M_alternative_19] at hw
  refine lv_istore_n (lv' := [(2, .int k0), (0, .ref (ad 0)), (1, .int x1)]) hx hb dM_alternative_19 rfl hl (by decide) rfl (fun ls hl => ?_)
  refine lv_aload_n hx hb dM_alternative_20 rfl (lv_at hl 1 rfl) ?_
  refine lv_iload_n hx hb dM_alternative_21 rfl (lv_at hl 0 rfl) ?_
  refine lv_iload_n hx hb dM_alternative_22 rfl (lv_at hl 0 rfl) ?_
  refine lv_if_ne (tgt := 38) hx hb dM_alternative_23 (by decide) (fun hc => ?_) (fun hc => ?_)
  · replace hw := hw.1 hc
    exact LM_alternative_38 X hex hr k0 x1 f a b hw _ _ K _ (lv_sub hl [1, 2] rfl)
  · replace hw := hw.2 hc
    refine lv_aload_n hx hb dM_alternative_26 rfl (lv_at hl 1 rfl) ?_
    refine lv_iload_n hx hb dM_alternative_27 rfl (lv_at hl 2 rfl) ?_
    refine gcI X K (n0 := 1) (As := [.int x1]) (rest := [.int k0, .ref (ad 0)]) (hM := (met_M_isOpen hl9 D ad ca sa _ x1 f a b _ hw)) (o := 0) (ho := by decide) (hko := kM_o0) (hci := rfl) (hg := wl_good) (w1 := (tm3 (i := 239) rfl rfl)) (w2 := (tm4 (i := 1) rfl rfl)) (w3 := (tm0 (i := 38) rfl rfl)) (w4 := (tm1 (i := 4) rfl rfl)) (w5 := (tm4 (i := 2) rfl rfl)) (hd := ⟨rfl, by decide, by decide, by decide +kernel⟩) (hrc := rfl) (hrs := rfl) (hR := ⟨Nat.le_of_ble_eq_true rfl, Nat.le_of_ble_eq_true rfl⟩) (hn := rfl) (hsz := hl.1) (hst := rfl) (hW := Nat.le_of_ble_eq_true rfl) (hdg := dM_alternative_28) (hf := ⟨Nat.le_of_ble_eq_true rfl, Nat.le_of_ble_eq_true rfl⟩) (fun _ _ _ _ _ _ _ _ hw => hw.elim) (fun r28 f28 a28 b28 H locs hw K => ?_)
    refine lv_if_ne (tgt := 38) hx hb dM_alternative_31 (by decide) (fun hc => ?_) (fun hc => ?_)
    · replace hw := hw.1 hc
      exact LM_alternative_38 X hex hr k0 x1 f28 a28 b28 hw _ _ K _ (lv_sub hl [1, 2] rfl)
    · replace hw := hw.2 hc
      refine lv_iconst (v := (1 : Int32)) hx hb dM_alternative_34 (by decide) ?_
      refine lv_goto (tgt := 39) hx hb dM_alternative_35 (by decide) ?_
      exact LM_alternative_39 X hex hr (1 : Int32) k0 x1 f28 a28 b28 hw _ _ K _ (lv_sub hl [1, 2] rfl)
set_option maxHeartbeats 4000000 in
set_option maxRecDepth 100000 in
theorem met_M_alternative {l : Launch} (hl9 : l.stackTraces = false) (D : va_G) (ad : Nat → Nat) (ca : Nat → ClassId) (sa : Nat → Nat) (sz : Nat) (x1 : Int32) (f : wF) (a : wA) (b : wB) (po : Int32 → wF → wA → wB → Prop) (hw : wp_M_alternative po x1 f a b) : mI nM kM (tyS ca) txS D vwCl l yM_alternative (Cond.code yM_alternative cM_alternative 6 (some .int) :: Wl) ({ frames := 1, cells := 0, slots := 0, locals := 24 }) [.ref (ad 0), .int x1] ad ca sa sz f a b po (fun _ _ _ _ => False) 0 0 := by
  refine ofI (by decide) hl9 (Nat.le_of_ble_eq_true rfl) ?_
  intro p e s m below meth c ls X hex hr K hl
  obtain ⟨hx, hb, hml, hown, hts, hK, hA, hth, hlk, hl9⟩ := id X
  have hl : lv_has ls 6 [(0, .ref (ad 0)), (1, .int x1)] := hl
  dsimp only [wp_M_alternative] at hw
  refine lv_iload_n hx hb dM_alternative_0 rfl (lv_at hl 1 rfl) ?_
  refine lv_iconst (v := (0 : Int32)) hx hb dM_alternative_1 (by decide) ?_
  refine lv_aload_n hx hb dM_alternative_2 rfl (lv_at hl 0 rfl) ?_
  refine gGet X K (o := 0) (k := 8) (v := .int (f 3)) (by decide) kM_o0 rfl inM_o0 (by decide) (tm3 (i := 111) rfl rfl) rfl dM_alternative_3 ?_
  refine lv_iconst (v := (1 : Int32)) hx hb dM_alternative_6 (by decide) ?_
  refine lv_isub hx hb dM_alternative_7 ?_
  refine gcSI X K (n0 := 3) (As := [.int x1, .int (0 : Int32), .int ((f 3) - (1 : Int32))]) (rest := []) (hM := (met_M_in hl9 D ad ca sa _ x1 (0 : Int32) ((f 3) - (1 : Int32)) f a b _ hw)) (hg := wl_good) (w1 := (tm3 (i := 170) rfl rfl)) (w2 := (tm3 (i := 171) rfl rfl)) (w4 := (tm1 (i := 4) rfl rfl)) (w5 := (tm3 (i := 172) rfl rfl)) (hd := ⟨by decide, by decide, by decide +kernel⟩) (hrc := rfl) (hrs := rfl) (hR := ⟨Nat.le_of_ble_eq_true rfl, Nat.le_of_ble_eq_true rfl⟩) (hn := rfl) (hsz := hl.1) (hst := rfl) (hW := Nat.le_of_ble_eq_true rfl) (hdg := dM_alternative_8) (hf := ⟨Nat.le_of_ble_eq_true rfl, Nat.le_of_ble_eq_true rfl⟩) (fun _ _ _ _ _ _ _ _ hw => hw.elim) (fun r8 f8 a8 b8 H locs hw K => ?_)
  refine lv_if_ne (tgt := 18) hx hb dM_alternative_11 (by decide) (fun hc => ?_) (fun hc => ?_)
  · replace hw := hw.1 hc
    refine lv_iconst (v := (0 : Int32)) hx hb dM_alternative_18 (by decide) ?_
    exact LM_alternative_19 X hex hr (0 : Int32) x1 f8 a8 b8 hw _ _ K _ (lv_sub hl [0, 1] rfl)
  · replace hw := hw.2 hc
    refine lv_iconst (v := (1 : Int32)) hx hb dM_alternative_14 (by decide) ?_
    refine lv_goto (tgt := 19) hx hb dM_alternative_15 (by decide) ?_
    exact LM_alternative_19 X hex hr (1 : Int32) x1 f8 a8 b8 hw _ _ K _ (lv_sub hl [0, 1] rfl)
set_option maxHeartbeats 4000000 in
set_option maxRecDepth 100000 in
theorem LM_never_110 {p : Program} {l : Launch} {e : Env} {s : State} {m : MethodId} {below : List Frame} {meth : Method} {c : Code} {D : va_G} {sa : Nat → Nat} {ad : Nat → Nat} {ca : Nat → ClassId} {A : Nat → Prop} {y1 : Int32} {po : Int32 → wF → wA → wB → Prop} (X : cx Wl (tyS ca) txS D vwCl sa A p l s m ([.ref (ad 0), .int y1] : List Value).toArray meth c cM_never 6 "SendBestModel") (hex : ∀ x ∈ c.exceptionTable.toList, False) (hr : meth.sig.returnType = (some .int)) (J25 : Int32 → Int32 → wF → wA → wB → Prop) (hJ25 : ∀ (x2 : Int32) (x3 : Int32) (f : wF) (a : wA) (b : wB), J25 x2 x3 f a b → ∀ (H : Heap) (locs : List Loc), wd nM kM D vwCl ad ca A s H locs f a b → ∀ (ls : Array Slot), lv_has ls 6 [(0, .ref (ad 0)), (2, .int x2), (3, .int x3)] → W p l e ({ frames := 1, cells := 0, slots := 0, locals := 24 }) s m ([.ref (ad 0), .int y1] : List Value).toArray below meth c H locs 0 0 (vx_MQ below (va_Qi (fun r (u : wF × wA × wB) => po r u.1 u.2.1 u.2.2) (sPost nM kM D vwCl ad ca A) A) (sX nM kM D vwCl ad ca A (fun _ _ _ _ => False)) ([.ref (ad 0), .int y1] : List Value).toArray s 0 0 A) (F0 m 25 ls [])) : ∀ (k0 : Int32) (k1 : Int32) (x3 : Int32) (f : wF) (a : wA) (b : wB), wp_M_never_110 po J25 k0 k1 x3 f a b → ∀ (H : Heap) (locs : List Loc), wd nM kM D vwCl ad ca A s H locs f a b → ∀ (ls : Array Slot), lv_has ls 6 [(0, .ref (ad 0)), (3, .int x3)] → W p l e ({ frames := 1, cells := 0, slots := 0, locals := 24 }) s m ([.ref (ad 0), .int y1] : List Value).toArray below meth c H locs 0 0 (vx_MQ below (va_Qi (fun r (u : wF × wA × wB) => po r u.1 u.2.1 u.2.2) (sPost nM kM D vwCl ad ca A) A) (sX nM kM D vwCl ad ca A (fun _ _ _ _ => False)) ([.ref (ad 0), .int y1] : List Value).toArray s 0 0 A) (F0 m 110 ls [.int k0, .int k1]) := by
  obtain ⟨hx, hb, hml, hown, hts, hK, hA, hth, hlk, hl9⟩ := id X
  intro k0 k1 x3 f a b hw H locs K ls hl
  dsimp only [wp_M_never_110] at hw
  refine lv_isub hx hb dM_never_110 ?_
  refine lv_istore_n (lv' := [(2, .int (k1 - k0)), (0, .ref (ad 0)), (3, .int x3)]) hx hb dM_never_111 rfl hl (by decide) rfl (fun ls hl => ?_)
  refine lv_iinc (v := (x3 + (1 : Int32))) (lv' := [(3, .int (x3 + (1 : Int32))), (2, .int (k1 - k0)), (0, .ref (ad 0))]) hx hb dM_never_112 hl (k := 2) rfl rfl (by decide) rfl (fun ls hl => ?_)
  refine lv_goto (tgt := 25) hx hb dM_never_115 (by decide) ?_
  exact hJ25 (k1 - k0) (x3 + (1 : Int32)) f a b hw _ _ K _ (lv_sub hl [2, 1, 0] rfl)
set_option maxHeartbeats 4000000 in
set_option maxRecDepth 100000 in
theorem LM_never_99 {p : Program} {l : Launch} {e : Env} {s : State} {m : MethodId} {below : List Frame} {meth : Method} {c : Code} {D : va_G} {sa : Nat → Nat} {ad : Nat → Nat} {ca : Nat → ClassId} {A : Nat → Prop} {y1 : Int32} {po : Int32 → wF → wA → wB → Prop} (X : cx Wl (tyS ca) txS D vwCl sa A p l s m ([.ref (ad 0), .int y1] : List Value).toArray meth c cM_never 6 "SendBestModel") (hex : ∀ x ∈ c.exceptionTable.toList, False) (hr : meth.sig.returnType = (some .int)) (J25 : Int32 → Int32 → wF → wA → wB → Prop) (hJ25 : ∀ (x2 : Int32) (x3 : Int32) (f : wF) (a : wA) (b : wB), J25 x2 x3 f a b → ∀ (H : Heap) (locs : List Loc), wd nM kM D vwCl ad ca A s H locs f a b → ∀ (ls : Array Slot), lv_has ls 6 [(0, .ref (ad 0)), (2, .int x2), (3, .int x3)] → W p l e ({ frames := 1, cells := 0, slots := 0, locals := 24 }) s m ([.ref (ad 0), .int y1] : List Value).toArray below meth c H locs 0 0 (vx_MQ below (va_Qi (fun r (u : wF × wA × wB) => po r u.1 u.2.1 u.2.2) (sPost nM kM D vwCl ad ca A) A) (sX nM kM D vwCl ad ca A (fun _ _ _ _ => False)) ([.ref (ad 0), .int y1] : List Value).toArray s 0 0 A) (F0 m 25 ls [])) : ∀ (x2 : Int32) (x3 : Int32) (x4 : Int32) (f : wF) (a : wA) (b : wB), wp_M_never_99 po J25 x2 x3 x4 f a b → ∀ (H : Heap) (locs : List Loc), wd nM kM D vwCl ad ca A s H locs f a b → ∀ (ls : Array Slot), lv_has ls 6 [(0, .ref (ad 0)), (2, .int x2), (3, .int x3), (4, .int x4)] → W p l e ({ frames := 1, cells := 0, slots := 0, locals := 24 }) s m ([.ref (ad 0), .int y1] : List Value).toArray below meth c H locs 0 0 (vx_MQ below (va_Qi (fun r (u : wF × wA × wB) => po r u.1 u.2.1 u.2.2) (sPost nM kM D vwCl ad ca A) A) (sX nM kM D vwCl ad ca A (fun _ _ _ _ => False)) ([.ref (ad 0), .int y1] : List Value).toArray s 0 0 A) (F0 m 99 ls []) := by
  obtain ⟨hx, hb, hml, hown, hts, hK, hA, hth, hlk, hl9⟩ := id X
  intro x2 x3 x4 f a b hw H locs K ls hl
  dsimp only [wp_M_never_99] at hw
  refine lv_iload_n hx hb dM_never_99 rfl (lv_at hl 1 rfl) ?_
  refine lv_iload hx hb dM_never_100 (lv_at hl 3 rfl) ?_
  refine lv_if_eq (tgt := 109) hx hb dM_never_102 (by decide) (fun hc => ?_) (fun hc => ?_)
  · replace hw := hw.1 hc
    refine lv_iconst (v := (1 : Int32)) hx hb dM_never_109 (by decide) ?_
    exact LM_never_110 X hex hr J25 hJ25 (1 : Int32) x2 x3 f a b hw _ _ K _ (lv_sub hl [0, 2] rfl)
  · replace hw := hw.2 hc
    refine lv_iconst (v := (0 : Int32)) hx hb dM_never_105 (by decide) ?_
    refine lv_goto (tgt := 110) hx hb dM_never_106 (by decide) ?_
    exact LM_never_110 X hex hr J25 hJ25 (0 : Int32) x2 x3 f a b hw _ _ K _ (lv_sub hl [0, 2] rfl)
set_option maxHeartbeats 4000000 in
set_option maxRecDepth 100000 in
theorem LM_never_80 {p : Program} {l : Launch} {e : Env} {s : State} {m : MethodId} {below : List Frame} {meth : Method} {c : Code} {D : va_G} {sa : Nat → Nat} {ad : Nat → Nat} {ca : Nat → ClassId} {A : Nat → Prop} {y1 : Int32} {po : Int32 → wF → wA → wB → Prop} (X : cx Wl (tyS ca) txS D vwCl sa A p l s m ([.ref (ad 0), .int y1] : List Value).toArray meth c cM_never 6 "SendBestModel") (hex : ∀ x ∈ c.exceptionTable.toList, False) (hr : meth.sig.returnType = (some .int)) (J25 : Int32 → Int32 → wF → wA → wB → Prop) (J51 : Int32 → Int32 → Int32 → Int32 → wF → wA → wB → Prop) (hJ25 : ∀ (x2 : Int32) (x3 : Int32) (f : wF) (a : wA) (b : wB), J25 x2 x3 f a b → ∀ (H : Heap) (locs : List Loc), wd nM kM D vwCl ad ca A s H locs f a b → ∀ (ls : Array Slot), lv_has ls 6 [(0, .ref (ad 0)), (2, .int x2), (3, .int x3)] → W p l e ({ frames := 1, cells := 0, slots := 0, locals := 24 }) s m ([.ref (ad 0), .int y1] : List Value).toArray below meth c H locs 0 0 (vx_MQ below (va_Qi (fun r (u : wF × wA × wB) => po r u.1 u.2.1 u.2.2) (sPost nM kM D vwCl ad ca A) A) (sX nM kM D vwCl ad ca A (fun _ _ _ _ => False)) ([.ref (ad 0), .int y1] : List Value).toArray s 0 0 A) (F0 m 25 ls [])) (hJ51 : ∀ (x2 : Int32) (x3 : Int32) (x4 : Int32) (x5 : Int32) (f : wF) (a : wA) (b : wB), J51 x2 x3 x4 x5 f a b → ∀ (H : Heap) (locs : List Loc), wd nM kM D vwCl ad ca A s H locs f a b → ∀ (ls : Array Slot), lv_has ls 6 [(0, .ref (ad 0)), (2, .int x2), (3, .int x3), (4, .int x4), (5, .int x5)] → W p l e ({ frames := 1, cells := 0, slots := 0, locals := 24 }) s m ([.ref (ad 0), .int y1] : List Value).toArray below meth c H locs 0 0 (vx_MQ below (va_Qi (fun r (u : wF × wA × wB) => po r u.1 u.2.1 u.2.2) (sPost nM kM D vwCl ad ca A) A) (sX nM kM D vwCl ad ca A (fun _ _ _ _ => False)) ([.ref (ad 0), .int y1] : List Value).toArray s 0 0 A) (F0 m 51 ls [])) : ∀ (k0 : Int32) (x2 : Int32) (x3 : Int32) (x5 : Int32) (f : wF) (a : wA) (b : wB), wp_M_never_80 po J25 J51 k0 x2 x3 x5 f a b → ∀ (H : Heap) (locs : List Loc), wd nM kM D vwCl ad ca A s H locs f a b → ∀ (ls : Array Slot), lv_has ls 6 [(0, .ref (ad 0)), (2, .int x2), (3, .int x3), (5, .int x5)] → W p l e ({ frames := 1, cells := 0, slots := 0, locals := 24 }) s m ([.ref (ad 0), .int y1] : List Value).toArray below meth c H locs 0 0 (vx_MQ below (va_Qi (fun r (u : wF × wA × wB) => po r u.1 u.2.1 u.2.2) (sPost nM kM D vwCl ad ca A) A) (sX nM kM D vwCl ad ca A (fun _ _ _ _ => False)) ([.ref (ad 0), .int y1] : List Value).toArray s 0 0 A) (F0 m 80 ls [.int k0]) := by
  obtain ⟨hx, hb, hml, hown, hts, hK, hA, hth, hlk, hl9⟩ := id X
  intro k0 x2 x3 x5 f a b hw H locs K ls hl
  dsimp only [wp_M_never_80] at hw
  refine lv_istore (lv' := [(4, .int k0), (0, .ref (ad 0)), (2, .int x2), (3, .int x3), (5, .int x5)]) hx hb dM_never_80 hl (by decide) rfl (fun ls hl => ?_)
  refine lv_iinc (v := (x5 + (1 : Int32))) (lv' := [(5, .int (x5 + (1 : Int32))), (4, .int k0), (0, .ref (ad 0)), (2, .int x2), (3, .int x3)]) hx hb dM_never_82 hl (k := 4) rfl rfl (by decide) rfl (fun ls hl => ?_)
  refine lv_goto (tgt := 51) hx hb dM_never_85 (by decide) ?_
  exact hJ51 x2 x3 k0 (x5 + (1 : Int32)) f a b hw _ _ K _ (lv_sub hl [2, 3, 4, 1, 0] rfl)
set_option maxHeartbeats 4000000 in
set_option maxRecDepth 100000 in
theorem LM_never_75 {p : Program} {l : Launch} {e : Env} {s : State} {m : MethodId} {below : List Frame} {meth : Method} {c : Code} {D : va_G} {sa : Nat → Nat} {ad : Nat → Nat} {ca : Nat → ClassId} {A : Nat → Prop} {y1 : Int32} {po : Int32 → wF → wA → wB → Prop} (X : cx Wl (tyS ca) txS D vwCl sa A p l s m ([.ref (ad 0), .int y1] : List Value).toArray meth c cM_never 6 "SendBestModel") (hex : ∀ x ∈ c.exceptionTable.toList, False) (hr : meth.sig.returnType = (some .int)) (J25 : Int32 → Int32 → wF → wA → wB → Prop) (J51 : Int32 → Int32 → Int32 → Int32 → wF → wA → wB → Prop) (hJ25 : ∀ (x2 : Int32) (x3 : Int32) (f : wF) (a : wA) (b : wB), J25 x2 x3 f a b → ∀ (H : Heap) (locs : List Loc), wd nM kM D vwCl ad ca A s H locs f a b → ∀ (ls : Array Slot), lv_has ls 6 [(0, .ref (ad 0)), (2, .int x2), (3, .int x3)] → W p l e ({ frames := 1, cells := 0, slots := 0, locals := 24 }) s m ([.ref (ad 0), .int y1] : List Value).toArray below meth c H locs 0 0 (vx_MQ below (va_Qi (fun r (u : wF × wA × wB) => po r u.1 u.2.1 u.2.2) (sPost nM kM D vwCl ad ca A) A) (sX nM kM D vwCl ad ca A (fun _ _ _ _ => False)) ([.ref (ad 0), .int y1] : List Value).toArray s 0 0 A) (F0 m 25 ls [])) (hJ51 : ∀ (x2 : Int32) (x3 : Int32) (x4 : Int32) (x5 : Int32) (f : wF) (a : wA) (b : wB), J51 x2 x3 x4 x5 f a b → ∀ (H : Heap) (locs : List Loc), wd nM kM D vwCl ad ca A s H locs f a b → ∀ (ls : Array Slot), lv_has ls 6 [(0, .ref (ad 0)), (2, .int x2), (3, .int x3), (4, .int x4), (5, .int x5)] → W p l e ({ frames := 1, cells := 0, slots := 0, locals := 24 }) s m ([.ref (ad 0), .int y1] : List Value).toArray below meth c H locs 0 0 (vx_MQ below (va_Qi (fun r (u : wF × wA × wB) => po r u.1 u.2.1 u.2.2) (sPost nM kM D vwCl ad ca A) A) (sX nM kM D vwCl ad ca A (fun _ _ _ _ => False)) ([.ref (ad 0), .int y1] : List Value).toArray s 0 0 A) (F0 m 51 ls [])) : ∀ (x2 : Int32) (x3 : Int32) (x5 : Int32) (f : wF) (a : wA) (b : wB), wp_M_never_75 po J25 J51 x2 x3 x5 f a b → ∀ (H : Heap) (locs : List Loc), wd nM kM D vwCl ad ca A s H locs f a b → ∀ (ls : Array Slot), lv_has ls 6 [(0, .ref (ad 0)), (2, .int x2), (3, .int x3), (5, .int x5)] → W p l e ({ frames := 1, cells := 0, slots := 0, locals := 24 }) s m ([.ref (ad 0), .int y1] : List Value).toArray below meth c H locs 0 0 (vx_MQ below (va_Qi (fun r (u : wF × wA × wB) => po r u.1 u.2.1 u.2.2) (sPost nM kM D vwCl ad ca A) A) (sX nM kM D vwCl ad ca A (fun _ _ _ _ => False)) ([.ref (ad 0), .int y1] : List Value).toArray s 0 0 A) (F0 m 75 ls []) := by
  obtain ⟨hx, hb, hml, hown, hts, hK, hA, hth, hlk, hl9⟩ := id X
  intro x2 x3 x5 f a b hw H locs K ls hl
  dsimp only [wp_M_never_75] at hw
  refine lv_iconst (v := (1 : Int32)) hx hb dM_never_75 (by decide) ?_
  refine lv_goto (tgt := 80) hx hb dM_never_76 (by decide) ?_
  exact LM_never_80 X hex hr J25 J51 hJ25 hJ51 (1 : Int32) x2 x3 x5 f a b hw _ _ K _ (lv_sub hl [0, 1, 2, 3] rfl)
set_option maxHeartbeats 4000000 in
set_option maxRecDepth 100000 in
theorem LM_never_51 {p : Program} {l : Launch} {e : Env} {s : State} {m : MethodId} {below : List Frame} {meth : Method} {c : Code} {D : va_G} {sa : Nat → Nat} {ad : Nat → Nat} {ca : Nat → ClassId} {A : Nat → Prop} {y1 : Int32} {po : Int32 → wF → wA → wB → Prop} (X : cx Wl (tyS ca) txS D vwCl sa A p l s m ([.ref (ad 0), .int y1] : List Value).toArray meth c cM_never 6 "SendBestModel") (hex : ∀ x ∈ c.exceptionTable.toList, False) (hr : meth.sig.returnType = (some .int)) (J25 : Int32 → Int32 → wF → wA → wB → Prop) (hJ25 : ∀ (x2 : Int32) (x3 : Int32) (f : wF) (a : wA) (b : wB), J25 x2 x3 f a b → ∀ (H : Heap) (locs : List Loc), wd nM kM D vwCl ad ca A s H locs f a b → ∀ (ls : Array Slot), lv_has ls 6 [(0, .ref (ad 0)), (2, .int x2), (3, .int x3)] → W p l e ({ frames := 1, cells := 0, slots := 0, locals := 24 }) s m ([.ref (ad 0), .int y1] : List Value).toArray below meth c H locs 0 0 (vx_MQ below (va_Qi (fun r (u : wF × wA × wB) => po r u.1 u.2.1 u.2.2) (sPost nM kM D vwCl ad ca A) A) (sX nM kM D vwCl ad ca A (fun _ _ _ _ => False)) ([.ref (ad 0), .int y1] : List Value).toArray s 0 0 A) (F0 m 25 ls [])) : ∀ n : Nat, ∀ (x2 : Int32) (x3 : Int32) (x4 : Int32) (x5 : Int32) (f : wF) (a : wA) (b : wB), wp_M_never_51 po J25 n x2 x3 x4 x5 f a b → ∀ (H : Heap) (locs : List Loc), wd nM kM D vwCl ad ca A s H locs f a b → ∀ (ls : Array Slot), lv_has ls 6 [(0, .ref (ad 0)), (2, .int x2), (3, .int x3), (4, .int x4), (5, .int x5)] → W p l e ({ frames := 1, cells := 0, slots := 0, locals := 24 }) s m ([.ref (ad 0), .int y1] : List Value).toArray below meth c H locs 0 0 (vx_MQ below (va_Qi (fun r (u : wF × wA × wB) => po r u.1 u.2.1 u.2.2) (sPost nM kM D vwCl ad ca A) A) (sX nM kM D vwCl ad ca A (fun _ _ _ _ => False)) ([.ref (ad 0), .int y1] : List Value).toArray s 0 0 A) (F0 m 51 ls []) := by
  obtain ⟨hx, hb, hml, hown, hts, hK, hA, hth, hlk, hl9⟩ := id X
  intro n
  induction n with
  | zero => intro x2 x3 x4 x5 f a b hw; exact hw.elim
  | succ n ih =>
    intro x2 x3 x4 x5 f a b hw H locs K ls hl
    dsimp only [wp_M_never_51] at hw
    refine lv_iload hx hb dM_never_51 (lv_at hl 4 rfl) ?_
    refine lv_aload_n hx hb dM_never_53 rfl (lv_at hl 0 rfl) ?_
    refine gGet X K (o := 0) (k := 1) (v := .int (f 1)) (by decide) kM_o0 rfl inM_o0 (by decide) (tm3 (i := 104) rfl rfl) rfl dM_never_54 ?_
    refine lv_icmp_ge (tgt := 88) hx hb dM_never_57 (by decide) (fun hc => ?_) (fun hc => ?_)
    · replace hw := hw.1 hc
      refine lv_iload hx hb dM_never_88 (lv_at hl 3 rfl) ?_
      refine lv_if_ne (tgt := 99) hx hb dM_never_90 (by decide) (fun hc => ?_) (fun hc => ?_)
      · replace hw := hw.1 hc
        exact LM_never_99 X hex hr J25 hJ25 x2 x3 x4 f a b hw _ _ K _ (lv_sub hl [0, 1, 2, 3] rfl)
      · replace hw := hw.2 hc
        refine lv_iload_n hx hb dM_never_93 rfl (lv_at hl 1 rfl) ?_
        refine lv_if_ne (tgt := 99) hx hb dM_never_94 (by decide) (fun hc => ?_) (fun hc => ?_)
        · replace hw := hw.1 hc
          exact LM_never_99 X hex hr J25 hJ25 x2 x3 x4 f a b hw _ _ K _ (lv_sub hl [0, 1, 2, 3] rfl)
        · replace hw := hw.2 hc
          refine lv_iload_n hx hb dM_never_97 rfl (lv_at hl 2 rfl) ?_
          exact endI X K hr rfl hw (by decide) (by decide) dM_never_98
    · replace hw := hw.2 hc
      refine lv_iload hx hb dM_never_60 (lv_at hl 3 rfl) ?_
      refine lv_if_ne (tgt := 75) hx hb dM_never_62 (by decide) (fun hc => ?_) (fun hc => ?_)
      · replace hw := hw.1 hc
        exact LM_never_75 X hex hr J25 (wp_M_never_51 po J25 n) hJ25 ih x2 x3 x5 f a b hw _ _ K _ (lv_sub hl [0, 1, 2, 4] rfl)
      · replace hw := hw.2 hc
        refine lv_aload_n hx hb dM_never_65 rfl (lv_at hl 0 rfl) ?_
        refine lv_iload hx hb dM_never_66 (lv_at hl 4 rfl) ?_
        refine lv_iload_n hx hb dM_never_68 rfl (lv_at hl 2 rfl) ?_
        refine gcI X K (n0 := 2) (As := [.int x5, .int x3]) (rest := []) (hM := (met_M_canFill hl9 D ad ca sa _ x5 x3 f a b _ hw)) (o := 0) (ho := by decide) (hko := kM_o0) (hci := rfl) (hg := wl_good) (w1 := (tm4 (i := 7) rfl rfl)) (w2 := (tm4 (i := 9) rfl rfl)) (w3 := (tm0 (i := 40) rfl rfl)) (w4 := (tm1 (i := 4) rfl rfl)) (w5 := (tm4 (i := 10) rfl rfl)) (hd := ⟨rfl, by decide, by decide, by decide +kernel⟩) (hrc := rfl) (hrs := rfl) (hR := ⟨Nat.le_of_ble_eq_true rfl, Nat.le_of_ble_eq_true rfl⟩) (hn := rfl) (hsz := hl.1) (hst := rfl) (hW := Nat.le_of_ble_eq_true rfl) (hdg := dM_never_69) (hf := ⟨Nat.le_of_ble_eq_true rfl, Nat.le_of_ble_eq_true rfl⟩) (fun _ _ _ _ _ _ _ _ hw => hw.elim) (fun r69 f69 a69 b69 H locs hw K => ?_)
        refine lv_if_eq (tgt := 79) hx hb dM_never_72 (by decide) (fun hc => ?_) (fun hc => ?_)
        · replace hw := hw.1 hc
          refine lv_iconst (v := (0 : Int32)) hx hb dM_never_79 (by decide) ?_
          exact LM_never_80 X hex hr J25 (wp_M_never_51 po J25 n) hJ25 ih (0 : Int32) x2 x3 x5 f69 a69 b69 hw _ _ K _ (lv_sub hl [0, 1, 2, 4] rfl)
        · replace hw := hw.2 hc
          exact LM_never_75 X hex hr J25 (wp_M_never_51 po J25 n) hJ25 ih x2 x3 x5 f69 a69 b69 hw _ _ K _ (lv_sub hl [0, 1, 2, 4] rfl)
set_option maxHeartbeats 4000000 in
set_option maxRecDepth 100000 in
theorem LM_never_46 {p : Program} {l : Launch} {e : Env} {s : State} {m : MethodId} {below : List Frame} {meth : Method} {c : Code} {D : va_G} {sa : Nat → Nat} {ad : Nat → Nat} {ca : Nat → ClassId} {A : Nat → Prop} {y1 : Int32} {po : Int32 → wF → wA → wB → Prop} (X : cx Wl (tyS ca) txS D vwCl sa A p l s m ([.ref (ad 0), .int y1] : List Value).toArray meth c cM_never 6 "SendBestModel") (hex : ∀ x ∈ c.exceptionTable.toList, False) (hr : meth.sig.returnType = (some .int)) (J25 : Int32 → Int32 → wF → wA → wB → Prop) (hJ25 : ∀ (x2 : Int32) (x3 : Int32) (f : wF) (a : wA) (b : wB), J25 x2 x3 f a b → ∀ (H : Heap) (locs : List Loc), wd nM kM D vwCl ad ca A s H locs f a b → ∀ (ls : Array Slot), lv_has ls 6 [(0, .ref (ad 0)), (2, .int x2), (3, .int x3)] → W p l e ({ frames := 1, cells := 0, slots := 0, locals := 24 }) s m ([.ref (ad 0), .int y1] : List Value).toArray below meth c H locs 0 0 (vx_MQ below (va_Qi (fun r (u : wF × wA × wB) => po r u.1 u.2.1 u.2.2) (sPost nM kM D vwCl ad ca A) A) (sX nM kM D vwCl ad ca A (fun _ _ _ _ => False)) ([.ref (ad 0), .int y1] : List Value).toArray s 0 0 A) (F0 m 25 ls [])) : ∀ (k0 : Int32) (x2 : Int32) (x3 : Int32) (f : wF) (a : wA) (b : wB), wp_M_never_46 po J25 k0 x2 x3 f a b → ∀ (H : Heap) (locs : List Loc), wd nM kM D vwCl ad ca A s H locs f a b → ∀ (ls : Array Slot), lv_has ls 6 [(0, .ref (ad 0)), (2, .int x2), (3, .int x3)] → W p l e ({ frames := 1, cells := 0, slots := 0, locals := 24 }) s m ([.ref (ad 0), .int y1] : List Value).toArray below meth c H locs 0 0 (vx_MQ below (va_Qi (fun r (u : wF × wA × wB) => po r u.1 u.2.1 u.2.2) (sPost nM kM D vwCl ad ca A) A) (sX nM kM D vwCl ad ca A (fun _ _ _ _ => False)) ([.ref (ad 0), .int y1] : List Value).toArray s 0 0 A) (F0 m 46 ls [.int k0]) := by
  obtain ⟨hx, hb, hml, hown, hts, hK, hA, hth, hlk, hl9⟩ := id X
  intro k0 x2 x3 f a b hw H locs K ls hl
  dsimp only [wp_M_never_46] at hw
  refine lv_istore (lv' := [(4, .int k0), (0, .ref (ad 0)), (2, .int x2), (3, .int x3)]) hx hb dM_never_46 hl (by decide) rfl (fun ls hl => ?_)
  refine lv_iconst (v := (0 : Int32)) hx hb dM_never_48 (by decide) ?_
  refine lv_istore (lv' := [(5, .int (0 : Int32)), (4, .int k0), (0, .ref (ad 0)), (2, .int x2), (3, .int x3)]) hx hb dM_never_49 hl (by decide) rfl (fun ls hl => ?_)
  obtain ⟨n9, hw⟩ := hw
  exact LM_never_51 X hex hr J25 hJ25 n9 x2 x3 k0 (0 : Int32) f a b hw _ _ K _ (lv_sub hl [2, 3, 4, 1, 0] rfl)
set_option maxHeartbeats 4000000 in
set_option maxRecDepth 100000 in
theorem LM_never_25 {p : Program} {l : Launch} {e : Env} {s : State} {m : MethodId} {below : List Frame} {meth : Method} {c : Code} {D : va_G} {sa : Nat → Nat} {ad : Nat → Nat} {ca : Nat → ClassId} {A : Nat → Prop} {y1 : Int32} {po : Int32 → wF → wA → wB → Prop} (X : cx Wl (tyS ca) txS D vwCl sa A p l s m ([.ref (ad 0), .int y1] : List Value).toArray meth c cM_never 6 "SendBestModel") (hex : ∀ x ∈ c.exceptionTable.toList, False) (hr : meth.sig.returnType = (some .int)) : ∀ n : Nat, ∀ (x2 : Int32) (x3 : Int32) (f : wF) (a : wA) (b : wB), wp_M_never_25 po n x2 x3 f a b → ∀ (H : Heap) (locs : List Loc), wd nM kM D vwCl ad ca A s H locs f a b → ∀ (ls : Array Slot), lv_has ls 6 [(0, .ref (ad 0)), (2, .int x2), (3, .int x3)] → W p l e ({ frames := 1, cells := 0, slots := 0, locals := 24 }) s m ([.ref (ad 0), .int y1] : List Value).toArray below meth c H locs 0 0 (vx_MQ below (va_Qi (fun r (u : wF × wA × wB) => po r u.1 u.2.1 u.2.2) (sPost nM kM D vwCl ad ca A) A) (sX nM kM D vwCl ad ca A (fun _ _ _ _ => False)) ([.ref (ad 0), .int y1] : List Value).toArray s 0 0 A) (F0 m 25 ls []) := by
  obtain ⟨hx, hb, hml, hown, hts, hK, hA, hth, hlk, hl9⟩ := id X
  intro n
  induction n with
  | zero => intro x2 x3 f a b hw; exact hw.elim
  | succ n ih =>
    intro x2 x3 f a b hw H locs K ls hl
    dsimp only [wp_M_never_25] at hw
    refine lv_iload_n hx hb dM_never_25 rfl (lv_at hl 2 rfl) ?_
    refine lv_aload_n hx hb dM_never_26 rfl (lv_at hl 0 rfl) ?_
    refine gGet X K (o := 0) (k := 8) (v := .int (f 3)) (by decide) kM_o0 rfl inM_o0 (by decide) (tm3 (i := 111) rfl rfl) rfl dM_never_27 ?_
    refine lv_icmp_ge (tgt := 118) hx hb dM_never_30 (by decide) (fun hc => ?_) (fun hc => ?_)
    · replace hw := hw.1 hc
      refine lv_iconst (v := (-1 : Int32)) hx hb dM_never_118 (by decide) ?_
      exact endI X K hr rfl hw (by decide) (by decide) dM_never_119
    · replace hw := hw.2 hc
      refine lv_aload_n hx hb dM_never_33 rfl (lv_at hl 0 rfl) ?_
      refine lv_iload_n hx hb dM_never_34 rfl (lv_at hl 2 rfl) ?_
      refine gcI X K (n0 := 1) (As := [.int x3]) (rest := []) (hM := (met_M_isOpen hl9 D ad ca sa _ x3 f a b _ hw)) (o := 0) (ho := by decide) (hko := kM_o0) (hci := rfl) (hg := wl_good) (w1 := (tm3 (i := 239) rfl rfl)) (w2 := (tm4 (i := 1) rfl rfl)) (w3 := (tm0 (i := 38) rfl rfl)) (w4 := (tm1 (i := 4) rfl rfl)) (w5 := (tm4 (i := 2) rfl rfl)) (hd := ⟨rfl, by decide, by decide, by decide +kernel⟩) (hrc := rfl) (hrs := rfl) (hR := ⟨Nat.le_of_ble_eq_true rfl, Nat.le_of_ble_eq_true rfl⟩) (hn := rfl) (hsz := hl.1) (hst := rfl) (hW := Nat.le_of_ble_eq_true rfl) (hdg := dM_never_35) (hf := ⟨Nat.le_of_ble_eq_true rfl, Nat.le_of_ble_eq_true rfl⟩) (fun _ _ _ _ _ _ _ _ hw => hw.elim) (fun r35 f35 a35 b35 H locs hw K => ?_)
      refine lv_if_ne (tgt := 45) hx hb dM_never_38 (by decide) (fun hc => ?_) (fun hc => ?_)
      · replace hw := hw.1 hc
        refine lv_iconst (v := (0 : Int32)) hx hb dM_never_45 (by decide) ?_
        exact LM_never_46 X hex hr (wp_M_never_25 po n) ih (0 : Int32) x2 x3 f35 a35 b35 hw _ _ K _ (lv_sub hl [0, 1, 2] rfl)
      · replace hw := hw.2 hc
        refine lv_iconst (v := (1 : Int32)) hx hb dM_never_41 (by decide) ?_
        refine lv_goto (tgt := 46) hx hb dM_never_42 (by decide) ?_
        exact LM_never_46 X hex hr (wp_M_never_25 po n) ih (1 : Int32) x2 x3 f35 a35 b35 hw _ _ K _ (lv_sub hl [0, 1, 2] rfl)
set_option maxHeartbeats 4000000 in
set_option maxRecDepth 100000 in
theorem LM_never_10 {p : Program} {l : Launch} {e : Env} {s : State} {m : MethodId} {below : List Frame} {meth : Method} {c : Code} {D : va_G} {sa : Nat → Nat} {ad : Nat → Nat} {ca : Nat → ClassId} {A : Nat → Prop} {y1 : Int32} {po : Int32 → wF → wA → wB → Prop} (X : cx Wl (tyS ca) txS D vwCl sa A p l s m ([.ref (ad 0), .int y1] : List Value).toArray meth c cM_never 6 "SendBestModel") (hex : ∀ x ∈ c.exceptionTable.toList, False) (hr : meth.sig.returnType = (some .int)) : ∀ (k0 : Int32) (x1 : Int32) (f : wF) (a : wA) (b : wB), wp_M_never_10 po k0 x1 f a b → ∀ (H : Heap) (locs : List Loc), wd nM kM D vwCl ad ca A s H locs f a b → ∀ (ls : Array Slot), lv_has ls 6 [(0, .ref (ad 0)), (1, .int x1)] → W p l e ({ frames := 1, cells := 0, slots := 0, locals := 24 }) s m ([.ref (ad 0), .int y1] : List Value).toArray below meth c H locs 0 0 (vx_MQ below (va_Qi (fun r (u : wF × wA × wB) => po r u.1 u.2.1 u.2.2) (sPost nM kM D vwCl ad ca A) A) (sX nM kM D vwCl ad ca A (fun _ _ _ _ => False)) ([.ref (ad 0), .int y1] : List Value).toArray s 0 0 A) (F0 m 10 ls [.int k0, .ref (ad 0)]) := by
  obtain ⟨hx, hb, hml, hown, hts, hK, hA, hth, hlk, hl9⟩ := id X
  intro k0 x1 f a b hw H locs K ls hl
  dsimp only [wp_M_never_10] at hw
  refine lv_iconst (v := (0 : Int32)) hx hb dM_never_10 (by decide) ?_
  refine lv_iconst (v := (0 : Int32)) hx hb dM_never_11 (by decide) ?_
  refine lv_iconst (v := (0 : Int32)) hx hb dM_never_12 (by decide) ?_
  refine gcI X K (n0 := 4) (As := [.int k0, .int (0 : Int32), .int (0 : Int32), .int (0 : Int32)]) (rest := []) (hM := (met_M_throwing hl9 D ad ca sa _ k0 (0 : Int32) (0 : Int32) (0 : Int32) f a b _ hw)) (o := 0) (ho := by decide) (hko := kM_o0) (hci := rfl) (hg := wl_good) (w1 := (tm3 (i := 173) rfl rfl)) (w2 := (tm3 (i := 175) rfl rfl)) (w3 := (tm0 (i := 30) rfl rfl)) (w4 := (tm1 (i := 4) rfl rfl)) (w5 := (tm3 (i := 176) rfl rfl)) (hd := ⟨rfl, by decide, by decide, by decide +kernel⟩) (hrc := rfl) (hrs := rfl) (hR := ⟨Nat.le_of_ble_eq_true rfl, Nat.le_of_ble_eq_true rfl⟩) (hn := rfl) (hsz := hl.1) (hst := rfl) (hW := Nat.le_of_ble_eq_true rfl) (hdg := dM_never_13) (hf := ⟨Nat.le_of_ble_eq_true rfl, Nat.le_of_ble_eq_true rfl⟩) (fun _ _ _ _ _ _ _ _ hw => hw.elim) (fun r13 f13 a13 b13 H locs hw K => ?_)
  refine lv_if_eq (tgt := 21) hx hb dM_never_16 (by decide) (fun hc => ?_) (fun hc => ?_)
  · replace hw := hw.1 hc
    refine lv_iload_n hx hb dM_never_21 rfl (lv_at hl 1 rfl) ?_
    refine lv_istore_n (lv' := [(2, .int x1), (0, .ref (ad 0)), (1, .int x1)]) hx hb dM_never_22 rfl hl (by decide) rfl (fun ls hl => ?_)
    refine lv_iconst (v := (0 : Int32)) hx hb dM_never_23 (by decide) ?_
    refine lv_istore_n (lv' := [(3, .int (0 : Int32)), (2, .int x1), (0, .ref (ad 0)), (1, .int x1)]) hx hb dM_never_24 rfl hl (by decide) rfl (fun ls hl => ?_)
    obtain ⟨n9, hw⟩ := hw
    exact LM_never_25 X hex hr n9 x1 (0 : Int32) f13 a13 b13 hw _ _ K _ (lv_sub hl [2, 1, 0] rfl)
  · replace hw := hw.2 hc
    refine lv_iconst (v := (0 : Int32)) hx hb dM_never_19 (by decide) ?_
    exact endI X K hr rfl hw (by decide) (by decide) dM_never_20
set_option maxHeartbeats 4000000 in
set_option maxRecDepth 100000 in
theorem met_M_never {l : Launch} (hl9 : l.stackTraces = false) (D : va_G) (ad : Nat → Nat) (ca : Nat → ClassId) (sa : Nat → Nat) (sz : Nat) (x1 : Int32) (f : wF) (a : wA) (b : wB) (po : Int32 → wF → wA → wB → Prop) (hw : wp_M_never po x1 f a b) : mI nM kM (tyS ca) txS D vwCl l yM_never (Cond.code yM_never cM_never 6 (some .int) :: Wl) ({ frames := 1, cells := 0, slots := 0, locals := 24 }) [.ref (ad 0), .int x1] ad ca sa sz f a b po (fun _ _ _ _ => False) 0 0 := by
  refine ofI (by decide) hl9 (Nat.le_of_ble_eq_true rfl) ?_
  intro p e s m below meth c ls X hex hr K hl
  obtain ⟨hx, hb, hml, hown, hts, hK, hA, hth, hlk, hl9⟩ := id X
  have hl : lv_has ls 6 [(0, .ref (ad 0)), (1, .int x1)] := hl
  dsimp only [wp_M_never] at hw
  refine lv_aload_n hx hb dM_never_0 rfl (lv_at hl 0 rfl) ?_
  refine lv_iload_n hx hb dM_never_1 rfl (lv_at hl 1 rfl) ?_
  refine lv_if_ge (tgt := 9) hx hb dM_never_2 (by decide) (fun hc => ?_) (fun hc => ?_)
  · replace hw := hw.1 hc
    refine lv_iconst (v := (0 : Int32)) hx hb dM_never_9 (by decide) ?_
    exact LM_never_10 X hex hr (0 : Int32) x1 f a b hw _ _ K _ (lv_sub hl [0, 1] rfl)
  · replace hw := hw.2 hc
    refine lv_iconst (v := (1 : Int32)) hx hb dM_never_5 (by decide) ?_
    refine lv_goto (tgt := 10) hx hb dM_never_6 (by decide) ?_
    exact LM_never_10 X hex hr (1 : Int32) x1 f a b hw _ _ K _ (lv_sub hl [0, 1] rfl)
