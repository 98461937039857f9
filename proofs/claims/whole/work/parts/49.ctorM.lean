def dfM : List Value := [.int 0, .int 0, .null, .null, .null, .int 0, .null, .null, .int 0, .null, .null, .null, .null, .null, .int 0, .int 0, .null, .int 0, .null]
def wp_M_init_129 (po : wF → wA → wB → Prop) : Nat → Int32 → wF → wA → wB → Prop
  | 0 => fun _ _ _ _ => False
  | n + 1 => fun x1 f a b => ((16 : Int32) ≤ x1 → (po f a b)) ∧ (¬ (16 : Int32) ≤ x1 → (vp_in x1 16 ∧ (wp_M_init_129 po n (x1 + (1 : Int32)) f (va_up a 10 (upd (a 10) x1.toNatClampNeg (-1 : Int32))) b)))
def wp_M_init_108 (po : wF → wA → wB → Prop) : Nat → Int32 → wF → wA → wB → Prop
  | 0 => fun _ _ _ _ => False
  | n + 1 => fun x1 f a b => ((72 : Int32) ≤ x1 → (∃ n9, wp_M_init_129 po n9 (0 : Int32) f a b)) ∧ (¬ (72 : Int32) ≤ x1 → (vp_in x1 72 ∧ (wp_M_init_108 po n (x1 + (1 : Int32)) f (va_up a 3 (upd (a 3) x1.toNatClampNeg (-1 : Int32))) b)))
def wp_M_init (po : wF → wA → wB → Prop)  (f : wF) (a : wA) (b : wB) : Prop := ∃ n9, wp_M_init_108 po n9 (0 : Int32) f a b
set_option maxHeartbeats 4000000 in
set_option maxRecDepth 100000 in
theorem LM_init_129 {p : Program} {l : Launch} {e : Env} {s : State} {m : MethodId} {below : List Frame} {meth : Method} {c : Code} {D : va_G} {sa : Nat → Nat} {ad : Nat → Nat} {ca : Nat → ClassId} {A : Nat → Prop} {po : wF → wA → wB → Prop} (X : cx Wl (tyS ca) txS D vwCl sa A p l s m ([.ref (ad 0)] : List Value).toArray meth c cM_init 2 "SendBestModel") (hr : meth.sig.returnType = none) : ∀ n : Nat, ∀ (x1 : Int32) (f : wF) (a : wA) (b : wB), wp_M_init_129 po n x1 f a b → ∀ (H : Heap) (locs : List Loc), wd nM kM D vwCl ad ca A s H locs f a b → ∀ (ls : Array Slot), lv_has ls 2 [(0, .ref (ad 0)), (1, .int x1)] → W p l e ({ frames := 1, cells := 12, slots := 45230, locals := 20 }) s m ([.ref (ad 0)] : List Value).toArray below meth c H locs 12 45230 (vx_MQ below (va_Qv (fun (u : wF × wA × wB) => po u.1 u.2.1 u.2.2) (sPost nM kM D vwCl ad ca A) A) (sX nM kM D vwCl ad ca A (fun _ _ _ _ => False)) ([.ref (ad 0)] : List Value).toArray s 12 45230 A) (F0 m 129 ls []) := by
  obtain ⟨hx, hb, hml, hown, hts, hK, hA, hth, hlk, hl9⟩ := id X
  intro n
  induction n with
  | zero => intro x1 f a b hw; exact hw.elim
  | succ n ih =>
    intro x1 f a b hw H locs K ls hl
    dsimp only [wp_M_init_129] at hw
    refine lv_iload_n hx hb dM_init_129 rfl (lv_at hl 1 rfl) ?_
    refine lv_bipush (v := (16 : Int32)) hx hb dM_init_130 (by decide) ?_
    refine lv_icmp_ge (tgt := 148) hx hb dM_init_132 (by decide) (fun hc => ?_) (fun hc => ?_)
    · replace hw := hw.1 hc
      exact endV X K hr hw (by decide) (by decide) dM_init_148
    · replace hw := hw.2 hc
      refine lv_aload_n hx hb dM_init_135 rfl (lv_at hl 0 rfl) ?_
      refine gGet X K (o := 0) (k := 13) (v := .ref (ad 10)) (by decide) kM_o0 rfl inM_o0 (by decide) (tm3 (i := 116) rfl rfl) rfl dM_init_136 ?_
      refine lv_iload_n hx hb dM_init_139 rfl (lv_at hl 1 rfl) ?_
      refine lv_iconst (v := (-1 : Int32)) hx hb dM_init_140 (by decide) ?_
      obtain ⟨hi, hw⟩ := hw
      refine gist X K (o := 10) (t0 := 0) (by decide) kM_c10 rfl hi dM_init_141 kM_p10 (fun H locs K => ?_)
      refine lv_iinc (v := (x1 + (1 : Int32))) (lv' := [(1, .int (x1 + (1 : Int32))), (0, .ref (ad 0))]) hx hb dM_init_142 hl (k := 1) rfl rfl (by decide) rfl (fun ls hl => ?_)
      refine lv_goto (tgt := 129) hx hb dM_init_145 (by decide) ?_
      exact ih (x1 + (1 : Int32)) f (va_up a 10 (upd (a 10) x1.toNatClampNeg (-1 : Int32))) b hw _ _ K _ (lv_sub hl [1, 0] rfl)
set_option maxHeartbeats 4000000 in
set_option maxRecDepth 100000 in
theorem LM_init_108 {p : Program} {l : Launch} {e : Env} {s : State} {m : MethodId} {below : List Frame} {meth : Method} {c : Code} {D : va_G} {sa : Nat → Nat} {ad : Nat → Nat} {ca : Nat → ClassId} {A : Nat → Prop} {po : wF → wA → wB → Prop} (X : cx Wl (tyS ca) txS D vwCl sa A p l s m ([.ref (ad 0)] : List Value).toArray meth c cM_init 2 "SendBestModel") (hr : meth.sig.returnType = none) : ∀ n : Nat, ∀ (x1 : Int32) (f : wF) (a : wA) (b : wB), wp_M_init_108 po n x1 f a b → ∀ (H : Heap) (locs : List Loc), wd nM kM D vwCl ad ca A s H locs f a b → ∀ (ls : Array Slot), lv_has ls 2 [(0, .ref (ad 0)), (1, .int x1)] → W p l e ({ frames := 1, cells := 12, slots := 45230, locals := 20 }) s m ([.ref (ad 0)] : List Value).toArray below meth c H locs 12 45230 (vx_MQ below (va_Qv (fun (u : wF × wA × wB) => po u.1 u.2.1 u.2.2) (sPost nM kM D vwCl ad ca A) A) (sX nM kM D vwCl ad ca A (fun _ _ _ _ => False)) ([.ref (ad 0)] : List Value).toArray s 12 45230 A) (F0 m 108 ls []) := by
  obtain ⟨hx, hb, hml, hown, hts, hK, hA, hth, hlk, hl9⟩ := id X
  intro n
  induction n with
  | zero => intro x1 f a b hw; exact hw.elim
  | succ n ih =>
    intro x1 f a b hw H locs K ls hl
    dsimp only [wp_M_init_108] at hw
    refine lv_iload_n hx hb dM_init_108 rfl (lv_at hl 1 rfl) ?_
    refine lv_bipush (v := (72 : Int32)) hx hb dM_init_109 (by decide) ?_
    refine lv_icmp_ge (tgt := 127) hx hb dM_init_111 (by decide) (fun hc => ?_) (fun hc => ?_)
    · replace hw := hw.1 hc
      refine lv_iconst (v := (0 : Int32)) hx hb dM_init_127 (by decide) ?_
      refine lv_istore_n (lv' := [(1, .int (0 : Int32)), (0, .ref (ad 0))]) hx hb dM_init_128 rfl hl (by decide) rfl (fun ls hl => ?_)
      obtain ⟨n9, hw⟩ := hw
      exact LM_init_129 X hr n9 (0 : Int32) f a b hw _ _ K _ (lv_sub hl [1, 0] rfl)
    · replace hw := hw.2 hc
      refine lv_aload_n hx hb dM_init_114 rfl (lv_at hl 0 rfl) ?_
      refine gGet X K (o := 0) (k := 4) (v := .ref (ad 3)) (by decide) kM_o0 rfl inM_o0 (by decide) (tm3 (i := 107) rfl rfl) rfl dM_init_115 ?_
      refine lv_iload_n hx hb dM_init_118 rfl (lv_at hl 1 rfl) ?_
      refine lv_iconst (v := (-1 : Int32)) hx hb dM_init_119 (by decide) ?_
      obtain ⟨hi, hw⟩ := hw
      refine gist X K (o := 3) (t0 := 0) (by decide) kM_c3 rfl hi dM_init_120 kM_p3 (fun H locs K => ?_)
      refine lv_iinc (v := (x1 + (1 : Int32))) (lv' := [(1, .int (x1 + (1 : Int32))), (0, .ref (ad 0))]) hx hb dM_init_121 hl (k := 1) rfl rfl (by decide) rfl (fun ls hl => ?_)
      refine lv_goto (tgt := 108) hx hb dM_init_124 (by decide) ?_
      exact ih (x1 + (1 : Int32)) f (va_up a 3 (upd (a 3) x1.toNatClampNeg (-1 : Int32))) b hw _ _ K _ (lv_sub hl [1, 0] rfl)
set_option maxHeartbeats 4000000 in
set_option maxRecDepth 100000 in
theorem st_M_init {p : Program} {l : Launch} {e : Env} {s : State} {m : MethodId} {below : List Frame} {meth : Method} {c : Code} {D : va_G} {sa : Nat → Nat} {ad : Nat → Nat} {ca : Nat → ClassId} {A : Nat → Prop} {po : wF → wA → wB → Prop} (X : cx Wl (tyS ca) txS D vwCl sa A p l s m ([.ref (ad 0)] : List Value).toArray meth c cM_init 2 "SendBestModel") (hr : meth.sig.returnType = none) (f : wF) (a : wA) (b : wB) (hw : wp_M_init po f a b) (H : Heap) (locs : List Loc) (K : wd nM kM D vwCl ad ca A s H locs f a b) (ls : Array Slot) (hl : lv_has ls 2 [(0, .ref (ad 0))]) : W p l e ({ frames := 1, cells := 12, slots := 45230, locals := 20 }) s m ([.ref (ad 0)] : List Value).toArray below meth c H locs 12 45230 (vx_MQ below (va_Qv (fun (u : wF × wA × wB) => po u.1 u.2.1 u.2.2) (sPost nM kM D vwCl ad ca A) A) (sX nM kM D vwCl ad ca A (fun _ _ _ _ => False)) ([.ref (ad 0)] : List Value).toArray s 12 45230 A) (F0 m 106 ls []) := by
  obtain ⟨hx, hb, hml, hown, hts, hK, hA, hth, hlk, hl9⟩ := id X
  dsimp only [wp_M_init] at hw
  refine lv_iconst (v := (0 : Int32)) hx hb dM_init_106 (by decide) ?_
  refine lv_istore_n (lv' := [(1, .int (0 : Int32)), (0, .ref (ad 0))]) hx hb dM_init_107 rfl hl (by decide) rfl (fun ls hl => ?_)
  obtain ⟨n9, hw⟩ := hw
  exact LM_init_108 X hr n9 (0 : Int32) f a b hw _ _ K _ (lv_sub hl [1, 0] rfl)
set_option maxHeartbeats 8000000 in
set_option maxRecDepth 100000 in
theorem met_M_init {l : Launch} (hl9 : l.stackTraces = false) (D : va_G) (ca : Nat → ClassId) (sa : Nat → Nat) (sz h0 : Nat) (po : (Nat → Nat) → wF → wA → wB → Prop) (hw : ∀ ad : Nat → Nat, wp_M_init (po ad) (va_up (fun _ => 0) 5 ((10 : Int32))) (fun _ _ => 0) (fun _ _ => 0)) : mC nM kM (tyS ca) txS D vwCl l yM_init (Cond.code yM_init cM_init 2 none :: Wl) ({ frames := 1, cells := 12, slots := 45230, locals := 20 }) ca sa sz h0 2 dfM po 12 45230 := by
  refine ofC (by decide) rfl hl9 (Nat.le_of_ble_eq_true rfl) ?_
  intro p e s m below meth c ls X hin hr ho1 ho2 K hl
  obtain ⟨hx, hb, hml, hown, hts, hK, hA, hth, hlk, hl9⟩ := id X
  refine lv_aload_n hx hb dM_init_0 rfl (lv_at hl 0 rfl) ?_
  refine W.objInit hx hb hown (hts _ (tm3 (i := 101) rfl rfl)) (hts _ (tm1 (i := 20) rfl rfl)) (hts _ (tm1 (i := 21) rfl rfl)) rfl (by rw [hml]; exact hl.1) rfl dM_init_1 (Nat.le_of_ble_eq_true rfl) (Nat.le_of_ble_eq_true rfl) ?_
  refine W.eq (g2 := F0 m 4 ls []) rfl ?_
  refine lv_aload_n hx hb dM_init_4 rfl (lv_at hl 0 rfl) ?_
  refine lv_bipush (v := (12 : Int32)) hx hb dM_init_5 (by decide) ?_
  refine nArr X K (atype := .int) (ty := .int) (M := 12) (a0 := (12, (.inl (fun _ => 0)))) (t0 := 0) (cA := ca 0) (tm1 (i := 76) rfl rfl) rfl rfl (fun _ h9 => h9) (fun _ => rfl) (by decide) (by decide) (by decide) (Nat.le_of_ble_eq_true rfl) (Nat.le_of_ble_eq_true rfl) dM_init_7 (fun q1 H K => ?_)
  refine nPutF X K hin (o := 0) (i := 2) (v := .ref q1) (fs := dfM) ftM ftM_ok nmM (by decide) rfl rfl inM (by decide) (tm3 (i := 105) rfl rfl) rfl rfl rfl rfl rfl (Nat.le_of_ble_eq_true rfl) dM_init_9 (q := h0) rfl (fun H locs K => ?_)
  refine lv_aload_n hx hb dM_init_12 rfl (lv_at hl 0 rfl) ?_
  refine lv_bipush (v := (12 : Int32)) hx hb dM_init_13 (by decide) ?_
  refine nArr X K (atype := .boolean) (ty := .boolean) (M := 12) (a0 := (12, (.inl (fun _ => 0)))) (t0 := 1) (cA := ca 1) (tm1 (i := 77) rfl rfl) rfl rfl (fun _ h9 => h9) (fun _ => rfl) (by decide) (by decide) (by decide) (Nat.le_of_ble_eq_true rfl) (Nat.le_of_ble_eq_true rfl) dM_init_15 (fun q2 H K => ?_)
  refine nPutF X K hin (o := 0) (i := 3) (v := .ref q2) (fs := [.int 0, .int 0, .ref q1, .null, .null, .int 0, .null, .null, .int 0, .null, .null, .null, .null, .null, .int 0, .int 0, .null, .int 0, .null]) ftM ftM_ok nmM (by decide) rfl rfl inM (by decide) (tm3 (i := 106) rfl rfl) rfl rfl rfl rfl rfl (Nat.le_of_ble_eq_true rfl) dM_init_17 (q := h0) rfl (fun H locs K => ?_)
  refine lv_aload_n hx hb dM_init_20 rfl (lv_at hl 0 rfl) ?_
  refine lv_bipush (v := (72 : Int32)) hx hb dM_init_21 (by decide) ?_
  refine nArr X K (atype := .int) (ty := .int) (M := 72) (a0 := (72, (.inl (fun _ => 0)))) (t0 := 0) (cA := ca 0) (tm1 (i := 76) rfl rfl) rfl rfl (fun _ h9 => h9) (fun _ => rfl) (by decide) (by decide) (by decide) (Nat.le_of_ble_eq_true rfl) (Nat.le_of_ble_eq_true rfl) dM_init_23 (fun q3 H K => ?_)
  refine nPutF X K hin (o := 0) (i := 4) (v := .ref q3) (fs := [.int 0, .int 0, .ref q1, .ref q2, .null, .int 0, .null, .null, .int 0, .null, .null, .null, .null, .null, .int 0, .int 0, .null, .int 0, .null]) ftM ftM_ok nmM (by decide) rfl rfl inM (by decide) (tm3 (i := 107) rfl rfl) rfl rfl rfl rfl rfl (Nat.le_of_ble_eq_true rfl) dM_init_25 (q := h0) rfl (fun H locs K => ?_)
  refine lv_aload_n hx hb dM_init_28 rfl (lv_at hl 0 rfl) ?_
  refine lv_bipush (v := (6 : Int32)) hx hb dM_init_29 (by decide) ?_
  refine nArr X K (atype := .int) (ty := .int) (M := 6) (a0 := (6, (.inl (fun _ => 0)))) (t0 := 0) (cA := ca 0) (tm1 (i := 76) rfl rfl) rfl rfl (fun _ h9 => h9) (fun _ => rfl) (by decide) (by decide) (by decide) (Nat.le_of_ble_eq_true rfl) (Nat.le_of_ble_eq_true rfl) dM_init_31 (fun q4 H K => ?_)
  refine nPutF X K hin (o := 0) (i := 6) (v := .ref q4) (fs := [.int 0, .int 0, .ref q1, .ref q2, .ref q3, .int 0, .null, .null, .int 0, .null, .null, .null, .null, .null, .int 0, .int 0, .null, .int 0, .null]) ftM ftM_ok nmM (by decide) rfl rfl inM (by decide) (tm3 (i := 109) rfl rfl) rfl rfl rfl rfl rfl (Nat.le_of_ble_eq_true rfl) dM_init_33 (q := h0) rfl (fun H locs K => ?_)
  refine lv_aload_n hx hb dM_init_36 rfl (lv_at hl 0 rfl) ?_
  refine lv_bipush (v := (6 : Int32)) hx hb dM_init_37 (by decide) ?_
  refine nArr X K (atype := .boolean) (ty := .boolean) (M := 6) (a0 := (6, (.inl (fun _ => 0)))) (t0 := 1) (cA := ca 1) (tm1 (i := 77) rfl rfl) rfl rfl (fun _ h9 => h9) (fun _ => rfl) (by decide) (by decide) (by decide) (Nat.le_of_ble_eq_true rfl) (Nat.le_of_ble_eq_true rfl) dM_init_39 (fun q5 H K => ?_)
  refine nPutF X K hin (o := 0) (i := 7) (v := .ref q5) (fs := [.int 0, .int 0, .ref q1, .ref q2, .ref q3, .int 0, .ref q4, .null, .int 0, .null, .null, .null, .null, .null, .int 0, .int 0, .null, .int 0, .null]) ftM ftM_ok nmM (by decide) rfl rfl inM (by decide) (tm3 (i := 110) rfl rfl) rfl rfl rfl rfl rfl (Nat.le_of_ble_eq_true rfl) dM_init_41 (q := h0) rfl (fun H locs K => ?_)
  refine lv_aload_n hx hb dM_init_44 rfl (lv_at hl 0 rfl) ?_
  refine lv_bipush (v := (10 : Int32)) hx hb dM_init_45 (by decide) ?_
  refine nArr X K (atype := .int) (ty := .int) (M := 10) (a0 := (10, (.inl (fun _ => 0)))) (t0 := 0) (cA := ca 0) (tm1 (i := 76) rfl rfl) rfl rfl (fun _ h9 => h9) (fun _ => rfl) (by decide) (by decide) (by decide) (Nat.le_of_ble_eq_true rfl) (Nat.le_of_ble_eq_true rfl) dM_init_47 (fun q6 H K => ?_)
  refine nPutF X K hin (o := 0) (i := 9) (v := .ref q6) (fs := [.int 0, .int 0, .ref q1, .ref q2, .ref q3, .int 0, .ref q4, .ref q5, .int 0, .null, .null, .null, .null, .null, .int 0, .int 0, .null, .int 0, .null]) ftM ftM_ok nmM (by decide) rfl rfl inM (by decide) (tm3 (i := 112) rfl rfl) rfl rfl rfl rfl rfl (Nat.le_of_ble_eq_true rfl) dM_init_49 (q := h0) rfl (fun H locs K => ?_)
  refine lv_aload_n hx hb dM_init_52 rfl (lv_at hl 0 rfl) ?_
  refine lv_bipush (v := (10 : Int32)) hx hb dM_init_53 (by decide) ?_
  refine nArr X K (atype := .int) (ty := .int) (M := 10) (a0 := (10, (.inl (fun _ => 0)))) (t0 := 0) (cA := ca 0) (tm1 (i := 76) rfl rfl) rfl rfl (fun _ h9 => h9) (fun _ => rfl) (by decide) (by decide) (by decide) (Nat.le_of_ble_eq_true rfl) (Nat.le_of_ble_eq_true rfl) dM_init_55 (fun q7 H K => ?_)
  refine nPutF X K hin (o := 0) (i := 10) (v := .ref q7) (fs := [.int 0, .int 0, .ref q1, .ref q2, .ref q3, .int 0, .ref q4, .ref q5, .int 0, .ref q6, .null, .null, .null, .null, .int 0, .int 0, .null, .int 0, .null]) ftM ftM_ok nmM (by decide) rfl rfl inM (by decide) (tm3 (i := 113) rfl rfl) rfl rfl rfl rfl rfl (Nat.le_of_ble_eq_true rfl) dM_init_57 (q := h0) rfl (fun H locs K => ?_)
  refine lv_aload_n hx hb dM_init_60 rfl (lv_at hl 0 rfl) ?_
  refine lv_bipush (v := (10 : Int32)) hx hb dM_init_61 (by decide) ?_
  refine nArr X K (atype := .int) (ty := .int) (M := 10) (a0 := (10, (.inl (fun _ => 0)))) (t0 := 0) (cA := ca 0) (tm1 (i := 76) rfl rfl) rfl rfl (fun _ h9 => h9) (fun _ => rfl) (by decide) (by decide) (by decide) (Nat.le_of_ble_eq_true rfl) (Nat.le_of_ble_eq_true rfl) dM_init_63 (fun q8 H K => ?_)
  refine nPutF X K hin (o := 0) (i := 11) (v := .ref q8) (fs := [.int 0, .int 0, .ref q1, .ref q2, .ref q3, .int 0, .ref q4, .ref q5, .int 0, .ref q6, .ref q7, .null, .null, .null, .int 0, .int 0, .null, .int 0, .null]) ftM ftM_ok nmM (by decide) rfl rfl inM (by decide) (tm3 (i := 114) rfl rfl) rfl rfl rfl rfl rfl (Nat.le_of_ble_eq_true rfl) dM_init_65 (q := h0) rfl (fun H locs K => ?_)
  refine lv_aload_n hx hb dM_init_68 rfl (lv_at hl 0 rfl) ?_
  refine lv_bipush (v := (10 : Int32)) hx hb dM_init_69 (by decide) ?_
  refine nArr X K (atype := .boolean) (ty := .boolean) (M := 10) (a0 := (10, (.inl (fun _ => 0)))) (t0 := 1) (cA := ca 1) (tm1 (i := 77) rfl rfl) rfl rfl (fun _ h9 => h9) (fun _ => rfl) (by decide) (by decide) (by decide) (Nat.le_of_ble_eq_true rfl) (Nat.le_of_ble_eq_true rfl) dM_init_71 (fun q9 H K => ?_)
  refine nPutF X K hin (o := 0) (i := 12) (v := .ref q9) (fs := [.int 0, .int 0, .ref q1, .ref q2, .ref q3, .int 0, .ref q4, .ref q5, .int 0, .ref q6, .ref q7, .ref q8, .null, .null, .int 0, .int 0, .null, .int 0, .null]) ftM ftM_ok nmM (by decide) rfl rfl inM (by decide) (tm3 (i := 115) rfl rfl) rfl rfl rfl rfl rfl (Nat.le_of_ble_eq_true rfl) dM_init_73 (q := h0) rfl (fun H locs K => ?_)
  refine lv_aload_n hx hb dM_init_76 rfl (lv_at hl 0 rfl) ?_
  refine lv_bipush (v := (16 : Int32)) hx hb dM_init_77 (by decide) ?_
  refine nArr X K (atype := .int) (ty := .int) (M := 16) (a0 := (16, (.inl (fun _ => 0)))) (t0 := 0) (cA := ca 0) (tm1 (i := 76) rfl rfl) rfl rfl (fun _ h9 => h9) (fun _ => rfl) (by decide) (by decide) (by decide) (Nat.le_of_ble_eq_true rfl) (Nat.le_of_ble_eq_true rfl) dM_init_79 (fun q10 H K => ?_)
  refine nPutF X K hin (o := 0) (i := 13) (v := .ref q10) (fs := [.int 0, .int 0, .ref q1, .ref q2, .ref q3, .int 0, .ref q4, .ref q5, .int 0, .ref q6, .ref q7, .ref q8, .ref q9, .null, .int 0, .int 0, .null, .int 0, .null]) ftM ftM_ok nmM (by decide) rfl rfl inM (by decide) (tm3 (i := 116) rfl rfl) rfl rfl rfl rfl rfl (Nat.le_of_ble_eq_true rfl) dM_init_81 (q := h0) rfl (fun H locs K => ?_)
  refine lv_aload_n hx hb dM_init_84 rfl (lv_at hl 0 rfl) ?_
  refine lv_bipush (v := (10 : Int32)) hx hb dM_init_85 (by decide) ?_
  refine nPut X K (o := 0) (i := 15) (v := .int (10 : Int32)) (fs := [.int 0, .int 0, .ref q1, .ref q2, .ref q3, .int 0, .ref q4, .ref q5, .int 0, .ref q6, .ref q7, .ref q8, .ref q9, .ref q10, .int 0, .int 0, .null, .int 0, .null]) ftM ftM_ok nmM (by decide) rfl rfl inM (by decide) (tm3 (i := 118) rfl rfl) rfl rfl rfl rfl (Nat.le_of_ble_eq_true rfl) dM_init_87 (q := h0) rfl (fun H locs K => ?_)
  refine lv_aload_n hx hb dM_init_90 rfl (lv_at hl 0 rfl) ?_
  refine lv_bipush (v := (10 : Int32)) hx hb dM_init_91 (by decide) ?_
  refine nArr X K (atype := .int) (ty := .int) (M := 10) (a0 := (10, (.inl (fun _ => 0)))) (t0 := 0) (cA := ca 0) (tm1 (i := 76) rfl rfl) rfl rfl (fun _ h9 => h9) (fun _ => rfl) (by decide) (by decide) (by decide) (Nat.le_of_ble_eq_true rfl) (Nat.le_of_ble_eq_true rfl) dM_init_93 (fun q11 H K => ?_)
  refine nPutF X K hin (o := 0) (i := 16) (v := .ref q11) (fs := [.int 0, .int 0, .ref q1, .ref q2, .ref q3, .int 0, .ref q4, .ref q5, .int 0, .ref q6, .ref q7, .ref q8, .ref q9, .ref q10, .int 0, .int (10 : Int32), .null, .int 0, .null]) ftM ftM_ok nmM (by decide) rfl rfl inM (by decide) (tm3 (i := 119) rfl rfl) rfl rfl rfl rfl rfl (Nat.le_of_ble_eq_true rfl) dM_init_95 (q := h0) rfl (fun H locs K => ?_)
  refine lv_aload_n hx hb dM_init_98 rfl (lv_at hl 0 rfl) ?_
  refine lv_ldc (v := (45056 : Int32)) hx hb hown (hts _ (tm3 (i := 102) rfl rfl)) dM_init_99 ?_
  refine nArr X K (atype := .long) (ty := .long) (M := 45056) (a0 := (45056, (.inr (.inl (fun _ => 0))))) (t0 := 2) (cA := ca 2) (tm1 (i := 78) rfl rfl) rfl rfl (fun _ h9 => h9) (fun _ => rfl) (by decide) (by decide) (by decide) (Nat.le_of_ble_eq_true rfl) (Nat.le_of_ble_eq_true rfl) dM_init_101 (fun q12 H K => ?_)
  refine nPutF X K hin (o := 0) (i := 18) (v := .ref q12) (fs := [.int 0, .int 0, .ref q1, .ref q2, .ref q3, .int 0, .ref q4, .ref q5, .int 0, .ref q6, .ref q7, .ref q8, .ref q9, .ref q10, .int 0, .int (10 : Int32), .ref q11, .int 0, .null]) ftM ftM_ok nmM (by decide) rfl rfl inM (by decide) (tm3 (i := 121) rfl rfl) rfl rfl rfl rfl rfl (Nat.le_of_ble_eq_true rfl) dM_init_103 (q := h0) rfl (fun H locs K => ?_)
  have had0 : ∃ ad9 : Nat → Nat, ad9 = (va_up (va_up (va_up (va_up (va_up (va_up (va_up (va_up (va_up (va_up (va_up (va_up (fun _ => h0) 1 q1) 2 q2) 3 q3) 4 q4) 5 q5) 6 q6) 7 q7) 8 q8) 9 q9) 10 q10) 11 q11) 12 q12) := ⟨_, rfl⟩
  obtain ⟨ad, had9⟩ := had0
  have hkk : ∀ j, j < 13 → kM ad ca (va_up (fun _ => 0) 5 ((10 : Int32))) (fun _ _ => 0) (fun _ _ => 0) j = (va_up (va_up (va_up (va_up (va_up (va_up (va_up (va_up (va_up (va_up (va_up (va_up (va_up (va_up (va_up (va_up (va_up (va_up (va_up (va_up (va_up (va_up (va_up (va_up (va_up (fun _ => .inr (2, dfM)) 1 (.inl (ca 0, 12, (.inl (fun _ => 0))))) 0 (.inr (2, [.int 0, .int 0, .ref q1, .null, .null, .int 0, .null, .null, .int 0, .null, .null, .null, .null, .null, .int 0, .int 0, .null, .int 0, .null]))) 2 (.inl (ca 1, 12, (.inl (fun _ => 0))))) 0 (.inr (2, [.int 0, .int 0, .ref q1, .ref q2, .null, .int 0, .null, .null, .int 0, .null, .null, .null, .null, .null, .int 0, .int 0, .null, .int 0, .null]))) 3 (.inl (ca 0, 72, (.inl (fun _ => 0))))) 0 (.inr (2, [.int 0, .int 0, .ref q1, .ref q2, .ref q3, .int 0, .null, .null, .int 0, .null, .null, .null, .null, .null, .int 0, .int 0, .null, .int 0, .null]))) 4 (.inl (ca 0, 6, (.inl (fun _ => 0))))) 0 (.inr (2, [.int 0, .int 0, .ref q1, .ref q2, .ref q3, .int 0, .ref q4, .null, .int 0, .null, .null, .null, .null, .null, .int 0, .int 0, .null, .int 0, .null]))) 5 (.inl (ca 1, 6, (.inl (fun _ => 0))))) 0 (.inr (2, [.int 0, .int 0, .ref q1, .ref q2, .ref q3, .int 0, .ref q4, .ref q5, .int 0, .null, .null, .null, .null, .null, .int 0, .int 0, .null, .int 0, .null]))) 6 (.inl (ca 0, 10, (.inl (fun _ => 0))))) 0 (.inr (2, [.int 0, .int 0, .ref q1, .ref q2, .ref q3, .int 0, .ref q4, .ref q5, .int 0, .ref q6, .null, .null, .null, .null, .int 0, .int 0, .null, .int 0, .null]))) 7 (.inl (ca 0, 10, (.inl (fun _ => 0))))) 0 (.inr (2, [.int 0, .int 0, .ref q1, .ref q2, .ref q3, .int 0, .ref q4, .ref q5, .int 0, .ref q6, .ref q7, .null, .null, .null, .int 0, .int 0, .null, .int 0, .null]))) 8 (.inl (ca 0, 10, (.inl (fun _ => 0))))) 0 (.inr (2, [.int 0, .int 0, .ref q1, .ref q2, .ref q3, .int 0, .ref q4, .ref q5, .int 0, .ref q6, .ref q7, .ref q8, .null, .null, .int 0, .int 0, .null, .int 0, .null]))) 9 (.inl (ca 1, 10, (.inl (fun _ => 0))))) 0 (.inr (2, [.int 0, .int 0, .ref q1, .ref q2, .ref q3, .int 0, .ref q4, .ref q5, .int 0, .ref q6, .ref q7, .ref q8, .ref q9, .null, .int 0, .int 0, .null, .int 0, .null]))) 10 (.inl (ca 0, 16, (.inl (fun _ => 0))))) 0 (.inr (2, [.int 0, .int 0, .ref q1, .ref q2, .ref q3, .int 0, .ref q4, .ref q5, .int 0, .ref q6, .ref q7, .ref q8, .ref q9, .ref q10, .int 0, .int 0, .null, .int 0, .null]))) 0 (.inr (2, [.int 0, .int 0, .ref q1, .ref q2, .ref q3, .int 0, .ref q4, .ref q5, .int 0, .ref q6, .ref q7, .ref q8, .ref q9, .ref q10, .int 0, .int (10 : Int32), .null, .int 0, .null]))) 11 (.inl (ca 0, 10, (.inl (fun _ => 0))))) 0 (.inr (2, [.int 0, .int 0, .ref q1, .ref q2, .ref q3, .int 0, .ref q4, .ref q5, .int 0, .ref q6, .ref q7, .ref q8, .ref q9, .ref q10, .int 0, .int (10 : Int32), .ref q11, .int 0, .null]))) 12 (.inl (ca 2, 45056, (.inr (.inl (fun _ => 0)))))) 0 (.inr (2, [.int 0, .int 0, .ref q1, .ref q2, .ref q3, .int 0, .ref q4, .ref q5, .int 0, .ref q6, .ref q7, .ref q8, .ref q9, .ref q10, .int 0, .int (10 : Int32), .ref q11, .int 0, .ref q12]))) j := by
    intro j hj
    match j, hj with
    | 0, _ => rw [had9]; rfl
    | 1, _ => rfl
    | 2, _ => rfl
    | 3, _ => rfl
    | 4, _ => rfl
    | 5, _ => rfl
    | 6, _ => rfl
    | 7, _ => rfl
    | 8, _ => rfl
    | 9, _ => rfl
    | 10, _ => rfl
    | 11, _ => rfl
    | 12, _ => rfl
    | j + 13, hj => exact absurd hj (by omega)
  have K9 : wk D vwCl ad (kM ad ca (va_up (fun _ => 0) 5 ((10 : Int32))) (fun _ _ => 0) (fun _ _ => 0)) 13 _ s H _ := wk_eq K (fun j _ => by rw [had9]) hkk
  have h00 : ad 0 = h0 := by rw [had9]; rfl
  rw [← h00] at hl
  refine W_mono (fun t h9 => endC h00 t h9) ?_
  have e0 : ([Value.ref h0] : List Value).toArray = ([Value.ref (ad 0)] : List Value).toArray := by rw [h00]
  rw [e0] at X ⊢
  exact st_M_init X hr _ _ _ (hw ad) H _ K9 ls hl
