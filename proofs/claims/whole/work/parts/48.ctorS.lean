def dfS : List Value := [.int 0, .null, .null, .null, .null, .null, .int 0, .null, .null, .int 0, .null, .null, .null, .null, .int 0, .int 0, .null]
def wp_S_init_144 (po : wF → wA → wB → Prop) : Nat → Int32 → wF → wA → wB → Prop
  | 0 => fun _ _ _ _ => False
  | n + 1 => fun x1 f a b => ((12 : Int32) ≤ x1 → (po f a b)) ∧ (¬ (12 : Int32) ≤ x1 → (vp_in x1 12 ∧ (wp_S_init_144 po n (x1 + (1 : Int32)) f (va_up a (6 + x1.toNatClampNeg) (fun _ => (-1 : Int32))) b)))
def wp_S_init (po : wF → wA → wB → Prop)  (f : wF) (a : wA) (b : wB) : Prop := ∃ n9, wp_S_init_144 po n9 (0 : Int32) f (va_up (va_up (va_up a 4 (fun _ => (-1 : Int32))) 22 (fun _ => (-1 : Int32))) 23 (fun _ => (-1 : Int32))) b
set_option maxHeartbeats 4000000 in
set_option maxRecDepth 100000 in
theorem LS_init_144 {p : Program} {l : Launch} {e : Env} {s : State} {m : MethodId} {below : List Frame} {meth : Method} {c : Code} {D : va_G} {sa : Nat → Nat} {ad : Nat → Nat} {ca : Nat → ClassId} {A : Nat → Prop} {po : wF → wA → wB → Prop} (X : cx Wl (tyS ca) txS D vwCl sa A p l s m ([.ref (ad 0)] : List Value).toArray meth c cS_init 2 "SendBest") (hr : meth.sig.returnType = none) : ∀ n : Nat, ∀ (x1 : Int32) (f : wF) (a : wA) (b : wB), wp_S_init_144 po n x1 f a b → ∀ (H : Heap) (locs : List Loc), wd nS kS D vwCl ad ca A s H locs f a b → ∀ (ls : Array Slot), lv_has ls 2 [(0, .ref (ad 0)), (1, .int x1)] → W p l e ({ frames := 2, cells := 56, slots := 572, locals := 45 }) s m ([.ref (ad 0)] : List Value).toArray below meth c H locs 56 572 (vx_MQ below (va_Qv (fun (u : wF × wA × wB) => po u.1 u.2.1 u.2.2) (sPost nS kS D vwCl ad ca A) A) (sX nS kS D vwCl ad ca A (fun _ _ _ _ => False)) ([.ref (ad 0)] : List Value).toArray s 56 572 A) (F0 m 144 ls []) := by
  obtain ⟨hx, hb, hml, hown, hts, hK, hA, hth, hlk, hl9⟩ := id X
  intro n
  induction n with
  | zero => intro x1 f a b hw; exact hw.elim
  | succ n ih =>
    intro x1 f a b hw H locs K ls hl
    dsimp only [wp_S_init_144] at hw
    refine lv_iload_n hx hb dS_init_144 rfl (lv_at hl 1 rfl) ?_
    refine lv_bipush (v := (12 : Int32)) hx hb dS_init_145 (by decide) ?_
    refine lv_icmp_ge (tgt := 166) hx hb dS_init_147 (by decide) (fun hc => ?_) (fun hc => ?_)
    · replace hw := hw.1 hc
      exact endV X K hr hw (by decide) (by decide) dS_init_166
    · replace hw := hw.2 hc
      refine lv_aload_n hx hb dS_init_150 rfl (lv_at hl 0 rfl) ?_
      refine gGet X K (o := 0) (k := 5) (v := .ref (ad 5)) (by decide) kS_o0 rfl inS_o0 (by decide) (tm1 (i := 87) rfl rfl) rfl dS_init_151 ?_
      refine lv_iload_n hx hb dS_init_154 rfl (lv_at hl 1 rfl) ?_
      obtain ⟨hi_secondsOf, hw⟩ := hw
      refine gald X K (o := 5) (t0 := 3) (by decide) kS_c5 rfl hi_secondsOf dS_init_155 ?_
      refine lv_iconst (v := (-1 : Int32)) hx hb dS_init_156 (by decide) ?_
      refine gfilli X K (o := (6 + x1.toNatClampNeg)) (t0 := 0) (rS_secondsOf_lt hi_secondsOf) (kS_r_secondsOf hi_secondsOf) rfl (by decide) (tm1 (i := 79) rfl rfl) hl.1 (Nat.le_of_ble_eq_true rfl) dS_init_157 ⟨Nat.le_of_ble_eq_true rfl, Nat.le_of_ble_eq_true rfl⟩ ⟨Nat.le_of_ble_eq_true rfl, Nat.le_of_ble_eq_true rfl⟩ (kS_q_secondsOf hi_secondsOf) (fun H locs K => ?_)
      refine lv_iinc (v := (x1 + (1 : Int32))) (lv' := [(1, .int (x1 + (1 : Int32))), (0, .ref (ad 0))]) hx hb dS_init_160 hl (k := 1) rfl rfl (by decide) rfl (fun ls hl => ?_)
      refine lv_goto (tgt := 144) hx hb dS_init_163 (by decide) ?_
      exact ih (x1 + (1 : Int32)) f (va_up a (6 + x1.toNatClampNeg) (fun _ => (-1 : Int32))) b hw _ _ K _ (lv_sub hl [1, 0] rfl)
set_option maxHeartbeats 4000000 in
set_option maxRecDepth 100000 in
theorem st_S_init {p : Program} {l : Launch} {e : Env} {s : State} {m : MethodId} {below : List Frame} {meth : Method} {c : Code} {D : va_G} {sa : Nat → Nat} {ad : Nat → Nat} {ca : Nat → ClassId} {A : Nat → Prop} {po : wF → wA → wB → Prop} (X : cx Wl (tyS ca) txS D vwCl sa A p l s m ([.ref (ad 0)] : List Value).toArray meth c cS_init 2 "SendBest") (hr : meth.sig.returnType = none) (f : wF) (a : wA) (b : wB) (hw : wp_S_init po f a b) (H : Heap) (locs : List Loc) (K : wd nS kS D vwCl ad ca A s H locs f a b) (ls : Array Slot) (hl : lv_has ls 2 [(0, .ref (ad 0))]) : W p l e ({ frames := 2, cells := 56, slots := 572, locals := 45 }) s m ([.ref (ad 0)] : List Value).toArray below meth c H locs 56 572 (vx_MQ below (va_Qv (fun (u : wF × wA × wB) => po u.1 u.2.1 u.2.2) (sPost nS kS D vwCl ad ca A) A) (sX nS kS D vwCl ad ca A (fun _ _ _ _ => False)) ([.ref (ad 0)] : List Value).toArray s 56 572 A) (F0 m 118 ls []) := by
  obtain ⟨hx, hb, hml, hown, hts, hK, hA, hth, hlk, hl9⟩ := id X
  dsimp only [wp_S_init] at hw
  refine lv_aload_n hx hb dS_init_118 rfl (lv_at hl 0 rfl) ?_
  refine gGet X K (o := 0) (k := 4) (v := .ref (ad 4)) (by decide) kS_o0 rfl inS_o0 (by decide) (tm1 (i := 86) rfl rfl) rfl dS_init_119 ?_
  refine lv_iconst (v := (-1 : Int32)) hx hb dS_init_122 (by decide) ?_
  refine gfilli X K (o := 4) (t0 := 0) (by decide) kS_c4 rfl (by decide) (tm1 (i := 79) rfl rfl) hl.1 (Nat.le_of_ble_eq_true rfl) dS_init_123 ⟨Nat.le_of_ble_eq_true rfl, Nat.le_of_ble_eq_true rfl⟩ ⟨Nat.le_of_ble_eq_true rfl, Nat.le_of_ble_eq_true rfl⟩ kS_p4 (fun H locs K => ?_)
  refine lv_aload_n hx hb dS_init_126 rfl (lv_at hl 0 rfl) ?_
  refine gGet X K (o := 0) (k := 12) (v := .ref (ad 22)) (by decide) kS_o0 rfl inS_o0 (by decide) (tm1 (i := 94) rfl rfl) rfl dS_init_127 ?_
  refine lv_iconst (v := (-1 : Int32)) hx hb dS_init_130 (by decide) ?_
  refine gfilli X K (o := 22) (t0 := 0) (by decide) kS_c22 rfl (by decide) (tm1 (i := 79) rfl rfl) hl.1 (Nat.le_of_ble_eq_true rfl) dS_init_131 ⟨Nat.le_of_ble_eq_true rfl, Nat.le_of_ble_eq_true rfl⟩ ⟨Nat.le_of_ble_eq_true rfl, Nat.le_of_ble_eq_true rfl⟩ kS_p22 (fun H locs K => ?_)
  refine lv_aload_n hx hb dS_init_134 rfl (lv_at hl 0 rfl) ?_
  refine gGet X K (o := 0) (k := 13) (v := .ref (ad 23)) (by decide) kS_o0 rfl inS_o0 (by decide) (tm1 (i := 95) rfl rfl) rfl dS_init_135 ?_
  refine lv_iconst (v := (-1 : Int32)) hx hb dS_init_138 (by decide) ?_
  refine gfilli X K (o := 23) (t0 := 0) (by decide) kS_c23 rfl (by decide) (tm1 (i := 79) rfl rfl) hl.1 (Nat.le_of_ble_eq_true rfl) dS_init_139 ⟨Nat.le_of_ble_eq_true rfl, Nat.le_of_ble_eq_true rfl⟩ ⟨Nat.le_of_ble_eq_true rfl, Nat.le_of_ble_eq_true rfl⟩ kS_p23 (fun H locs K => ?_)
  refine lv_iconst (v := (0 : Int32)) hx hb dS_init_142 (by decide) ?_
  refine lv_istore_n (lv' := [(1, .int (0 : Int32)), (0, .ref (ad 0))]) hx hb dS_init_143 rfl hl (by decide) rfl (fun ls hl => ?_)
  obtain ⟨n9, hw⟩ := hw
  exact LS_init_144 X hr n9 (0 : Int32) f (va_up (va_up (va_up a 4 (fun _ => (-1 : Int32))) 22 (fun _ => (-1 : Int32))) 23 (fun _ => (-1 : Int32))) b hw _ _ K _ (lv_sub hl [1, 0] rfl)
set_option maxHeartbeats 8000000 in
set_option maxRecDepth 100000 in
theorem met_S_init {l : Launch} (hl9 : l.stackTraces = false) (D : va_G) (ca : Nat → ClassId) (sa : Nat → Nat) (sz h0 : Nat) (poP : wF → wA → wB → Prop) (po : (Nat → Nat) → wF → wA → wB → Prop) (hP9 : ∀ ad : Nat → Nat, wp_P_init (fun f1 a1 b1 => poP f1 a1 b1) (fun _ => 0) (fun _ _ => 0) (fun _ _ => 0)) (hw : ∀ (ad : Nat → Nat) (fP : wF) (aP : wA) (bP : wB), poP fP aP bP → wp_S_init (po ad) (fun j => if j < 5 then (va_up (va_up (fun _ => 0) 3 ((0 : Int32))) 4 ((10 : Int32))) j else fP (j - 5)) (fun j => if j < 24 then (fun _ => 0) else aP (j - 24)) (fun j => if j < 24 then (fun _ => 0) else bP (j - 24))) : mC nS kS (tyS ca) txS D vwCl l yS_init (Cond.code yS_init cS_init 2 none :: Wl) ({ frames := 2, cells := 56, slots := 572, locals := 45 }) ca sa sz h0 1 dfS po 56 572 := by
  refine ofC (by decide) rfl hl9 (Nat.le_of_ble_eq_true rfl) ?_
  intro p e s m below meth c ls X hin hr ho1 ho2 K hl
  obtain ⟨hx, hb, hml, hown, hts, hK, hA, hth, hlk, hl9⟩ := id X
  refine lv_aload_n hx hb dS_init_0 rfl (lv_at hl 0 rfl) ?_
  refine W.objInit hx hb hown (hts _ (tm1 (i := 19) rfl rfl)) (hts _ (tm1 (i := 20) rfl rfl)) (hts _ (tm1 (i := 21) rfl rfl)) rfl (by rw [hml]; exact hl.1) rfl dS_init_1 (Nat.le_of_ble_eq_true rfl) (Nat.le_of_ble_eq_true rfl) ?_
  refine W.eq (g2 := F0 m 4 ls []) rfl ?_
  refine lv_aload_n hx hb dS_init_4 rfl (lv_at hl 0 rfl) ?_
  refine lv_bipush (v := (12 : Int32)) hx hb dS_init_5 (by decide) ?_
  refine nArr X K (atype := .int) (ty := .int) (M := 12) (a0 := (12, (.inl (fun _ => 0)))) (t0 := 0) (cA := ca 0) (tm1 (i := 76) rfl rfl) rfl rfl (fun _ h9 => h9) (fun _ => rfl) (by decide) (by decide) (by decide) (Nat.le_of_ble_eq_true rfl) (Nat.le_of_ble_eq_true rfl) dS_init_7 (fun q1 H K => ?_)
  refine nPutF X K hin (o := 0) (i := 1) (v := .ref q1) (fs := dfS) ftS ftS_ok nmS (by decide) rfl rfl inS (by decide) (tm1 (i := 83) rfl rfl) rfl rfl rfl rfl rfl (Nat.le_of_ble_eq_true rfl) dS_init_9 (q := h0) rfl (fun H locs K => ?_)
  refine lv_aload_n hx hb dS_init_12 rfl (lv_at hl 0 rfl) ?_
  refine lv_bipush (v := (12 : Int32)) hx hb dS_init_13 (by decide) ?_
  refine nArr X K (atype := .boolean) (ty := .boolean) (M := 12) (a0 := (12, (.inl (fun _ => 0)))) (t0 := 1) (cA := ca 1) (tm1 (i := 77) rfl rfl) rfl rfl (fun _ h9 => h9) (fun _ => rfl) (by decide) (by decide) (by decide) (Nat.le_of_ble_eq_true rfl) (Nat.le_of_ble_eq_true rfl) dS_init_15 (fun q2 H K => ?_)
  refine nPutF X K hin (o := 0) (i := 2) (v := .ref q2) (fs := [.int 0, .ref q1, .null, .null, .null, .null, .int 0, .null, .null, .int 0, .null, .null, .null, .null, .int 0, .int 0, .null]) ftS ftS_ok nmS (by decide) rfl rfl inS (by decide) (tm1 (i := 84) rfl rfl) rfl rfl rfl rfl rfl (Nat.le_of_ble_eq_true rfl) dS_init_17 (q := h0) rfl (fun H locs K => ?_)
  refine lv_aload_n hx hb dS_init_20 rfl (lv_at hl 0 rfl) ?_
  refine lv_bipush (v := (12 : Int32)) hx hb dS_init_21 (by decide) ?_
  refine nArr X K (atype := .boolean) (ty := .boolean) (M := 12) (a0 := (12, (.inl (fun _ => 0)))) (t0 := 1) (cA := ca 1) (tm1 (i := 77) rfl rfl) rfl rfl (fun _ h9 => h9) (fun _ => rfl) (by decide) (by decide) (by decide) (Nat.le_of_ble_eq_true rfl) (Nat.le_of_ble_eq_true rfl) dS_init_23 (fun q3 H K => ?_)
  refine nPutF X K hin (o := 0) (i := 3) (v := .ref q3) (fs := [.int 0, .ref q1, .ref q2, .null, .null, .null, .int 0, .null, .null, .int 0, .null, .null, .null, .null, .int 0, .int 0, .null]) ftS ftS_ok nmS (by decide) rfl rfl inS (by decide) (tm1 (i := 85) rfl rfl) rfl rfl rfl rfl rfl (Nat.le_of_ble_eq_true rfl) dS_init_25 (q := h0) rfl (fun H locs K => ?_)
  refine lv_aload_n hx hb dS_init_28 rfl (lv_at hl 0 rfl) ?_
  refine lv_bipush (v := (12 : Int32)) hx hb dS_init_29 (by decide) ?_
  refine nArr X K (atype := .int) (ty := .int) (M := 12) (a0 := (12, (.inl (fun _ => 0)))) (t0 := 0) (cA := ca 0) (tm1 (i := 76) rfl rfl) rfl rfl (fun _ h9 => h9) (fun _ => rfl) (by decide) (by decide) (by decide) (Nat.le_of_ble_eq_true rfl) (Nat.le_of_ble_eq_true rfl) dS_init_31 (fun q4 H K => ?_)
  refine nPutF X K hin (o := 0) (i := 4) (v := .ref q4) (fs := [.int 0, .ref q1, .ref q2, .ref q3, .null, .null, .int 0, .null, .null, .int 0, .null, .null, .null, .null, .int 0, .int 0, .null]) ftS ftS_ok nmS (by decide) rfl rfl inS (by decide) (tm1 (i := 86) rfl rfl) rfl rfl rfl rfl rfl (Nat.le_of_ble_eq_true rfl) dS_init_33 (q := h0) rfl (fun H locs K => ?_)
  refine lv_aload_n hx hb dS_init_36 rfl (lv_at hl 0 rfl) ?_
  refine lv_bipush (v := (12 : Int32)) hx hb dS_init_37 (by decide) ?_
  refine lv_bipush (v := (6 : Int32)) hx hb dS_init_39 (by decide) ?_
  refine nMulti X K (ty := .int) (M := 12) (K' := 6) (z := (6, (.inl (fun _ => 0)))) (t0 := 3) (t1 := 0) (cA := ca 3) (cy := ca 0) (tm1 (i := 22) rfl rfl) ho1 (tm1 (i := 76) rfl rfl) rfl rfl (fun _ h9 => h9) (by decide) (by decide) (by decide) (by decide) (by decide) (by decide) (by decide) rfl rfl (Nat.le_of_ble_eq_true rfl) (Nat.le_of_ble_eq_true rfl) (fun c9 => innerC_i c9 6) dS_init_41 (fun q5 r5 H K => ?_)
  refine nPutF X K hin (o := 0) (i := 5) (v := .ref q5) (fs := [.int 0, .ref q1, .ref q2, .ref q3, .ref q4, .null, .int 0, .null, .null, .int 0, .null, .null, .null, .null, .int 0, .int 0, .null]) ftS ftS_ok nmS (by decide) rfl rfl inS (by decide) (tm1 (i := 87) rfl rfl) rfl rfl rfl rfl rfl (Nat.le_of_ble_eq_true rfl) dS_init_45 (q := h0) rfl (fun H locs K => ?_)
  refine lv_aload_n hx hb dS_init_48 rfl (lv_at hl 0 rfl) ?_
  refine lv_bipush (v := (6 : Int32)) hx hb dS_init_49 (by decide) ?_
  refine nArr X K (atype := .int) (ty := .int) (M := 6) (a0 := (6, (.inl (fun _ => 0)))) (t0 := 0) (cA := ca 0) (tm1 (i := 76) rfl rfl) rfl rfl (fun _ h9 => h9) (fun _ => rfl) (by decide) (by decide) (by decide) (Nat.le_of_ble_eq_true rfl) (Nat.le_of_ble_eq_true rfl) dS_init_51 (fun q6 H K => ?_)
  refine nPutF X K hin (o := 0) (i := 7) (v := .ref q6) (fs := [.int 0, .ref q1, .ref q2, .ref q3, .ref q4, .ref q5, .int 0, .null, .null, .int 0, .null, .null, .null, .null, .int 0, .int 0, .null]) ftS ftS_ok nmS (by decide) rfl rfl inS (by decide) (tm1 (i := 89) rfl rfl) rfl rfl rfl rfl rfl (Nat.le_of_ble_eq_true rfl) dS_init_53 (q := h0) rfl (fun H locs K => ?_)
  refine lv_aload_n hx hb dS_init_56 rfl (lv_at hl 0 rfl) ?_
  refine lv_bipush (v := (6 : Int32)) hx hb dS_init_57 (by decide) ?_
  refine nArr X K (atype := .boolean) (ty := .boolean) (M := 6) (a0 := (6, (.inl (fun _ => 0)))) (t0 := 1) (cA := ca 1) (tm1 (i := 77) rfl rfl) rfl rfl (fun _ h9 => h9) (fun _ => rfl) (by decide) (by decide) (by decide) (Nat.le_of_ble_eq_true rfl) (Nat.le_of_ble_eq_true rfl) dS_init_59 (fun q7 H K => ?_)
  refine nPutF X K hin (o := 0) (i := 8) (v := .ref q7) (fs := [.int 0, .ref q1, .ref q2, .ref q3, .ref q4, .ref q5, .int 0, .ref q6, .null, .int 0, .null, .null, .null, .null, .int 0, .int 0, .null]) ftS ftS_ok nmS (by decide) rfl rfl inS (by decide) (tm1 (i := 90) rfl rfl) rfl rfl rfl rfl rfl (Nat.le_of_ble_eq_true rfl) dS_init_61 (q := h0) rfl (fun H locs K => ?_)
  refine lv_aload_n hx hb dS_init_64 rfl (lv_at hl 0 rfl) ?_
  refine lv_bipush (v := (10 : Int32)) hx hb dS_init_65 (by decide) ?_
  refine nArr X K (atype := .int) (ty := .int) (M := 10) (a0 := (10, (.inl (fun _ => 0)))) (t0 := 0) (cA := ca 0) (tm1 (i := 76) rfl rfl) rfl rfl (fun _ h9 => h9) (fun _ => rfl) (by decide) (by decide) (by decide) (Nat.le_of_ble_eq_true rfl) (Nat.le_of_ble_eq_true rfl) dS_init_67 (fun q8 H K => ?_)
  refine nPutF X K hin (o := 0) (i := 10) (v := .ref q8) (fs := [.int 0, .ref q1, .ref q2, .ref q3, .ref q4, .ref q5, .int 0, .ref q6, .ref q7, .int 0, .null, .null, .null, .null, .int 0, .int 0, .null]) ftS ftS_ok nmS (by decide) rfl rfl inS (by decide) (tm1 (i := 92) rfl rfl) rfl rfl rfl rfl rfl (Nat.le_of_ble_eq_true rfl) dS_init_69 (q := h0) rfl (fun H locs K => ?_)
  refine lv_aload_n hx hb dS_init_72 rfl (lv_at hl 0 rfl) ?_
  refine lv_bipush (v := (10 : Int32)) hx hb dS_init_73 (by decide) ?_
  refine nArr X K (atype := .int) (ty := .int) (M := 10) (a0 := (10, (.inl (fun _ => 0)))) (t0 := 0) (cA := ca 0) (tm1 (i := 76) rfl rfl) rfl rfl (fun _ h9 => h9) (fun _ => rfl) (by decide) (by decide) (by decide) (Nat.le_of_ble_eq_true rfl) (Nat.le_of_ble_eq_true rfl) dS_init_75 (fun q9 H K => ?_)
  refine nPutF X K hin (o := 0) (i := 11) (v := .ref q9) (fs := [.int 0, .ref q1, .ref q2, .ref q3, .ref q4, .ref q5, .int 0, .ref q6, .ref q7, .int 0, .ref q8, .null, .null, .null, .int 0, .int 0, .null]) ftS ftS_ok nmS (by decide) rfl rfl inS (by decide) (tm1 (i := 93) rfl rfl) rfl rfl rfl rfl rfl (Nat.le_of_ble_eq_true rfl) dS_init_77 (q := h0) rfl (fun H locs K => ?_)
  refine lv_aload_n hx hb dS_init_80 rfl (lv_at hl 0 rfl) ?_
  refine lv_bipush (v := (10 : Int32)) hx hb dS_init_81 (by decide) ?_
  refine nArr X K (atype := .int) (ty := .int) (M := 10) (a0 := (10, (.inl (fun _ => 0)))) (t0 := 0) (cA := ca 0) (tm1 (i := 76) rfl rfl) rfl rfl (fun _ h9 => h9) (fun _ => rfl) (by decide) (by decide) (by decide) (Nat.le_of_ble_eq_true rfl) (Nat.le_of_ble_eq_true rfl) dS_init_83 (fun q10 H K => ?_)
  refine nPutF X K hin (o := 0) (i := 12) (v := .ref q10) (fs := [.int 0, .ref q1, .ref q2, .ref q3, .ref q4, .ref q5, .int 0, .ref q6, .ref q7, .int 0, .ref q8, .ref q9, .null, .null, .int 0, .int 0, .null]) ftS ftS_ok nmS (by decide) rfl rfl inS (by decide) (tm1 (i := 94) rfl rfl) rfl rfl rfl rfl rfl (Nat.le_of_ble_eq_true rfl) dS_init_85 (q := h0) rfl (fun H locs K => ?_)
  refine lv_aload_n hx hb dS_init_88 rfl (lv_at hl 0 rfl) ?_
  refine lv_bipush (v := (16 : Int32)) hx hb dS_init_89 (by decide) ?_
  refine nArr X K (atype := .int) (ty := .int) (M := 16) (a0 := (16, (.inl (fun _ => 0)))) (t0 := 0) (cA := ca 0) (tm1 (i := 76) rfl rfl) rfl rfl (fun _ h9 => h9) (fun _ => rfl) (by decide) (by decide) (by decide) (Nat.le_of_ble_eq_true rfl) (Nat.le_of_ble_eq_true rfl) dS_init_91 (fun q11 H K => ?_)
  refine nPutF X K hin (o := 0) (i := 13) (v := .ref q11) (fs := [.int 0, .ref q1, .ref q2, .ref q3, .ref q4, .ref q5, .int 0, .ref q6, .ref q7, .int 0, .ref q8, .ref q9, .ref q10, .null, .int 0, .int 0, .null]) ftS ftS_ok nmS (by decide) rfl rfl inS (by decide) (tm1 (i := 95) rfl rfl) rfl rfl rfl rfl rfl (Nat.le_of_ble_eq_true rfl) dS_init_93 (q := h0) rfl (fun H locs K => ?_)
  refine lv_aload_n hx hb dS_init_96 rfl (lv_at hl 0 rfl) ?_
  refine lv_iconst (v := (0 : Int32)) hx hb dS_init_97 (by decide) ?_
  refine nPut X K (o := 0) (i := 14) (v := .int (0 : Int32)) (fs := [.int 0, .ref q1, .ref q2, .ref q3, .ref q4, .ref q5, .int 0, .ref q6, .ref q7, .int 0, .ref q8, .ref q9, .ref q10, .ref q11, .int 0, .int 0, .null]) ftS ftS_ok nmS (by decide) rfl rfl inS (by decide) (tm1 (i := 96) rfl rfl) rfl rfl rfl rfl (Nat.le_of_ble_eq_true rfl) dS_init_98 (q := h0) rfl (fun H locs K => ?_)
  refine lv_aload_n hx hb dS_init_101 rfl (lv_at hl 0 rfl) ?_
  refine lv_bipush (v := (10 : Int32)) hx hb dS_init_102 (by decide) ?_
  refine nPut X K (o := 0) (i := 15) (v := .int (10 : Int32)) (fs := [.int 0, .ref q1, .ref q2, .ref q3, .ref q4, .ref q5, .int 0, .ref q6, .ref q7, .int 0, .ref q8, .ref q9, .ref q10, .ref q11, .int (0 : Int32), .int 0, .null]) ftS ftS_ok nmS (by decide) rfl rfl inS (by decide) (tm1 (i := 97) rfl rfl) rfl rfl rfl rfl (Nat.le_of_ble_eq_true rfl) dS_init_104 (q := h0) rfl (fun H locs K => ?_)
  refine lv_aload_n hx hb dS_init_107 rfl (lv_at hl 0 rfl) ?_
  refine nNew X K (ci := 0) (fs := dfP) ftP inP ftP_ok (tm1 (i := 24) rfl rfl) (tm1 (i := 25) rfl rfl) (tm1 (i := 2) rfl rfl) rfl (fun j hj => by revert j hj; decide) (Nat.le_of_ble_eq_true rfl) (Nat.le_of_ble_eq_true rfl) dS_init_108 (fun q12 H K => ?_)
  refine lv_dup hx hb dS_init_111 rfl ?_
  refine nInit X K ho1 ho2 (N0 := 24) (ci := 0) (fs := dfP) (rest := [.ref q12, .ref h0]) rfl (met_P_init hl9 D ca sa _ _ (fun adP f1 a1 b1 => poP f1 a1 b1) hP9) (tm1 (i := 26) rfl rfl) (tm1 (i := 27) rfl rfl) (tm1 (i := 2) rfl rfl) (tm1 (i := 28) rfl rfl) rfl ⟨by decide, by decide, by decide +kernel⟩ rfl rfl ⟨Nat.le_of_ble_eq_true rfl, Nat.le_of_ble_eq_true rfl⟩ hl.1 (Nat.le_of_ble_eq_true rfl) dS_init_112 ⟨Nat.le_of_ble_eq_true rfl, Nat.le_of_ble_eq_true rfl⟩ rfl (fun adP fP aP bP H locs had hpo K => ?_)
  refine nPutF X K hin (o := 0) (i := 16) (v := .ref q12) (fs := [.int 0, .ref q1, .ref q2, .ref q3, .ref q4, .ref q5, .int 0, .ref q6, .ref q7, .int 0, .ref q8, .ref q9, .ref q10, .ref q11, .int (0 : Int32), .int (10 : Int32), .null]) ftS ftS_ok nmS (by decide) rfl rfl inS (by decide) (tm1 (i := 98) rfl rfl) rfl rfl rfl rfl rfl (Nat.le_of_ble_eq_true rfl) dS_init_115 (q := h0) rfl (fun H locs K => ?_)
  have had0 : ∃ ad9 : Nat → Nat, ad9 = (fun j => if j < 24 then (va_up (va_up (va_up (va_up (va_up (va_up (va_up (fun j => if j < 5 + 1 then va_up (va_up (va_up (va_up (va_up (fun _ => h0) 1 q1) 2 q2) 3 q3) 4 q4) 5 q5 j else r5 (j - (5 + 1))) 18 q6) 19 q7) 20 q8) 21 q9) 22 q10) 23 q11) 24 q12) j else adP (j - 24)) := ⟨_, rfl⟩
  obtain ⟨ad, had9⟩ := had0
  have hr5 : ∀ i, i < 12 → ad (6 + i) = r5 i := fun i hi => by
    rw [had9]
    match i, hi with
    | 0, _ => rfl
    | 1, _ => rfl
    | 2, _ => rfl
    | 3, _ => rfl
    | 4, _ => rfl
    | 5, _ => rfl
    | 6, _ => rfl
    | 7, _ => rfl
    | 8, _ => rfl
    | 9, _ => rfl
    | 10, _ => rfl
    | 11, _ => rfl
    | i + 12, hi => exact absurd hi (by omega)
  have hkk : ∀ j, j < 57 → kS ad ca (fun j => if j < 5 then (va_up (va_up (fun _ => 0) 3 ((0 : Int32))) 4 ((10 : Int32))) j else fP (j - 5)) (fun j => if j < 24 then (fun _ => 0) else aP (j - 24)) (fun j => if j < 24 then (fun _ => 0) else bP (j - 24)) j = (va_up (fun j => if j < 24 then (va_up (va_up (va_up (va_up (va_up (va_up (va_up (va_up (va_up (va_up (va_up (va_up (va_up (va_up (va_up (va_up (fun j => if j < 5 + 1 then va_up (va_up (va_up (va_up (va_up (va_up (va_up (va_up (va_up (fun _ => .inr (1, dfS)) 1 (.inl (ca 0, 12, (.inl (fun _ => 0))))) 0 (.inr (1, [.int 0, .ref q1, .null, .null, .null, .null, .int 0, .null, .null, .int 0, .null, .null, .null, .null, .int 0, .int 0, .null]))) 2 (.inl (ca 1, 12, (.inl (fun _ => 0))))) 0 (.inr (1, [.int 0, .ref q1, .ref q2, .null, .null, .null, .int 0, .null, .null, .int 0, .null, .null, .null, .null, .int 0, .int 0, .null]))) 3 (.inl (ca 1, 12, (.inl (fun _ => 0))))) 0 (.inr (1, [.int 0, .ref q1, .ref q2, .ref q3, .null, .null, .int 0, .null, .null, .int 0, .null, .null, .null, .null, .int 0, .int 0, .null]))) 4 (.inl (ca 0, 12, (.inl (fun _ => 0))))) 0 (.inr (1, [.int 0, .ref q1, .ref q2, .ref q3, .ref q4, .null, .int 0, .null, .null, .int 0, .null, .null, .null, .null, .int 0, .int 0, .null]))) 5 (.inl (ca 3, 12, .inr (.inr (.inr (.inr (fun i => if i < 12 then some (r5 i) else none)))))) j else .inl (ca 0, 6, (.inl (fun _ => 0)))) 0 (.inr (1, [.int 0, .ref q1, .ref q2, .ref q3, .ref q4, .ref q5, .int 0, .null, .null, .int 0, .null, .null, .null, .null, .int 0, .int 0, .null]))) 18 (.inl (ca 0, 6, (.inl (fun _ => 0))))) 0 (.inr (1, [.int 0, .ref q1, .ref q2, .ref q3, .ref q4, .ref q5, .int 0, .ref q6, .null, .int 0, .null, .null, .null, .null, .int 0, .int 0, .null]))) 19 (.inl (ca 1, 6, (.inl (fun _ => 0))))) 0 (.inr (1, [.int 0, .ref q1, .ref q2, .ref q3, .ref q4, .ref q5, .int 0, .ref q6, .ref q7, .int 0, .null, .null, .null, .null, .int 0, .int 0, .null]))) 20 (.inl (ca 0, 10, (.inl (fun _ => 0))))) 0 (.inr (1, [.int 0, .ref q1, .ref q2, .ref q3, .ref q4, .ref q5, .int 0, .ref q6, .ref q7, .int 0, .ref q8, .null, .null, .null, .int 0, .int 0, .null]))) 21 (.inl (ca 0, 10, (.inl (fun _ => 0))))) 0 (.inr (1, [.int 0, .ref q1, .ref q2, .ref q3, .ref q4, .ref q5, .int 0, .ref q6, .ref q7, .int 0, .ref q8, .ref q9, .null, .null, .int 0, .int 0, .null]))) 22 (.inl (ca 0, 10, (.inl (fun _ => 0))))) 0 (.inr (1, [.int 0, .ref q1, .ref q2, .ref q3, .ref q4, .ref q5, .int 0, .ref q6, .ref q7, .int 0, .ref q8, .ref q9, .ref q10, .null, .int 0, .int 0, .null]))) 23 (.inl (ca 0, 16, (.inl (fun _ => 0))))) 0 (.inr (1, [.int 0, .ref q1, .ref q2, .ref q3, .ref q4, .ref q5, .int 0, .ref q6, .ref q7, .int 0, .ref q8, .ref q9, .ref q10, .ref q11, .int 0, .int 0, .null]))) 0 (.inr (1, [.int 0, .ref q1, .ref q2, .ref q3, .ref q4, .ref q5, .int 0, .ref q6, .ref q7, .int 0, .ref q8, .ref q9, .ref q10, .ref q11, .int (0 : Int32), .int 0, .null]))) 0 (.inr (1, [.int 0, .ref q1, .ref q2, .ref q3, .ref q4, .ref q5, .int 0, .ref q6, .ref q7, .int 0, .ref q8, .ref q9, .ref q10, .ref q11, .int (0 : Int32), .int (10 : Int32), .null]))) 24 (.inr (0, dfP))) j else kP adP ca fP aP bP (j - 24)) 0 (.inr (1, [.int 0, .ref q1, .ref q2, .ref q3, .ref q4, .ref q5, .int 0, .ref q6, .ref q7, .int 0, .ref q8, .ref q9, .ref q10, .ref q11, .int (0 : Int32), .int (10 : Int32), .ref q12]))) j := by
    intro j hj
    by_cases h9 : j < 24
    · match j, h9 with
      | 0, _ =>
        have e24 : ad 24 = q12 := by rw [had9]; exact had.trans rfl
        show (Sum.inr (1, flS_o0 ad _) : va_E) = _
        unfold flS_o0
        rw [e24, had9]
        rfl
      | 1, _ => rfl
      | 2, _ => rfl
      | 3, _ => rfl
      | 4, _ => rfl
      | 5, _ => exact congrArg (fun g9 : Nat → Option Nat => (Sum.inl (ca 3, 12, .inr (.inr (.inr (.inr g9)))) : va_E)) (funext (fun i => by
          show (if i < 12 then some (ad (6 + i)) else none) = (if i < 12 then some (r5 i) else none)
          by_cases h : i < 12
          · rw [if_pos h, if_pos h, hr5 i h]
          · rw [if_neg h, if_neg h]))
      | 6, _ => rfl
      | 7, _ => rfl
      | 8, _ => rfl
      | 9, _ => rfl
      | 10, _ => rfl
      | 11, _ => rfl
      | 12, _ => rfl
      | 13, _ => rfl
      | 14, _ => rfl
      | 15, _ => rfl
      | 16, _ => rfl
      | 17, _ => rfl
      | 18, _ => rfl
      | 19, _ => rfl
      | 20, _ => rfl
      | 21, _ => rfl
      | 22, _ => rfl
      | 23, _ => rfl
      | j + 24, h9 => exact absurd h9 (by omega)
    · rw [va_up_ne _ _ (show j ≠ 0 by omega)]
      simp only [if_neg h9]
      exact kS_subP (ad := ad) (adP := adP) (by omega) (by omega) (fun i hi => by rw [had9]; simp only [if_neg (show ¬ 24 + i < 24 by omega)]; rw [Nat.add_sub_cancel_left]) (fun i => by show (if 5 + i < 5 then _ else fP (5 + i - 5)) = fP i; rw [if_neg (by omega), Nat.add_sub_cancel_left]) (fun i => by show (if 24 + i < 24 then _ else aP (24 + i - 24)) = aP i; rw [if_neg (by omega), Nat.add_sub_cancel_left]) (fun i => by show (if 24 + i < 24 then _ else bP (24 + i - 24)) = bP i; rw [if_neg (by omega), Nat.add_sub_cancel_left])
  have K9 : wk D vwCl ad (kS ad ca (fun j => if j < 5 then (va_up (va_up (fun _ => 0) 3 ((0 : Int32))) 4 ((10 : Int32))) j else fP (j - 5)) (fun j => if j < 24 then (fun _ => 0) else aP (j - 24)) (fun j => if j < 24 then (fun _ => 0) else bP (j - 24))) 57 _ s H _ := wk_eq K (fun j _ => by rw [had9]) hkk
  have h00 : ad 0 = h0 := by rw [had9]; rfl
  rw [← h00] at hl
  refine W_mono (fun t h9 => endC h00 t h9) ?_
  have e0 : ([Value.ref h0] : List Value).toArray = ([Value.ref (ad 0)] : List Value).toArray := by rw [h00]
  rw [e0] at X ⊢
  exact st_S_init X hr _ _ _ (hw ad fP aP bP hpo) H _ K9 ls hl
