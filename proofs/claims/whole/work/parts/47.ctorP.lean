abbrev nP : Nat := 33
def kdP (j : Nat) : Nat := ([0, 2, 6, 4, 4, 4, 4, 4, 4, 4, 4, 4, 4, 6, 4, 4, 4, 4, 4, 4, 4, 4, 4, 4, 2, 2, 2, 3, 4, 4, 2, 4, 4] : List Nat).getD j 9
def lnP (j : Nat) : Nat := ([0, 10, 10, 12, 12, 12, 12, 12, 12, 12, 12, 12, 12, 10, 12, 12, 12, 12, 12, 12, 12, 12, 12, 12, 10, 12, 10, 10, 10, 10, 12, 12, 12] : List Nat).getD j 0
def rbP (j : Nat) : Nat := ([0, 0, 3, 0, 0, 0, 0, 0, 0, 0, 0, 0, 0, 14, 0, 0, 0, 0, 0, 0, 0, 0, 0, 0, 0, 0, 0, 0, 0, 0, 0, 0, 0] : List Nat).getD j 0
def tyP (ca : Nat → ClassId) : List (ClassId × FieldType) := [(ca 0, .int), (ca 1, .boolean), (ca 2, .long), (ca 3, .array .int), (ca 4, .array .long)]
def flP_o0 (ad : Nat → Nat) (f : wF) : List Value := [.int (f 0), .int (f 1), .ref (ad 1), .ref (ad 2), .ref (ad 13), .ref (ad 24), .ref (ad 25), .ref (ad 26), .ref (ad 27), .ref (ad 28), .ref (ad 29), .ref (ad 30), .ref (ad 31), .ref (ad 32)]
def kP : wL := fun ad ca f a b j => if j = 0 then .inr (0, flP_o0 ad f) else match kdP j with | 2 => .inl (ca 0, lnP j, .inl (a j)) | 3 => .inl (ca 1, lnP j, .inl (a j)) | 4 => .inl (ca 2, lnP j, .inr (.inl (b j))) | 5 => .inl (ca 3, lnP j, .inr (.inr (.inr (.inr (fun i => if i < lnP j then some (ad (rbP j + i)) else none))))) | _ => .inl (ca 4, lnP j, .inr (.inr (.inr (.inr (fun i => if i < lnP j then some (ad (rbP j + i)) else none)))))
theorem kP_2 {ad : Nat → Nat} {ca : Nat → ClassId} {f : wF} {a : wA} {b : wB} {j : Nat} (h0 : j ≠ 0) (h : kdP j = 2) : kP ad ca f a b j = .inl (ca 0, lnP j, .inl (a j)) := by
  unfold kP
  rw [if_neg h0, h]
  rfl
theorem kP_3 {ad : Nat → Nat} {ca : Nat → ClassId} {f : wF} {a : wA} {b : wB} {j : Nat} (h0 : j ≠ 0) (h : kdP j = 3) : kP ad ca f a b j = .inl (ca 1, lnP j, .inl (a j)) := by
  unfold kP
  rw [if_neg h0, h]
  rfl
theorem kP_4 {ad : Nat → Nat} {ca : Nat → ClassId} {f : wF} {a : wA} {b : wB} {j : Nat} (h0 : j ≠ 0) (h : kdP j = 4) : kP ad ca f a b j = .inl (ca 2, lnP j, .inr (.inl (b j))) := by
  unfold kP
  rw [if_neg h0, h]
  rfl
theorem kP_up2 {ad : Nat → Nat} {ca : Nat → ClassId} {f : wF} {a : wA} {b : wB} {j : Nat} {g : Nat → Int32} (h0 : j ≠ 0) (h : kdP j = 2) : va_up (kP ad ca f a b) j (.inl (ca 0, lnP j, .inl g)) = kP ad ca f (va_up a j g) b := by
  funext i
  by_cases e : i = j
  · subst e
    rw [va_up_self, kP_2 h0 h, va_up_self]
  · rw [va_up_ne _ _ e]
    unfold kP
    rw [va_up_ne _ _ e]
theorem kP_up3 {ad : Nat → Nat} {ca : Nat → ClassId} {f : wF} {a : wA} {b : wB} {j : Nat} {g : Nat → Int32} (h0 : j ≠ 0) (h : kdP j = 3) : va_up (kP ad ca f a b) j (.inl (ca 1, lnP j, .inl g)) = kP ad ca f (va_up a j g) b := by
  funext i
  by_cases e : i = j
  · subst e
    rw [va_up_self, kP_3 h0 h, va_up_self]
  · rw [va_up_ne _ _ e]
    unfold kP
    rw [va_up_ne _ _ e]
theorem kP_up4 {ad : Nat → Nat} {ca : Nat → ClassId} {f : wF} {a : wA} {b : wB} {j : Nat} {g : Nat → Int64} (h0 : j ≠ 0) (h : kdP j = 4) : va_up (kP ad ca f a b) j (.inl (ca 2, lnP j, .inr (.inl g))) = kP ad ca f a (va_up b j g) := by
  funext i
  by_cases e : i = j
  · subst e
    rw [va_up_self, kP_4 h0 h, va_up_self]
  · rw [va_up_ne _ _ e]
    unfold kP
    rw [va_up_ne _ _ e]
theorem kP_o0 {ad : Nat → Nat} {ca : Nat → ClassId} {f : wF} {a : wA} {b : wB} : kP ad ca f a b 0 = .inr (0, flP_o0 ad f) := rfl
theorem kP_u0_0 {ad : Nat → Nat} {ca : Nat → ClassId} {f : wF} {a : wA} {b : wB} {x : Int32} : va_up (kP ad ca f a b) 0 (.inr (0, (flP_o0 ad f).set 0 (.int x))) = kP ad ca (va_up f 0 x) a b := by
  funext i
  by_cases e : i = 0
  · subst e
    rw [va_up_self]
    unfold kP
    simp [flP_o0, va_up]
  · rw [va_up_ne _ _ e]
    unfold kP
    rw [if_neg e, if_neg e]
theorem kP_u0_1 {ad : Nat → Nat} {ca : Nat → ClassId} {f : wF} {a : wA} {b : wB} {x : Int32} : va_up (kP ad ca f a b) 0 (.inr (0, (flP_o0 ad f).set 1 (.int x))) = kP ad ca (va_up f 1 x) a b := by
  funext i
  by_cases e : i = 0
  · subst e
    rw [va_up_self]
    unfold kP
    simp [flP_o0, va_up]
  · rw [va_up_ne _ _ e]
    unfold kP
    rw [if_neg e, if_neg e]
theorem kP_c1 {ad : Nat → Nat} {ca : Nat → ClassId} {f : wF} {a : wA} {b : wB} : kP ad ca f a b 1 = .inl (ca 0, 10, .inl (a 1)) := kP_2 (j := 1) (by decide) rfl
theorem kP_p1 {ad : Nat → Nat} {ca : Nat → ClassId} {f : wF} {a : wA} {b : wB} {g : Nat → Int32} : va_up (kP ad ca f a b) 1 (.inl (ca 0, 10, .inl g)) = kP ad ca f (va_up a 1 g) b := kP_up2 (j := 1) (by decide) rfl
theorem kP_c24 {ad : Nat → Nat} {ca : Nat → ClassId} {f : wF} {a : wA} {b : wB} : kP ad ca f a b 24 = .inl (ca 0, 10, .inl (a 24)) := kP_2 (j := 24) (by decide) rfl
theorem kP_p24 {ad : Nat → Nat} {ca : Nat → ClassId} {f : wF} {a : wA} {b : wB} {g : Nat → Int32} : va_up (kP ad ca f a b) 24 (.inl (ca 0, 10, .inl g)) = kP ad ca f (va_up a 24 g) b := kP_up2 (j := 24) (by decide) rfl
theorem kP_c25 {ad : Nat → Nat} {ca : Nat → ClassId} {f : wF} {a : wA} {b : wB} : kP ad ca f a b 25 = .inl (ca 0, 12, .inl (a 25)) := kP_2 (j := 25) (by decide) rfl
theorem kP_p25 {ad : Nat → Nat} {ca : Nat → ClassId} {f : wF} {a : wA} {b : wB} {g : Nat → Int32} : va_up (kP ad ca f a b) 25 (.inl (ca 0, 12, .inl g)) = kP ad ca f (va_up a 25 g) b := kP_up2 (j := 25) (by decide) rfl
theorem kP_c26 {ad : Nat → Nat} {ca : Nat → ClassId} {f : wF} {a : wA} {b : wB} : kP ad ca f a b 26 = .inl (ca 0, 10, .inl (a 26)) := kP_2 (j := 26) (by decide) rfl
theorem kP_p26 {ad : Nat → Nat} {ca : Nat → ClassId} {f : wF} {a : wA} {b : wB} {g : Nat → Int32} : va_up (kP ad ca f a b) 26 (.inl (ca 0, 10, .inl g)) = kP ad ca f (va_up a 26 g) b := kP_up2 (j := 26) (by decide) rfl
theorem kP_c27 {ad : Nat → Nat} {ca : Nat → ClassId} {f : wF} {a : wA} {b : wB} : kP ad ca f a b 27 = .inl (ca 1, 10, .inl (a 27)) := kP_3 (j := 27) (by decide) rfl
theorem kP_p27 {ad : Nat → Nat} {ca : Nat → ClassId} {f : wF} {a : wA} {b : wB} {g : Nat → Int32} : va_up (kP ad ca f a b) 27 (.inl (ca 1, 10, .inl g)) = kP ad ca f (va_up a 27 g) b := kP_up3 (j := 27) (by decide) rfl
theorem kP_c28 {ad : Nat → Nat} {ca : Nat → ClassId} {f : wF} {a : wA} {b : wB} : kP ad ca f a b 28 = .inl (ca 2, 10, .inr (.inl (b 28))) := kP_4 (j := 28) (by decide) rfl
theorem kP_p28 {ad : Nat → Nat} {ca : Nat → ClassId} {f : wF} {a : wA} {b : wB} {g : Nat → Int64} : va_up (kP ad ca f a b) 28 (.inl (ca 2, 10, .inr (.inl g))) = kP ad ca f a (va_up b 28 g) := kP_up4 (j := 28) (by decide) rfl
theorem kP_c29 {ad : Nat → Nat} {ca : Nat → ClassId} {f : wF} {a : wA} {b : wB} : kP ad ca f a b 29 = .inl (ca 2, 10, .inr (.inl (b 29))) := kP_4 (j := 29) (by decide) rfl
theorem kP_p29 {ad : Nat → Nat} {ca : Nat → ClassId} {f : wF} {a : wA} {b : wB} {g : Nat → Int64} : va_up (kP ad ca f a b) 29 (.inl (ca 2, 10, .inr (.inl g))) = kP ad ca f a (va_up b 29 g) := kP_up4 (j := 29) (by decide) rfl
theorem kP_c30 {ad : Nat → Nat} {ca : Nat → ClassId} {f : wF} {a : wA} {b : wB} : kP ad ca f a b 30 = .inl (ca 0, 12, .inl (a 30)) := kP_2 (j := 30) (by decide) rfl
theorem kP_p30 {ad : Nat → Nat} {ca : Nat → ClassId} {f : wF} {a : wA} {b : wB} {g : Nat → Int32} : va_up (kP ad ca f a b) 30 (.inl (ca 0, 12, .inl g)) = kP ad ca f (va_up a 30 g) b := kP_up2 (j := 30) (by decide) rfl
theorem kP_c31 {ad : Nat → Nat} {ca : Nat → ClassId} {f : wF} {a : wA} {b : wB} : kP ad ca f a b 31 = .inl (ca 2, 12, .inr (.inl (b 31))) := kP_4 (j := 31) (by decide) rfl
theorem kP_p31 {ad : Nat → Nat} {ca : Nat → ClassId} {f : wF} {a : wA} {b : wB} {g : Nat → Int64} : va_up (kP ad ca f a b) 31 (.inl (ca 2, 12, .inr (.inl g))) = kP ad ca f a (va_up b 31 g) := kP_up4 (j := 31) (by decide) rfl
theorem kP_c32 {ad : Nat → Nat} {ca : Nat → ClassId} {f : wF} {a : wA} {b : wB} : kP ad ca f a b 32 = .inl (ca 2, 12, .inr (.inl (b 32))) := kP_4 (j := 32) (by decide) rfl
theorem kP_p32 {ad : Nat → Nat} {ca : Nat → ClassId} {f : wF} {a : wA} {b : wB} {g : Nat → Int64} : va_up (kP ad ca f a b) 32 (.inl (ca 2, 12, .inr (.inl g))) = kP ad ca f a (va_up b 32 g) := kP_up4 (j := 32) (by decide) rfl
theorem kP_c2 {ad : Nat → Nat} {ca : Nat → ClassId} {f : wF} {a : wA} {b : wB} : kP ad ca f a b 2 = .inl (ca 4, 10, .inr (.inr (.inr (.inr (fun i => if i < 10 then some (ad (3 + i)) else none))))) := rfl
theorem rP_cost_k : ∀ r, r < 10 → kdP (3 + r) = 4 ∧ lnP (3 + r) = 12 ∧ 3 + r < 33 := by decide
theorem rP_cost_lt {i : Int32} (h : vp_in i 10) : 3 + i.toNatClampNeg < nP := (rP_cost_k _ (vpin_lt h)).2.2
theorem kP_r_cost {ad : Nat → Nat} {ca : Nat → ClassId} {f : wF} {a : wA} {b : wB} {i : Int32} (h : vp_in i 10) : kP ad ca f a b (3 + i.toNatClampNeg) = .inl (ca 2, 12, .inr (.inl (b (3 + i.toNatClampNeg)))) := by
  have h9 := vpin_lt h
  obtain ⟨h1, h2, h3⟩ := rP_cost_k _ h9
  rw [kP_4 (j := 3 + i.toNatClampNeg) (by omega) h1, h2]
theorem kP_q_cost {ad : Nat → Nat} {ca : Nat → ClassId} {f : wF} {a : wA} {b : wB} {i : Int32} {g : Nat → Int64} (h : vp_in i 10) : va_up (kP ad ca f a b) (3 + i.toNatClampNeg) (.inl (ca 2, 12, .inr (.inl g))) = kP ad ca f a (va_up b (3 + i.toNatClampNeg) g) := by
  have h9 := vpin_lt h
  obtain ⟨h1, h2, h3⟩ := rP_cost_k _ h9
  rw [← kP_up4 (j := 3 + i.toNatClampNeg) (g := g) (by omega) h1, h2]
theorem kP_c13 {ad : Nat → Nat} {ca : Nat → ClassId} {f : wF} {a : wA} {b : wB} : kP ad ca f a b 13 = .inl (ca 4, 10, .inr (.inr (.inr (.inr (fun i => if i < 10 then some (ad (14 + i)) else none))))) := rfl
theorem rP_tie_k : ∀ r, r < 10 → kdP (14 + r) = 4 ∧ lnP (14 + r) = 12 ∧ 14 + r < 33 := by decide
theorem rP_tie_lt {i : Int32} (h : vp_in i 10) : 14 + i.toNatClampNeg < nP := (rP_tie_k _ (vpin_lt h)).2.2
theorem kP_r_tie {ad : Nat → Nat} {ca : Nat → ClassId} {f : wF} {a : wA} {b : wB} {i : Int32} (h : vp_in i 10) : kP ad ca f a b (14 + i.toNatClampNeg) = .inl (ca 2, 12, .inr (.inl (b (14 + i.toNatClampNeg)))) := by
  have h9 := vpin_lt h
  obtain ⟨h1, h2, h3⟩ := rP_tie_k _ h9
  rw [kP_4 (j := 14 + i.toNatClampNeg) (by omega) h1, h2]
theorem kP_q_tie {ad : Nat → Nat} {ca : Nat → ClassId} {f : wF} {a : wA} {b : wB} {i : Int32} {g : Nat → Int64} (h : vp_in i 10) : va_up (kP ad ca f a b) (14 + i.toNatClampNeg) (.inl (ca 2, 12, .inr (.inl g))) = kP ad ca f a (va_up b (14 + i.toNatClampNeg) g) := by
  have h9 := vpin_lt h
  obtain ⟨h1, h2, h3⟩ := rP_tie_k _ h9
  rw [← kP_up4 (j := 14 + i.toNatClampNeg) (g := g) (by omega) h1, h2]
abbrev tP_o0 : Nat → FieldType := ftP
theorem tP_o0_ok : ∀ k, k < 14 → parseFieldDescriptor (TP k).2.2.1 = some (tP_o0 k) := ftP_ok
theorem nP_o0 : ∀ a, a < 14 → ∀ b, b < 14 → a ≠ b → (TP a).2.1 ≠ (TP b).2.1 := nmP
theorem inP_o0 : ∀ w ∈ u_ws "SendBest$Pairing" TP 14, w ∈ Wl := inP
def dfP : List Value := [.int 0, .int 0, .null, .null, .null, .null, .null, .null, .null, .null, .null, .null, .null, .null]
def wp_P_init_120 (po : wF → wA → wB → Prop) (J113 : Int64 → Int32 → wF → wA → wB → Prop) : Nat → Int64 → Int32 → Int32 → wF → wA → wB → Prop
  | 0 => fun _ _ _ _ _ _ => False
  | n + 1 => fun x1 x3 x4 f a b => ((12 : Int32) ≤ x4 → (J113 (x1 * (13 : Int64)) (x3 + (-1 : Int32)) f a b)) ∧ (¬ (12 : Int32) ≤ x4 → (vp_in x3 10 ∧ vp_in x4 12 ∧ (wp_P_init_120 po J113 n x1 x3 (x4 + (1 : Int32)) f a (va_up b (14 + x3.toNatClampNeg) (vp_updL (b (14 + x3.toNatClampNeg)) x4.toNatClampNeg (((x4 - (12 : Int32)).toInt64) * x1))))))
def wp_P_init_113 (po : wF → wA → wB → Prop) : Nat → Int64 → Int32 → wF → wA → wB → Prop
  | 0 => fun _ _ _ _ _ => False
  | n + 1 => fun x1 x3 f a b => (x3 < 0 → (po f a b)) ∧ (¬ x3 < 0 → (∃ n9, wp_P_init_120 po (wp_P_init_113 po n) n9 x1 x3 (0 : Int32) f a b))
def wp_P_init (po : wF → wA → wB → Prop)  (f : wF) (a : wA) (b : wB) : Prop := ∃ n9, wp_P_init_113 po n9 (1 : Int64) (9 : Int32) f a b
set_option maxHeartbeats 4000000 in
set_option maxRecDepth 100000 in
theorem LP_init_120 {p : Program} {l : Launch} {e : Env} {s : State} {m : MethodId} {below : List Frame} {meth : Method} {c : Code} {D : va_G} {sa : Nat → Nat} {ad : Nat → Nat} {ca : Nat → ClassId} {A : Nat → Prop} {po : wF → wA → wB → Prop} (X : cx Wl (tyS ca) txS D vwCl sa A p l s m ([.ref (ad 0)] : List Value).toArray meth c cP_init 5 "SendBest$Pairing") (hr : meth.sig.returnType = none) (J113 : Int64 → Int32 → wF → wA → wB → Prop) (hJ113 : ∀ (x1 : Int64) (x3 : Int32) (f : wF) (a : wA) (b : wB), J113 x1 x3 f a b → ∀ (H : Heap) (locs : List Loc), wd nP kP D vwCl ad ca A s H locs f a b → ∀ (ls : Array Slot), lv_has ls 5 [(0, .ref (ad 0)), (1, .long x1), (3, .int x3)] → W p l e ({ frames := 1, cells := 32, slots := 368, locals := 20 }) s m ([.ref (ad 0)] : List Value).toArray below meth c H locs 32 368 (vx_MQ below (va_Qv (fun (u : wF × wA × wB) => po u.1 u.2.1 u.2.2) (sPost nP kP D vwCl ad ca A) A) (sX nP kP D vwCl ad ca A (fun _ _ _ _ => False)) ([.ref (ad 0)] : List Value).toArray s 32 368 A) (F0 m 113 ls [])) : ∀ n : Nat, ∀ (x1 : Int64) (x3 : Int32) (x4 : Int32) (f : wF) (a : wA) (b : wB), wp_P_init_120 po J113 n x1 x3 x4 f a b → ∀ (H : Heap) (locs : List Loc), wd nP kP D vwCl ad ca A s H locs f a b → ∀ (ls : Array Slot), lv_has ls 5 [(0, .ref (ad 0)), (1, .long x1), (3, .int x3), (4, .int x4)] → W p l e ({ frames := 1, cells := 32, slots := 368, locals := 20 }) s m ([.ref (ad 0)] : List Value).toArray below meth c H locs 32 368 (vx_MQ below (va_Qv (fun (u : wF × wA × wB) => po u.1 u.2.1 u.2.2) (sPost nP kP D vwCl ad ca A) A) (sX nP kP D vwCl ad ca A (fun _ _ _ _ => False)) ([.ref (ad 0)] : List Value).toArray s 32 368 A) (F0 m 120 ls []) := by
  obtain ⟨hx, hb, hml, hown, hts, hK, hA, hth, hlk, hl9⟩ := id X
  intro n
  induction n with
  | zero => intro x1 x3 x4 f a b hw; exact hw.elim
  | succ n ih =>
    intro x1 x3 x4 f a b hw H locs K ls hl
    dsimp only [wp_P_init_120] at hw
    refine lv_iload hx hb dP_init_120 (lv_at hl 3 rfl) ?_
    refine lv_bipush (v := (12 : Int32)) hx hb dP_init_122 (by decide) ?_
    refine lv_icmp_ge (tgt := 150) hx hb dP_init_124 (by decide) (fun hc => ?_) (fun hc => ?_)
    · replace hw := hw.1 hc
      refine lv_lload_n hx hb dP_init_150 rfl (lv_at hl 1 rfl) ?_
      refine lv_ldc2 (v := (13 : Int64)) hx hb hown (hts _ (tm1 (i := 32) rfl rfl)) dP_init_151 ?_
      refine lv_lmul hx hb dP_init_154 ?_
      refine lv_lstore_n (lv' := [(1, .long (x1 * (13 : Int64))), (0, .ref (ad 0)), (3, .int x3), (4, .int x4)]) hx hb dP_init_155 rfl hl (by decide) rfl (fun ls hl => ?_)
      refine lv_iinc (v := (x3 + (-1 : Int32))) (lv' := [(3, .int (x3 + (-1 : Int32))), (1, .long (x1 * (13 : Int64))), (0, .ref (ad 0)), (4, .int x4)]) hx hb dP_init_156 hl (k := 2) rfl rfl (by decide) rfl (fun ls hl => ?_)
      refine lv_goto (tgt := 113) hx hb dP_init_159 (by decide) ?_
      exact hJ113 (x1 * (13 : Int64)) (x3 + (-1 : Int32)) f a b hw _ _ K _ (lv_sub hl [2, 1, 0] rfl)
    · replace hw := hw.2 hc
      refine lv_aload_n hx hb dP_init_127 rfl (lv_at hl 0 rfl) ?_
      refine gGet X K (o := 0) (k := 4) (v := .ref (ad 13)) (by decide) kP_o0 rfl inP_o0 (by decide) (tm1 (i := 37) rfl rfl) rfl dP_init_128 ?_
      refine lv_iload_n hx hb dP_init_131 rfl (lv_at hl 2 rfl) ?_
      obtain ⟨hi_tie, hw⟩ := hw
      refine gald X K (o := 13) (t0 := 4) (by decide) kP_c13 rfl hi_tie dP_init_132 ?_
      refine lv_iload hx hb dP_init_133 (lv_at hl 3 rfl) ?_
      refine lv_iload hx hb dP_init_135 (lv_at hl 3 rfl) ?_
      refine lv_bipush (v := (12 : Int32)) hx hb dP_init_137 (by decide) ?_
      refine lv_isub hx hb dP_init_139 ?_
      refine lv_i2l (v := (x4 - (12 : Int32)).toInt64) hx hb dP_init_140 rfl ?_
      refine lv_lload_n hx hb dP_init_141 rfl (lv_at hl 1 rfl) ?_
      refine lv_lmul hx hb dP_init_142 ?_
      obtain ⟨hi, hw⟩ := hw
      refine glst X K (o := (14 + x3.toNatClampNeg)) (t0 := 2) (rP_tie_lt hi_tie) (kP_r_tie hi_tie) rfl hi dP_init_143 (kP_q_tie hi_tie) (fun H locs K => ?_)
      refine lv_iinc (v := (x4 + (1 : Int32))) (lv' := [(4, .int (x4 + (1 : Int32))), (0, .ref (ad 0)), (1, .long x1), (3, .int x3)]) hx hb dP_init_144 hl (k := 3) rfl rfl (by decide) rfl (fun ls hl => ?_)
      refine lv_goto (tgt := 120) hx hb dP_init_147 (by decide) ?_
      exact ih x1 x3 (x4 + (1 : Int32)) f a (va_up b (14 + x3.toNatClampNeg) (vp_updL (b (14 + x3.toNatClampNeg)) x4.toNatClampNeg (((x4 - (12 : Int32)).toInt64) * x1))) hw _ _ K _ (lv_sub hl [1, 2, 3, 0] rfl)
set_option maxHeartbeats 4000000 in
set_option maxRecDepth 100000 in
theorem LP_init_113 {p : Program} {l : Launch} {e : Env} {s : State} {m : MethodId} {below : List Frame} {meth : Method} {c : Code} {D : va_G} {sa : Nat → Nat} {ad : Nat → Nat} {ca : Nat → ClassId} {A : Nat → Prop} {po : wF → wA → wB → Prop} (X : cx Wl (tyS ca) txS D vwCl sa A p l s m ([.ref (ad 0)] : List Value).toArray meth c cP_init 5 "SendBest$Pairing") (hr : meth.sig.returnType = none) : ∀ n : Nat, ∀ (x1 : Int64) (x3 : Int32) (f : wF) (a : wA) (b : wB), wp_P_init_113 po n x1 x3 f a b → ∀ (H : Heap) (locs : List Loc), wd nP kP D vwCl ad ca A s H locs f a b → ∀ (ls : Array Slot), lv_has ls 5 [(0, .ref (ad 0)), (1, .long x1), (3, .int x3)] → W p l e ({ frames := 1, cells := 32, slots := 368, locals := 20 }) s m ([.ref (ad 0)] : List Value).toArray below meth c H locs 32 368 (vx_MQ below (va_Qv (fun (u : wF × wA × wB) => po u.1 u.2.1 u.2.2) (sPost nP kP D vwCl ad ca A) A) (sX nP kP D vwCl ad ca A (fun _ _ _ _ => False)) ([.ref (ad 0)] : List Value).toArray s 32 368 A) (F0 m 113 ls []) := by
  obtain ⟨hx, hb, hml, hown, hts, hK, hA, hth, hlk, hl9⟩ := id X
  intro n
  induction n with
  | zero => intro x1 x3 f a b hw; exact hw.elim
  | succ n ih =>
    intro x1 x3 f a b hw H locs K ls hl
    dsimp only [wp_P_init_113] at hw
    refine lv_iload_n hx hb dP_init_113 rfl (lv_at hl 2 rfl) ?_
    refine lv_if_lt (tgt := 162) hx hb dP_init_114 (by decide) (fun hc => ?_) (fun hc => ?_)
    · replace hw := hw.1 hc
      exact endV X K hr hw (by decide) (by decide) dP_init_162
    · replace hw := hw.2 hc
      refine lv_iconst (v := (0 : Int32)) hx hb dP_init_117 (by decide) ?_
      refine lv_istore (lv' := [(4, .int (0 : Int32)), (0, .ref (ad 0)), (1, .long x1), (3, .int x3)]) hx hb dP_init_118 hl (by decide) rfl (fun ls hl => ?_)
      obtain ⟨n9, hw⟩ := hw
      exact LP_init_120 X hr (wp_P_init_113 po n) ih n9 x1 x3 (0 : Int32) f a b hw _ _ K _ (lv_sub hl [1, 2, 3, 0] rfl)
set_option maxHeartbeats 4000000 in
set_option maxRecDepth 100000 in
theorem st_P_init {p : Program} {l : Launch} {e : Env} {s : State} {m : MethodId} {below : List Frame} {meth : Method} {c : Code} {D : va_G} {sa : Nat → Nat} {ad : Nat → Nat} {ca : Nat → ClassId} {A : Nat → Prop} {po : wF → wA → wB → Prop} (X : cx Wl (tyS ca) txS D vwCl sa A p l s m ([.ref (ad 0)] : List Value).toArray meth c cP_init 5 "SendBest$Pairing") (hr : meth.sig.returnType = none) (f : wF) (a : wA) (b : wB) (hw : wp_P_init po f a b) (H : Heap) (locs : List Loc) (K : wd nP kP D vwCl ad ca A s H locs f a b) (ls : Array Slot) (hl : lv_has ls 5 [(0, .ref (ad 0))]) : W p l e ({ frames := 1, cells := 32, slots := 368, locals := 20 }) s m ([.ref (ad 0)] : List Value).toArray below meth c H locs 32 368 (vx_MQ below (va_Qv (fun (u : wF × wA × wB) => po u.1 u.2.1 u.2.2) (sPost nP kP D vwCl ad ca A) A) (sX nP kP D vwCl ad ca A (fun _ _ _ _ => False)) ([.ref (ad 0)] : List Value).toArray s 32 368 A) (F0 m 108 ls []) := by
  obtain ⟨hx, hb, hml, hown, hts, hK, hA, hth, hlk, hl9⟩ := id X
  dsimp only [wp_P_init] at hw
  refine lv_lconst (v := (1 : Int64)) hx hb dP_init_108 (by decide) ?_
  refine lv_lstore_n (lv' := [(1, .long (1 : Int64)), (0, .ref (ad 0))]) hx hb dP_init_109 rfl hl (by decide) rfl (fun ls hl => ?_)
  refine lv_bipush (v := (9 : Int32)) hx hb dP_init_110 (by decide) ?_
  refine lv_istore_n (lv' := [(3, .int (9 : Int32)), (1, .long (1 : Int64)), (0, .ref (ad 0))]) hx hb dP_init_112 rfl hl (by decide) rfl (fun ls hl => ?_)
  obtain ⟨n9, hw⟩ := hw
  exact LP_init_113 X hr n9 (1 : Int64) (9 : Int32) f a b hw _ _ K _ (lv_sub hl [2, 1, 0] rfl)
theorem innerC_i (c : ClassId) (n : Nat) : Jvm.Free.Multi.innerC c n (defaultValue .int) = vp_cell c (n, .inl (fun _ => 0)) := arrV_new c n _
theorem innerC_l (c : ClassId) (n : Nat) : Jvm.Free.Multi.innerC c n (defaultValue .long) = vp_cell c (n, .inr (.inl (fun _ => 0))) := arrV_new c n _
/-- the cells of the class inside, as the class's layout has them -/
theorem kS_subP {ad adP : Nat → Nat} {ca : Nat → ClassId} {f fP : wF} {a aP : wA} {b bP : wB} {j : Nat} (h1 : 24 ≤ j) (h2 : j < 57) (ha : ∀ i, i < 33 → ad (24 + i) = adP i) (hf : ∀ i, f (5 + i) = fP i) (ha2 : ∀ i, a (24 + i) = aP i) (hb : ∀ i, b (24 + i) = bP i) : kS ad ca f a b j = kP adP ca fP aP bP (j - 24) := by
  obtain ⟨i, rfl⟩ : ∃ i, j = 24 + i := ⟨j - 24, by omega⟩
  rw [Nat.add_sub_cancel_left]
  have hi : i < 33 := by omega
  match i, hi with
  | 0, _ =>
    show (Sum.inr (0, flS_o24 ad f) : va_E) = Sum.inr (0, flP_o0 adP fP)
    unfold flS_o24 flP_o0
    rw [show f 5 = fP 0 from hf 0, show f 6 = fP 1 from hf 1, show ad 25 = adP 1 from ha 1 (by decide), show ad 26 = adP 2 from ha 2 (by decide), show ad 37 = adP 13 from ha 13 (by decide), show ad 48 = adP 24 from ha 24 (by decide), show ad 49 = adP 25 from ha 25 (by decide), show ad 50 = adP 26 from ha 26 (by decide), show ad 51 = adP 27 from ha 27 (by decide), show ad 52 = adP 28 from ha 28 (by decide), show ad 53 = adP 29 from ha 29 (by decide), show ad 54 = adP 30 from ha 30 (by decide), show ad 55 = adP 31 from ha 31 (by decide), show ad 56 = adP 32 from ha 32 (by decide)]
  | 1, _ => exact congrArg (fun g : Nat → Int32 => (Sum.inl (ca 0, 10, .inl g) : va_E)) (ha2 1)
  | 2, _ => exact congrArg (fun g9 : Nat → Option Nat => (Sum.inl (ca 4, 10, .inr (.inr (.inr (.inr g9)))) : va_E)) (funext (fun i => by
      show (if i < 10 then some (ad (27 + i)) else none) = (if i < 10 then some (adP (3 + i)) else none)
      by_cases h : i < 10
      · rw [if_pos h, if_pos h, show 27 + i = 24 + (3 + i) by omega, ha (3 + i) (by omega)]
      · rw [if_neg h, if_neg h]))
  | 3, _ => exact congrArg (fun g : Nat → Int64 => (Sum.inl (ca 2, 12, .inr (.inl g)) : va_E)) (hb 3)
  | 4, _ => exact congrArg (fun g : Nat → Int64 => (Sum.inl (ca 2, 12, .inr (.inl g)) : va_E)) (hb 4)
  | 5, _ => exact congrArg (fun g : Nat → Int64 => (Sum.inl (ca 2, 12, .inr (.inl g)) : va_E)) (hb 5)
  | 6, _ => exact congrArg (fun g : Nat → Int64 => (Sum.inl (ca 2, 12, .inr (.inl g)) : va_E)) (hb 6)
  | 7, _ => exact congrArg (fun g : Nat → Int64 => (Sum.inl (ca 2, 12, .inr (.inl g)) : va_E)) (hb 7)
  | 8, _ => exact congrArg (fun g : Nat → Int64 => (Sum.inl (ca 2, 12, .inr (.inl g)) : va_E)) (hb 8)
  | 9, _ => exact congrArg (fun g : Nat → Int64 => (Sum.inl (ca 2, 12, .inr (.inl g)) : va_E)) (hb 9)
  | 10, _ => exact congrArg (fun g : Nat → Int64 => (Sum.inl (ca 2, 12, .inr (.inl g)) : va_E)) (hb 10)
  | 11, _ => exact congrArg (fun g : Nat → Int64 => (Sum.inl (ca 2, 12, .inr (.inl g)) : va_E)) (hb 11)
  | 12, _ => exact congrArg (fun g : Nat → Int64 => (Sum.inl (ca 2, 12, .inr (.inl g)) : va_E)) (hb 12)
  | 13, _ => exact congrArg (fun g9 : Nat → Option Nat => (Sum.inl (ca 4, 10, .inr (.inr (.inr (.inr g9)))) : va_E)) (funext (fun i => by
      show (if i < 10 then some (ad (38 + i)) else none) = (if i < 10 then some (adP (14 + i)) else none)
      by_cases h : i < 10
      · rw [if_pos h, if_pos h, show 38 + i = 24 + (14 + i) by omega, ha (14 + i) (by omega)]
      · rw [if_neg h, if_neg h]))
  | 14, _ => exact congrArg (fun g : Nat → Int64 => (Sum.inl (ca 2, 12, .inr (.inl g)) : va_E)) (hb 14)
  | 15, _ => exact congrArg (fun g : Nat → Int64 => (Sum.inl (ca 2, 12, .inr (.inl g)) : va_E)) (hb 15)
  | 16, _ => exact congrArg (fun g : Nat → Int64 => (Sum.inl (ca 2, 12, .inr (.inl g)) : va_E)) (hb 16)
  | 17, _ => exact congrArg (fun g : Nat → Int64 => (Sum.inl (ca 2, 12, .inr (.inl g)) : va_E)) (hb 17)
  | 18, _ => exact congrArg (fun g : Nat → Int64 => (Sum.inl (ca 2, 12, .inr (.inl g)) : va_E)) (hb 18)
  | 19, _ => exact congrArg (fun g : Nat → Int64 => (Sum.inl (ca 2, 12, .inr (.inl g)) : va_E)) (hb 19)
  | 20, _ => exact congrArg (fun g : Nat → Int64 => (Sum.inl (ca 2, 12, .inr (.inl g)) : va_E)) (hb 20)
  | 21, _ => exact congrArg (fun g : Nat → Int64 => (Sum.inl (ca 2, 12, .inr (.inl g)) : va_E)) (hb 21)
  | 22, _ => exact congrArg (fun g : Nat → Int64 => (Sum.inl (ca 2, 12, .inr (.inl g)) : va_E)) (hb 22)
  | 23, _ => exact congrArg (fun g : Nat → Int64 => (Sum.inl (ca 2, 12, .inr (.inl g)) : va_E)) (hb 23)
  | 24, _ => exact congrArg (fun g : Nat → Int32 => (Sum.inl (ca 0, 10, .inl g) : va_E)) (ha2 24)
  | 25, _ => exact congrArg (fun g : Nat → Int32 => (Sum.inl (ca 0, 12, .inl g) : va_E)) (ha2 25)
  | 26, _ => exact congrArg (fun g : Nat → Int32 => (Sum.inl (ca 0, 10, .inl g) : va_E)) (ha2 26)
  | 27, _ => exact congrArg (fun g : Nat → Int32 => (Sum.inl (ca 1, 10, .inl g) : va_E)) (ha2 27)
  | 28, _ => exact congrArg (fun g : Nat → Int64 => (Sum.inl (ca 2, 10, .inr (.inl g)) : va_E)) (hb 28)
  | 29, _ => exact congrArg (fun g : Nat → Int64 => (Sum.inl (ca 2, 10, .inr (.inl g)) : va_E)) (hb 29)
  | 30, _ => exact congrArg (fun g : Nat → Int32 => (Sum.inl (ca 0, 12, .inl g) : va_E)) (ha2 30)
  | 31, _ => exact congrArg (fun g : Nat → Int64 => (Sum.inl (ca 2, 12, .inr (.inl g)) : va_E)) (hb 31)
  | 32, _ => exact congrArg (fun g : Nat → Int64 => (Sum.inl (ca 2, 12, .inr (.inl g)) : va_E)) (hb 32)
  | i + 33, hi => exact absurd hi (by omega)
set_option maxHeartbeats 8000000 in
set_option maxRecDepth 100000 in
theorem met_P_init {l : Launch} (hl9 : l.stackTraces = false) (D : va_G) (ca : Nat → ClassId) (sa : Nat → Nat) (sz h0 : Nat) (po : (Nat → Nat) → wF → wA → wB → Prop) (hw : ∀ ad : Nat → Nat, wp_P_init (po ad) (fun _ => 0) (fun _ _ => 0) (fun _ _ => 0)) : mC nP kP (tyS ca) txS D vwCl l yP_init (Cond.code yP_init cP_init 5 none :: Wl) ({ frames := 1, cells := 32, slots := 368, locals := 20 }) ca sa sz h0 0 dfP po 32 368 := by
  refine ofC (by decide) rfl hl9 (Nat.le_of_ble_eq_true rfl) ?_
  intro p e s m below meth c ls X hin hr ho1 ho2 K hl
  obtain ⟨hx, hb, hml, hown, hts, hK, hA, hth, hlk, hl9⟩ := id X
  refine lv_aload_n hx hb dP_init_0 rfl (lv_at hl 0 rfl) ?_
  refine W.objInit hx hb hown (hts _ (tm1 (i := 29) rfl rfl)) (hts _ (tm1 (i := 20) rfl rfl)) (hts _ (tm1 (i := 21) rfl rfl)) rfl (by rw [hml]; exact hl.1) rfl dP_init_1 (Nat.le_of_ble_eq_true rfl) (Nat.le_of_ble_eq_true rfl) ?_
  refine W.eq (g2 := F0 m 4 ls []) rfl ?_
  refine lv_aload_n hx hb dP_init_4 rfl (lv_at hl 0 rfl) ?_
  refine lv_bipush (v := (10 : Int32)) hx hb dP_init_5 (by decide) ?_
  refine nArr X K (atype := .int) (ty := .int) (M := 10) (a0 := (10, (.inl (fun _ => 0)))) (t0 := 0) (cA := ca 0) (tm1 (i := 76) rfl rfl) rfl rfl (fun _ h9 => h9) (fun _ => rfl) (by decide) (by decide) (by decide) (Nat.le_of_ble_eq_true rfl) (Nat.le_of_ble_eq_true rfl) dP_init_7 (fun q1 H K => ?_)
  refine nPutF X K hin (o := 0) (i := 2) (v := .ref q1) (fs := dfP) ftP ftP_ok nmP (by decide) rfl rfl inP (by decide) (tm1 (i := 35) rfl rfl) rfl rfl rfl rfl rfl (Nat.le_of_ble_eq_true rfl) dP_init_9 (q := h0) rfl (fun H locs K => ?_)
  refine lv_aload_n hx hb dP_init_12 rfl (lv_at hl 0 rfl) ?_
  refine lv_bipush (v := (10 : Int32)) hx hb dP_init_13 (by decide) ?_
  refine lv_bipush (v := (12 : Int32)) hx hb dP_init_15 (by decide) ?_
  refine nMulti X K (ty := .long) (M := 10) (K' := 12) (z := (12, (.inr (.inl (fun _ => 0))))) (t0 := 4) (t1 := 2) (cA := ca 4) (cy := ca 2) (tm1 (i := 30) rfl rfl) ho2 (tm1 (i := 78) rfl rfl) rfl rfl (fun _ h9 => h9) (by decide) (by decide) (by decide) (by decide) (by decide) (by decide) (by decide) rfl rfl (Nat.le_of_ble_eq_true rfl) (Nat.le_of_ble_eq_true rfl) (fun c9 => innerC_l c9 12) dP_init_17 (fun q2 r2 H K => ?_)
  refine nPutF X K hin (o := 0) (i := 3) (v := .ref q2) (fs := [.int 0, .int 0, .ref q1, .null, .null, .null, .null, .null, .null, .null, .null, .null, .null, .null]) ftP ftP_ok nmP (by decide) rfl rfl inP (by decide) (tm1 (i := 36) rfl rfl) rfl rfl rfl rfl rfl (Nat.le_of_ble_eq_true rfl) dP_init_21 (q := h0) rfl (fun H locs K => ?_)
  refine lv_aload_n hx hb dP_init_24 rfl (lv_at hl 0 rfl) ?_
  refine lv_bipush (v := (10 : Int32)) hx hb dP_init_25 (by decide) ?_
  refine lv_bipush (v := (12 : Int32)) hx hb dP_init_27 (by decide) ?_
  refine nMulti X K (ty := .long) (M := 10) (K' := 12) (z := (12, (.inr (.inl (fun _ => 0))))) (t0 := 4) (t1 := 2) (cA := ca 4) (cy := ca 2) (tm1 (i := 30) rfl rfl) ho2 (tm1 (i := 78) rfl rfl) rfl rfl (fun _ h9 => h9) (by decide) (by decide) (by decide) (by decide) (by decide) (by decide) (by decide) rfl rfl (Nat.le_of_ble_eq_true rfl) (Nat.le_of_ble_eq_true rfl) (fun c9 => innerC_l c9 12) dP_init_29 (fun q3 r3 H K => ?_)
  refine nPutF X K hin (o := 0) (i := 4) (v := .ref q3) (fs := [.int 0, .int 0, .ref q1, .ref q2, .null, .null, .null, .null, .null, .null, .null, .null, .null, .null]) ftP ftP_ok nmP (by decide) rfl rfl inP (by decide) (tm1 (i := 37) rfl rfl) rfl rfl rfl rfl rfl (Nat.le_of_ble_eq_true rfl) dP_init_33 (q := h0) rfl (fun H locs K => ?_)
  refine lv_aload_n hx hb dP_init_36 rfl (lv_at hl 0 rfl) ?_
  refine lv_bipush (v := (10 : Int32)) hx hb dP_init_37 (by decide) ?_
  refine nArr X K (atype := .int) (ty := .int) (M := 10) (a0 := (10, (.inl (fun _ => 0)))) (t0 := 0) (cA := ca 0) (tm1 (i := 76) rfl rfl) rfl rfl (fun _ h9 => h9) (fun _ => rfl) (by decide) (by decide) (by decide) (Nat.le_of_ble_eq_true rfl) (Nat.le_of_ble_eq_true rfl) dP_init_39 (fun q4 H K => ?_)
  refine nPutF X K hin (o := 0) (i := 5) (v := .ref q4) (fs := [.int 0, .int 0, .ref q1, .ref q2, .ref q3, .null, .null, .null, .null, .null, .null, .null, .null, .null]) ftP ftP_ok nmP (by decide) rfl rfl inP (by decide) (tm1 (i := 38) rfl rfl) rfl rfl rfl rfl rfl (Nat.le_of_ble_eq_true rfl) dP_init_41 (q := h0) rfl (fun H locs K => ?_)
  refine lv_aload_n hx hb dP_init_44 rfl (lv_at hl 0 rfl) ?_
  refine lv_bipush (v := (12 : Int32)) hx hb dP_init_45 (by decide) ?_
  refine nArr X K (atype := .int) (ty := .int) (M := 12) (a0 := (12, (.inl (fun _ => 0)))) (t0 := 0) (cA := ca 0) (tm1 (i := 76) rfl rfl) rfl rfl (fun _ h9 => h9) (fun _ => rfl) (by decide) (by decide) (by decide) (Nat.le_of_ble_eq_true rfl) (Nat.le_of_ble_eq_true rfl) dP_init_47 (fun q5 H K => ?_)
  refine nPutF X K hin (o := 0) (i := 6) (v := .ref q5) (fs := [.int 0, .int 0, .ref q1, .ref q2, .ref q3, .ref q4, .null, .null, .null, .null, .null, .null, .null, .null]) ftP ftP_ok nmP (by decide) rfl rfl inP (by decide) (tm1 (i := 39) rfl rfl) rfl rfl rfl rfl rfl (Nat.le_of_ble_eq_true rfl) dP_init_49 (q := h0) rfl (fun H locs K => ?_)
  refine lv_aload_n hx hb dP_init_52 rfl (lv_at hl 0 rfl) ?_
  refine lv_bipush (v := (10 : Int32)) hx hb dP_init_53 (by decide) ?_
  refine nArr X K (atype := .int) (ty := .int) (M := 10) (a0 := (10, (.inl (fun _ => 0)))) (t0 := 0) (cA := ca 0) (tm1 (i := 76) rfl rfl) rfl rfl (fun _ h9 => h9) (fun _ => rfl) (by decide) (by decide) (by decide) (Nat.le_of_ble_eq_true rfl) (Nat.le_of_ble_eq_true rfl) dP_init_55 (fun q6 H K => ?_)
  refine nPutF X K hin (o := 0) (i := 7) (v := .ref q6) (fs := [.int 0, .int 0, .ref q1, .ref q2, .ref q3, .ref q4, .ref q5, .null, .null, .null, .null, .null, .null, .null]) ftP ftP_ok nmP (by decide) rfl rfl inP (by decide) (tm1 (i := 40) rfl rfl) rfl rfl rfl rfl rfl (Nat.le_of_ble_eq_true rfl) dP_init_57 (q := h0) rfl (fun H locs K => ?_)
  refine lv_aload_n hx hb dP_init_60 rfl (lv_at hl 0 rfl) ?_
  refine lv_bipush (v := (10 : Int32)) hx hb dP_init_61 (by decide) ?_
  refine nArr X K (atype := .boolean) (ty := .boolean) (M := 10) (a0 := (10, (.inl (fun _ => 0)))) (t0 := 1) (cA := ca 1) (tm1 (i := 77) rfl rfl) rfl rfl (fun _ h9 => h9) (fun _ => rfl) (by decide) (by decide) (by decide) (Nat.le_of_ble_eq_true rfl) (Nat.le_of_ble_eq_true rfl) dP_init_63 (fun q7 H K => ?_)
  refine nPutF X K hin (o := 0) (i := 8) (v := .ref q7) (fs := [.int 0, .int 0, .ref q1, .ref q2, .ref q3, .ref q4, .ref q5, .ref q6, .null, .null, .null, .null, .null, .null]) ftP ftP_ok nmP (by decide) rfl rfl inP (by decide) (tm1 (i := 41) rfl rfl) rfl rfl rfl rfl rfl (Nat.le_of_ble_eq_true rfl) dP_init_65 (q := h0) rfl (fun H locs K => ?_)
  refine lv_aload_n hx hb dP_init_68 rfl (lv_at hl 0 rfl) ?_
  refine lv_bipush (v := (10 : Int32)) hx hb dP_init_69 (by decide) ?_
  refine nArr X K (atype := .long) (ty := .long) (M := 10) (a0 := (10, (.inr (.inl (fun _ => 0))))) (t0 := 2) (cA := ca 2) (tm1 (i := 78) rfl rfl) rfl rfl (fun _ h9 => h9) (fun _ => rfl) (by decide) (by decide) (by decide) (Nat.le_of_ble_eq_true rfl) (Nat.le_of_ble_eq_true rfl) dP_init_71 (fun q8 H K => ?_)
  refine nPutF X K hin (o := 0) (i := 9) (v := .ref q8) (fs := [.int 0, .int 0, .ref q1, .ref q2, .ref q3, .ref q4, .ref q5, .ref q6, .ref q7, .null, .null, .null, .null, .null]) ftP ftP_ok nmP (by decide) rfl rfl inP (by decide) (tm1 (i := 42) rfl rfl) rfl rfl rfl rfl rfl (Nat.le_of_ble_eq_true rfl) dP_init_73 (q := h0) rfl (fun H locs K => ?_)
  refine lv_aload_n hx hb dP_init_76 rfl (lv_at hl 0 rfl) ?_
  refine lv_bipush (v := (10 : Int32)) hx hb dP_init_77 (by decide) ?_
  refine nArr X K (atype := .long) (ty := .long) (M := 10) (a0 := (10, (.inr (.inl (fun _ => 0))))) (t0 := 2) (cA := ca 2) (tm1 (i := 78) rfl rfl) rfl rfl (fun _ h9 => h9) (fun _ => rfl) (by decide) (by decide) (by decide) (Nat.le_of_ble_eq_true rfl) (Nat.le_of_ble_eq_true rfl) dP_init_79 (fun q9 H K => ?_)
  refine nPutF X K hin (o := 0) (i := 10) (v := .ref q9) (fs := [.int 0, .int 0, .ref q1, .ref q2, .ref q3, .ref q4, .ref q5, .ref q6, .ref q7, .ref q8, .null, .null, .null, .null]) ftP ftP_ok nmP (by decide) rfl rfl inP (by decide) (tm1 (i := 43) rfl rfl) rfl rfl rfl rfl rfl (Nat.le_of_ble_eq_true rfl) dP_init_81 (q := h0) rfl (fun H locs K => ?_)
  refine lv_aload_n hx hb dP_init_84 rfl (lv_at hl 0 rfl) ?_
  refine lv_bipush (v := (12 : Int32)) hx hb dP_init_85 (by decide) ?_
  refine nArr X K (atype := .int) (ty := .int) (M := 12) (a0 := (12, (.inl (fun _ => 0)))) (t0 := 0) (cA := ca 0) (tm1 (i := 76) rfl rfl) rfl rfl (fun _ h9 => h9) (fun _ => rfl) (by decide) (by decide) (by decide) (Nat.le_of_ble_eq_true rfl) (Nat.le_of_ble_eq_true rfl) dP_init_87 (fun q10 H K => ?_)
  refine nPutF X K hin (o := 0) (i := 11) (v := .ref q10) (fs := [.int 0, .int 0, .ref q1, .ref q2, .ref q3, .ref q4, .ref q5, .ref q6, .ref q7, .ref q8, .ref q9, .null, .null, .null]) ftP ftP_ok nmP (by decide) rfl rfl inP (by decide) (tm1 (i := 44) rfl rfl) rfl rfl rfl rfl rfl (Nat.le_of_ble_eq_true rfl) dP_init_89 (q := h0) rfl (fun H locs K => ?_)
  refine lv_aload_n hx hb dP_init_92 rfl (lv_at hl 0 rfl) ?_
  refine lv_bipush (v := (12 : Int32)) hx hb dP_init_93 (by decide) ?_
  refine nArr X K (atype := .long) (ty := .long) (M := 12) (a0 := (12, (.inr (.inl (fun _ => 0))))) (t0 := 2) (cA := ca 2) (tm1 (i := 78) rfl rfl) rfl rfl (fun _ h9 => h9) (fun _ => rfl) (by decide) (by decide) (by decide) (Nat.le_of_ble_eq_true rfl) (Nat.le_of_ble_eq_true rfl) dP_init_95 (fun q11 H K => ?_)
  refine nPutF X K hin (o := 0) (i := 12) (v := .ref q11) (fs := [.int 0, .int 0, .ref q1, .ref q2, .ref q3, .ref q4, .ref q5, .ref q6, .ref q7, .ref q8, .ref q9, .ref q10, .null, .null]) ftP ftP_ok nmP (by decide) rfl rfl inP (by decide) (tm1 (i := 45) rfl rfl) rfl rfl rfl rfl rfl (Nat.le_of_ble_eq_true rfl) dP_init_97 (q := h0) rfl (fun H locs K => ?_)
  refine lv_aload_n hx hb dP_init_100 rfl (lv_at hl 0 rfl) ?_
  refine lv_bipush (v := (12 : Int32)) hx hb dP_init_101 (by decide) ?_
  refine nArr X K (atype := .long) (ty := .long) (M := 12) (a0 := (12, (.inr (.inl (fun _ => 0))))) (t0 := 2) (cA := ca 2) (tm1 (i := 78) rfl rfl) rfl rfl (fun _ h9 => h9) (fun _ => rfl) (by decide) (by decide) (by decide) (Nat.le_of_ble_eq_true rfl) (Nat.le_of_ble_eq_true rfl) dP_init_103 (fun q12 H K => ?_)
  refine nPutF X K hin (o := 0) (i := 13) (v := .ref q12) (fs := [.int 0, .int 0, .ref q1, .ref q2, .ref q3, .ref q4, .ref q5, .ref q6, .ref q7, .ref q8, .ref q9, .ref q10, .ref q11, .null]) ftP ftP_ok nmP (by decide) rfl rfl inP (by decide) (tm1 (i := 46) rfl rfl) rfl rfl rfl rfl rfl (Nat.le_of_ble_eq_true rfl) dP_init_105 (q := h0) rfl (fun H locs K => ?_)
  have had0 : ∃ ad9 : Nat → Nat, ad9 = (va_up (va_up (va_up (va_up (va_up (va_up (va_up (va_up (va_up (fun j => if j < 13 + 1 then va_up (fun j => if j < 2 + 1 then va_up (va_up (fun _ => h0) 1 q1) 2 q2 j else r2 (j - (2 + 1))) 13 q3 j else r3 (j - (13 + 1))) 24 q4) 25 q5) 26 q6) 27 q7) 28 q8) 29 q9) 30 q10) 31 q11) 32 q12) := ⟨_, rfl⟩
  obtain ⟨ad, had9⟩ := had0
  have hr2 : ∀ i, i < 10 → ad (3 + i) = r2 i := fun i hi => by
    rw [had9]
    match i, hi with
    | 0, _ => rfl
    | 1, _ => rfl
    | 2, _ => rfl
    | 3, _ => rfl
    | 4, _ => rfl
    | 5, _ => rfl
    | 6, _ => rfl
    | 7, _ => rfl
    | 8, _ => rfl
    | 9, _ => rfl
    | i + 10, hi => exact absurd hi (by omega)
  have hr13 : ∀ i, i < 10 → ad (14 + i) = r3 i := fun i hi => by
    rw [had9]
    match i, hi with
    | 0, _ => rfl
    | 1, _ => rfl
    | 2, _ => rfl
    | 3, _ => rfl
    | 4, _ => rfl
    | 5, _ => rfl
    | 6, _ => rfl
    | 7, _ => rfl
    | 8, _ => rfl
    | 9, _ => rfl
    | i + 10, hi => exact absurd hi (by omega)
  have hkk : ∀ j, j < 33 → kP ad ca (fun _ => 0) (fun _ _ => 0) (fun _ _ => 0) j = (va_up (va_up (va_up (va_up (va_up (va_up (va_up (va_up (va_up (va_up (va_up (va_up (va_up (va_up (va_up (va_up (va_up (va_up (va_up (fun j => if j < 13 + 1 then va_up (va_up (fun j => if j < 2 + 1 then va_up (va_up (va_up (fun _ => .inr (0, dfP)) 1 (.inl (ca 0, 10, (.inl (fun _ => 0))))) 0 (.inr (0, [.int 0, .int 0, .ref q1, .null, .null, .null, .null, .null, .null, .null, .null, .null, .null, .null]))) 2 (.inl (ca 4, 10, .inr (.inr (.inr (.inr (fun i => if i < 10 then some (r2 i) else none)))))) j else .inl (ca 2, 12, (.inr (.inl (fun _ => 0))))) 0 (.inr (0, [.int 0, .int 0, .ref q1, .ref q2, .null, .null, .null, .null, .null, .null, .null, .null, .null, .null]))) 13 (.inl (ca 4, 10, .inr (.inr (.inr (.inr (fun i => if i < 10 then some (r3 i) else none)))))) j else .inl (ca 2, 12, (.inr (.inl (fun _ => 0))))) 0 (.inr (0, [.int 0, .int 0, .ref q1, .ref q2, .ref q3, .null, .null, .null, .null, .null, .null, .null, .null, .null]))) 24 (.inl (ca 0, 10, (.inl (fun _ => 0))))) 0 (.inr (0, [.int 0, .int 0, .ref q1, .ref q2, .ref q3, .ref q4, .null, .null, .null, .null, .null, .null, .null, .null]))) 25 (.inl (ca 0, 12, (.inl (fun _ => 0))))) 0 (.inr (0, [.int 0, .int 0, .ref q1, .ref q2, .ref q3, .ref q4, .ref q5, .null, .null, .null, .null, .null, .null, .null]))) 26 (.inl (ca 0, 10, (.inl (fun _ => 0))))) 0 (.inr (0, [.int 0, .int 0, .ref q1, .ref q2, .ref q3, .ref q4, .ref q5, .ref q6, .null, .null, .null, .null, .null, .null]))) 27 (.inl (ca 1, 10, (.inl (fun _ => 0))))) 0 (.inr (0, [.int 0, .int 0, .ref q1, .ref q2, .ref q3, .ref q4, .ref q5, .ref q6, .ref q7, .null, .null, .null, .null, .null]))) 28 (.inl (ca 2, 10, (.inr (.inl (fun _ => 0)))))) 0 (.inr (0, [.int 0, .int 0, .ref q1, .ref q2, .ref q3, .ref q4, .ref q5, .ref q6, .ref q7, .ref q8, .null, .null, .null, .null]))) 29 (.inl (ca 2, 10, (.inr (.inl (fun _ => 0)))))) 0 (.inr (0, [.int 0, .int 0, .ref q1, .ref q2, .ref q3, .ref q4, .ref q5, .ref q6, .ref q7, .ref q8, .ref q9, .null, .null, .null]))) 30 (.inl (ca 0, 12, (.inl (fun _ => 0))))) 0 (.inr (0, [.int 0, .int 0, .ref q1, .ref q2, .ref q3, .ref q4, .ref q5, .ref q6, .ref q7, .ref q8, .ref q9, .ref q10, .null, .null]))) 31 (.inl (ca 2, 12, (.inr (.inl (fun _ => 0)))))) 0 (.inr (0, [.int 0, .int 0, .ref q1, .ref q2, .ref q3, .ref q4, .ref q5, .ref q6, .ref q7, .ref q8, .ref q9, .ref q10, .ref q11, .null]))) 32 (.inl (ca 2, 12, (.inr (.inl (fun _ => 0)))))) 0 (.inr (0, [.int 0, .int 0, .ref q1, .ref q2, .ref q3, .ref q4, .ref q5, .ref q6, .ref q7, .ref q8, .ref q9, .ref q10, .ref q11, .ref q12]))) j := by
    intro j hj
    match j, hj with
    | 0, _ => rw [had9]; rfl
    | 1, _ => rfl
    | 2, _ => exact congrArg (fun g9 : Nat → Option Nat => (Sum.inl (ca 4, 10, .inr (.inr (.inr (.inr g9)))) : va_E)) (funext (fun i => by
        show (if i < 10 then some (ad (3 + i)) else none) = (if i < 10 then some (r2 i) else none)
        by_cases h : i < 10
        · rw [if_pos h, if_pos h, hr2 i h]
        · rw [if_neg h, if_neg h]))
    | 3, _ => rfl
    | 4, _ => rfl
    | 5, _ => rfl
    | 6, _ => rfl
    | 7, _ => rfl
    | 8, _ => rfl
    | 9, _ => rfl
    | 10, _ => rfl
    | 11, _ => rfl
    | 12, _ => rfl
    | 13, _ => exact congrArg (fun g9 : Nat → Option Nat => (Sum.inl (ca 4, 10, .inr (.inr (.inr (.inr g9)))) : va_E)) (funext (fun i => by
        show (if i < 10 then some (ad (14 + i)) else none) = (if i < 10 then some (r3 i) else none)
        by_cases h : i < 10
        · rw [if_pos h, if_pos h, hr13 i h]
        · rw [if_neg h, if_neg h]))
    | 14, _ => rfl
    | 15, _ => rfl
    | 16, _ => rfl
    | 17, _ => rfl
    | 18, _ => rfl
    | 19, _ => rfl
    | 20, _ => rfl
    | 21, _ => rfl
    | 22, _ => rfl
    | 23, _ => rfl
    | 24, _ => rfl
    | 25, _ => rfl
    | 26, _ => rfl
    | 27, _ => rfl
    | 28, _ => rfl
    | 29, _ => rfl
    | 30, _ => rfl
    | 31, _ => rfl
    | 32, _ => rfl
    | j + 33, hj => exact absurd hj (by omega)
  have K9 : wk D vwCl ad (kP ad ca (fun _ => 0) (fun _ _ => 0) (fun _ _ => 0)) 33 _ s H _ := wk_eq K (fun j _ => by rw [had9]) hkk
  have h00 : ad 0 = h0 := by rw [had9]; rfl
  rw [← h00] at hl
  refine W_mono (fun t h9 => endC h00 t h9) ?_
  have e0 : ([Value.ref h0] : List Value).toArray = ([Value.ref (ad 0)] : List Value).toArray := by rw [h00]
  rw [e0] at X ⊢
  exact st_P_init X hr _ _ _ (hw ad) H _ K9 ls hl
