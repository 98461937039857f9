/-! Arrays.fill: a contract over the one cell that it fills; rows over a layout -/
theorem wF_i : Cond.initialized "java/util/Arrays" ∈ Wl := (tm1 (i := 3) rfl rfl)
abbrev cFi : ByteArray := prog_15_method_103_code
def yFi : MethodName := ⟨"java/util/Arrays", "fill", "([II)V"⟩
theorem dFi_0 : decode cFi 0 = .ok (.iconst 0, 1) := by decide +kernel
theorem dFi_1 : decode cFi 1 = .ok (.istore_n 2, 1) := by decide +kernel
theorem dFi_2 : decode cFi 2 = .ok (.aload_n 0, 1) := by decide +kernel
theorem dFi_3 : decode cFi 3 = .ok (.arraylength, 1) := by decide +kernel
theorem dFi_4 : decode cFi 4 = .ok (.istore_n 3, 1) := by decide +kernel
theorem dFi_5 : decode cFi 5 = .ok (.iload_n 2, 1) := by decide +kernel
theorem dFi_6 : decode cFi 6 = .ok (.iload_n 3, 1) := by decide +kernel
theorem dFi_7 : decode cFi 7 = .ok (.if_icmp .ge 13, 3) := by decide +kernel
theorem dFi_10 : decode cFi 10 = .ok (.aload_n 0, 1) := by decide +kernel
theorem dFi_11 : decode cFi 11 = .ok (.iload_n 2, 1) := by decide +kernel
theorem dFi_12 : decode cFi 12 = .ok (.iload_n 1, 1) := by decide +kernel
theorem dFi_13 : decode cFi 13 = .ok (.iastore, 1) := by decide +kernel
theorem dFi_14 : decode cFi 14 = .ok (.iinc 2 1, 3) := by decide +kernel
theorem dFi_17 : decode cFi 17 = .ok (.goto (-12), 3) := by decide +kernel
theorem dFi_20 : decode cFi 20 = .ok (.return_, 1) := by decide +kernel
theorem wFi_s : Cond.static yFi ∈ Wl := (tm1 (i := 80) rfl rfl)
theorem wFi_c : Cond.code yFi cFi 4 none ∈ Wl := (tm1 (i := 81) rfl rfl)
theorem filli_same {cA : ClassId} {n : Nat} {g : Nat → Int32} {v : Int32} (h : ∀ j, j < n → g j = v) : vp_cell cA (n, .inl g) = vp_cell cA (n, .inl (fun _ => v)) := by
  show arrV cA n (fun j => .int (g j)) = arrV cA n (fun _ => .int v)
  unfold arrV
  congr 1
  congr 1
  funext j
  show Value.int (g j.val) = Value.int v
  rw [h j.val j.isLt]
set_option maxHeartbeats 4000000 in
set_option maxRecDepth 100000 in
theorem met_filli (l : Launch) (D : va_G) (cl : List vw_C) (cA : ClassId) (q n sz : Nat) (hn : n < 2 ^ 31) (g0 : Nat → Int32) (v : Int32) : Met l yFi (Cond.code yFi cFi 4 none :: Wl) { frames := 0, cells := 0, slots := 0, locals := 0 } (va_Pc [.ref q, .int v] (fun U => U.heap.size = sz ∧ va_P D cl [(q, .inl (cA, n, .inl g0))] U.heap ∧ va_K D cl [(cA, .int)] U ∧ va_D (fun _ => True) [(q, .inl (cA, n, .inl g0))])) (va_Qv (fun _ : Unit => True) (fun _ t => va_P D cl [(q, .inl (cA, n, .inl (fun _ => v)))] t.heap) (va_A [(q, .inl (cA, n, .inl g0))] sz)) 0 0 (va_A [(q, .inl (cA, n, .inl g0))] sz) := by
  refine Met.ofW (cc := cFi) (maxL := 4) (ret := none) (by decide) rfl ?_
  intro p e s m args below meth c s₁ B hml hv
  obtain ⟨rfl, hsz, hP, hK, hD0⟩ := hv
  have hx := B.exec
  have hb := B.bytes
  have hr := B.returns
  have hlocks := B.notSynchronized
  subst hsz
  have hD := hD0.self (sz := s.heap.size)
  generalize hAe : va_A [(q, .inl (cA, n, .inl g0))] s.heap.size = A at hD ⊢
  have hS : va_S A s.heap s.heap [] := va_S.rf
  have hl := lv_entry ([.ref q, .int v]) (n := 4) (Nat.le_of_ble_eq_true rfl)
  rw [lg_entry_eq]
  generalize (lg_sl ([.ref q, .int v]) ++ List.replicate (4 - (lg_sl ([.ref q, .int v])).length) Slot.unset).toArray = ls at hl ⊢
  have hl : lv_has ls 4 [(0, .ref q), (1, .int v)] := hl
  have loop : ∀ (k i : Nat) (g : Nat → Int32) (H : Heap) (locs : List Loc) (ls : Array Slot), i + k = n → (∀ j, j < i → g j = v) → va_P D cl [(q, .inl (cA, n, .inl g))] H → va_D A [(q, .inl (cA, n, .inl g))] → va_S A s.heap H locs → lv_has ls 4 [(0, .ref q), (1, .int v), (2, .int (nI i)), (3, .int (nI n))] →
      W p l e { frames := 0, cells := 0, slots := 0, locals := 0 } s m ([.ref q, .int v] : List Value).toArray below meth c H locs 0 0 (MQ below (va_Qv (fun _ : Unit => True) (fun _ t => va_P D cl [(q, .inl (cA, n, .inl (fun _ => v)))] t.heap) A) ([.ref q, .int v] : List Value).toArray s 0 0 A) (F0 m 5 ls []) := by
    intro k
    induction k with
    | zero =>
      intro i g H locs ls hi hg hP hD hS hl
      refine lv_iload_n hx hb dFi_5 rfl (lv_at hl 2 rfl) ?_
      refine lv_iload_n hx hb dFi_6 rfl (lv_at hl 3 rfl) ?_
      refine lv_icmp_ge (tgt := 20) hx hb dFi_7 (by decide) (fun _ => ?_) (fun hc => ?_)
      · refine W.vret hx hb hr (fun t ht hW => ⟨⟨(), rfl, trivial, ?_⟩, hS.F ht⟩) hS.2.2 dFi_20
        show va_P D cl [(q, .inl (cA, n, .inl (fun _ => v)))] t.heap
        rw [ht]
        intro k9 x hk
        have h0 := hP 0 _ rfl
        match k9, hk with
        | 0, hk =>
          cases hk
          show H[q]? = some (vp_cell cA (n, .inl (fun _ => v)))
          rw [← filli_same (g := g) (fun j hj => hg j (by omega))]
          exact h0
        | k9 + 1, hk => simp at hk
      · exact absurd (nI_le (by omega) (by omega)) hc
    | succ k ih =>
      intro i g H locs ls hi hg hP hD hS hl
      refine lv_iload_n hx hb dFi_5 rfl (lv_at hl 2 rfl) ?_
      refine lv_iload_n hx hb dFi_6 rfl (lv_at hl 3 rfl) ?_
      refine lv_icmp_ge (tgt := 20) hx hb dFi_7 (by decide) (fun hc => ?_) (fun _ => ?_)
      · exact absurd hc (nI_ge (by omega) (by omega))
      · refine lv_aload_n hx hb dFi_10 rfl (lv_at hl 0 rfl) ?_
        refine lv_iload_n hx hb dFi_11 rfl (lv_at hl 2 rfl) ?_
        refine lv_iload_n hx hb dFi_12 rfl (lv_at hl 1 rfl) ?_
        refine va_iast hx hb hK hP hD hS 0 0 rfl rfl (vp_in_nI (show i < n by omega) hn) dFi_13 (fun H locs hP hD hS => ?_)
        refine lv_iinc (v := nI (i + 1)) (lv' := [(2, .int (nI (i + 1))), (0, .ref q), (1, .int v), (3, .int (nI n))]) hx hb dFi_14 hl (k := 2) rfl (nI_1 i) (by decide) rfl (fun ls hl => ?_)
        refine lv_goto (tgt := 5) hx hb dFi_17 (by decide) ?_
        refine ih (i + 1) (upd g (nI i).toNatClampNeg v) H locs ls (by omega) (fun j hj => ?_) hP hD hS (lv_sub hl [1, 2, 0, 3] rfl)
        rw [nI_clamp (by omega)]
        show (if j = i then v else g j) = v
        by_cases e : j = i
        · rw [if_pos e]
        · rw [if_neg e]; exact hg j (by omega)
  refine lv_iconst (v := 0) hx hb dFi_0 (by decide) ?_
  refine lv_istore_n (lv' := [(2, .int 0), (0, .ref q), (1, .int v)]) hx hb dFi_1 rfl hl (by decide) rfl (fun ls hl => ?_)
  refine lv_aload_n hx hb dFi_2 rfl (lv_at hl 1 rfl) ?_
  refine va_alen (v := nI n) hx hb hK hP 0 0 rfl rfl rfl dFi_3 ?_
  refine lv_istore_n (lv' := [(3, .int (nI n)), (2, .int 0), (0, .ref q), (1, .int v)]) hx hb dFi_4 rfl hl (by decide) rfl (fun ls hl => ?_)
  exact loop n 0 g0 _ _ ls (by omega) (fun j hj => absurd hj (Nat.not_lt_zero j)) hP hD hS (lv_sub (l' := [(0, .ref q), (1, .int v), (2, .int (nI 0)), (3, .int (nI n))]) hl [2, 3, 1, 0] rfl)
theorem gfilli {N : Nat} {kf : wL} {tys : List (ClassId × FieldType)} {tx : List (String × Nat × String)} {D : va_G} {cl : List vw_C} {sa : Nat → Nat} {A : Nat → Prop} {ad : Nat → Nat} {ca : Nat → ClassId} {p : Program} {l : Launch} {e : Env} {R : Room} {s : State} {m : MethodId} {args : Array Value} {below : List Frame} {meth : Method} {c : Code} {cc : ByteArray} {nL : Nat} {own : String} {H : Heap} {locs : List Loc} {cells slots : Nat} {Q : State → Prop} {pc : Nat} {ls : Array Slot} {rest : List Value} {f : wF} {a : wA} {b : wB}
    (X : cx Wl tys tx D cl sa A p l s m args meth c cc nL own) (K : wd N kf D cl ad ca A s H locs f a b) {o n t0 index : Nat} {cA : ClassId} {g : Nat → Int32} {v : Int32} (ho : o < N) (hko : kf ad ca f a b o = .inl (cA, n, .inl g)) (ht : tys[t0]? = some (cA, .int)) (hn : n < 2 ^ 31) (w1 : Cond.methodLink own index yFi ∈ Wl) (hsz : ls.size = nL) (hW : (rest.map fun v => v.category).sum ≤ 8) (hdg : decode cc pc = .ok (.invokestatic index, 3)) (hR : 1 ≤ R.frames ∧ 8 + (4 + 11) + 0 ≤ R.locals) (hc : cells + 0 ≤ R.cells ∧ slots + 0 ≤ R.slots)
    {f1 : wF} {a1 : wA} {b1 : wB} (hup : va_up (kf ad ca f a b) o (.inl (cA, n, .inl (fun _ => v))) = kf ad ca f1 a1 b1)
    (kk : ∀ (H1 : Heap) (locs1 : List Loc), wd N kf D cl ad ca A s H1 locs1 f1 a1 b1 → W p l e R s m args below meth c H1 locs1 cells slots Q (F0 m (pc + 3) ls rest)) : W p l e R s m args below meth c H locs cells slots Q (F0 m pc ls (.int v :: .ref (ad o) :: rest)) := by
  obtain ⟨hx, hb, hml, hown, hts, hK, hA, hth, hlk, hl⟩ := id X
  obtain ⟨hP, hD, hS⟩ := id K
  have hget : (ww N kf ad ca f a b)[o]? = some (ad o, .inl (cA, n, .inl g)) := (wg_get ho).trans (by rw [hko])
  have hP1 : va_P D cl [(ad o, .inl (cA, n, .inl g))] H := fun k x hk => by
    match k, hk with
    | 0, hk => cases hk; exact hP o _ hget
    | k + 1, hk => simp at hk
  have hD1 : va_D (fun _ => True) [(ad o, .inl (cA, n, .inl g))] := ⟨fun i j x y hi hj _ => by
    have h1 : i < 1 := (List.getElem?_eq_some_iff.mp hi).1
    have h2 : j < 1 := (List.getElem?_eq_some_iff.mp hj).1
    omega, fun _ _ _ => trivial⟩
  have hK1 : va_K D cl [(cA, .int)] s := ⟨hK.1, fun k x hk => by
    match k, hk with
    | 0, hk => cases hk; exact hK.2 t0 _ ht
    | k + 1, hk => simp at hk⟩
  have hF : ∀ q, va_A [(ad o, .inl (cA, n, .inl g))] H.size q → A q := fun q h => by
    rcases h with ⟨k, x, h⟩ | h
    · match k, h with
      | 0, h => cases h; exact hD.2 o _ hget
      | k + 1, h => simp at h
    · exact hA q (Nat.le_trans hS.1 h)
  have hT : GoodIn Wl (va_wsS own index yFi (Cond.code yFi cFi 4 none :: Wl)) := good_in wl_good (fun w hw => by
    simp only [List.mem_cons, List.not_mem_nil, or_false] at hw
    rcases hw with q | q | q
    · rw [q]; exact w1
    · rw [q]; exact wFi_s
    · rw [q]; exact wF_i) wFi_c
  refine va_callv (va_runS (As := [.ref (ad o), .int v]) (rest := rest) ⟨hx, hb, hml, hown, hts⟩ (met_filli l D cl cA (ad o) n H.size hn g v) (va_cwS 2 hts hT rfl rfl rfl ⟨by decide, by decide, by decide +kernel⟩ hR) ⟨fun a U g9 mk q => by obtain ⟨q0, q1, qP, qK, qD⟩ := q; exact ⟨q0, q1, qP, va_K.moved (u := U) (U := U.calling g9 mk a) (Vm.Alike.refl U.vm) qK, qD⟩, fun U hU hW => ⟨rfl, by rw [hU], by rw [hU]; exact hP1, va_K.moved hW.alike hK1, hD1⟩⟩ rfl rfl hsz rfl (lv_room hW) hdg hc) hS (fun q _ h => hF q h) hF (fun u t H1 locs1 ht hvm hw hB hz hk hS1 => kk H1 locs1 ?_)
  rw [ht] at hB
  have hcell : H1[ad o]? = some (vp_cell cA (n, .inl (fun _ => v))) := hB 0 _ rfl
  have hP2 : va_P D cl ((ww N kf ad ca f a b).set o (ad o, .inl (cA, n, .inl (fun _ => v)))) H1 := by
    intro k x hkx
    rw [List.getElem?_set] at hkx
    by_cases e1 : o = k
    · subst e1
      rw [if_pos rfl, if_pos (by show o < (wg ad (kf ad ca f a b) N).length; rw [wg_len]; exact ho)] at hkx
      cases hkx
      exact hcell
    · rw [if_neg e1] at hkx
      refine (hP k x hkx).kept (hk x.1 ((hP k x hkx).lt) ?_)
      intro h9
      rcases h9 with ⟨k9, x9, h9⟩ | h9
      · match k9, h9 with
        | 0, h9 =>
          have h8 : ad o = x.1 := congrArg Prod.fst (Option.some.inj h9)
          exact e1 (hD.1 o k _ x hget hkx h8)
        | k9 + 1, h9 => simp at h9
      · exact absurd ((hP k x hkx).lt) (Nat.not_lt.mpr h9)
  have hD2 : va_D A ((ww N kf ad ca f a b).set o (ad o, .inl (cA, n, .inl (fun _ => v)))) := by
    have hfst : ∀ (k : Nat) (x : Nat × va_E), ((ww N kf ad ca f a b).set o (ad o, .inl (cA, n, .inl (fun _ => v))))[k]? = some x → ∃ y : Nat × va_E, (ww N kf ad ca f a b)[k]? = some y ∧ y.1 = x.1 := by
      intro k x hkx
      rw [List.getElem?_set] at hkx
      by_cases e1 : o = k
      · subst e1
        rw [if_pos rfl, if_pos (by show o < (wg ad (kf ad ca f a b) N).length; rw [wg_len]; exact ho)] at hkx
        cases hkx
        exact ⟨_, hget, rfl⟩
      · rw [if_neg e1] at hkx
        exact ⟨x, hkx, rfl⟩
    refine ⟨fun i j x y hi hj hxy => ?_, fun k x hk => ?_⟩
    · obtain ⟨x', h1, h2⟩ := hfst i x hi
      obtain ⟨y', h3, h4⟩ := hfst j y hj
      exact hD.1 i j x' y' h1 h3 (by rw [h2, h4]; exact hxy)
    · obtain ⟨x', h1, h2⟩ := hfst k x hk
      rw [← h2]
      exact hD.2 k x' h1
  unfold ww at hP2 hD2
  rw [wg_set ho, hup] at hP2 hD2
  exact ⟨hP2, hD2, hS1⟩
abbrev cFl : ByteArray := prog_15_method_101_code
def yFl : MethodName := ⟨"java/util/Arrays", "fill", "([JJ)V"⟩
theorem dFl_0 : decode cFl 0 = .ok (.iconst 0, 1) := by decide +kernel
theorem dFl_1 : decode cFl 1 = .ok (.istore_n 3, 1) := by decide +kernel
theorem dFl_2 : decode cFl 2 = .ok (.aload_n 0, 1) := by decide +kernel
theorem dFl_3 : decode cFl 3 = .ok (.arraylength, 1) := by decide +kernel
theorem dFl_4 : decode cFl 4 = .ok (.istore 4, 2) := by decide +kernel
theorem dFl_6 : decode cFl 6 = .ok (.iload_n 3, 1) := by decide +kernel
theorem dFl_7 : decode cFl 7 = .ok (.iload 4, 2) := by decide +kernel
theorem dFl_9 : decode cFl 9 = .ok (.if_icmp .ge 13, 3) := by decide +kernel
theorem dFl_12 : decode cFl 12 = .ok (.aload_n 0, 1) := by decide +kernel
theorem dFl_13 : decode cFl 13 = .ok (.iload_n 3, 1) := by decide +kernel
theorem dFl_14 : decode cFl 14 = .ok (.lload_n 1, 1) := by decide +kernel
theorem dFl_15 : decode cFl 15 = .ok (.lastore, 1) := by decide +kernel
theorem dFl_16 : decode cFl 16 = .ok (.iinc 3 1, 3) := by decide +kernel
theorem dFl_19 : decode cFl 19 = .ok (.goto (-13), 3) := by decide +kernel
theorem dFl_22 : decode cFl 22 = .ok (.return_, 1) := by decide +kernel
theorem wFl_s : Cond.static yFl ∈ Wl := (tm2 (i := 126) rfl rfl)
theorem wFl_c : Cond.code yFl cFl 5 none ∈ Wl := (tm2 (i := 127) rfl rfl)
theorem filll_same {cA : ClassId} {n : Nat} {g : Nat → Int64} {v : Int64} (h : ∀ j, j < n → g j = v) : vp_cell cA (n, .inr (.inl g)) = vp_cell cA (n, .inr (.inl (fun _ => v))) := by
  show arrV cA n (fun j => .long (g j)) = arrV cA n (fun _ => .long v)
  unfold arrV
  congr 1
  congr 1
  funext j
  show Value.long (g j.val) = Value.long v
  rw [h j.val j.isLt]
set_option maxHeartbeats 4000000 in
set_option maxRecDepth 100000 in
theorem met_filll (l : Launch) (D : va_G) (cl : List vw_C) (cA : ClassId) (q n sz : Nat) (hn : n < 2 ^ 31) (g0 : Nat → Int64) (v : Int64) : Met l yFl (Cond.code yFl cFl 5 none :: Wl) { frames := 0, cells := 0, slots := 0, locals := 0 } (va_Pc [.ref q, .long v] (fun U => U.heap.size = sz ∧ va_P D cl [(q, .inl (cA, n, .inr (.inl g0)))] U.heap ∧ va_K D cl [(cA, .long)] U ∧ va_D (fun _ => True) [(q, .inl (cA, n, .inr (.inl g0)))])) (va_Qv (fun _ : Unit => True) (fun _ t => va_P D cl [(q, .inl (cA, n, .inr (.inl (fun _ => v))))] t.heap) (va_A [(q, .inl (cA, n, .inr (.inl g0)))] sz)) 0 0 (va_A [(q, .inl (cA, n, .inr (.inl g0)))] sz) := by
  refine Met.ofW (cc := cFl) (maxL := 5) (ret := none) (by decide) rfl ?_
  intro p e s m args below meth c s₁ B hml hv
  obtain ⟨rfl, hsz, hP, hK, hD0⟩ := hv
  have hx := B.exec
  have hb := B.bytes
  have hr := B.returns
  have hlocks := B.notSynchronized
  subst hsz
  have hD := hD0.self (sz := s.heap.size)
  generalize hAe : va_A [(q, .inl (cA, n, .inr (.inl g0)))] s.heap.size = A at hD ⊢
  have hS : va_S A s.heap s.heap [] := va_S.rf
  have hl := lv_entry ([.ref q, .long v]) (n := 5) (Nat.le_of_ble_eq_true rfl)
  rw [lg_entry_eq]
  generalize (lg_sl ([.ref q, .long v]) ++ List.replicate (5 - (lg_sl ([.ref q, .long v])).length) Slot.unset).toArray = ls at hl ⊢
  have hl : lv_has ls 5 [(0, .ref q), (1, .long v)] := hl
  have loop : ∀ (k i : Nat) (g : Nat → Int64) (H : Heap) (locs : List Loc) (ls : Array Slot), i + k = n → (∀ j, j < i → g j = v) → va_P D cl [(q, .inl (cA, n, .inr (.inl g)))] H → va_D A [(q, .inl (cA, n, .inr (.inl g)))] → va_S A s.heap H locs → lv_has ls 5 [(0, .ref q), (1, .long v), (3, .int (nI i)), (4, .int (nI n))] →
      W p l e { frames := 0, cells := 0, slots := 0, locals := 0 } s m ([.ref q, .long v] : List Value).toArray below meth c H locs 0 0 (MQ below (va_Qv (fun _ : Unit => True) (fun _ t => va_P D cl [(q, .inl (cA, n, .inr (.inl (fun _ => v))))] t.heap) A) ([.ref q, .long v] : List Value).toArray s 0 0 A) (F0 m 6 ls []) := by
    intro k
    induction k with
    | zero =>
      intro i g H locs ls hi hg hP hD hS hl
      refine lv_iload_n hx hb dFl_6 rfl (lv_at hl 2 rfl) ?_
      refine lv_iload hx hb dFl_7 (lv_at hl 3 rfl) ?_
      refine lv_icmp_ge (tgt := 22) hx hb dFl_9 (by decide) (fun _ => ?_) (fun hc => ?_)
      · refine W.vret hx hb hr (fun t ht hW => ⟨⟨(), rfl, trivial, ?_⟩, hS.F ht⟩) hS.2.2 dFl_22
        show va_P D cl [(q, .inl (cA, n, .inr (.inl (fun _ => v))))] t.heap
        rw [ht]
        intro k9 x hk
        have h0 := hP 0 _ rfl
        match k9, hk with
        | 0, hk =>
          cases hk
          show H[q]? = some (vp_cell cA (n, .inr (.inl (fun _ => v))))
          rw [← filll_same (g := g) (fun j hj => hg j (by omega))]
          exact h0
        | k9 + 1, hk => simp at hk
      · exact absurd (nI_le (by omega) (by omega)) hc
    | succ k ih =>
      intro i g H locs ls hi hg hP hD hS hl
      refine lv_iload_n hx hb dFl_6 rfl (lv_at hl 2 rfl) ?_
      refine lv_iload hx hb dFl_7 (lv_at hl 3 rfl) ?_
      refine lv_icmp_ge (tgt := 22) hx hb dFl_9 (by decide) (fun hc => ?_) (fun _ => ?_)
      · exact absurd hc (nI_ge (by omega) (by omega))
      · refine lv_aload_n hx hb dFl_12 rfl (lv_at hl 0 rfl) ?_
        refine lv_iload_n hx hb dFl_13 rfl (lv_at hl 2 rfl) ?_
        refine lv_lload_n hx hb dFl_14 rfl (lv_at hl 1 rfl) ?_
        refine va_last hx hb hK hP hD hS 0 0 rfl rfl (vp_in_nI (show i < n by omega) hn) dFl_15 (fun H locs hP hD hS => ?_)
        refine lv_iinc (v := nI (i + 1)) (lv' := [(3, .int (nI (i + 1))), (0, .ref q), (1, .long v), (4, .int (nI n))]) hx hb dFl_16 hl (k := 2) rfl (nI_1 i) (by decide) rfl (fun ls hl => ?_)
        refine lv_goto (tgt := 6) hx hb dFl_19 (by decide) ?_
        refine ih (i + 1) (vp_updL g (nI i).toNatClampNeg v) H locs ls (by omega) (fun j hj => ?_) hP hD hS (lv_sub hl [1, 2, 0, 3] rfl)
        rw [nI_clamp (by omega)]
        show (if j = i then v else g j) = v
        by_cases e : j = i
        · rw [if_pos e]
        · rw [if_neg e]; exact hg j (by omega)
  refine lv_iconst (v := 0) hx hb dFl_0 (by decide) ?_
  refine lv_istore_n (lv' := [(3, .int 0), (0, .ref q), (1, .long v)]) hx hb dFl_1 rfl hl (by decide) rfl (fun ls hl => ?_)
  refine lv_aload_n hx hb dFl_2 rfl (lv_at hl 1 rfl) ?_
  refine va_alen (v := nI n) hx hb hK hP 0 0 rfl rfl rfl dFl_3 ?_
  refine lv_istore (lv' := [(4, .int (nI n)), (3, .int 0), (0, .ref q), (1, .long v)]) hx hb dFl_4 hl (by decide) rfl (fun ls hl => ?_)
  exact loop n 0 g0 _ _ ls (by omega) (fun j hj => absurd hj (Nat.not_lt_zero j)) hP hD hS (lv_sub (l' := [(0, .ref q), (1, .long v), (3, .int (nI 0)), (4, .int (nI n))]) hl [2, 3, 1, 0] rfl)
theorem gfilll {N : Nat} {kf : wL} {tys : List (ClassId × FieldType)} {tx : List (String × Nat × String)} {D : va_G} {cl : List vw_C} {sa : Nat → Nat} {A : Nat → Prop} {ad : Nat → Nat} {ca : Nat → ClassId} {p : Program} {l : Launch} {e : Env} {R : Room} {s : State} {m : MethodId} {args : Array Value} {below : List Frame} {meth : Method} {c : Code} {cc : ByteArray} {nL : Nat} {own : String} {H : Heap} {locs : List Loc} {cells slots : Nat} {Q : State → Prop} {pc : Nat} {ls : Array Slot} {rest : List Value} {f : wF} {a : wA} {b : wB}
    (X : cx Wl tys tx D cl sa A p l s m args meth c cc nL own) (K : wd N kf D cl ad ca A s H locs f a b) {o n t0 index : Nat} {cA : ClassId} {g : Nat → Int64} {v : Int64} (ho : o < N) (hko : kf ad ca f a b o = .inl (cA, n, .inr (.inl g))) (ht : tys[t0]? = some (cA, .long)) (hn : n < 2 ^ 31) (w1 : Cond.methodLink own index yFl ∈ Wl) (hsz : ls.size = nL) (hW : (rest.map fun v => v.category).sum ≤ 8) (hdg : decode cc pc = .ok (.invokestatic index, 3)) (hR : 1 ≤ R.frames ∧ 8 + (5 + 11) + 0 ≤ R.locals) (hc : cells + 0 ≤ R.cells ∧ slots + 0 ≤ R.slots)
    {f1 : wF} {a1 : wA} {b1 : wB} (hup : va_up (kf ad ca f a b) o (.inl (cA, n, .inr (.inl (fun _ => v)))) = kf ad ca f1 a1 b1)
    (kk : ∀ (H1 : Heap) (locs1 : List Loc), wd N kf D cl ad ca A s H1 locs1 f1 a1 b1 → W p l e R s m args below meth c H1 locs1 cells slots Q (F0 m (pc + 3) ls rest)) : W p l e R s m args below meth c H locs cells slots Q (F0 m pc ls (.long v :: .ref (ad o) :: rest)) := by
  obtain ⟨hx, hb, hml, hown, hts, hK, hA, hth, hlk, hl⟩ := id X
  obtain ⟨hP, hD, hS⟩ := id K
  have hget : (ww N kf ad ca f a b)[o]? = some (ad o, .inl (cA, n, .inr (.inl g))) := (wg_get ho).trans (by rw [hko])
  have hP1 : va_P D cl [(ad o, .inl (cA, n, .inr (.inl g)))] H := fun k x hk => by
    match k, hk with
    | 0, hk => cases hk; exact hP o _ hget
    | k + 1, hk => simp at hk
  have hD1 : va_D (fun _ => True) [(ad o, .inl (cA, n, .inr (.inl g)))] := ⟨fun i j x y hi hj _ => by
    have h1 : i < 1 := (List.getElem?_eq_some_iff.mp hi).1
    have h2 : j < 1 := (List.getElem?_eq_some_iff.mp hj).1
    omega, fun _ _ _ => trivial⟩
  have hK1 : va_K D cl [(cA, .long)] s := ⟨hK.1, fun k x hk => by
    match k, hk with
    | 0, hk => cases hk; exact hK.2 t0 _ ht
    | k + 1, hk => simp at hk⟩
  have hF : ∀ q, va_A [(ad o, .inl (cA, n, .inr (.inl g)))] H.size q → A q := fun q h => by
    rcases h with ⟨k, x, h⟩ | h
    · match k, h with
      | 0, h => cases h; exact hD.2 o _ hget
      | k + 1, h => simp at h
    · exact hA q (Nat.le_trans hS.1 h)
  have hT : GoodIn Wl (va_wsS own index yFl (Cond.code yFl cFl 5 none :: Wl)) := good_in wl_good (fun w hw => by
    simp only [List.mem_cons, List.not_mem_nil, or_false] at hw
    rcases hw with q | q | q
    · rw [q]; exact w1
    · rw [q]; exact wFl_s
    · rw [q]; exact wF_i) wFl_c
  refine va_callv (va_runS (As := [.ref (ad o), .long v]) (rest := rest) ⟨hx, hb, hml, hown, hts⟩ (met_filll l D cl cA (ad o) n H.size hn g v) (va_cwS 2 hts hT rfl rfl rfl ⟨by decide, by decide, by decide +kernel⟩ hR) ⟨fun a U g9 mk q => by obtain ⟨q0, q1, qP, qK, qD⟩ := q; exact ⟨q0, q1, qP, va_K.moved (u := U) (U := U.calling g9 mk a) (Vm.Alike.refl U.vm) qK, qD⟩, fun U hU hW => ⟨rfl, by rw [hU], by rw [hU]; exact hP1, va_K.moved hW.alike hK1, hD1⟩⟩ rfl rfl hsz rfl (lv_room hW) hdg hc) hS (fun q _ h => hF q h) hF (fun u t H1 locs1 ht hvm hw hB hz hk hS1 => kk H1 locs1 ?_)
  rw [ht] at hB
  have hcell : H1[ad o]? = some (vp_cell cA (n, .inr (.inl (fun _ => v)))) := hB 0 _ rfl
  have hP2 : va_P D cl ((ww N kf ad ca f a b).set o (ad o, .inl (cA, n, .inr (.inl (fun _ => v))))) H1 := by
    intro k x hkx
    rw [List.getElem?_set] at hkx
    by_cases e1 : o = k
    · subst e1
      rw [if_pos rfl, if_pos (by show o < (wg ad (kf ad ca f a b) N).length; rw [wg_len]; exact ho)] at hkx
      cases hkx
      exact hcell
    · rw [if_neg e1] at hkx
      refine (hP k x hkx).kept (hk x.1 ((hP k x hkx).lt) ?_)
      intro h9
      rcases h9 with ⟨k9, x9, h9⟩ | h9
      · match k9, h9 with
        | 0, h9 =>
          have h8 : ad o = x.1 := congrArg Prod.fst (Option.some.inj h9)
          exact e1 (hD.1 o k _ x hget hkx h8)
        | k9 + 1, h9 => simp at h9
      · exact absurd ((hP k x hkx).lt) (Nat.not_lt.mpr h9)
  have hD2 : va_D A ((ww N kf ad ca f a b).set o (ad o, .inl (cA, n, .inr (.inl (fun _ => v))))) := by
    have hfst : ∀ (k : Nat) (x : Nat × va_E), ((ww N kf ad ca f a b).set o (ad o, .inl (cA, n, .inr (.inl (fun _ => v)))))[k]? = some x → ∃ y : Nat × va_E, (ww N kf ad ca f a b)[k]? = some y ∧ y.1 = x.1 := by
      intro k x hkx
      rw [List.getElem?_set] at hkx
      by_cases e1 : o = k
      · subst e1
        rw [if_pos rfl, if_pos (by show o < (wg ad (kf ad ca f a b) N).length; rw [wg_len]; exact ho)] at hkx
        cases hkx
        exact ⟨_, hget, rfl⟩
      · rw [if_neg e1] at hkx
        exact ⟨x, hkx, rfl⟩
    refine ⟨fun i j x y hi hj hxy => ?_, fun k x hk => ?_⟩
    · obtain ⟨x', h1, h2⟩ := hfst i x hi
      obtain ⟨y', h3, h4⟩ := hfst j y hj
      exact hD.1 i j x' y' h1 h3 (by rw [h2, h4]; exact hxy)
    · obtain ⟨x', h1, h2⟩ := hfst k x hk
      rw [← h2]
      exact hD.2 k x' h1
  unfold ww at hP2 hD2
  rw [wg_set ho, hup] at hP2 hD2
  exact ⟨hP2, hD2, hS1⟩
/-- System.arraycopy between two arrays of ints of the layout, from place 0 to place 0 -/
theorem gcopy {N : Nat} {kf : wL} {tys : List (ClassId × FieldType)} {tx : List (String × Nat × String)} {D : va_G} {cl : List vw_C} {sa : Nat → Nat} {A : Nat → Prop} {ad : Nat → Nat} {ca : Nat → ClassId} {p : Program} {l : Launch} {e : Env} {R : Room} {s : State} {m : MethodId} {args : Array Value} {below : List Frame} {meth : Method} {c : Code} {cc : ByteArray} {nL : Nat} {own : String} {H : Heap} {locs : List Loc} {cells slots : Nat} {Q : State → Prop} {pc : Nat} {ls : Array Slot} {rest : List Value} {f : wF} {a : wA} {b : wB}
    (X : cx Wl tys tx D cl sa A p l s m args meth c cc nL own) (K : wd N kf D cl ad ca A s H locs f a b) {o o2 n0 n1 t0 index : Nat} {cA : ClassId} {g0 g1 : Nat → Int32} {sp dp n : Int32} (ho : o < N) (ho2 : o2 < N) (hko : kf ad ca f a b o = .inl (cA, n0, .inl g0)) (hko2 : kf ad ca f a b o2 = .inl (cA, n1, .inl g1)) (ht : tys[t0]? = some (cA, .int)) (w1 : Cond.methodLink own index arraycopyName ∈ Wl) (w2 : Cond.native arraycopyName ∈ Wl) (w3 : Cond.static arraycopyName ∈ Wl) (w4 : Cond.initialized "java/lang/System" ∈ Wl)
    (h1 : ¬ sp < 0) (h2 : ¬ dp < 0) (h3 : ¬ n < 0) (h4 : sp.toNatClampNeg + n.toNatClampNeg ≤ n0) (h5 : dp.toNatClampNeg + n.toNatClampNeg ≤ n1) (hsz : ls.size = nL) (hf : 1 ≤ R.frames) (hlo : (rest.map fun v => v.category).sum + (nativeFrameWords "java/lang/System" "arraycopy" 5 + 11) ≤ R.locals) (hdg : decode cc pc = .ok (.invokestatic index, 3))
    {f1 : wF} {a1 : wA} {b1 : wB} (hup : va_up (kf ad ca f a b) o2 (.inl (cA, n1, .inl (va_cpy g0 g1 sp.toNatClampNeg dp.toNatClampNeg n.toNatClampNeg))) = kf ad ca f1 a1 b1)
    (kk : ∀ (H1 : Heap) (locs1 : List Loc), wd N kf D cl ad ca A s H1 locs1 f1 a1 b1 → W p l e R s m args below meth c H1 locs1 cells slots Q (F0 m (pc + 3) ls rest)) : W p l e R s m args below meth c H locs cells slots Q (F0 m pc ls (.int n :: .int dp :: .ref (ad o2) :: .int sp :: .ref (ad o) :: rest)) := by
  obtain ⟨hx, hb, hml, hown, hts, hK, hA, hth, hlk, hl⟩ := X
  refine va_copyi hx hb (hml.trans hsz.symm) hown (hts _ w1) (hts _ w2) (hts _ w3) (hts _ w4) hK K.1 K.2.1 K.2.2 o o2 t0 t0 ((wg_get ho).trans (by rw [hko])) ((wg_get ho2).trans (by rw [hko2])) ht ht rfl h1 h2 h3 h4 h5 (fun i _ => rfl) hf hlo hdg (fun H1 locs1 hP1 hD1 hS1 => kk H1 locs1 ?_)
  unfold ww at hP1 hD1
  rw [wg_set ho2, hup] at hP1 hD1
  exact ⟨hP1, hD1, hS1⟩
theorem swo {x : Int32} (h0 : ¬ x = 0) (h1 : ¬ x = 1) (h2 : ¬ x = 2) (h3 : ¬ x = 3) : x.toInt < 0 ∨ 3 < x.toInt := by
  have e : ∀ k : Int32, ¬ x = k → x.toInt ≠ k.toInt := fun k h q => h (Int32.toInt_inj.mp q)
  have a0 := e 0 h0
  have a1 := e 1 h1
  have a2 := e 2 h2
  have a3 := e 3 h3
  have b0 : (0 : Int32).toInt = 0 := by decide
  have b1 : (1 : Int32).toInt = 1 := by decide
  have b2 : (2 : Int32).toInt = 2 := by decide
  have b3 : (3 : Int32).toInt = 3 := by decide
  omega
