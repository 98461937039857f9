/-! A callee whose world is a stretch of the caller's world: the cells o .. o+N'-1. -/
theorem ww_lt {N : Nat} {kf : wL} {ad : Nat → Nat} {ca : Nat → ClassId} {f : wF} {a : wA} {b : wB} {k : Nat} {q : Nat × va_E} (h : (ww N kf ad ca f a b)[k]? = some q) : k < N ∧ q = (ad k, kf ad ca f a b k) := by
  have h1 : k < (ww N kf ad ca f a b).length := (List.getElem?_eq_some_iff.mp h).1
  have h2 : (ww N kf ad ca f a b).length = N := wg_len
  rw [h2] at h1
  have h3 : (ww N kf ad ca f a b)[k]? = some (ad k, kf ad ca f a b k) := wg_get h1
  rw [h3] at h
  exact ⟨h1, (Option.some.inj h).symm⟩
def emb (N : Nat) (kf : wL) (ad : Nat → Nat) (N' : Nat) (kf' : wL) (ad' : Nat → Nat) (ca : Nat → ClassId) (o : Nat) (f : wF) (a : wA) (b : wB) (f' : wF) (a' : wA) (b' : wB) : Prop :=
  o + N' ≤ N ∧ ∀ j, j < N' → ad' j = ad (o + j) ∧ kf' ad' ca f' a' b' j = kf ad ca f a b (o + j)
section EMB
variable {N N' o : Nat} {kf kf' : wL} {D : va_G} {cl : List vw_C} {A : Nat → Prop} {ad ad' : Nat → Nat} {ca : Nat → ClassId} {H H1 H0 : Heap} {locs : List Loc} {f f' : wF} {a a' : wA} {b b' : wB}
theorem emb_P (h : emb N kf ad N' kf' ad' ca o f a b f' a' b') (hP : va_P D cl (ww N kf ad ca f a b) H) : va_P D cl (ww N' kf' ad' ca f' a' b') H := by
  intro k q hk
  obtain ⟨h1, rfl⟩ := ww_lt hk
  obtain ⟨e1, e2⟩ := h.2 k h1
  rw [e2, e1]
  exact hP (o + k) _ (wg_get (by have := h.1; omega))
theorem emb_D (h : emb N kf ad N' kf' ad' ca o f a b f' a' b') (hD : va_D A (ww N kf ad ca f a b)) : va_D A (ww N' kf' ad' ca f' a' b') := by
  refine ⟨fun i j x y hi hj hxy => ?_, fun k q hk => ?_⟩
  · obtain ⟨h1, rfl⟩ := ww_lt hi
    obtain ⟨h2, rfl⟩ := ww_lt hj
    have hxy : ad' i = ad' j := hxy
    rw [(h.2 i h1).1, (h.2 j h2).1] at hxy
    have := h.1
    have := hD.1 (o + i) (o + j) _ _ (wg_get (by omega)) (wg_get (by omega)) hxy
    omega
  · obtain ⟨h1, rfl⟩ := ww_lt hk
    show A (ad' k)
    rw [(h.2 k h1).1]
    have := h.1
    exact hD.2 (o + k) _ (wg_get (by omega))
theorem emb_back (h : emb N kf ad N' kf' ad' ca o f a b f' a' b') (hP : va_P D cl (ww N kf ad ca f a b) H) (hD : va_D A (ww N kf ad ca f a b)) (hk : ∀ q : Nat, q < H.size → ¬ va_A (ww N' kf' ad' ca f' a' b') H.size q → H1[q]? = H[q]?)
    {f1 f2 : wF} {a1 a2 : wA} {b1 b2 : wB} (hP1 : va_P D cl (ww N' kf' ad' ca f1 a1 b1) H1) (hm : emb N kf ad N' kf' ad' ca o f2 a2 b2 f1 a1 b1) (hr : ∀ j, j < N → ¬ (o ≤ j ∧ j < o + N') → kf ad ca f2 a2 b2 j = kf ad ca f a b j) : va_P D cl (ww N kf ad ca f2 a2 b2) H1 ∧ va_D A (ww N kf ad ca f2 a2 b2) := by
  refine ⟨fun k q hkq => ?_, ⟨fun i j x y hi hj hxy => ?_, fun k q hkq => ?_⟩⟩
  · obtain ⟨h1, rfl⟩ := ww_lt hkq
    by_cases e : o ≤ k ∧ k < o + N'
    · have e1 : o + (k - o) = k := by omega
      have h2 := hP1 (k - o) _ (wg_get (by omega))
      obtain ⟨g1, g2⟩ := hm.2 (k - o) (by omega)
      rw [e1] at g1 g2
      rw [g1, g2] at h2
      exact h2
    · rw [hr k h1 e]
      have h2 := hP k _ (wg_get h1)
      refine h2.kept (hk (ad k) h2.lt ?_)
      intro h9
      rcases h9 with ⟨k9, x9, h9⟩ | h9
      · obtain ⟨h3, h4⟩ := ww_lt h9
        have h5 : ad k = ad' k9 := congrArg Prod.fst h4
        rw [(h.2 k9 h3).1] at h5
        have := h.1
        have := hD.1 k (o + k9) _ _ (wg_get h1) (wg_get (by omega)) h5
        omega
      · exact absurd h2.lt (Nat.not_lt.mpr h9)
  · obtain ⟨h1, rfl⟩ := ww_lt hi
    obtain ⟨h2, rfl⟩ := ww_lt hj
    exact hD.1 i j _ _ (wg_get h1) (wg_get h2) hxy
  · obtain ⟨h1, rfl⟩ := ww_lt hkq
    exact hD.2 k (ad k, kf ad ca f a b k) (wg_get h1)
end EMB
section EMC
variable {N N' : Nat} {kf kf' : wL} {tys : List (ClassId × FieldType)} {tx : List (String × Nat × String)} {D : va_G} {cl : List vw_C} {sa : Nat → Nat} {A : Nat → Prop} {ad ad' : Nat → Nat} {ca : Nat → ClassId}
variable {p : Program} {l : Launch} {e : Env} {R : Room} {s : State} {m : MethodId} {args : Array Value} {below : List Frame} {meth : Method} {c : Code} {cc : ByteArray} {nL : Nat} {own : String} {H : Heap} {locs : List Loc} {cells slots : Nat} {Q : State → Prop} {pc : Nat} {ls : Array Slot} {rest st0 : List Value} {f f' : wF} {a a' : wA} {b b' : wB}
theorem pre_emb (X : cx Wl tys tx D cl sa A p l s m args meth c cc nL own) (K : wd N kf D cl ad ca A s H locs f a b) {o : Nat} (hm : emb N kf ad N' kf' ad' ca o f a b f' a' b') (av : List Value) : ∀ U : State, U.heap = H → s.WarmedH U.vm → va_Pc av (sPre N' kf' tys tx D cl ad' ca sa H.size f' a' b') av.toArray U := by
  intro U hU hW
  obtain ⟨hx, hb, hml, hown, hts, hK, hA, hth, hlk, hl⟩ := X
  obtain ⟨hP, hD, hS⟩ := K
  exact ⟨rfl, by rw [hU], by rw [hU]; exact emb_P hm hP, va_K.moved hW.alike hK, (emb_D hm hD).weaken (fun _ _ _ _ => trivial), th.call hth hU hW hS.2.1 (wfree (emb_D hm hD) hS hA)⟩
theorem back_emb (X : cx Wl tys tx D cl sa A p l s m args meth c cc nL own) (K : wd N kf D cl ad ca A s H locs f a b) {o : Nat} (hm : emb N kf ad N' kf' ad' ca o f a b f' a' b') {u : wF × wA × wB} {t : State} {H1 : Heap} {locs1 : List Loc} (ht : t.heap = H1) (hB : sPost N' kf' D cl ad' ca (va_A (ww N' kf' ad' ca f' a' b') H.size) u t) (hk : ∀ q : Nat, q < H.size → ¬ va_A (ww N' kf' ad' ca f' a' b') H.size q → H1[q]? = H[q]?) (hS1 : va_S A s.heap H1 locs1)
    {f2 : wF} {a2 : wA} {b2 : wB} (hm2 : emb N kf ad N' kf' ad' ca o f2 a2 b2 u.1 u.2.1 u.2.2) (hr : ∀ j, j < N → ¬ (o ≤ j ∧ j < o + N') → kf ad ca f2 a2 b2 j = kf ad ca f a b j) : wd N kf D cl ad ca A s H1 locs1 f2 a2 b2 := by
  obtain ⟨hP, hD, hS⟩ := K
  obtain ⟨h1, -⟩ := hB
  rw [ht] at h1
  obtain ⟨g1, g2⟩ := emb_back hm hP hD hk h1 hm2 hr
  exact ⟨g1, g2, hS1⟩
theorem geI (X : cx Wl tys tx D cl sa A p l s m args meth c cc nL own) (K : wd N kf D cl ad ca A s H locs f a b) {o : Nat} (hm : emb N kf ad N' kf' ad' ca o f a b f' a' b') (mf : wF → wF) (ma : wA → wA) (mb : wB → wB) (hm2 : ∀ (f1 : wF) (a1 : wA) (b1 : wB), emb N kf ad N' kf' ad' ca o (mf f1) (ma a1) (mb b1) f1 a1 b1) (hr : ∀ (f1 : wF) (a1 : wA) (b1 : wB) (j : Nat), j < N → ¬ (o ≤ j ∧ j < o + N') → kf ad ca (mf f1) (ma a1) (mb b1) j = kf ad ca f a b j) {y : MethodName} {bytes : ByteArray} {maxL n0 mc ms r0 ci index n1 : Nat} {ret : Option FieldType} {rm : Room} {C : String} {T : u_T} {As fs : List Value} {po : Int32 → wF → wA → wB → Prop} {px : String → wF → wA → wB → Prop}
    (hM : mI N' kf' tys tx D cl l y (Cond.code y bytes maxL ret :: Wl) rm (Value.ref (ad' r0) :: As) ad' ca sa H.size f' a' b' po px mc ms) (ho : r0 < N') (hko : kf' ad' ca f' a' b' r0 = .inr (ci, fs)) (hci : cl[ci]? = some (C, T, n1))
    (w1 : Cond.methodLink own index y ∈ Wl) (w2 : Cond.instanceMethod y ∈ Wl) (w3 : Cond.selects C y y ∈ Wl) (w4 : Cond.initialized C ∈ Wl) (w5 : Cond.code y bytes maxL ret ∈ Wl)
    (hd : y.cls = C ∧ y.cls ≠ "java/lang/invoke/MethodHandle" ∧ y.cls ≠ "java/lang/invoke/VarHandle" ∧ (parseMethodDescriptor y.desc).map (fun d => d.parameters.length) = some n0) (hrc : rm.cells = mc) (hrs : rm.slots = ms) (hR : rm.frames + 1 ≤ R.frames ∧ 8 + (maxL + 11) + rm.locals ≤ R.locals)
    (hn : As.length = n0) (hsz : ls.size = nL) (hst : st0 = As.reverse ++ Value.ref (ad' r0) :: rest) (hW : (rest.map fun v => v.category).sum ≤ 8) (hdg : decode cc pc = .ok (.invokevirtual index, 3)) (hf : cells + mc ≤ R.cells ∧ slots + ms ≤ R.slots)
    (kx : ∀ (E : String) (ce : Cell) (q9 : Addr) (f1 : wF) (a1 : wA) (b1 : wB) (H1 : Heap) (locs1 : List Loc), px E f1 a1 b1 → wd N kf D cl ad ca A s H1 locs1 (mf f1) (ma a1) (mb b1) → H1[q9]? = some ce → ce.vm = .none → s.vm.findClass E = some ce.cls → vx_W p l e R s m args below meth c H1 locs1 (cells + mc) (slots + ms) Q (F0 m pc ls rest) q9)
    (kk : ∀ (r : Int32) (f1 : wF) (a1 : wA) (b1 : wB) (H1 : Heap) (locs1 : List Loc), po r f1 a1 b1 → wd N kf D cl ad ca A s H1 locs1 (mf f1) (ma a1) (mb b1) → W p l e R s m args below meth c H1 locs1 (cells + mc) (slots + ms) Q (F0 m (pc + 3) ls (.int r :: rest))) : W p l e R s m args below meth c H locs cells slots Q (F0 m pc ls st0) := by
  obtain ⟨hx, hb, hml, hown, hts, hK, hA, hth, hlk, hl⟩ := id X
  obtain ⟨hP, hD, hS⟩ := id K
  have hF := wfree (emb_D hm hD) hS hA
  have hrv : ∃ cellB : Cell, H[ad' r0]? = some cellB ∧ cellB.vm.isStatics = false ∧ s.vm.findClass C = some cellB.cls := va_recv hK (emb_P hm hP) (ci := ci) (q0 := r0) hci ((wg_get ho).trans (by rw [hko]))
  have hT : GoodIn Wl (wsV own index C y (Cond.code y bytes maxL ret :: Wl)) := good_in wl_good (fun w hw => by
    simp only [List.mem_cons, List.not_mem_nil, or_false] at hw
    rcases hw with q | q | q | q
    · rw [q]; exact w1
    · rw [q]; exact w2
    · rw [q]; exact w3
    · rw [q]; exact w4) w5
  exact vx_calli (vx_runV (As := As) (rest := rest) ⟨hx, hb, hml, hown, hts⟩ hM (cwV n0 hts hT rfl hrc hrs hd hR) ⟨sPre.blind, hrv, pre_emb X K hm _⟩ rfl hn hsz hst (lv_room hW) hdg hf) hS (fun q _ h => hF q h) hF (fun q _ h => hF q h)
    (fun E ce q9 u t H1 locs1 ht hvm _ hB hz hk hS1 hce hv hcl => kx E ce q9 u.1 u.2.1 u.2.2 H1 locs1 hB.1 (back_emb X K hm ht hB.2 hk hS1 (hm2 _ _ _) (hr _ _ _)) hce hv hcl)
    (fun r_ u t H1 locs1 ht hvm hw hB hz hk hS1 => kk r_ u.1 u.2.1 u.2.2 H1 locs1 hw (back_emb X K hm ht hB hk hS1 (hm2 _ _ _) (hr _ _ _)))
/-- a static callee with an exception table of its own -/
theorem geSX (X : cx Wl tys tx D cl sa A p l s m args meth c cc nL own) (K : wd N kf D cl ad ca A s H locs f a b) {o : Nat} (hm : emb N kf ad N' kf' ad' ca o f a b f' a' b') (mf : wF → wF) (ma : wA → wA) (mb : wB → wB) (hm2 : ∀ (f1 : wF) (a1 : wA) (b1 : wB), emb N kf ad N' kf' ad' ca o (mf f1) (ma a1) (mb b1) f1 a1 b1) (hr : ∀ (f1 : wF) (a1 : wA) (b1 : wB) (j : Nat), j < N → ¬ (o ≤ j ∧ j < o + N') → kf ad ca (mf f1) (ma a1) (mb b1) j = kf ad ca f a b j) {y : MethodName} {bytes : ByteArray} {maxL n0 mc ms index : Nat} {ret : Option FieldType} {rm : Room} {hh : List (Nat × Nat × Nat × Nat)} {As : List Value} {po : Int32 → wF → wA → wB → Prop} {px : String → wF → wA → wB → Prop}
    (hM : mI N' kf' tys tx D cl l y (Cond.codeWith y bytes maxL ret hh :: Wl) rm As ad' ca sa H.size f' a' b' po px mc ms)
    (w1 : Cond.methodLink own index y ∈ Wl) (w2 : Cond.static y ∈ Wl) (w4 : Cond.initialized y.cls ∈ Wl) (w5 : Cond.codeWith y bytes maxL ret hh ∈ Wl)
    (hd : y.cls ≠ "java/lang/invoke/MethodHandle" ∧ y.cls ≠ "java/lang/invoke/VarHandle" ∧ (parseMethodDescriptor y.desc).map (fun d => d.parameters.length) = some n0) (hrc : rm.cells = mc) (hrs : rm.slots = ms) (hR : rm.frames + 1 ≤ R.frames ∧ 8 + (maxL + 11) + rm.locals ≤ R.locals)
    (hn : As.length = n0) (hsz : ls.size = nL) (hst : st0 = As.reverse ++ rest) (hW : (rest.map fun v => v.category).sum ≤ 8) (hdg : decode cc pc = .ok (.invokestatic index, 3)) (hf : cells + mc ≤ R.cells ∧ slots + ms ≤ R.slots)
    (kx : ∀ (E : String) (ce : Cell) (q9 : Addr) (f1 : wF) (a1 : wA) (b1 : wB) (H1 : Heap) (locs1 : List Loc), px E f1 a1 b1 → wd N kf D cl ad ca A s H1 locs1 (mf f1) (ma a1) (mb b1) → H1[q9]? = some ce → ce.vm = .none → s.vm.findClass E = some ce.cls → vx_W p l e R s m args below meth c H1 locs1 (cells + mc) (slots + ms) Q (F0 m pc ls rest) q9)
    (kk : ∀ (r : Int32) (f1 : wF) (a1 : wA) (b1 : wB) (H1 : Heap) (locs1 : List Loc), po r f1 a1 b1 → wd N kf D cl ad ca A s H1 locs1 (mf f1) (ma a1) (mb b1) → W p l e R s m args below meth c H1 locs1 (cells + mc) (slots + ms) Q (F0 m (pc + 3) ls (.int r :: rest))) : W p l e R s m args below meth c H locs cells slots Q (F0 m pc ls st0) := by
  obtain ⟨hx, hb, hml, hown, hts, hK, hA, hth, hlk, hl⟩ := id X
  obtain ⟨hP, hD, hS⟩ := id K
  have hF := wfree (emb_D hm hD) hS hA
  have hT : GoodIn Wl (va_wsS own index y (Cond.codeWith y bytes maxL ret hh :: Wl)) := good_in wl_good (fun w hw => by
    simp only [List.mem_cons, List.not_mem_nil, or_false] at hw
    rcases hw with q | q | q
    · rw [q]; exact w1
    · rw [q]; exact w2
    · rw [q]; exact w4) w5
  exact vx_calli (vx_runSX (As := As) (rest := rest) ⟨hx, hb, hml, hown, hts⟩ hM (vx_cwSW n0 hts hT rfl hrc hrs hd hR) ⟨sPre.blind, pre_emb X K hm _⟩ rfl hn hsz hst (lv_room hW) hdg hf) hS (fun q _ h => hF q h) hF (fun q _ h => hF q h)
    (fun E ce q9 u t H1 locs1 ht hvm _ hB hz hk hS1 hce hv hcl => kx E ce q9 u.1 u.2.1 u.2.2 H1 locs1 hB.1 (back_emb X K hm ht hB.2 hk hS1 (hm2 _ _ _) (hr _ _ _)) hce hv hcl)
    (fun r_ u t H1 locs1 ht hvm hw hB hz hk hS1 => kk r_ u.1 u.2.1 u.2.2 H1 locs1 hw (back_emb X K hm ht hB hk hS1 (hm2 _ _ _) (hr _ _ _)))
theorem geV (X : cx Wl tys tx D cl sa A p l s m args meth c cc nL own) (K : wd N kf D cl ad ca A s H locs f a b) {o : Nat} (hm : emb N kf ad N' kf' ad' ca o f a b f' a' b') (mf : wF → wF) (ma : wA → wA) (mb : wB → wB) (hm2 : ∀ (f1 : wF) (a1 : wA) (b1 : wB), emb N kf ad N' kf' ad' ca o (mf f1) (ma a1) (mb b1) f1 a1 b1) (hr : ∀ (f1 : wF) (a1 : wA) (b1 : wB) (j : Nat), j < N → ¬ (o ≤ j ∧ j < o + N') → kf ad ca (mf f1) (ma a1) (mb b1) j = kf ad ca f a b j) {y : MethodName} {bytes : ByteArray} {maxL n0 mc ms r0 ci index n1 : Nat} {ret : Option FieldType} {rm : Room} {C : String} {T : u_T} {As fs : List Value} {po : wF → wA → wB → Prop} {px : String → wF → wA → wB → Prop}
    (hM : mV N' kf' tys tx D cl l y (Cond.code y bytes maxL ret :: Wl) rm (Value.ref (ad' r0) :: As) ad' ca sa H.size f' a' b' po px mc ms) (ho : r0 < N') (hko : kf' ad' ca f' a' b' r0 = .inr (ci, fs)) (hci : cl[ci]? = some (C, T, n1))
    (w1 : Cond.methodLink own index y ∈ Wl) (w2 : Cond.instanceMethod y ∈ Wl) (w3 : Cond.selects C y y ∈ Wl) (w4 : Cond.initialized C ∈ Wl) (w5 : Cond.code y bytes maxL ret ∈ Wl)
    (hd : y.cls = C ∧ y.cls ≠ "java/lang/invoke/MethodHandle" ∧ y.cls ≠ "java/lang/invoke/VarHandle" ∧ (parseMethodDescriptor y.desc).map (fun d => d.parameters.length) = some n0) (hrc : rm.cells = mc) (hrs : rm.slots = ms) (hR : rm.frames + 1 ≤ R.frames ∧ 8 + (maxL + 11) + rm.locals ≤ R.locals)
    (hn : As.length = n0) (hsz : ls.size = nL) (hst : st0 = As.reverse ++ Value.ref (ad' r0) :: rest) (hW : (rest.map fun v => v.category).sum ≤ 8) (hdg : decode cc pc = .ok (.invokevirtual index, 3)) (hf : cells + mc ≤ R.cells ∧ slots + ms ≤ R.slots)
    (kx : ∀ (E : String) (ce : Cell) (q9 : Addr) (f1 : wF) (a1 : wA) (b1 : wB) (H1 : Heap) (locs1 : List Loc), px E f1 a1 b1 → wd N kf D cl ad ca A s H1 locs1 (mf f1) (ma a1) (mb b1) → H1[q9]? = some ce → ce.vm = .none → s.vm.findClass E = some ce.cls → vx_W p l e R s m args below meth c H1 locs1 (cells + mc) (slots + ms) Q (F0 m pc ls rest) q9)
    (kk : ∀ (f1 : wF) (a1 : wA) (b1 : wB) (H1 : Heap) (locs1 : List Loc), po f1 a1 b1 → wd N kf D cl ad ca A s H1 locs1 (mf f1) (ma a1) (mb b1) → W p l e R s m args below meth c H1 locs1 (cells + mc) (slots + ms) Q (F0 m (pc + 3) ls rest)) : W p l e R s m args below meth c H locs cells slots Q (F0 m pc ls st0) := by
  obtain ⟨hx, hb, hml, hown, hts, hK, hA, hth, hlk, hl⟩ := id X
  obtain ⟨hP, hD, hS⟩ := id K
  have hF := wfree (emb_D hm hD) hS hA
  have hrv : ∃ cellB : Cell, H[ad' r0]? = some cellB ∧ cellB.vm.isStatics = false ∧ s.vm.findClass C = some cellB.cls := va_recv hK (emb_P hm hP) (ci := ci) (q0 := r0) hci ((wg_get ho).trans (by rw [hko]))
  have hT : GoodIn Wl (wsV own index C y (Cond.code y bytes maxL ret :: Wl)) := good_in wl_good (fun w hw => by
    simp only [List.mem_cons, List.not_mem_nil, or_false] at hw
    rcases hw with q | q | q | q
    · rw [q]; exact w1
    · rw [q]; exact w2
    · rw [q]; exact w3
    · rw [q]; exact w4) w5
  exact vx_callv (vx_runV (As := As) (rest := rest) ⟨hx, hb, hml, hown, hts⟩ hM (cwV n0 hts hT rfl hrc hrs hd hR) ⟨sPre.blind, hrv, pre_emb X K hm _⟩ rfl hn hsz hst (lv_room hW) hdg hf) hS (fun q _ h => hF q h) hF (fun q _ h => hF q h)
    (fun E ce q9 u t H1 locs1 ht hvm _ hB hz hk hS1 hce hv hcl => kx E ce q9 u.1 u.2.1 u.2.2 H1 locs1 hB.1 (back_emb X K hm ht hB.2 hk hS1 (hm2 _ _ _) (hr _ _ _)) hce hv hcl)
    (fun u t H1 locs1 ht hvm hw hB hz hk hS1 => kk u.1 u.2.1 u.2.2 H1 locs1 hw (back_emb X K hm ht hB hk hS1 (hm2 _ _ _) (hr _ _ _)))
/-- the entry of a method with handlers -/
theorem ofIH {y : MethodName} {maxL mc ms sz : Nat} {ret : Option FieldType} {rm : Room} {hh : List (Nat × Nat × Nat × Nat)} {av : List Value} {po : Int32 → wF → wA → wB → Prop} {px : String → wF → wA → wB → Prop} (hy : plainName y.cls = true) (hl : l.stackTraces = false) (hlen : (lg_sl av).length ≤ maxL)
    (body : ∀ (p : Program) (e : Env) (s : State) (m : MethodId) (below : List Frame) (meth : Method) (c : Code) (ls : Array Slot), cx Wl tys tx D cl sa (va_A (ww N kf ad ca f a b) sz) p l s m av.toArray meth c cc maxL y.cls → c.exceptionTable.toList = tableOf hh → meth.sig.returnType = ret → wd N kf D cl ad ca (va_A (ww N kf ad ca f a b) sz) s s.heap [] f a b → lv_has ls maxL (lv_args 0 av) →
      W p l e rm s m av.toArray below meth c s.heap [] 0 0 (vx_MQ below (va_Qi (fun r (u : wF × wA × wB) => po r u.1 u.2.1 u.2.2) (sPost N kf D cl ad ca (va_A (ww N kf ad ca f a b) sz)) (va_A (ww N kf ad ca f a b) sz)) (sX N kf D cl ad ca (va_A (ww N kf ad ca f a b) sz) px) av.toArray s mc ms (va_A (ww N kf ad ca f a b) sz)) (F0 m 0 ls [])) : mI N kf tys tx D cl l y (Cond.codeWith y cc maxL ret hh :: Wl) rm av ad ca sa sz f a b po px mc ms := by
  refine vx_ofWH (cc := cc) (maxL := maxL) (ret := ret) (hh := hh) hy rfl ?_
  intro p e s m args below meth c s₁ B hml hv
  obtain ⟨rfl, hsz, hP, hK, hD0, hth⟩ := hv
  have hts := atoms_spec (ws := Cond.codeWith y cc maxL ret hh :: Wl) B.pre
  have hl1 := lv_entry av (n := maxL) hlen
  rw [lg_entry_eq]
  generalize (lg_sl av ++ List.replicate (maxL - (lg_sl av).length) Slot.unset).toArray = ls at hl1 ⊢
  exact body p e s m below meth c ls ⟨B.exec, B.bytes, hml, findClass_of_methodNamed B.named, fun w hw => hts w (List.mem_cons_of_mem _ hw), hK, fun q h => Or.inr (by rw [← hsz]; exact h), hth, B.notSynchronized, hl⟩ (vx_table (x := y) B (hts _ List.mem_cons_self)) B.returns ⟨hP, hD0.self, va_S.rf⟩ hl1
end EMC
/-! the worlds of the law's helpers (the class's cells, and the long[1] behind them) and of the law (and the reference's cells behind these) -/
abbrev nW : Nat := 58
def kW : wL := fun ad ca f a b j => if j = 57 then .inl (ca 2, 1, .inr (.inl (b 57))) else kS ad ca f a b j
def mgB (b b1 : wB) : wB := fun j => if j = 57 then b 57 else b1 j
theorem kS_congr {ad : Nat → Nat} {ca : Nat → ClassId} {f f1 : wF} {a a1 : wA} {b b1 : wB} {j : Nat} (hf : ∀ k, k < 7 → f k = f1 k) (ha : a j = a1 j) (hb : b j = b1 j) : kS ad ca f a b j = kS ad ca f1 a1 b1 j := by
  unfold kS flS_o0 flS_o24
  rw [ha, hb, hf 0 (by decide), hf 1 (by decide), hf 2 (by decide), hf 3 (by decide), hf 4 (by decide), hf 5 (by decide), hf 6 (by decide)]
theorem kW_c57 {ad : Nat → Nat} {ca : Nat → ClassId} {f : wF} {a : wA} {b : wB} : kW ad ca f a b 57 = .inl (ca 2, 1, .inr (.inl (b 57))) := rfl
theorem kW_p57 {ad : Nat → Nat} {ca : Nat → ClassId} {f : wF} {a : wA} {b : wB} {g : Nat → Int64} : va_up (kW ad ca f a b) 57 (.inl (ca 2, 1, .inr (.inl g))) = kW ad ca f a (va_up b 57 g) := by
  funext i
  by_cases e : i = 57
  · subst e
    rw [va_up_self, kW_c57, va_up_self]
  · rw [va_up_ne _ _ e]
    unfold kW
    rw [if_neg e, if_neg e]
    exact kS_congr (fun _ _ => rfl) rfl (va_up_ne _ _ e).symm
theorem embS {ad : Nat → Nat} {ca : Nat → ClassId} {f : wF} {a : wA} {b : wB} : emb nW kW ad nS kS ad ca 0 f a b f a b := by
  refine ⟨by decide, fun j hj => ?_⟩
  rw [Nat.zero_add]
  refine ⟨rfl, ?_⟩
  unfold kW
  rw [if_neg (by have : j < 57 := hj; omega)]
theorem embS2 {ad : Nat → Nat} {ca : Nat → ClassId} {b : wB} (f1 : wF) (a1 : wA) (b1 : wB) : emb nW kW ad nS kS ad ca 0 f1 a1 (mgB b b1) f1 a1 b1 := by
  refine ⟨by decide, fun j hj => ?_⟩
  rw [Nat.zero_add]
  refine ⟨rfl, ?_⟩
  have hj : j < 57 := hj
  unfold kW
  rw [if_neg (by omega)]
  exact kS_congr (fun _ _ => rfl) rfl (by show b1 j = if j = 57 then b 57 else b1 j; rw [if_neg (by omega)])
theorem embSr {ad : Nat → Nat} {ca : Nat → ClassId} {f : wF} {a : wA} {b : wB} (f1 : wF) (a1 : wA) (b1 : wB) (j : Nat) (hj : j < nW) (h : ¬ (0 ≤ j ∧ j < 0 + nS)) : kW ad ca f1 a1 (mgB b b1) j = kW ad ca f a b j := by
  have hj : j < 58 := hj
  have h : ¬ (0 ≤ j ∧ j < 0 + 57) := h
  have e : j = 57 := by omega
  subst e
  rfl
abbrev nL9 : Nat := 71
def jF (f g : wF) : wF := fun k => if k < 10 then f k else g (k - 10)
def jA (a g : wA) : wA := fun k => if k < 58 then a k else g (k - 58)
def jB (b g : wB) : wB := fun k => if k < 58 then b k else g (k - 58)
def kL9 : wL := fun ad ca f a b j => if j < 58 then kW ad ca f a b j else kM (fun k => ad (58 + k)) ca (fun k => f (10 + k)) (fun k => a (58 + k)) (fun k => b (58 + k)) (j - 58)
theorem jF_hi {f g : wF} : (fun k => jF f g (10 + k)) = g := by
  funext k
  show (if 10 + k < 10 then f (10 + k) else g (10 + k - 10)) = g k
  rw [if_neg (by omega), Nat.add_sub_cancel_left]
theorem jA_hi {f g : wA} : (fun k => jA f g (58 + k)) = g := by
  funext k
  show (if 58 + k < 58 then f (58 + k) else g (58 + k - 58)) = g k
  rw [if_neg (by omega), Nat.add_sub_cancel_left]
theorem jB_hi {f g : wB} : (fun k => jB f g (58 + k)) = g := by
  funext k
  show (if 58 + k < 58 then f (58 + k) else g (58 + k - 58)) = g k
  rw [if_neg (by omega), Nat.add_sub_cancel_left]
theorem kL_lo {ad : Nat → Nat} {ca : Nat → ClassId} {f g : wF} {a ga : wA} {b gb : wB} {j : Nat} (hj : j < 58) : kL9 ad ca (jF f g) (jA a ga) (jB b gb) j = kW ad ca f a b j := by
  unfold kL9
  rw [if_pos hj]
  unfold kW
  by_cases e : j = 57
  · subst e
    rfl
  · rw [if_neg e, if_neg e]
    exact kS_congr (fun k hk => by show (if k < 10 then f k else g (k - 10)) = f k; rw [if_pos (by omega)]) (by show (if j < 58 then a j else _) = a j; rw [if_pos hj]) (by show (if j < 58 then b j else _) = b j; rw [if_pos hj])
theorem kL_hi {ad : Nat → Nat} {ca : Nat → ClassId} {f g : wF} {a ga : wA} {b gb : wB} {j : Nat} (hj : ¬ j < 58) : kL9 ad ca (jF f g) (jA a ga) (jB b gb) j = kM (fun k => ad (58 + k)) ca g ga gb (j - 58) := by
  unfold kL9
  rw [if_neg hj, jF_hi, jA_hi, jB_hi]
theorem embW {ad : Nat → Nat} {ca : Nat → ClassId} {g : wF} {ga : wA} {gb : wB} (f : wF) (a : wA) (b : wB) : emb nL9 kL9 ad nW kW ad ca 0 (jF f g) (jA a ga) (jB b gb) f a b := by
  refine ⟨by decide, fun j hj => ?_⟩
  rw [Nat.zero_add]
  exact ⟨rfl, (kL_lo hj).symm⟩
theorem embWr {ad : Nat → Nat} {ca : Nat → ClassId} {f g : wF} {a ga : wA} {b gb : wB} (f1 : wF) (a1 : wA) (b1 : wB) (j : Nat) (hj : j < nL9) (h : ¬ (0 ≤ j ∧ j < 0 + nW)) : kL9 ad ca (jF f1 g) (jA a1 ga) (jB b1 gb) j = kL9 ad ca (jF f g) (jA a ga) (jB b gb) j := by
  have h : ¬ (0 ≤ j ∧ j < 0 + 58) := h
  have e : ¬ j < 58 := by omega
  rw [kL_hi e, kL_hi e]
theorem embM {ad : Nat → Nat} {ca : Nat → ClassId} {f : wF} {a : wA} {b : wB} (g : wF) (ga : wA) (gb : wB) : emb nL9 kL9 ad nM kM (fun k => ad (58 + k)) ca 58 (jF f g) (jA a ga) (jB b gb) g ga gb := by
  refine ⟨by decide, fun j hj => ⟨rfl, ?_⟩⟩
  rw [kL_hi (by omega), Nat.add_sub_cancel_left]
theorem embMr {ad : Nat → Nat} {ca : Nat → ClassId} {f g : wF} {a ga : wA} {b gb : wB} (f1 : wF) (a1 : wA) (b1 : wB) (j : Nat) (hj : j < nL9) (h : ¬ (58 ≤ j ∧ j < 58 + nM)) : kL9 ad ca (jF f f1) (jA a a1) (jB b b1) j = kL9 ad ca (jF f g) (jA a ga) (jB b gb) j := by
  have hj : j < 71 := hj
  have h : ¬ (58 ≤ j ∧ j < 58 + 13) := h
  have e : j < 58 := by omega
  rw [kL_lo e, kL_lo e]
