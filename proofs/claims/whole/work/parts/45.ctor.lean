/-! Worlds that grow: cells are put behind the others; for constructors. -/
theorem wg_push {ad : Nat → Nat} {k : Nat → va_E} {N q : Nat} {e : va_E} : wg ad k N ++ [(q, e)] = wg (va_up ad N q) (va_up k N e) (N + 1) := by
  unfold wg
  rw [List.range_succ, List.map_append]
  congr 1
  · apply List.map_congr_left
    intro j hj
    have : j < N := List.mem_range.mp hj
    rw [va_up_ne _ _ (by omega), va_up_ne _ _ (by omega)]
  · simp [va_up]
theorem wg_grow {ad : Nat → Nat} {k : Nat → va_E} {N M : Nat} {r : Nat → Nat} {g : Nat → va_E} : wg ad k N ++ (List.range M).map (fun i => (r i, g i)) = wg (fun j => if j < N then ad j else r (j - N)) (fun j => if j < N then k j else g (j - N)) (N + M) := by
  refine List.ext_getElem? (fun i => ?_)
  by_cases h1 : i < N
  · rw [List.getElem?_append_left (by rw [wg_len]; exact h1), wg_get h1, wg_get (by omega)]
    simp [h1]
  · rw [List.getElem?_append_right (by rw [wg_len]; omega), wg_len]
    by_cases h2 : i < N + M
    · rw [wg_get h2, List.getElem?_map, List.getElem?_range (by omega)]
      simp [h1]
    · rw [List.getElem?_eq_none (by simp; omega), List.getElem?_eq_none (by rw [wg_len]; omega)]
def wk (D : va_G) (cl : List vw_C) (ad : Nat → Nat) (k : Nat → va_E) (N : Nat) (A : Nat → Prop) (s : State) (H : Heap) (locs : List Loc) : Prop := va_P D cl (wg ad k N) H ∧ va_D A (wg ad k N) ∧ va_S A s.heap H locs
theorem wk_P {D : va_G} {cl : List vw_C} {ad : Nat → Nat} {k : Nat → va_E} {N : Nat} {H : Heap} : va_P D cl (wg ad k N) H ↔ ∀ j, j < N → va_at D cl (ad j, k j) H := by
  refine ⟨fun h j hj => h j _ (wg_get hj), fun h i q hq => ?_⟩
  have h1 : i < (wg ad k N).length := (List.getElem?_eq_some_iff.mp hq).1
  rw [wg_len] at h1
  rw [wg_get h1] at hq
  cases hq
  exact h i h1
theorem wk_D {A : Nat → Prop} {ad : Nat → Nat} {k : Nat → va_E} {N : Nat} : va_D A (wg ad k N) ↔ (∀ i j, i < N → j < N → ad i = ad j → i = j) ∧ ∀ j, j < N → A (ad j) := by
  have hl : ∀ (i : Nat) (q : Nat × va_E), (wg ad k N)[i]? = some q → i < N ∧ q = (ad i, k i) := by
    intro i q hq
    have h1 : i < (wg ad k N).length := (List.getElem?_eq_some_iff.mp hq).1
    rw [wg_len] at h1
    rw [wg_get h1] at hq
    exact ⟨h1, (Option.some.inj hq).symm⟩
  refine ⟨fun h => ⟨fun i j hi hj e => h.1 i j _ _ (wg_get hi) (wg_get hj) e, fun j hj => h.2 j _ (wg_get hj)⟩, fun h => ⟨fun i j p q hi hj e => ?_, fun i q hi => ?_⟩⟩
  · obtain ⟨a1, rfl⟩ := hl i p hi
    obtain ⟨a2, rfl⟩ := hl j q hj
    exact h.1 i j a1 a2 e
  · obtain ⟨a1, rfl⟩ := hl i q hi
    exact h.2 i a1
/-- a world is told by its cells alone -/
theorem wk_eq {D : va_G} {cl : List vw_C} {ad ad' : Nat → Nat} {k k' : Nat → va_E} {N : Nat} {A : Nat → Prop} {s : State} {H : Heap} {locs : List Loc} (h : wk D cl ad k N A s H locs) (ha : ∀ j, j < N → ad' j = ad j) (hk : ∀ j, j < N → k' j = k j) : wk D cl ad' k' N A s H locs := by
  obtain ⟨h1, h2, h3⟩ := h
  refine ⟨wk_P.mpr (fun j hj => ?_), wk_D.mpr ⟨fun i j hi hj e => ?_, fun j hj => ?_⟩, h3⟩
  · rw [ha j hj, hk j hj]; exact wk_P.mp h1 j hj
  · rw [ha i hi, ha j hj] at e
    exact (wk_D.mp h2).1 i j hi hj e
  · rw [ha j hj]; exact (wk_D.mp h2).2 j hj
section CTOR
variable {tys : List (ClassId × FieldType)} {tx : List (String × Nat × String)} {D : va_G} {cl : List vw_C} {sa : Nat → Nat} {A : Nat → Prop} {ad : Nat → Nat} {k : Nat → va_E} {N : Nat}
variable {p : Program} {l : Launch} {e : Env} {R : Room} {s : State} {m : MethodId} {args : Array Value} {below : List Frame} {meth : Method} {c : Code} {cc : ByteArray} {nL : Nat} {own : String} {H : Heap} {locs : List Loc} {cells slots : Nat} {Q : State → Prop} {pc : Nat} {ls : Array Slot} {rest : List Value}
/-- newarray of a kind of numbers -/
theorem nArr (X : cx Wl tys tx D cl sa A p l s m args meth c cc nL own) (K : wk D cl ad k N A s H locs) {atype : ArrayType} {ty : FieldType} {a0 : vp_A} {M t0 : Nat} {n : Int32} {cA : ClassId} (w1 : Cond.arrayClass (newarray.typeOf atype) ∈ Wl) (hty : newarray.typeOf atype = ty) (ht : tys[t0]? = some (cA, ty)) (hra : ∀ c : ClassId, va_RA s c ty → s.vm.findClass ("[" ++ ty.toString) = some c) (ha : ∀ cA : ClassId, vp_cell cA a0 = arrV cA M (fun _ => defaultValue ty)) (hn : ¬ n < 0) (hN : n.toNatClampNeg = M) (hbytes : M * componentBytes ty ≤ 536870912) (hcells : cells + 1 ≤ R.cells) (hslots : slots + M ≤ R.slots) (hdg : decode cc pc = .ok (.newarray atype, 2))
    (kk : ∀ (q : Nat) (H1 : Heap), wk D cl (va_up ad N q) (va_up k N (.inl (cA, a0))) (N + 1) A s H1 locs → W p l e R s m args below meth c H1 locs (cells + 1) (slots + M) Q (F0 m (pc + 2) ls (.ref q :: rest))) : W p l e R s m args below meth c H locs cells slots Q (F0 m pc ls (.int n :: rest)) := by
  obtain ⟨hx, hb, hml, hown, hts, hK, hA, hth, hlk, hl⟩ := X
  obtain ⟨hP, hD, hS⟩ := K
  refine va_newa hx hb (hts _ w1) hty hK hP hD hS hA ha hn hN hbytes hcells hslots hdg (fun q cA' H1 hK1 hP1 hD1 hS1 => kk q H1 ?_)
  have e1 : cA' = cA := by
    have g1 := hra _ (hK1.2 tys.length (cA', ty) (by rw [List.getElem?_append_right (Nat.le_refl _), Nat.sub_self]; rfl)).2
    have g2 := hra _ (hK.2 t0 _ ht).2
    exact Option.some.inj (g1.symm.trans g2)
  subst e1
  rw [wg_push] at hP1 hD1
  exact ⟨hP1, hD1, hS1⟩
/-- new T[n][M]: the outer array, then its rows -/
theorem nMulti (X : cx Wl tys tx D cl sa A p l s m args meth c cc nL own) (K : wk D cl ad k N A s H locs) {ty : FieldType} {z : vp_A} {M K' t0 t1 index : Nat} {n i2 : Int32} {cA cy : ClassId} (w1 : Cond.classLink own index ("[" ++ (FieldType.array ty).toString) ∈ Wl) (hover : va_AOA ty s) (w2 : Cond.arrayClass ty ∈ Wl) (ht : tys[t0]? = some (cA, .array ty)) (ht1 : tys[t1]? = some (cy, ty)) (hcy : ∀ c : ClassId, va_RA s c ty → s.vm.findClass (FieldType.array ty).toString = some c) (hn : ¬ n < 0) (hk : ¬ i2 < 0) (hN : n.toNatClampNeg = M) (hM : i2.toNatClampNeg = K') (hb1 : M * 4 ≤ 536870912) (hb2 : K' * componentBytes ty ≤ 536870912) (hb3 : K' ≤ 536870912) (hdf : fits ty (defaultValue ty) = true) (hdd : (defaultValue ty).isDefault = true) (hcells : cells + (1 + M) ≤ R.cells) (hslots : slots + (M + M * K') ≤ R.slots) (hz : ∀ c : ClassId, Jvm.Free.Multi.innerC c K' (defaultValue ty) = vp_cell c z) (hdg : decode cc pc = .ok (.multianewarray index 2, 4))
    (kk : ∀ (q : Nat) (r : Nat → Nat) (H1 : Heap), wk D cl (fun j => if j < N + 1 then va_up ad N q j else r (j - (N + 1))) (fun j => if j < N + 1 then va_up k N (.inl (cA, M, .inr (.inr (.inr (.inr (fun i => if i < M then some (r i) else none)))))) j else .inl (cy, z)) (N + 1 + M) A s H1 locs → W p l e R s m args below meth c H1 locs (cells + 1 + M) (slots + M + M * K') Q (F0 m (pc + 4) ls (.ref q :: rest))) : W p l e R s m args below meth c H locs cells slots Q (F0 m pc ls (.int i2 :: .int n :: rest)) := by
  obtain ⟨hx, hb, hml, hown, hts, hK, hA, hth, hlk, hl⟩ := X
  obtain ⟨hP, hD, hS⟩ := K
  have hnil : ∀ f : Nat → va_E, wg ad k N ++ va_pl [] f = wg ad k N := fun f => List.append_nil _
  refine va_mna (X := wg ad k N) (L := []) (f := fun _ => .inr (0, [])) hx hb hown (hts _ w1) hover (hts _ w2) (hcy _ (hK.2 t1 _ ht1).2) hK (by rw [hnil]; exact hP) (by rw [hnil]; exact hD) hS hA hn hk hN hM hb1 hb2 hb3 hdf hdd hcells hslots hz hdg (fun q r cA' H1 hinj hnot hK1 hP1 hD1 hS1 => kk q r H1 ?_)
  have e1 : cA' = cA := by
    have g1 : s.vm.findClass ("[" ++ (FieldType.array ty).toString) = some cA' := (hK1.2 tys.length (cA', .array ty) (by rw [List.getElem?_append_right (Nat.le_refl _), Nat.sub_self]; rfl)).2
    have g2 : s.vm.findClass ("[" ++ (FieldType.array ty).toString) = some cA := (hK.2 t0 _ ht).2
    exact Option.some.inj (g1.symm.trans g2)
  subst e1
  have e2 : va_pl ([] ++ (List.range M).map r) (vr_up (fun _ => .inr (0, [])) ((List.range M).map r) (.inl (cy, z))) = (List.range M).map (fun i => (r i, .inl (cy, z))) := by
    unfold va_pl
    rw [List.nil_append, List.map_map]
    apply List.map_congr_left
    intro i hi
    show (r i, vr_up _ _ _ (r i)) = _
    rw [vr_up_in (List.mem_map.mpr ⟨i, hi, rfl⟩)]
  rw [e2, wg_push, wg_grow (g := fun _ => .inl (cy, z))] at hP1 hD1
  exact ⟨hP1, hD1, hS1⟩
/-- putfield of a final field of the object that is being made -/
theorem nPutF (X : cx Wl tys tx D cl sa A p l s m args meth c cc nL own) (K : wk D cl ad k N A s H locs) (hin2 : meth.name = "<init>") {o ci n1 index i : Nat} {T : u_T} {fs : List Value} {v : Value} {ty : FieldType} (ty0 : Nat → FieldType) (hty : ∀ k, k < n1 → parseFieldDescriptor (T k).2.2.1 = some (ty0 k)) (hnm : ∀ a, a < n1 → ∀ b, b < n1 → a ≠ b → (T a).2.1 ≠ (T b).2.1) (ho : o < N) (hko : k o = .inr (ci, fs)) (hci : cl[ci]? = some (own, T, n1)) (hT : ∀ w ∈ u_ws own T n1, w ∈ Wl) (hk : i < n1) (w1 : Cond.fieldLink own index (T i).1 (T i).2.1 (T i).2.2.1 ∈ Wl) (hfin : (T i).2.2.2 = true) (hdecl : (T i).1 = own) (hd : parseFieldDescriptor (T i).2.2.1 = some ty) (hn : narrow ty v = v) (hfit : fits ty v = true) (hlen : i < fs.length) (hdg : decode cc pc = .ok (.putfield index, 3)) {q : Nat} (hq : q = ad o)
    (kk : ∀ (H1 : Heap) (locs1 : List Loc), wk D cl ad (va_up k o (.inr (ci, fs.set i v))) N A s H1 locs1 → W p l e R s m args below meth c H1 locs1 cells slots Q (F0 m (pc + 3) ls rest)) : W p l e R s m args below meth c H locs cells slots Q (F0 m pc ls (v :: .ref q :: rest)) := by
  subst hq
  obtain ⟨hx, hb, hml, hown, hts, hK, hA, hth, hlk, hl⟩ := X
  refine va_putF (ref := (T i).1) hx hb hts hT ty0 hty hnm hown hK K.1 K.2.1 K.2.2 o ((wg_get ho).trans (by rw [hko])) hci i hk (hts _ w1) (fun _ h9 => h9) hfin hin2 hdecl hd hn hfit hlen hdg (fun H1 locs1 hP1 hD1 hS1 => kk H1 locs1 ?_)
  rw [wg_set ho] at hP1 hD1
  exact ⟨hP1, hD1, hS1⟩
theorem nPut (X : cx Wl tys tx D cl sa A p l s m args meth c cc nL own) (K : wk D cl ad k N A s H locs) {o ci n1 index i : Nat} {T : u_T} {fs : List Value} {v : Value} {ty : FieldType} (ty0 : Nat → FieldType) (hty : ∀ k, k < n1 → parseFieldDescriptor (T k).2.2.1 = some (ty0 k)) (hnm : ∀ a, a < n1 → ∀ b, b < n1 → a ≠ b → (T a).2.1 ≠ (T b).2.1) (ho : o < N) (hko : k o = .inr (ci, fs)) (hci : cl[ci]? = some (own, T, n1)) (hT : ∀ w ∈ u_ws own T n1, w ∈ Wl) (hk : i < n1) (w1 : Cond.fieldLink own index (T i).1 (T i).2.1 (T i).2.2.1 ∈ Wl) (hfin : (T i).2.2.2 = false) (hd : parseFieldDescriptor (T i).2.2.1 = some ty) (hn : narrow ty v = v) (hfit : fits ty v = true) (hlen : i < fs.length) (hdg : decode cc pc = .ok (.putfield index, 3)) {q : Nat} (hq : q = ad o)
    (kk : ∀ (H1 : Heap) (locs1 : List Loc), wk D cl ad (va_up k o (.inr (ci, fs.set i v))) N A s H1 locs1 → W p l e R s m args below meth c H1 locs1 cells slots Q (F0 m (pc + 3) ls rest)) : W p l e R s m args below meth c H locs cells slots Q (F0 m pc ls (v :: .ref q :: rest)) := by
  subst hq
  obtain ⟨hx, hb, hml, hown, hts, hK, hA, hth, hlk, hl⟩ := X
  refine va_put (ref := (T i).1) hx hb hts hT ty0 hty hnm hown hK K.1 K.2.1 K.2.2 o ((wg_get ho).trans (by rw [hko])) hci i hk (hts _ w1) (fun _ h9 => h9) hfin hd hn hfit hlen hdg (fun H1 locs1 hP1 hD1 hS1 => kk H1 locs1 ?_)
  rw [wg_set ho] at hP1 hD1
  exact ⟨hP1, hD1, hS1⟩
/-- a new object -/
theorem nNew (X : cx Wl tys tx D cl sa A p l s m args meth c cc nL own) (K : wk D cl ad k N A s H locs) {C : String} {T : u_T} {n1 ci index : Nat} {fs : List Value} (ty : Nat → FieldType) (hT : ∀ w ∈ u_ws C T n1, w ∈ Wl) (hty : ∀ k, k < n1 → parseFieldDescriptor (T k).2.2.1 = some (ty k)) (w1 : Cond.classLink own index C ∈ Wl) (w2 : Cond.instantiable C n1 ∈ Wl) (w3 : Cond.initialized C ∈ Wl) (hc : cl[ci]? = some (C, T, n1)) (hfs : ∀ j, j < n1 → defaultValue (ty j) = vp_V fs j) (hcells : cells + 1 ≤ R.cells) (hslots : slots + n1 ≤ R.slots) (hdg : decode cc pc = .ok (.new index, 3))
    (kk : ∀ (q : Nat) (H1 : Heap), wk D cl (va_up ad N q) (va_up k N (.inr (ci, fs))) (N + 1) A s H1 locs → W p l e R s m args below meth c H1 locs (cells + 1) (slots + n1) Q (F0 m (pc + 3) ls (.ref q :: rest))) : W p l e R s m args below meth c H locs cells slots Q (F0 m pc ls rest) := by
  obtain ⟨hx, hb, hml, hown, hts, hK, hA, hth, hlk, hl⟩ := X
  obtain ⟨hP, hD, hS⟩ := K
  refine va_new hx hb hts hT ty hty hown (hts _ w1) (hts _ w2) (hts _ w3) hK hP hD hS hA hc hfs hcells hslots hdg (fun q H1 hP1 hD1 hS1 => kk q H1 ?_)
  rw [wg_push] at hP1 hD1
  exact ⟨hP1, hD1, hS1⟩
end CTOR
