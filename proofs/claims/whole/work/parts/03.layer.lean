/-! A layer over the kit's worlds: a world whose cells have numbers 0 .. N-1; the cell j lies at the address 'ad j' and holds what the layout kf says of it: out of int fields f, arrays of ints a, arrays of longs b (both by the cell's number). Contracts whose ends are any predicates (po: what it answers and the new state; px: the class that it throws and the new state). -/
theorem vpin_lt {i : Int32} {n : Nat} (h : vp_in i n) : i.toNatClampNeg < n := Nat.lt_of_not_le (fun q => h (Or.inr q))
/-- a boolean -/
def zb (v : Int32) : Prop := narrow .boolean (.int v) = .int v
abbrev wF : Type := Nat → Int32
abbrev wA : Type := Nat → Nat → Int32
abbrev wB : Type := Nat → Nat → Int64
abbrev wL : Type := (Nat → Nat) → (Nat → ClassId) → wF → wA → wB → Nat → va_E
def wg (ad : Nat → Nat) (k : Nat → va_E) (N : Nat) : va_W := (List.range N).map (fun j => (ad j, k j))
theorem wg_len {ad : Nat → Nat} {k : Nat → va_E} {N : Nat} : (wg ad k N).length = N := by simp [wg]
theorem wg_get {ad : Nat → Nat} {k : Nat → va_E} {N j : Nat} (h : j < N) : (wg ad k N)[j]? = some (ad j, k j) := by
  unfold wg
  rw [List.getElem?_map, List.getElem?_range h]
  rfl
theorem wg_set {ad : Nat → Nat} {k : Nat → va_E} {N j : Nat} {e : va_E} (h : j < N) : (wg ad k N).set j (ad j, e) = wg ad (va_up k j e) N := by
  refine List.ext_getElem? (fun i => ?_)
  rw [List.getElem?_set]
  by_cases e1 : j = i
  · subst e1
    rw [if_pos rfl, if_pos (by rw [wg_len]; exact h), wg_get h, va_up_self]
  · rw [if_neg e1]
    by_cases hi : i < N
    · rw [wg_get hi, wg_get hi, va_up_ne _ _ (fun q => e1 q.symm)]
    · rw [List.getElem?_eq_none (by rw [wg_len]; omega), List.getElem?_eq_none (by rw [wg_len]; omega)]
def ww (N : Nat) (kf : wL) (ad : Nat → Nat) (ca : Nat → ClassId) (f : wF) (a : wA) (b : wB) : va_W := wg ad (kf ad ca f a b) N
def wd (N : Nat) (kf : wL) (D : va_G) (cl : List vw_C) (ad : Nat → Nat) (ca : Nat → ClassId) (A : Nat → Prop) (s : State) (H : Heap) (locs : List Loc) (f : wF) (a : wA) (b : wB) : Prop :=
  va_P D cl (ww N kf ad ca f a b) H ∧ va_D A (ww N kf ad ca f a b) ∧ va_S A s.heap H locs
/-- what a throw needs: two statics of Throwable, where the texts lie, and words that a call doesn't hand on by itself -/
def thI (X : String) : MethodName := ⟨X, "<init>", "(Ljava/lang/String;)V"⟩
abbrev thX : List String := ["java/lang/IllegalArgumentException", "java/lang/IndexOutOfBoundsException", "java/lang/IllegalStateException", "java/lang/UnsupportedOperationException"]
abbrev thD : List Cond := ["java/lang/RuntimeException", "java/lang/Exception", "java/lang/Throwable"].map (fun X => Cond.declares (thI X))
abbrev thC : List Cond := thX.map (fun X => Cond.castable X X)
def th (tx : List (String × Nat × String)) (sa : Nat → Nat) (A : Nat → Prop) (U : State) (H : Heap) : Prop :=
  vx_Zq Bundle.tN "UNASSIGNED_STACK" Bundle.steD A U H ∧ vx_Zq Bundle.tN "SUPPRESSED_SENTINEL" Bundle.listD A U H ∧ (∀ (k : Nat) (q : String × Nat × String), tx[k]? = some q → vk_R q.1 q.2.1 q.2.2 (sa k) U) ∧ (∀ w ∈ thD, va_Nw w U) ∧ (∀ w ∈ thC, va_Nw w U) ∧ (∀ C ∈ thX, ∀ T ∈ thX, C ≠ T → va_Nc C T U)
theorem thD_warm {s U : State} (hW : s.WarmedH U.vm) (h : ∀ w ∈ thD, va_Nw w s) : ∀ w ∈ thD, va_Nw w U := by
  intro w hw
  obtain ⟨X, -, rfl⟩ := List.mem_map.mp hw
  exact va_Nw.warmD hW (h _ hw)
theorem thC_warm {s U : State} (hW : s.WarmedH U.vm) (h : ∀ w ∈ thC, va_Nw w s) : ∀ w ∈ thC, va_Nw w U := by
  intro w hw
  obtain ⟨X, -, rfl⟩ := List.mem_map.mp hw
  exact va_Nw.warmC hW (h _ hw)
theorem th_use {s : State} {args : Array Value} (h1 : ∀ w ∈ thD, va_Nw w s) (h2 : ∀ w ∈ thC, va_Nw w s) : ∀ w ∈ thC ++ thD, w.before args s = true := by
  intro w hw
  rcases List.mem_append.mp hw with q | q
  · obtain ⟨X, -, rfl⟩ := List.mem_map.mp q
    exact va_Nw.use rfl (h2 _ q)
  · obtain ⟨X, -, rfl⟩ := List.mem_map.mp q
    exact va_Nw.use rfl (h1 _ q)
theorem th.blind {tx : List (String × Nat × String)} {sa : Nat → Nat} {A : Nat → Prop} {U : State} {g : JFrame} {mk : MethodId} {a : Array Value} (h : th tx sa A U U.heap) : th tx sa A (U.calling g mk a) (U.calling g mk a).heap :=
  ⟨vx_Zq.moved (u := U) (U := U.calling g mk a) (Vm.Alike.refl U.vm) h.1, vx_Zq.moved (u := U) (U := U.calling g mk a) (Vm.Alike.refl U.vm) h.2.1, fun k q hk => vk_R.warm (State.WarmedH.refl U) (h.2.2.1 k q hk), thD_warm (State.WarmedH.refl U) h.2.2.2.1, thC_warm (State.WarmedH.refl U) h.2.2.2.2.1, fun C hC T hT n => va_Nc.moved (u := U) (U := U.calling g mk a) (Vm.Alike.refl U.vm) (h.2.2.2.2.2 C hC T hT n)⟩
theorem th.call {tx : List (String × Nat × String)} {sa : Nat → Nat} {A B : Nat → Prop} {s U : State} {H : Heap} (h : th tx sa A s s.heap) (hU : U.heap = H) (hW : s.WarmedH U.vm) (hq : ∀ a : Nat, a < s.heap.size → ¬ A a → H[a]? = s.heap[a]?) (hAB : ∀ q, B q → A q) : th tx sa B U U.heap := by
  refine ⟨?_, ?_, fun k q hk => vk_R.warm hW (h.2.2.1 k q hk), thD_warm hW h.2.2.2.1, thC_warm hW h.2.2.2.2.1, fun C hC T hT n => va_Nc.moved hW.alike (h.2.2.2.2.2 C hC T hT n)⟩
  · rw [hU]; exact vx_Zq.moved hW.alike ((h.1.kept hq).narrow hAB)
  · rw [hU]; exact vx_Zq.moved hW.alike ((h.2.1.kept hq).narrow hAB)
/-- what holds all through a method's body -/
def cx (Wl : List Cond) (tys : List (ClassId × FieldType)) (tx : List (String × Nat × String)) (D : va_G) (cl : List vw_C) (sa : Nat → Nat) (A : Nat → Prop) (p : Program) (l : Launch) (s : State) (m : MethodId) (args : Array Value) (meth : Method) (c : Code) (cc : ByteArray) (nL : Nat) (own : String) : Prop :=
  p.tables.exec = Jvm.exec ∧ c.code = cc ∧ c.maxLocals = nL ∧ s.vm.findClass own = some m.cls ∧ (∀ w ∈ Wl, w.before args s = true) ∧ va_K D cl tys s ∧ (∀ q, s.heap.size ≤ q → A q) ∧ th tx sa A s s.heap ∧ meth.locks = false ∧ l.stackTraces = false
def sPre (N : Nat) (kf : wL) (tys : List (ClassId × FieldType)) (tx : List (String × Nat × String)) (D : va_G) (cl : List vw_C) (ad : Nat → Nat) (ca : Nat → ClassId) (sa : Nat → Nat) (sz : Nat) (f : wF) (a : wA) (b : wB) (U : State) : Prop :=
  U.heap.size = sz ∧ va_P D cl (ww N kf ad ca f a b) U.heap ∧ va_K D cl tys U ∧ va_D (fun _ => True) (ww N kf ad ca f a b) ∧ th tx sa (va_A (ww N kf ad ca f a b) sz) U U.heap
def sPost (N : Nat) (kf : wL) (D : va_G) (cl : List vw_C) (ad : Nat → Nat) (ca : Nat → ClassId) (A : Nat → Prop) (u : wF × wA × wB) (t : State) : Prop :=
  va_P D cl (ww N kf ad ca u.1 u.2.1 u.2.2) t.heap ∧ va_D A (ww N kf ad ca u.1 u.2.1 u.2.2)
abbrev sX (N : Nat) (kf : wL) (D : va_G) (cl : List vw_C) (ad : Nat → Nat) (ca : Nat → ClassId) (A : Nat → Prop) (px : String → wF → wA → wB → Prop) : String → State → State → Prop :=
  vx_X (fun _ : wF × wA × wB => True) (fun E u t => px E u.1 u.2.1 u.2.2 ∧ sPost N kf D cl ad ca A u t) A
/-- contracts: of methods that answer an int (a boolean, too), a long, nothing -/
def mI (N : Nat) (kf : wL) (tys : List (ClassId × FieldType)) (tx : List (String × Nat × String)) (D : va_G) (cl : List vw_C) (l : Launch) (y : MethodName) (ws : List Cond) (rm : Room) (av : List Value) (ad : Nat → Nat) (ca : Nat → ClassId) (sa : Nat → Nat) (sz : Nat) (f : wF) (a : wA) (b : wB) (po : Int32 → wF → wA → wB → Prop) (px : String → wF → wA → wB → Prop) (mc ms : Nat) : Prop :=
  vx_Met l y ws rm (va_Pc av (sPre N kf tys tx D cl ad ca sa sz f a b)) (va_Qi (fun r (u : wF × wA × wB) => po r u.1 u.2.1 u.2.2) (sPost N kf D cl ad ca (va_A (ww N kf ad ca f a b) sz)) (va_A (ww N kf ad ca f a b) sz)) (sX N kf D cl ad ca (va_A (ww N kf ad ca f a b) sz) px) mc ms (va_A (ww N kf ad ca f a b) sz)
def mL (N : Nat) (kf : wL) (tys : List (ClassId × FieldType)) (tx : List (String × Nat × String)) (D : va_G) (cl : List vw_C) (l : Launch) (y : MethodName) (ws : List Cond) (rm : Room) (av : List Value) (ad : Nat → Nat) (ca : Nat → ClassId) (sa : Nat → Nat) (sz : Nat) (f : wF) (a : wA) (b : wB) (po : Int64 → wF → wA → wB → Prop) (px : String → wF → wA → wB → Prop) (mc ms : Nat) : Prop :=
  vx_Met l y ws rm (va_Pc av (sPre N kf tys tx D cl ad ca sa sz f a b)) (va_Ql (fun r (u : wF × wA × wB) => po r u.1 u.2.1 u.2.2) (sPost N kf D cl ad ca (va_A (ww N kf ad ca f a b) sz)) (va_A (ww N kf ad ca f a b) sz)) (sX N kf D cl ad ca (va_A (ww N kf ad ca f a b) sz) px) mc ms (va_A (ww N kf ad ca f a b) sz)
def mV (N : Nat) (kf : wL) (tys : List (ClassId × FieldType)) (tx : List (String × Nat × String)) (D : va_G) (cl : List vw_C) (l : Launch) (y : MethodName) (ws : List Cond) (rm : Room) (av : List Value) (ad : Nat → Nat) (ca : Nat → ClassId) (sa : Nat → Nat) (sz : Nat) (f : wF) (a : wA) (b : wB) (po : wF → wA → wB → Prop) (px : String → wF → wA → wB → Prop) (mc ms : Nat) : Prop :=
  vx_Met l y ws rm (va_Pc av (sPre N kf tys tx D cl ad ca sa sz f a b)) (va_Qv (fun (u : wF × wA × wB) => po u.1 u.2.1 u.2.2) (sPost N kf D cl ad ca (va_A (ww N kf ad ca f a b) sz)) (va_A (ww N kf ad ca f a b) sz)) (sX N kf D cl ad ca (va_A (ww N kf ad ca f a b) sz) px) mc ms (va_A (ww N kf ad ca f a b) sz)
theorem wfree {A : Nat → Prop} {ws : va_W} {H0 H : Heap} {locs : List Loc} (hD : va_D A ws) (hS : va_S A H0 H locs) (hA : ∀ q, H0.size ≤ q → A q) : ∀ q, va_A ws H.size q → A q := by
  intro q h
  rcases h with ⟨k, e, h⟩ | h
  · exact hD.2 k (q, e) h
  · exact hA q (Nat.le_trans hS.1 h)
theorem sPre.blind {N : Nat} {kf : wL} {tys : List (ClassId × FieldType)} {tx : List (String × Nat × String)} {D : va_G} {cl : List vw_C} {ad : Nat → Nat} {ca : Nat → ClassId} {sa : Nat → Nat} {sz : Nat} {f : wF} {a : wA} {b : wB} {av : List Value} : FrameBlind (va_Pc av (sPre N kf tys tx D cl ad ca sa sz f a b)) := by
  intro v U g mk h
  obtain ⟨h0, h1, h2, h3, h4, h5⟩ := h
  exact ⟨h0, h1, h2, va_K.moved (u := U) (U := U.calling g mk v) (Vm.Alike.refl U.vm) h3, h4, th.blind h5⟩
theorem good_in {Wl pre : List Cond} {cn : Cond} (hg : Wl.all goodWord = true) (hp : ∀ w ∈ pre, w ∈ Wl) (hn : cn ∈ Wl) : GoodIn Wl (pre ++ cn :: Wl) := by
  have h : ∀ w ∈ Wl, w ∈ Wl ∧ ((w.onTables && w.keeps) = true ∨ ∃ ty, w = .arrayClass ty) := fun w hw => ⟨hw, good_of_word (List.all_eq_true.mp hg w hw)⟩
  intro w hw
  rcases List.mem_append.mp hw with q | q
  · exact h w (hp w q)
  · rcases List.mem_cons.mp q with q | q
    · exact h w (by rw [q]; exact hn)
    · exact h w q
section LAYER
variable {N : Nat} {kf : wL} {Wl : List Cond} {tys : List (ClassId × FieldType)} {tx : List (String × Nat × String)} {D : va_G} {cl : List vw_C} {sa : Nat → Nat} {A : Nat → Prop} {ad : Nat → Nat} {ca : Nat → ClassId}
variable {p : Program} {l : Launch} {e : Env} {R : Room} {s : State} {m : MethodId} {args : Array Value} {below : List Frame} {meth : Method} {c : Code} {cc : ByteArray} {nL : Nat} {own : String} {H : Heap} {locs : List Loc} {cells slots : Nat} {Q : State → Prop} {pc : Nat} {ls : Array Slot} {rest st0 : List Value} {f : wF} {a : wA} {b : wB}
theorem pre_of (X : cx Wl tys tx D cl sa A p l s m args meth c cc nL own) (K : wd N kf D cl ad ca A s H locs f a b) (av : List Value) : ∀ U : State, U.heap = H → s.WarmedH U.vm → va_Pc av (sPre N kf tys tx D cl ad ca sa H.size f a b) av.toArray U := by
  intro U hU hW
  obtain ⟨hx, hb, hml, hown, hts, hK, hA, hth, hlk, hl⟩ := X
  obtain ⟨hP, hD, hS⟩ := K
  exact ⟨rfl, by rw [hU], by rw [hU]; exact hP, va_K.moved hW.alike hK, hD.weaken (fun _ _ _ _ => trivial), th.call hth hU hW hS.2.1 (wfree hD hS hA)⟩
theorem back_of_call (X : cx Wl tys tx D cl sa A p l s m args meth c cc nL own) (K : wd N kf D cl ad ca A s H locs f a b) {u : wF × wA × wB} {t : State} {H1 : Heap} {locs1 : List Loc} (ht : t.heap = H1) (hB : sPost N kf D cl ad ca (va_A (ww N kf ad ca f a b) H.size) u t) (hS1 : va_S A s.heap H1 locs1) : wd N kf D cl ad ca A s H1 locs1 u.1 u.2.1 u.2.2 := by
  obtain ⟨hx, hb, hml, hown, hts, hK, hA, hth, hlk, hl⟩ := X
  obtain ⟨hP, hD, hS⟩ := K
  obtain ⟨h1, h2⟩ := hB
  rw [ht] at h1
  exact ⟨h1, h2.weaken (fun _ q _ h => wfree hD hS hA q.1 h), hS1⟩
theorem gcI (X : cx Wl tys tx D cl sa A p l s m args meth c cc nL own) (K : wd N kf D cl ad ca A s H locs f a b) {y : MethodName} {bytes : ByteArray} {maxL n0 mc ms o ci index n1 : Nat} {ret : Option FieldType} {rm : Room} {C : String} {T : u_T} {As fs : List Value} {po : Int32 → wF → wA → wB → Prop} {px : String → wF → wA → wB → Prop}
    (hM : mI N kf tys tx D cl l y (Cond.code y bytes maxL ret :: Wl) rm (Value.ref (ad o) :: As) ad ca sa H.size f a b po px mc ms) (ho : o < N) (hko : kf ad ca f a b o = .inr (ci, fs)) (hci : cl[ci]? = some (C, T, n1))
    (hg : Wl.all goodWord = true) (w1 : Cond.methodLink own index y ∈ Wl) (w2 : Cond.instanceMethod y ∈ Wl) (w3 : Cond.selects C y y ∈ Wl) (w4 : Cond.initialized C ∈ Wl) (w5 : Cond.code y bytes maxL ret ∈ Wl)
    (hd : y.cls = C ∧ y.cls ≠ "java/lang/invoke/MethodHandle" ∧ y.cls ≠ "java/lang/invoke/VarHandle" ∧ (parseMethodDescriptor y.desc).map (fun d => d.parameters.length) = some n0) (hrc : rm.cells = mc) (hrs : rm.slots = ms) (hR : rm.frames + 1 ≤ R.frames ∧ 8 + (maxL + 11) + rm.locals ≤ R.locals)
    (hn : As.length = n0) (hsz : ls.size = nL) (hst : st0 = As.reverse ++ Value.ref (ad o) :: rest) (hW : (rest.map fun v => v.category).sum ≤ 8) (hdg : decode cc pc = .ok (.invokevirtual index, 3)) (hf : cells + mc ≤ R.cells ∧ slots + ms ≤ R.slots)
    (kx : ∀ (E : String) (ce : Cell) (q9 : Addr) (f1 : wF) (a1 : wA) (b1 : wB) (H1 : Heap) (locs1 : List Loc), px E f1 a1 b1 → wd N kf D cl ad ca A s H1 locs1 f1 a1 b1 → H1[q9]? = some ce → ce.vm = .none → s.vm.findClass E = some ce.cls → vx_W p l e R s m args below meth c H1 locs1 (cells + mc) (slots + ms) Q (F0 m pc ls rest) q9)
    (kk : ∀ (r : Int32) (f1 : wF) (a1 : wA) (b1 : wB) (H1 : Heap) (locs1 : List Loc), po r f1 a1 b1 → wd N kf D cl ad ca A s H1 locs1 f1 a1 b1 → W p l e R s m args below meth c H1 locs1 (cells + mc) (slots + ms) Q (F0 m (pc + 3) ls (.int r :: rest))) : W p l e R s m args below meth c H locs cells slots Q (F0 m pc ls st0) := by
  obtain ⟨hx, hb, hml, hown, hts, hK, hA, hth, hlk, hl⟩ := id X
  obtain ⟨hP, hD, hS⟩ := id K
  have hF := wfree hD hS hA
  have hrv : ∃ cellB : Cell, H[ad o]? = some cellB ∧ cellB.vm.isStatics = false ∧ s.vm.findClass C = some cellB.cls := va_recv hK hP (ci := ci) (q0 := o) hci ((wg_get ho).trans (by rw [hko]))
  have hT : GoodIn Wl (wsV own index C y (Cond.code y bytes maxL ret :: Wl)) := good_in hg (fun w hw => by
    simp only [List.mem_cons, List.not_mem_nil, or_false] at hw
    rcases hw with q | q | q | q
    · rw [q]; exact w1
    · rw [q]; exact w2
    · rw [q]; exact w3
    · rw [q]; exact w4) w5
  exact vx_calli (vx_runV (As := As) (rest := rest) ⟨hx, hb, hml, hown, hts⟩ hM (cwV n0 hts hT rfl hrc hrs hd hR) ⟨sPre.blind, hrv, pre_of X K _⟩ rfl hn hsz hst (lv_room hW) hdg hf) hS (fun q _ h => hF q h) hF (fun q _ h => hF q h)
    (fun E ce q9 u t H1 locs1 ht hvm _ hB hz hk hS1 hce hv hcl => kx E ce q9 u.1 u.2.1 u.2.2 H1 locs1 hB.1 (back_of_call X K ht hB.2 hS1) hce hv hcl)
    (fun r_ u t H1 locs1 ht hvm hw hB hz hk hS1 => kk r_ u.1 u.2.1 u.2.2 H1 locs1 hw (back_of_call X K ht hB hS1))
theorem gcSI (X : cx Wl tys tx D cl sa A p l s m args meth c cc nL own) (K : wd N kf D cl ad ca A s H locs f a b) {y : MethodName} {bytes : ByteArray} {maxL n0 mc ms index : Nat} {ret : Option FieldType} {rm : Room} {As : List Value} {po : Int32 → wF → wA → wB → Prop} {px : String → wF → wA → wB → Prop}
    (hM : mI N kf tys tx D cl l y (Cond.code y bytes maxL ret :: Wl) rm As ad ca sa H.size f a b po px mc ms)
    (hg : Wl.all goodWord = true) (w1 : Cond.methodLink own index y ∈ Wl) (w2 : Cond.static y ∈ Wl) (w4 : Cond.initialized y.cls ∈ Wl) (w5 : Cond.code y bytes maxL ret ∈ Wl)
    (hd : y.cls ≠ "java/lang/invoke/MethodHandle" ∧ y.cls ≠ "java/lang/invoke/VarHandle" ∧ (parseMethodDescriptor y.desc).map (fun d => d.parameters.length) = some n0) (hrc : rm.cells = mc) (hrs : rm.slots = ms) (hR : rm.frames + 1 ≤ R.frames ∧ 8 + (maxL + 11) + rm.locals ≤ R.locals)
    (hn : As.length = n0) (hsz : ls.size = nL) (hst : st0 = As.reverse ++ rest) (hW : (rest.map fun v => v.category).sum ≤ 8) (hdg : decode cc pc = .ok (.invokestatic index, 3)) (hf : cells + mc ≤ R.cells ∧ slots + ms ≤ R.slots)
    (kx : ∀ (E : String) (ce : Cell) (q9 : Addr) (f1 : wF) (a1 : wA) (b1 : wB) (H1 : Heap) (locs1 : List Loc), px E f1 a1 b1 → wd N kf D cl ad ca A s H1 locs1 f1 a1 b1 → H1[q9]? = some ce → ce.vm = .none → s.vm.findClass E = some ce.cls → vx_W p l e R s m args below meth c H1 locs1 (cells + mc) (slots + ms) Q (F0 m pc ls rest) q9)
    (kk : ∀ (r : Int32) (f1 : wF) (a1 : wA) (b1 : wB) (H1 : Heap) (locs1 : List Loc), po r f1 a1 b1 → wd N kf D cl ad ca A s H1 locs1 f1 a1 b1 → W p l e R s m args below meth c H1 locs1 (cells + mc) (slots + ms) Q (F0 m (pc + 3) ls (.int r :: rest))) : W p l e R s m args below meth c H locs cells slots Q (F0 m pc ls st0) := by
  obtain ⟨hx, hb, hml, hown, hts, hK, hA, hth, hlk, hl⟩ := id X
  obtain ⟨hP, hD, hS⟩ := id K
  have hF := wfree hD hS hA
  have hT : GoodIn Wl (va_wsS own index y (Cond.code y bytes maxL ret :: Wl)) := good_in hg (fun w hw => by
    simp only [List.mem_cons, List.not_mem_nil, or_false] at hw
    rcases hw with q | q | q
    · rw [q]; exact w1
    · rw [q]; exact w2
    · rw [q]; exact w4) w5
  exact vx_calli (vx_runS (As := As) (rest := rest) ⟨hx, hb, hml, hown, hts⟩ hM (va_cwS n0 hts hT rfl hrc hrs hd hR) ⟨sPre.blind, pre_of X K _⟩ rfl hn hsz hst (lv_room hW) hdg hf) hS (fun q _ h => hF q h) hF (fun q _ h => hF q h)
    (fun E ce q9 u t H1 locs1 ht hvm _ hB hz hk hS1 hce hv hcl => kx E ce q9 u.1 u.2.1 u.2.2 H1 locs1 hB.1 (back_of_call X K ht hB.2 hS1) hce hv hcl)
    (fun r_ u t H1 locs1 ht hvm hw hB hz hk hS1 => kk r_ u.1 u.2.1 u.2.2 H1 locs1 hw (back_of_call X K ht hB hS1))
theorem gcL (X : cx Wl tys tx D cl sa A p l s m args meth c cc nL own) (K : wd N kf D cl ad ca A s H locs f a b) {y : MethodName} {bytes : ByteArray} {maxL n0 mc ms o ci index n1 : Nat} {ret : Option FieldType} {rm : Room} {C : String} {T : u_T} {As fs : List Value} {po : Int64 → wF → wA → wB → Prop} {px : String → wF → wA → wB → Prop}
    (hM : mL N kf tys tx D cl l y (Cond.code y bytes maxL ret :: Wl) rm (Value.ref (ad o) :: As) ad ca sa H.size f a b po px mc ms) (ho : o < N) (hko : kf ad ca f a b o = .inr (ci, fs)) (hci : cl[ci]? = some (C, T, n1))
    (hg : Wl.all goodWord = true) (w1 : Cond.methodLink own index y ∈ Wl) (w2 : Cond.instanceMethod y ∈ Wl) (w3 : Cond.selects C y y ∈ Wl) (w4 : Cond.initialized C ∈ Wl) (w5 : Cond.code y bytes maxL ret ∈ Wl)
    (hd : y.cls = C ∧ y.cls ≠ "java/lang/invoke/MethodHandle" ∧ y.cls ≠ "java/lang/invoke/VarHandle" ∧ (parseMethodDescriptor y.desc).map (fun d => d.parameters.length) = some n0) (hrc : rm.cells = mc) (hrs : rm.slots = ms) (hR : rm.frames + 1 ≤ R.frames ∧ 8 + (maxL + 11) + rm.locals ≤ R.locals)
    (hn : As.length = n0) (hsz : ls.size = nL) (hst : st0 = As.reverse ++ Value.ref (ad o) :: rest) (hW : (rest.map fun v => v.category).sum ≤ 8) (hdg : decode cc pc = .ok (.invokevirtual index, 3)) (hf : cells + mc ≤ R.cells ∧ slots + ms ≤ R.slots)
    (kx : ∀ (E : String) (ce : Cell) (q9 : Addr) (f1 : wF) (a1 : wA) (b1 : wB) (H1 : Heap) (locs1 : List Loc), px E f1 a1 b1 → wd N kf D cl ad ca A s H1 locs1 f1 a1 b1 → H1[q9]? = some ce → ce.vm = .none → s.vm.findClass E = some ce.cls → vx_W p l e R s m args below meth c H1 locs1 (cells + mc) (slots + ms) Q (F0 m pc ls rest) q9)
    (kk : ∀ (r : Int64) (f1 : wF) (a1 : wA) (b1 : wB) (H1 : Heap) (locs1 : List Loc), po r f1 a1 b1 → wd N kf D cl ad ca A s H1 locs1 f1 a1 b1 → W p l e R s m args below meth c H1 locs1 (cells + mc) (slots + ms) Q (F0 m (pc + 3) ls (.long r :: rest))) : W p l e R s m args below meth c H locs cells slots Q (F0 m pc ls st0) := by
  obtain ⟨hx, hb, hml, hown, hts, hK, hA, hth, hlk, hl⟩ := id X
  obtain ⟨hP, hD, hS⟩ := id K
  have hF := wfree hD hS hA
  have hrv : ∃ cellB : Cell, H[ad o]? = some cellB ∧ cellB.vm.isStatics = false ∧ s.vm.findClass C = some cellB.cls := va_recv hK hP (ci := ci) (q0 := o) hci ((wg_get ho).trans (by rw [hko]))
  have hT : GoodIn Wl (wsV own index C y (Cond.code y bytes maxL ret :: Wl)) := good_in hg (fun w hw => by
    simp only [List.mem_cons, List.not_mem_nil, or_false] at hw
    rcases hw with q | q | q | q
    · rw [q]; exact w1
    · rw [q]; exact w2
    · rw [q]; exact w3
    · rw [q]; exact w4) w5
  exact vx_calll (vx_runV (As := As) (rest := rest) ⟨hx, hb, hml, hown, hts⟩ hM (cwV n0 hts hT rfl hrc hrs hd hR) ⟨sPre.blind, hrv, pre_of X K _⟩ rfl hn hsz hst (lv_room hW) hdg hf) hS (fun q _ h => hF q h) hF (fun q _ h => hF q h)
    (fun E ce q9 u t H1 locs1 ht hvm _ hB hz hk hS1 hce hv hcl => kx E ce q9 u.1 u.2.1 u.2.2 H1 locs1 hB.1 (back_of_call X K ht hB.2 hS1) hce hv hcl)
    (fun r_ u t H1 locs1 ht hvm hw hB hz hk hS1 => kk r_ u.1 u.2.1 u.2.2 H1 locs1 hw (back_of_call X K ht hB hS1))
theorem gcSL (X : cx Wl tys tx D cl sa A p l s m args meth c cc nL own) (K : wd N kf D cl ad ca A s H locs f a b) {y : MethodName} {bytes : ByteArray} {maxL n0 mc ms index : Nat} {ret : Option FieldType} {rm : Room} {As : List Value} {po : Int64 → wF → wA → wB → Prop} {px : String → wF → wA → wB → Prop}
    (hM : mL N kf tys tx D cl l y (Cond.code y bytes maxL ret :: Wl) rm As ad ca sa H.size f a b po px mc ms)
    (hg : Wl.all goodWord = true) (w1 : Cond.methodLink own index y ∈ Wl) (w2 : Cond.static y ∈ Wl) (w4 : Cond.initialized y.cls ∈ Wl) (w5 : Cond.code y bytes maxL ret ∈ Wl)
    (hd : y.cls ≠ "java/lang/invoke/MethodHandle" ∧ y.cls ≠ "java/lang/invoke/VarHandle" ∧ (parseMethodDescriptor y.desc).map (fun d => d.parameters.length) = some n0) (hrc : rm.cells = mc) (hrs : rm.slots = ms) (hR : rm.frames + 1 ≤ R.frames ∧ 8 + (maxL + 11) + rm.locals ≤ R.locals)
    (hn : As.length = n0) (hsz : ls.size = nL) (hst : st0 = As.reverse ++ rest) (hW : (rest.map fun v => v.category).sum ≤ 8) (hdg : decode cc pc = .ok (.invokestatic index, 3)) (hf : cells + mc ≤ R.cells ∧ slots + ms ≤ R.slots)
    (kx : ∀ (E : String) (ce : Cell) (q9 : Addr) (f1 : wF) (a1 : wA) (b1 : wB) (H1 : Heap) (locs1 : List Loc), px E f1 a1 b1 → wd N kf D cl ad ca A s H1 locs1 f1 a1 b1 → H1[q9]? = some ce → ce.vm = .none → s.vm.findClass E = some ce.cls → vx_W p l e R s m args below meth c H1 locs1 (cells + mc) (slots + ms) Q (F0 m pc ls rest) q9)
    (kk : ∀ (r : Int64) (f1 : wF) (a1 : wA) (b1 : wB) (H1 : Heap) (locs1 : List Loc), po r f1 a1 b1 → wd N kf D cl ad ca A s H1 locs1 f1 a1 b1 → W p l e R s m args below meth c H1 locs1 (cells + mc) (slots + ms) Q (F0 m (pc + 3) ls (.long r :: rest))) : W p l e R s m args below meth c H locs cells slots Q (F0 m pc ls st0) := by
  obtain ⟨hx, hb, hml, hown, hts, hK, hA, hth, hlk, hl⟩ := id X
  obtain ⟨hP, hD, hS⟩ := id K
  have hF := wfree hD hS hA
  have hT : GoodIn Wl (va_wsS own index y (Cond.code y bytes maxL ret :: Wl)) := good_in hg (fun w hw => by
    simp only [List.mem_cons, List.not_mem_nil, or_false] at hw
    rcases hw with q | q | q
    · rw [q]; exact w1
    · rw [q]; exact w2
    · rw [q]; exact w4) w5
  exact vx_calll (vx_runS (As := As) (rest := rest) ⟨hx, hb, hml, hown, hts⟩ hM (va_cwS n0 hts hT rfl hrc hrs hd hR) ⟨sPre.blind, pre_of X K _⟩ rfl hn hsz hst (lv_room hW) hdg hf) hS (fun q _ h => hF q h) hF (fun q _ h => hF q h)
    (fun E ce q9 u t H1 locs1 ht hvm _ hB hz hk hS1 hce hv hcl => kx E ce q9 u.1 u.2.1 u.2.2 H1 locs1 hB.1 (back_of_call X K ht hB.2 hS1) hce hv hcl)
    (fun r_ u t H1 locs1 ht hvm hw hB hz hk hS1 => kk r_ u.1 u.2.1 u.2.2 H1 locs1 hw (back_of_call X K ht hB hS1))
theorem gcV (X : cx Wl tys tx D cl sa A p l s m args meth c cc nL own) (K : wd N kf D cl ad ca A s H locs f a b) {y : MethodName} {bytes : ByteArray} {maxL n0 mc ms o ci index n1 : Nat} {ret : Option FieldType} {rm : Room} {C : String} {T : u_T} {As fs : List Value} {po : wF → wA → wB → Prop} {px : String → wF → wA → wB → Prop}
    (hM : mV N kf tys tx D cl l y (Cond.code y bytes maxL ret :: Wl) rm (Value.ref (ad o) :: As) ad ca sa H.size f a b po px mc ms) (ho : o < N) (hko : kf ad ca f a b o = .inr (ci, fs)) (hci : cl[ci]? = some (C, T, n1))
    (hg : Wl.all goodWord = true) (w1 : Cond.methodLink own index y ∈ Wl) (w2 : Cond.instanceMethod y ∈ Wl) (w3 : Cond.selects C y y ∈ Wl) (w4 : Cond.initialized C ∈ Wl) (w5 : Cond.code y bytes maxL ret ∈ Wl)
    (hd : y.cls = C ∧ y.cls ≠ "java/lang/invoke/MethodHandle" ∧ y.cls ≠ "java/lang/invoke/VarHandle" ∧ (parseMethodDescriptor y.desc).map (fun d => d.parameters.length) = some n0) (hrc : rm.cells = mc) (hrs : rm.slots = ms) (hR : rm.frames + 1 ≤ R.frames ∧ 8 + (maxL + 11) + rm.locals ≤ R.locals)
    (hn : As.length = n0) (hsz : ls.size = nL) (hst : st0 = As.reverse ++ Value.ref (ad o) :: rest) (hW : (rest.map fun v => v.category).sum ≤ 8) (hdg : decode cc pc = .ok (.invokevirtual index, 3)) (hf : cells + mc ≤ R.cells ∧ slots + ms ≤ R.slots)
    (kx : ∀ (E : String) (ce : Cell) (q9 : Addr) (f1 : wF) (a1 : wA) (b1 : wB) (H1 : Heap) (locs1 : List Loc), px E f1 a1 b1 → wd N kf D cl ad ca A s H1 locs1 f1 a1 b1 → H1[q9]? = some ce → ce.vm = .none → s.vm.findClass E = some ce.cls → vx_W p l e R s m args below meth c H1 locs1 (cells + mc) (slots + ms) Q (F0 m pc ls rest) q9)
    (kk : ∀ (f1 : wF) (a1 : wA) (b1 : wB) (H1 : Heap) (locs1 : List Loc), po f1 a1 b1 → wd N kf D cl ad ca A s H1 locs1 f1 a1 b1 → W p l e R s m args below meth c H1 locs1 (cells + mc) (slots + ms) Q (F0 m (pc + 3) ls rest)) : W p l e R s m args below meth c H locs cells slots Q (F0 m pc ls st0) := by
  obtain ⟨hx, hb, hml, hown, hts, hK, hA, hth, hlk, hl⟩ := id X
  obtain ⟨hP, hD, hS⟩ := id K
  have hF := wfree hD hS hA
  have hrv : ∃ cellB : Cell, H[ad o]? = some cellB ∧ cellB.vm.isStatics = false ∧ s.vm.findClass C = some cellB.cls := va_recv hK hP (ci := ci) (q0 := o) hci ((wg_get ho).trans (by rw [hko]))
  have hT : GoodIn Wl (wsV own index C y (Cond.code y bytes maxL ret :: Wl)) := good_in hg (fun w hw => by
    simp only [List.mem_cons, List.not_mem_nil, or_false] at hw
    rcases hw with q | q | q | q
    · rw [q]; exact w1
    · rw [q]; exact w2
    · rw [q]; exact w3
    · rw [q]; exact w4) w5
  exact vx_callv (vx_runV (As := As) (rest := rest) ⟨hx, hb, hml, hown, hts⟩ hM (cwV n0 hts hT rfl hrc hrs hd hR) ⟨sPre.blind, hrv, pre_of X K _⟩ rfl hn hsz hst (lv_room hW) hdg hf) hS (fun q _ h => hF q h) hF (fun q _ h => hF q h)
    (fun E ce q9 u t H1 locs1 ht hvm _ hB hz hk hS1 hce hv hcl => kx E ce q9 u.1 u.2.1 u.2.2 H1 locs1 hB.1 (back_of_call X K ht hB.2 hS1) hce hv hcl)
    (fun u t H1 locs1 ht hvm hw hB hz hk hS1 => kk u.1 u.2.1 u.2.2 H1 locs1 hw (back_of_call X K ht hB hS1))
theorem gcSV (X : cx Wl tys tx D cl sa A p l s m args meth c cc nL own) (K : wd N kf D cl ad ca A s H locs f a b) {y : MethodName} {bytes : ByteArray} {maxL n0 mc ms index : Nat} {ret : Option FieldType} {rm : Room} {As : List Value} {po : wF → wA → wB → Prop} {px : String → wF → wA → wB → Prop}
    (hM : mV N kf tys tx D cl l y (Cond.code y bytes maxL ret :: Wl) rm As ad ca sa H.size f a b po px mc ms)
    (hg : Wl.all goodWord = true) (w1 : Cond.methodLink own index y ∈ Wl) (w2 : Cond.static y ∈ Wl) (w4 : Cond.initialized y.cls ∈ Wl) (w5 : Cond.code y bytes maxL ret ∈ Wl)
    (hd : y.cls ≠ "java/lang/invoke/MethodHandle" ∧ y.cls ≠ "java/lang/invoke/VarHandle" ∧ (parseMethodDescriptor y.desc).map (fun d => d.parameters.length) = some n0) (hrc : rm.cells = mc) (hrs : rm.slots = ms) (hR : rm.frames + 1 ≤ R.frames ∧ 8 + (maxL + 11) + rm.locals ≤ R.locals)
    (hn : As.length = n0) (hsz : ls.size = nL) (hst : st0 = As.reverse ++ rest) (hW : (rest.map fun v => v.category).sum ≤ 8) (hdg : decode cc pc = .ok (.invokestatic index, 3)) (hf : cells + mc ≤ R.cells ∧ slots + ms ≤ R.slots)
    (kx : ∀ (E : String) (ce : Cell) (q9 : Addr) (f1 : wF) (a1 : wA) (b1 : wB) (H1 : Heap) (locs1 : List Loc), px E f1 a1 b1 → wd N kf D cl ad ca A s H1 locs1 f1 a1 b1 → H1[q9]? = some ce → ce.vm = .none → s.vm.findClass E = some ce.cls → vx_W p l e R s m args below meth c H1 locs1 (cells + mc) (slots + ms) Q (F0 m pc ls rest) q9)
    (kk : ∀ (f1 : wF) (a1 : wA) (b1 : wB) (H1 : Heap) (locs1 : List Loc), po f1 a1 b1 → wd N kf D cl ad ca A s H1 locs1 f1 a1 b1 → W p l e R s m args below meth c H1 locs1 (cells + mc) (slots + ms) Q (F0 m (pc + 3) ls rest)) : W p l e R s m args below meth c H locs cells slots Q (F0 m pc ls st0) := by
  obtain ⟨hx, hb, hml, hown, hts, hK, hA, hth, hlk, hl⟩ := id X
  obtain ⟨hP, hD, hS⟩ := id K
  have hF := wfree hD hS hA
  have hT : GoodIn Wl (va_wsS own index y (Cond.code y bytes maxL ret :: Wl)) := good_in hg (fun w hw => by
    simp only [List.mem_cons, List.not_mem_nil, or_false] at hw
    rcases hw with q | q | q
    · rw [q]; exact w1
    · rw [q]; exact w2
    · rw [q]; exact w4) w5
  exact vx_callv (vx_runS (As := As) (rest := rest) ⟨hx, hb, hml, hown, hts⟩ hM (va_cwS n0 hts hT rfl hrc hrs hd hR) ⟨sPre.blind, pre_of X K _⟩ rfl hn hsz hst (lv_room hW) hdg hf) hS (fun q _ h => hF q h) hF (fun q _ h => hF q h)
    (fun E ce q9 u t H1 locs1 ht hvm _ hB hz hk hS1 hce hv hcl => kx E ce q9 u.1 u.2.1 u.2.2 H1 locs1 hB.1 (back_of_call X K ht hB.2 hS1) hce hv hcl)
    (fun u t H1 locs1 ht hvm hw hB hz hk hS1 => kk u.1 u.2.1 u.2.2 H1 locs1 hw (back_of_call X K ht hB hS1))
theorem ofI {y : MethodName} {maxL mc ms sz : Nat} {ret : Option FieldType} {rm : Room} {av : List Value} {po : Int32 → wF → wA → wB → Prop} {px : String → wF → wA → wB → Prop} (hy : plainName y.cls = true) (hl : l.stackTraces = false) (hlen : (lg_sl av).length ≤ maxL)
    (body : ∀ (p : Program) (e : Env) (s : State) (m : MethodId) (below : List Frame) (meth : Method) (c : Code) (ls : Array Slot), cx Wl tys tx D cl sa (va_A (ww N kf ad ca f a b) sz) p l s m av.toArray meth c cc maxL y.cls → (∀ x ∈ c.exceptionTable.toList, False) → meth.sig.returnType = ret → wd N kf D cl ad ca (va_A (ww N kf ad ca f a b) sz) s s.heap [] f a b → lv_has ls maxL (lv_args 0 av) →
      W p l e rm s m av.toArray below meth c s.heap [] 0 0 (vx_MQ below (va_Qi (fun r (u : wF × wA × wB) => po r u.1 u.2.1 u.2.2) (sPost N kf D cl ad ca (va_A (ww N kf ad ca f a b) sz)) (va_A (ww N kf ad ca f a b) sz)) (sX N kf D cl ad ca (va_A (ww N kf ad ca f a b) sz) px) av.toArray s mc ms (va_A (ww N kf ad ca f a b) sz)) (F0 m 0 ls [])) : mI N kf tys tx D cl l y (Cond.code y cc maxL ret :: Wl) rm av ad ca sa sz f a b po px mc ms := by
  refine vx_ofW (cc := cc) (maxL := maxL) (ret := ret) hy rfl ?_
  intro p e s m args below meth c s₁ B hml hex hv
  obtain ⟨rfl, hsz, hP, hK, hD0, hth⟩ := hv
  have hts := atoms_spec (ws := Cond.code y cc maxL ret :: Wl) B.pre
  have hl1 := lv_entry av (n := maxL) hlen
  rw [lg_entry_eq]
  generalize (lg_sl av ++ List.replicate (maxL - (lg_sl av).length) Slot.unset).toArray = ls at hl1 ⊢
  exact body p e s m below meth c ls ⟨B.exec, B.bytes, hml, findClass_of_methodNamed B.named, fun w hw => hts w (List.mem_cons_of_mem _ hw), hK, fun q h => Or.inr (by rw [← hsz]; exact h), hth, B.notSynchronized, hl⟩ hex B.returns ⟨hP, hD0.self, va_S.rf⟩ hl1
theorem ofL {y : MethodName} {maxL mc ms sz : Nat} {ret : Option FieldType} {rm : Room} {av : List Value} {po : Int64 → wF → wA → wB → Prop} {px : String → wF → wA → wB → Prop} (hy : plainName y.cls = true) (hl : l.stackTraces = false) (hlen : (lg_sl av).length ≤ maxL)
    (body : ∀ (p : Program) (e : Env) (s : State) (m : MethodId) (below : List Frame) (meth : Method) (c : Code) (ls : Array Slot), cx Wl tys tx D cl sa (va_A (ww N kf ad ca f a b) sz) p l s m av.toArray meth c cc maxL y.cls → (∀ x ∈ c.exceptionTable.toList, False) → meth.sig.returnType = ret → wd N kf D cl ad ca (va_A (ww N kf ad ca f a b) sz) s s.heap [] f a b → lv_has ls maxL (lv_args 0 av) →
      W p l e rm s m av.toArray below meth c s.heap [] 0 0 (vx_MQ below (va_Ql (fun r (u : wF × wA × wB) => po r u.1 u.2.1 u.2.2) (sPost N kf D cl ad ca (va_A (ww N kf ad ca f a b) sz)) (va_A (ww N kf ad ca f a b) sz)) (sX N kf D cl ad ca (va_A (ww N kf ad ca f a b) sz) px) av.toArray s mc ms (va_A (ww N kf ad ca f a b) sz)) (F0 m 0 ls [])) : mL N kf tys tx D cl l y (Cond.code y cc maxL ret :: Wl) rm av ad ca sa sz f a b po px mc ms := by
  refine vx_ofW (cc := cc) (maxL := maxL) (ret := ret) hy rfl ?_
  intro p e s m args below meth c s₁ B hml hex hv
  obtain ⟨rfl, hsz, hP, hK, hD0, hth⟩ := hv
  have hts := atoms_spec (ws := Cond.code y cc maxL ret :: Wl) B.pre
  have hl1 := lv_entry av (n := maxL) hlen
  rw [lg_entry_eq]
  generalize (lg_sl av ++ List.replicate (maxL - (lg_sl av).length) Slot.unset).toArray = ls at hl1 ⊢
  exact body p e s m below meth c ls ⟨B.exec, B.bytes, hml, findClass_of_methodNamed B.named, fun w hw => hts w (List.mem_cons_of_mem _ hw), hK, fun q h => Or.inr (by rw [← hsz]; exact h), hth, B.notSynchronized, hl⟩ hex B.returns ⟨hP, hD0.self, va_S.rf⟩ hl1
theorem ofV {y : MethodName} {maxL mc ms sz : Nat} {ret : Option FieldType} {rm : Room} {av : List Value} {po : wF → wA → wB → Prop} {px : String → wF → wA → wB → Prop} (hy : plainName y.cls = true) (hl : l.stackTraces = false) (hlen : (lg_sl av).length ≤ maxL)
    (body : ∀ (p : Program) (e : Env) (s : State) (m : MethodId) (below : List Frame) (meth : Method) (c : Code) (ls : Array Slot), cx Wl tys tx D cl sa (va_A (ww N kf ad ca f a b) sz) p l s m av.toArray meth c cc maxL y.cls → (∀ x ∈ c.exceptionTable.toList, False) → meth.sig.returnType = ret → wd N kf D cl ad ca (va_A (ww N kf ad ca f a b) sz) s s.heap [] f a b → lv_has ls maxL (lv_args 0 av) →
      W p l e rm s m av.toArray below meth c s.heap [] 0 0 (vx_MQ below (va_Qv (fun (u : wF × wA × wB) => po u.1 u.2.1 u.2.2) (sPost N kf D cl ad ca (va_A (ww N kf ad ca f a b) sz)) (va_A (ww N kf ad ca f a b) sz)) (sX N kf D cl ad ca (va_A (ww N kf ad ca f a b) sz) px) av.toArray s mc ms (va_A (ww N kf ad ca f a b) sz)) (F0 m 0 ls [])) : mV N kf tys tx D cl l y (Cond.code y cc maxL ret :: Wl) rm av ad ca sa sz f a b po px mc ms := by
  refine vx_ofW (cc := cc) (maxL := maxL) (ret := ret) hy rfl ?_
  intro p e s m args below meth c s₁ B hml hex hv
  obtain ⟨rfl, hsz, hP, hK, hD0, hth⟩ := hv
  have hts := atoms_spec (ws := Cond.code y cc maxL ret :: Wl) B.pre
  have hl1 := lv_entry av (n := maxL) hlen
  rw [lg_entry_eq]
  generalize (lg_sl av ++ List.replicate (maxL - (lg_sl av).length) Slot.unset).toArray = ls at hl1 ⊢
  exact body p e s m below meth c ls ⟨B.exec, B.bytes, hml, findClass_of_methodNamed B.named, fun w hw => hts w (List.mem_cons_of_mem _ hw), hK, fun q h => Or.inr (by rw [← hsz]; exact h), hth, B.notSynchronized, hl⟩ hex B.returns ⟨hP, hD0.self, va_S.rf⟩ hl1
theorem endI {ty : FieldType} {rm : Room} {mc ms : Nat} {po : Int32 → wF → wA → wB → Prop} {px : String → wF → wA → wB → Prop} {v : Int32} (X : cx Wl tys tx D cl sa A p l s m args meth c cc nL own) (K : wd N kf D cl ad ca A s H locs f a b) (hr : meth.sig.returnType = some ty) (hn : narrow ty (.int v) = .int v) (hq : po v f a b) (hc : cells ≤ mc) (hs : slots ≤ ms) (hdg : decode cc pc = .ok (.ireturn, 1)) :
    W p l e rm s m args below meth c H locs cells slots (vx_MQ below (va_Qi (fun r (u : wF × wA × wB) => po r u.1 u.2.1 u.2.2) (sPost N kf D cl ad ca A) A) (sX N kf D cl ad ca A px) args s mc ms A) (F0 m pc ls [.int v]) := by
  obtain ⟨hx, hb, hml, hown, hts, hK, hA, hth, hlk, hl⟩ := X
  obtain ⟨hP, hD, hS⟩ := K
  refine W.widen (k := mc) (n := ms) hc hs (vx_ret ?_)
  exact W.zret (v := v) hx hb hr hn (fun t ht hW => ⟨⟨v, (f, a, b), rfl, hq, by rw [ht]; exact hP, hD⟩, hS.F ht⟩) hS.2.2 hdg hlk
theorem endL {rm : Room} {mc ms : Nat} {po : Int64 → wF → wA → wB → Prop} {px : String → wF → wA → wB → Prop} {v : Int64} (X : cx Wl tys tx D cl sa A p l s m args meth c cc nL own) (K : wd N kf D cl ad ca A s H locs f a b) (hr : meth.sig.returnType = some .long) (hq : po v f a b) (hc : cells ≤ mc) (hs : slots ≤ ms) (hdg : decode cc pc = .ok (.lreturn, 1)) :
    W p l e rm s m args below meth c H locs cells slots (vx_MQ below (va_Ql (fun r (u : wF × wA × wB) => po r u.1 u.2.1 u.2.2) (sPost N kf D cl ad ca A) A) (sX N kf D cl ad ca A px) args s mc ms A) (F0 m pc ls [.long v]) := by
  obtain ⟨hx, hb, hml, hown, hts, hK, hA, hth, hlk, hl⟩ := X
  obtain ⟨hP, hD, hS⟩ := K
  refine W.widen (k := mc) (n := ms) hc hs (vx_ret ?_)
  exact W.lret (v := v) hx hb hr (fun t ht hW => ⟨⟨v, (f, a, b), rfl, hq, by rw [ht]; exact hP, hD⟩, hS.F ht⟩) hS.2.2 hdg hlk
theorem endV {rm : Room} {mc ms : Nat} {po : wF → wA → wB → Prop} {px : String → wF → wA → wB → Prop} (X : cx Wl tys tx D cl sa A p l s m args meth c cc nL own) (K : wd N kf D cl ad ca A s H locs f a b) (hr : meth.sig.returnType = none) (hq : po f a b) (hc : cells ≤ mc) (hs : slots ≤ ms) (hdg : decode cc pc = .ok (.return_, 1)) :
    W p l e rm s m args below meth c H locs cells slots (vx_MQ below (va_Qv (fun (u : wF × wA × wB) => po u.1 u.2.1 u.2.2) (sPost N kf D cl ad ca A) A) (sX N kf D cl ad ca A px) args s mc ms A) (F0 m pc ls []) := by
  obtain ⟨hx, hb, hml, hown, hts, hK, hA, hth, hlk, hl⟩ := X
  obtain ⟨hP, hD, hS⟩ := K
  refine W.widen (k := mc) (n := ms) hc hs (vx_ret ?_)
  exact W.vret hx hb hr (fun t ht hW => ⟨⟨(f, a, b), rfl, hq, by rw [ht]; exact hP, hD⟩, hS.F ht⟩) hS.2.2 hdg hlk
/-- an exception of a callee goes on to the caller -/
theorem outX {rm : Room} {mc ms : Nat} {Qc : Array Value → State → Outcome → State → Prop} {px : String → wF → wA → wB → Prop} {E : String} {ce : Cell} {q9 : Addr} (X : cx Wl tys tx D cl sa A p l s m args meth c cc nL own) (hex : ∀ x ∈ c.exceptionTable.toList, False) (K : wd N kf D cl ad ca A s H locs f a b) (hq : px E f a b) (hce : H[q9]? = some ce) (hv : ce.vm = .none) (hcl : s.vm.findClass E = some ce.cls) (hc : cells ≤ mc) (hs : slots ≤ ms) :
    vx_W p l e rm s m args below meth c H locs cells slots (vx_MQ below Qc (sX N kf D cl ad ca A px) args s mc ms A) (F0 m pc ls rest) q9 := by
  obtain ⟨hx, hb, hml, hown, hts, hK, hA, hth, hlk, hl⟩ := X
  obtain ⟨hP, hD, hS⟩ := K
  exact vx_out (E := E) (fun x hx => (hex x hx).elim) hlk hce hv hcl (fun t ht ha => ⟨(f, a, b), trivial, ⟨hq, by rw [ht]; exact hP, hD⟩, hS.F ht⟩) hS.2.2 hc hs
/-- throw new E("text") -/
theorem throwX {rm : Room} {mc ms k ik is ic : Nat} {cls text : String} {Qc : Array Value → State → Outcome → State → Prop} {px : String → wF → wA → wB → Prop} {names : List String} (X : cx Wl tys tx D cl sa A p l s m args meth c cc nL own) (hex : ∀ x ∈ c.exceptionTable.toList, False) (K : wd N kf D cl ad ca A s H locs f a b) (hq : px cls f a b)
    (hcls : Bundle.fit cls = true) (hnames : ∀ n ∈ names, Bundle.fit n = true) (htx : tx[k]? = some (own, is, text)) (w1 : Cond.classLink own ik cls ∈ Wl) (w2 : Cond.initialized cls ∈ Wl) (hgd : ∀ w ∈ (vx_atS own ic cls names).filter goodWord, w ∈ Wl) (hbd : ∀ w ∈ (vx_atS own ic cls names).filter (fun w => !goodWord w), w ∈ thC ++ thD) (hgood : ∀ w ∈ Cond.classLink own ik cls :: Cond.initialized cls :: vx_atS own ic cls names, vx_ot w = true) (hsz : ls.size = nL)
    (d0 : decode cc pc = .ok (.new ik, 3)) (d3 : decode cc (pc + 3) = .ok (.dup, 1)) (d4 : decode cc (pc + 4) = .ok (.ldc is, 2)) (d6 : decode cc (pc + 6) = .ok (.invokespecial ic, 3)) (d9 : decode cc (pc + 9) = .ok (.athrow, 1))
    (hRf : names.length + 3 < rm.frames) (hRl : (rest.map fun v => v.category).sum + (13 * (names.length + 1) + 43) ≤ rm.locals) (hRc : cells + 1 ≤ rm.cells) (hRs : slots + 6 ≤ rm.slots) (hc : cells + 1 ≤ mc) (hs : slots + 6 ≤ ms) :
    W p l e rm s m args below meth c H locs cells slots (vx_MQ below Qc (sX N kf D cl ad ca A px) args s mc ms A) (F0 m pc ls rest) := by
  obtain ⟨hx, hb, hml, hown, hts, hK, hA, hth, hlk, hl⟩ := X
  obtain ⟨hP, hD, hS⟩ := K
  refine vx_throwS hx hb hl (names := names) (A := A) hown hcls hnames (hts _ w1) (hts _ w2) (hth.2.2.1 k _ htx) (vx_hat (fun w hw => hts w (hgd w hw)) hbd (th_use hth.2.2.2.1 hth.2.2.2.2.1)) hgood hth.1 hth.2.1 hS (hsz.trans hml.symm) d0 d3 d4 d6 d9 (fun x hx => (hex x hx).elim) hRf hRl hRc hRs hlk ?_ hS.2.2 hc hs
  intro t ha hle hk
  refine ⟨(f, a, b), trivial, ⟨hq, hP.kept (fun k q hkq => hk q.1 ((hP k q hkq).lt)), hD⟩, Nat.le_trans hS.1 hle, fun q h1 h2 => (hk q (Nat.lt_of_lt_of_le h1 hS.1)).trans (hS.2.1 q h1 h2)⟩
/-- field and array rows, for a layout that says what the cell holds -/
theorem gGet (X : cx Wl tys tx D cl sa A p l s m args meth c cc nL own) (K : wd N kf D cl ad ca A s H locs f a b) {o ci n1 index k : Nat} {C : String} {T : u_T} {fs : List Value} {v : Value} (ho : o < N) (hko : kf ad ca f a b o = .inr (ci, fs)) (hci : cl[ci]? = some (C, T, n1)) (hT : ∀ w ∈ u_ws C T n1, w ∈ Wl) (hk : k < n1) (w1 : Cond.fieldLink own index (T k).1 (T k).2.1 (T k).2.2.1 ∈ Wl) (hv : fs[k]? = some v) (hdg : decode cc pc = .ok (.getfield index, 3))
    (kk : W p l e R s m args below meth c H locs cells slots Q (F0 m (pc + 3) ls (v :: rest))) : W p l e R s m args below meth c H locs cells slots Q (F0 m pc ls (.ref (ad o) :: rest)) := by
  obtain ⟨hx, hb, hml, hown, hts, hK, hA, hth, hlk, hl⟩ := X
  exact va_get (ref := (T k).1) hx hb hts hT hown hK K.1 o ((wg_get ho).trans (by rw [hko])) hci k hk (hts _ w1) (fun _ h9 => h9) hv hdg kk
theorem gPut (X : cx Wl tys tx D cl sa A p l s m args meth c cc nL own) (K : wd N kf D cl ad ca A s H locs f a b) {o ci n1 index k : Nat} {C : String} {T : u_T} {fs : List Value} {v : Value} {ty : FieldType} (ty0 : Nat → FieldType) (hty : ∀ k, k < n1 → parseFieldDescriptor (T k).2.2.1 = some (ty0 k)) (hnm : ∀ a, a < n1 → ∀ b, b < n1 → a ≠ b → (T a).2.1 ≠ (T b).2.1) (ho : o < N) (hko : kf ad ca f a b o = .inr (ci, fs)) (hci : cl[ci]? = some (C, T, n1)) (hT : ∀ w ∈ u_ws C T n1, w ∈ Wl) (hk : k < n1) (w1 : Cond.fieldLink own index (T k).1 (T k).2.1 (T k).2.2.1 ∈ Wl) (hfin : (T k).2.2.2 = false) (hd : parseFieldDescriptor (T k).2.2.1 = some ty) (hn : narrow ty v = v) (hfit : fits ty v = true) (hlen : k < fs.length) (hdg : decode cc pc = .ok (.putfield index, 3)) {f1 : wF} {a1 : wA} {b1 : wB} (hup : va_up (kf ad ca f a b) o (.inr (ci, fs.set k v)) = kf ad ca f1 a1 b1)
    (kk : ∀ (H1 : Heap) (locs1 : List Loc), wd N kf D cl ad ca A s H1 locs1 f1 a1 b1 → W p l e R s m args below meth c H1 locs1 cells slots Q (F0 m (pc + 3) ls rest)) : W p l e R s m args below meth c H locs cells slots Q (F0 m pc ls (v :: .ref (ad o) :: rest)) := by
  obtain ⟨hx, hb, hml, hown, hts, hK, hA, hth, hlk, hl⟩ := X
  refine va_put (ref := (T k).1) hx hb hts hT ty0 hty hnm hown hK K.1 K.2.1 K.2.2 o ((wg_get ho).trans (by rw [hko])) hci k hk (hts _ w1) (fun _ h9 => h9) hfin hd hn hfit hlen hdg (fun H1 locs1 hP1 hD1 hS1 => kk H1 locs1 ?_)
  unfold ww at hP1 hD1
  rw [wg_set ho, hup] at hP1 hD1
  exact ⟨hP1, hD1, hS1⟩
theorem gild (X : cx Wl tys tx D cl sa A p l s m args meth c cc nL own) (K : wd N kf D cl ad ca A s H locs f a b) {o n t0 : Nat} {cA : ClassId} {g : Nat → Int32} (ho : o < N) (hko : kf ad ca f a b o = .inl (cA, n, .inl g)) (ht : tys[t0]? = some (cA, .int)) {i : Int32} (hin : vp_in i n) (hdg : decode cc pc = .ok (.iaload, 1))
    (kk : W p l e R s m args below meth c H locs cells slots Q (F0 m (pc + 1) ls (.int (g i.toNatClampNeg) :: rest))) : W p l e R s m args below meth c H locs cells slots Q (F0 m pc ls (.int i :: .ref (ad o) :: rest)) := by
  obtain ⟨hx, hb, hml, hown, hts, hK, hA, hth, hlk, hl⟩ := X
  exact va_iald hx hb hK K.1 o t0 ((wg_get ho).trans (by rw [hko])) ht hin hdg kk
theorem gzld (X : cx Wl tys tx D cl sa A p l s m args meth c cc nL own) (K : wd N kf D cl ad ca A s H locs f a b) {o n t0 : Nat} {cA : ClassId} {g : Nat → Int32} (ho : o < N) (hko : kf ad ca f a b o = .inl (cA, n, .inl g)) (ht : tys[t0]? = some (cA, .boolean)) {i : Int32} (hin : vp_in i n) (hdg : decode cc pc = .ok (.baload, 1))
    (kk : W p l e R s m args below meth c H locs cells slots Q (F0 m (pc + 1) ls (.int (g i.toNatClampNeg) :: rest))) : W p l e R s m args below meth c H locs cells slots Q (F0 m pc ls (.int i :: .ref (ad o) :: rest)) := by
  obtain ⟨hx, hb, hml, hown, hts, hK, hA, hth, hlk, hl⟩ := X
  exact va_zald hx hb hK K.1 o t0 ((wg_get ho).trans (by rw [hko])) ht hin hdg kk
theorem glld (X : cx Wl tys tx D cl sa A p l s m args meth c cc nL own) (K : wd N kf D cl ad ca A s H locs f a b) {o n t0 : Nat} {cA : ClassId} {g : Nat → Int64} (ho : o < N) (hko : kf ad ca f a b o = .inl (cA, n, .inr (.inl g))) (ht : tys[t0]? = some (cA, .long)) {i : Int32} (hin : vp_in i n) (hdg : decode cc pc = .ok (.laload, 1))
    (kk : W p l e R s m args below meth c H locs cells slots Q (F0 m (pc + 1) ls (.long (g i.toNatClampNeg) :: rest))) : W p l e R s m args below meth c H locs cells slots Q (F0 m pc ls (.int i :: .ref (ad o) :: rest)) := by
  obtain ⟨hx, hb, hml, hown, hts, hK, hA, hth, hlk, hl⟩ := X
  exact va_lald hx hb hK K.1 o t0 ((wg_get ho).trans (by rw [hko])) ht hin hdg kk
theorem gist (X : cx Wl tys tx D cl sa A p l s m args meth c cc nL own) (K : wd N kf D cl ad ca A s H locs f a b) {o n t0 : Nat} {cA : ClassId} {g : Nat → Int32} (ho : o < N) (hko : kf ad ca f a b o = .inl (cA, n, .inl g)) (ht : tys[t0]? = some (cA, .int)) {i : Int32} {x : Int32} (hin : vp_in i n) (hdg : decode cc pc = .ok (.iastore, 1)) {f1 : wF} {a1 : wA} {b1 : wB} (hup : va_up (kf ad ca f a b) o (.inl (cA, n, .inl (upd g i.toNatClampNeg x))) = kf ad ca f1 a1 b1)
    (kk : ∀ (H1 : Heap) (locs1 : List Loc), wd N kf D cl ad ca A s H1 locs1 f1 a1 b1 → W p l e R s m args below meth c H1 locs1 cells slots Q (F0 m (pc + 1) ls rest)) : W p l e R s m args below meth c H locs cells slots Q (F0 m pc ls (.int x :: .int i :: .ref (ad o) :: rest)) := by
  obtain ⟨hx, hb, hml, hown, hts, hK, hA, hth, hlk, hl⟩ := X
  refine va_iast hx hb hK K.1 K.2.1 K.2.2 o t0 ((wg_get ho).trans (by rw [hko])) ht hin hdg (fun H1 locs1 hP1 hD1 hS1 => kk H1 locs1 ?_)
  unfold ww at hP1 hD1
  rw [wg_set ho, hup] at hP1 hD1
  exact ⟨hP1, hD1, hS1⟩
theorem gzst (X : cx Wl tys tx D cl sa A p l s m args meth c cc nL own) (K : wd N kf D cl ad ca A s H locs f a b) {o n t0 : Nat} {cA : ClassId} {g : Nat → Int32} (ho : o < N) (hko : kf ad ca f a b o = .inl (cA, n, .inl g)) (ht : tys[t0]? = some (cA, .boolean)) {i : Int32} {x : Int32} (hin : vp_in i n) (hdg : decode cc pc = .ok (.bastore, 1)) {f1 : wF} {a1 : wA} {b1 : wB} (hup : va_up (kf ad ca f a b) o (.inl (cA, n, .inl (upd g i.toNatClampNeg (vp_nar .boolean x)))) = kf ad ca f1 a1 b1)
    (kk : ∀ (H1 : Heap) (locs1 : List Loc), wd N kf D cl ad ca A s H1 locs1 f1 a1 b1 → W p l e R s m args below meth c H1 locs1 cells slots Q (F0 m (pc + 1) ls rest)) : W p l e R s m args below meth c H locs cells slots Q (F0 m pc ls (.int x :: .int i :: .ref (ad o) :: rest)) := by
  obtain ⟨hx, hb, hml, hown, hts, hK, hA, hth, hlk, hl⟩ := X
  refine va_zast hx hb hK K.1 K.2.1 K.2.2 o t0 ((wg_get ho).trans (by rw [hko])) ht hin hdg (fun H1 locs1 hP1 hD1 hS1 => kk H1 locs1 ?_)
  unfold ww at hP1 hD1
  rw [wg_set ho, hup] at hP1 hD1
  exact ⟨hP1, hD1, hS1⟩
theorem glst (X : cx Wl tys tx D cl sa A p l s m args meth c cc nL own) (K : wd N kf D cl ad ca A s H locs f a b) {o n t0 : Nat} {cA : ClassId} {g : Nat → Int64} (ho : o < N) (hko : kf ad ca f a b o = .inl (cA, n, .inr (.inl g))) (ht : tys[t0]? = some (cA, .long)) {i : Int32} {x : Int64} (hin : vp_in i n) (hdg : decode cc pc = .ok (.lastore, 1)) {f1 : wF} {a1 : wA} {b1 : wB} (hup : va_up (kf ad ca f a b) o (.inl (cA, n, .inr (.inl (vp_updL g i.toNatClampNeg x)))) = kf ad ca f1 a1 b1)
    (kk : ∀ (H1 : Heap) (locs1 : List Loc), wd N kf D cl ad ca A s H1 locs1 f1 a1 b1 → W p l e R s m args below meth c H1 locs1 cells slots Q (F0 m (pc + 1) ls rest)) : W p l e R s m args below meth c H locs cells slots Q (F0 m pc ls (.long x :: .int i :: .ref (ad o) :: rest)) := by
  obtain ⟨hx, hb, hml, hown, hts, hK, hA, hth, hlk, hl⟩ := X
  refine va_last hx hb hK K.1 K.2.1 K.2.2 o t0 ((wg_get ho).trans (by rw [hko])) ht hin hdg (fun H1 locs1 hP1 hD1 hS1 => kk H1 locs1 ?_)
  unfold ww at hP1 hD1
  rw [wg_set ho, hup] at hP1 hD1
  exact ⟨hP1, hD1, hS1⟩
/-- a row of a grid -/
theorem gald (X : cx Wl tys tx D cl sa A p l s m args meth c cc nL own) (K : wd N kf D cl ad ca A s H locs f a b) {o n t0 rb : Nat} {cA : ClassId} {t : FieldType} (ho : o < N) (hko : kf ad ca f a b o = .inl (cA, n, .inr (.inr (.inr (.inr (fun i => if i < n then some (ad (rb + i)) else none)))))) (ht : tys[t0]? = some (cA, .array t)) {i : Int32} (hin : vp_in i n) (hdg : decode cc pc = .ok (.aaload, 1))
    (kk : W p l e R s m args below meth c H locs cells slots Q (F0 m (pc + 1) ls (.ref (ad (rb + i.toNatClampNeg)) :: rest))) : W p l e R s m args below meth c H locs cells slots Q (F0 m pc ls (.int i :: .ref (ad o) :: rest)) := by
  obtain ⟨hx, hb, hml, hown, hts, hK, hA, hth, hlk, hl⟩ := X
  have hlt := vpin_lt hin
  have hc : H[ad o]? = some (vp_cell cA (n, .inr (.inr (.inr (.inr (fun i => if i < n then some (ad (rb + i)) else none)))))) := K.1 o (ad o, .inl (cA, n, .inr (.inr (.inr (.inr (fun i => if i < n then some (ad (rb + i)) else none)))))) ((wg_get ho).trans (by rw [hko]))
  exact W.aald (v := .ref (ad (rb + i.toNatClampNeg))) (ty := .array t) hx hb hc ((hK.2 t0 _ ht).1 n (fun j => va_rf (if j < n then some (ad (rb + j)) else none))) rfl (fun q => by cases q) (by show ¬ (i < 0 ∨ (arrV _ _ _).slots.size ≤ _); rw [arrV_size]; exact hin) (by show (arrV _ _ _).slots[_]? = _; rw [arrV_read _ _ hlt]; show some (va_rf (if i.toNatClampNeg < n then some (ad (rb + i.toNatClampNeg)) else none)) = _; rw [if_pos hlt]; rfl) rfl rfl hdg kk
end LAYER
