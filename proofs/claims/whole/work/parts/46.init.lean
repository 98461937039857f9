/-! Constructors: contracts from one cell (the new object) to a layout's world. -/
def cPre (tys : List (ClassId × FieldType)) (tx : List (String × Nat × String)) (D : va_G) (cl : List vw_C) (sa : Nat → Nat) (sz h0 ci : Nat) (fs : List Value) (U : State) : Prop :=
  U.heap.size = sz ∧ va_P D cl [(h0, .inr (ci, fs))] U.heap ∧ va_K D cl tys U ∧ va_D (fun _ => True) [(h0, .inr (ci, fs))] ∧ th tx sa (va_A [(h0, .inr (ci, fs))] sz) U U.heap ∧ va_AOA .int U ∧ va_AOA .long U
abbrev cPost (N : Nat) (kf : wL) (D : va_G) (cl : List vw_C) (ca : Nat → ClassId) (h0 : Nat) (A : Nat → Prop) (po : (Nat → Nat) → wF → wA → wB → Prop) : Array Value → State → Outcome → State → Prop :=
  va_Qv (fun u : (Nat → Nat) × wF × wA × wB => u.1 0 = h0 ∧ po u.1 u.2.1 u.2.2.1 u.2.2.2) (fun u t => sPost N kf D cl u.1 ca A u.2 t) A
/-- a constructor's contract -/
def mC (N : Nat) (kf : wL) (tys : List (ClassId × FieldType)) (tx : List (String × Nat × String)) (D : va_G) (cl : List vw_C) (l : Launch) (y : MethodName) (ws : List Cond) (rm : Room) (ca : Nat → ClassId) (sa : Nat → Nat) (sz h0 ci : Nat) (fs : List Value) (po : (Nat → Nat) → wF → wA → wB → Prop) (mc ms : Nat) : Prop :=
  Met l y ws rm (va_Pc [.ref h0] (cPre tys tx D cl sa sz h0 ci fs)) (cPost N kf D cl ca h0 (va_A [(h0, .inr (ci, fs))] sz) po) mc ms (va_A [(h0, .inr (ci, fs))] sz)
theorem va_AOA.moved9 {t : FieldType} {u U : State} (hvm : u.vm.Alike U.vm) (h : va_AOA t u) : va_AOA t U := over_moved (a := #[]) (a' := #[]) hvm h
theorem cPre.blind {tys : List (ClassId × FieldType)} {tx : List (String × Nat × String)} {D : va_G} {cl : List vw_C} {sa : Nat → Nat} {sz h0 ci : Nat} {fs : List Value} {av : List Value} : FrameBlind (va_Pc av (cPre tys tx D cl sa sz h0 ci fs)) := by
  intro v U g mk h
  obtain ⟨h0, h1, h2, h3, h4, h5, h6, h7⟩ := h
  exact ⟨h0, h1, h2, va_K.moved (u := U) (U := U.calling g mk v) (Vm.Alike.refl U.vm) h3, h4, th.blind h5, va_AOA.moved9 (u := U) (U := U.calling g mk v) (Vm.Alike.refl U.vm) h6, va_AOA.moved9 (u := U) (U := U.calling g mk v) (Vm.Alike.refl U.vm) h7⟩
theorem W_mono {p : Program} {l : Launch} {e : Env} {R : Room} {s : State} {m : MethodId} {args : Array Value} {below : List Frame} {meth : Method} {c : Code} {H : Heap} {locs : List Loc} {cells slots : Nat} {Q Q' : State → Prop} {g : JFrame} (hQ : ∀ t, Q t → Q' t) (k : W p l e R s m args below meth c H locs cells slots Q g) : W p l e R s m args below meth c H locs cells slots Q' g := by
  intro T hT X
  obtain ⟨t, a, b⟩ := k T hT X
  exact ⟨t, a, hQ t b⟩
/-- a body's end with given addresses is an end of a constructor -/
theorem endC {N : Nat} {kf : wL} {D : va_G} {cl : List vw_C} {ad : Nat → Nat} {ca : Nat → ClassId} {A : Nat → Prop} {h0 mc ms : Nat} {below : List Frame} {args : Array Value} {s : State} {po : (Nat → Nat) → wF → wA → wB → Prop} (hh : ad 0 = h0) (t : State) (h : vx_MQ below (va_Qv (fun (u : wF × wA × wB) => po ad u.1 u.2.1 u.2.2) (sPost N kf D cl ad ca A) A) (sX N kf D cl ad ca A (fun _ _ _ _ => False)) args s mc ms A t) : MQ below (cPost N kf D cl ca h0 A po) args s mc ms A t := by
  obtain ⟨o, h1, h2, h3⟩ := h
  rcases h3 with ⟨⟨⟨u, e1, e2, e3⟩, e4⟩, e5⟩ | ⟨q, -, E, ce, L, ⟨u, -, hf, -⟩, -⟩
  · exact ⟨o, h1, h2, ⟨⟨(ad, u), e1, ⟨hh, e2⟩, e3⟩, e4⟩, e5⟩
  · exact hf.1.elim
section INIT
variable {tys : List (ClassId × FieldType)} {tx : List (String × Nat × String)} {D : va_G} {cl : List vw_C} {sa : Nat → Nat} {A : Nat → Prop} {ad : Nat → Nat} {ca : Nat → ClassId} {k : Nat → va_E} {N0 N' : Nat} {kf' : wL}
variable {p : Program} {l : Launch} {e : Env} {R : Room} {s : State} {m : MethodId} {args : Array Value} {below : List Frame} {meth : Method} {c : Code} {cc : ByteArray} {nL : Nat} {own : String} {H : Heap} {locs : List Loc} {cells slots : Nat} {Q : State → Prop} {pc : Nat} {ls : Array Slot} {rest : List Value}
/-- the entry of a constructor -/
theorem ofC {y : MethodName} {maxL mc ms sz h0 ci : Nat} {rm : Room} {fs : List Value} {po : (Nat → Nat) → wF → wA → wB → Prop} (hy : plainName y.cls = true) (hyn : y.name = "<init>") (hl : l.stackTraces = false) (hlen : (lg_sl [Value.ref h0]).length ≤ maxL)
    (body : ∀ (p : Program) (e : Env) (s : State) (m : MethodId) (below : List Frame) (meth : Method) (c : Code) (ls : Array Slot), cx Wl tys tx D cl sa (va_A [(h0, .inr (ci, fs))] sz) p l s m ([.ref h0] : List Value).toArray meth c cc maxL y.cls → meth.name = "<init>" → meth.sig.returnType = none → va_AOA .int s → va_AOA .long s → wk D cl (fun _ => h0) (fun _ => .inr (ci, fs)) 1 (va_A [(h0, .inr (ci, fs))] sz) s s.heap [] → lv_has ls maxL [(0, .ref h0)] →
      W p l e rm s m ([.ref h0] : List Value).toArray below meth c s.heap [] 0 0 (MQ below (cPost N' kf' D cl ca h0 (va_A [(h0, .inr (ci, fs))] sz) po) ([.ref h0] : List Value).toArray s mc ms (va_A [(h0, .inr (ci, fs))] sz)) (F0 m 0 ls [])) : mC N' kf' tys tx D cl l y (Cond.code y cc maxL none :: Wl) rm ca sa sz h0 ci fs po mc ms := by
  refine Met.ofW (cc := cc) (maxL := maxL) (ret := none) hy rfl ?_
  intro p e s m args below meth c s₁ B hml hv
  obtain ⟨rfl, hsz, hP, hK, hD0, hth, ho1, ho2⟩ := hv
  have hts := atoms_spec (ws := Cond.code y cc maxL none :: Wl) B.pre
  have hl1 := lv_entry [Value.ref h0] (n := maxL) hlen
  rw [lg_entry_eq]
  generalize (lg_sl [Value.ref h0] ++ List.replicate (maxL - (lg_sl [Value.ref h0]).length) Slot.unset).toArray = ls at hl1 ⊢
  exact body p e s m below meth c ls ⟨B.exec, B.bytes, hml, findClass_of_methodNamed B.named, fun w hw => hts w (List.mem_cons_of_mem _ hw), hK, fun q h => Or.inr (by rw [← hsz]; exact h), hth, B.notSynchronized, hl⟩ ((name_of_methodNamed B.named B.method).1.trans hyn) B.returns ho1 ho2 ⟨hP, hD0.self, va_S.rf⟩ hl1
/-- the last cell is a new object: its constructor makes a layout's world out of it -/
theorem nInit (X : cx Wl tys tx D cl sa A p l s m args meth c cc nL own) (K : wk D cl ad k (N0 + 1) A s H locs) (ho1 : va_AOA .int s) (ho2 : va_AOA .long s) {y : MethodName} {bytes : ByteArray} {maxL mc ms ci index : Nat} {rm : Room} {fs : List Value} {po : (Nat → Nat) → wF → wA → wB → Prop} (hko : k N0 = .inr (ci, fs))
    (hM : mC N' kf' tys tx D cl l y (Cond.code y bytes maxL none :: Wl) rm ca sa H.size (ad N0) ci fs po mc ms) (w1 : Cond.methodLink own index y ∈ Wl) (w2 : Cond.instanceMethod y ∈ Wl) (w4 : Cond.initialized y.cls ∈ Wl) (w5 : Cond.code y bytes maxL none ∈ Wl) (hyn : y.name = "<init>")
    (hd : y.cls ≠ "java/lang/invoke/MethodHandle" ∧ y.cls ≠ "java/lang/invoke/VarHandle" ∧ (parseMethodDescriptor y.desc).map (fun d => d.parameters.length) = some 0) (hrc : rm.cells = mc) (hrs : rm.slots = ms) (hR : rm.frames + 1 ≤ R.frames ∧ 8 + (maxL + 11) + rm.locals ≤ R.locals) (hsz : ls.size = nL) (hW : (rest.map fun v => v.category).sum ≤ 8) (hdg : decode cc pc = .ok (.invokespecial index, 3)) (hf : cells + mc ≤ R.cells ∧ slots + ms ≤ R.slots) {q : Nat} (hq : q = ad N0)
    (kk : ∀ (adP : Nat → Nat) (f1 : wF) (a1 : wA) (b1 : wB) (H1 : Heap) (locs1 : List Loc), adP 0 = ad N0 → po adP f1 a1 b1 → wk D cl (fun j => if j < N0 then ad j else adP (j - N0)) (fun j => if j < N0 then k j else kf' adP ca f1 a1 b1 (j - N0)) (N0 + N') A s H1 locs1 → W p l e R s m args below meth c H1 locs1 (cells + mc) (slots + ms) Q (F0 m (pc + 3) ls rest)) : W p l e R s m args below meth c H locs cells slots Q (F0 m pc ls (.ref q :: rest)) := by
  subst hq
  obtain ⟨hx, hb, hml, hown, hts, hK, hA, hth, hlk, hl⟩ := id X
  obtain ⟨hP, hD, hS⟩ := id K
  have hget : (wg ad k (N0 + 1))[N0]? = some (ad N0, .inr (ci, fs)) := (wg_get (by omega)).trans (by rw [hko])
  have hP1 : va_P D cl [(ad N0, .inr (ci, fs))] H := fun j x hj => by
    match j, hj with
    | 0, hj => cases hj; exact hP N0 _ hget
    | j + 1, hj => simp at hj
  have hD1 : va_D A [(ad N0, .inr (ci, fs))] := ⟨fun i j x y hi hj _ => by
    have h1 : i < 1 := (List.getElem?_eq_some_iff.mp hi).1
    have h2 : j < 1 := (List.getElem?_eq_some_iff.mp hj).1
    omega, fun j x hj => by
    match j, hj with
    | 0, hj => cases hj; exact hD.2 N0 _ hget
    | j + 1, hj => simp at hj⟩
  have hF := wfree hD1 hS hA
  have hT : GoodIn Wl (Cond.code y bytes maxL none :: Wl) := good_in (pre := []) wl_good (fun w hw => nomatch hw) w5
  refine va_callv (va_runI (As := []) (rest := rest) ⟨hx, hb, hml, hown, hts⟩ hM (cwI 0 hts hT rfl hrc hrs (hts _ w4) (hts _ w1) (hts _ w2) hyn hd hR) ⟨cPre.blind, fun U hU hW9 => ⟨rfl, by rw [hU], by rw [hU]; exact hP1, va_K.moved hW9.alike hK, hD1.weaken (fun _ _ _ _ => trivial), th.call hth hU hW9 hS.2.1 hF, va_AOA.moved9 hW9.alike ho1, va_AOA.moved9 hW9.alike ho2⟩⟩ rfl rfl hsz rfl (lv_room hW) hdg hf) hS (fun q _ h => hF q h) hF (fun u t H1 locs1 ht hvm hw hB hz hk hS1 => kk u.1 u.2.1 u.2.2.1 u.2.2.2 H1 locs1 hw.1 hw.2 ?_)
  obtain ⟨g1, g2⟩ := hB
  rw [ht] at g1
  have gP := wk_P.mp g1
  have gD := wk_D.mp g2
  have oP := wk_P.mp hP
  have oD := wk_D.mp hD
  -- a cell of the callee's is the new object or lies behind the heap's old end
  have hnew : ∀ j, j < N' → u.1 j = ad N0 ∨ H.size ≤ u.1 j := fun j hj => by
    rcases gD.2 j hj with ⟨i, x, hi⟩ | h
    · match i, hi with
      | 0, hi => left; exact (congrArg Prod.fst (Option.some.inj hi)).symm
      | i + 1, hi => simp at hi
    · right; exact h
  have hold : ∀ j, j < N0 → ad j < H.size ∧ ad j ≠ ad N0 := fun j hj => ⟨(oP j (by omega)).lt, fun q => by have := oD.1 j N0 (by omega) (by omega) q; omega⟩
  refine ⟨wk_P.mpr (fun j hj => ?_), wk_D.mpr ⟨fun i j hi hj e9 => ?_, fun j hj => ?_⟩, hS1⟩
  · by_cases h : j < N0
    · simp only [if_pos h]
      refine (oP j (by omega)).kept (hk (ad j) (hold j h).1 (fun h9 => ?_))
      rcases h9 with ⟨i, x, hi⟩ | h9
      · match i, hi with
        | 0, hi => exact (hold j h).2 (congrArg Prod.fst (Option.some.inj hi)).symm
        | i + 1, hi => simp at hi
      · exact absurd (hold j h).1 (Nat.not_lt.mpr h9)
    · simp only [if_neg h]
      exact gP (j - N0) (by omega)
  · by_cases h1 : i < N0 <;> by_cases h2 : j < N0
    · simp only [if_pos h1, if_pos h2] at e9
      exact oD.1 i j (by omega) (by omega) e9
    · simp only [if_pos h1, if_neg h2] at e9
      rcases hnew (j - N0) (by omega) with q | q
      · exact absurd (e9.trans q) (hold i h1).2
      · have := (hold i h1).1
        omega
    · simp only [if_neg h1, if_pos h2] at e9
      rcases hnew (i - N0) (by omega) with q | q
      · exact absurd (e9.symm.trans q) (hold j h2).2
      · have := (hold j h2).1
        omega
    · simp only [if_neg h1, if_neg h2] at e9
      have := gD.1 (i - N0) (j - N0) (by omega) (by omega) e9
      omega
  · by_cases h : j < N0
    · simp only [if_pos h]
      exact oD.2 j (by omega)
    · simp only [if_neg h]
      exact hF _ (gD.2 (j - N0) (by omega))
end INIT
