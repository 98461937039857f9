/-! the rows of a plan: the class's layOutNeeds -/
def fr23 (a a' : wA) : Prop := ∀ j, j ≤ 23 → a' j = a j
theorem fr23.r {a : wA} : fr23 a a := fun _ _ => rfl
theorem fr23.t {a a1 a2 : wA} (h : fr23 a a1) (g : fr23 a1 a2) : fr23 a a2 := fun j hj => (g j hj).trans (h j hj)
theorem vInc_c {a a' : wA} (h : fr23 a a') (n : Nat) : vInc a' n = vInc a n := by unfold vInc; rw [h 20 (by decide)]
theorem vSec_c {a a' : wA} (h : fr23 a a') {u : Nat} (hu : u < 12) (n : Nat) : vSec a' u n = vSec a u n := by unfold vSec; rw [h _ (by omega), vInc_c h]
theorem vRk_c {a a' : wA} (h : fr23 a a') (n : Nat) : vRk a' n = vRk a n := by unfold vRk; rw [h 18 (by decide), vInc_c h]
theorem vOp_c {a a' : wA} (h : fr23 a a') (n : Nat) : vOp a' n = vOp a n := by unfold vOp; rw [h 19 (by decide), vInc_c h]
theorem vCan_c {a a' : wA} (h : fr23 a a') {u : Nat} (hu : u < 12) (n : Nat) : vCan a' u n ↔ vCan a u n := by
  unfold vCan vSk
  rw [vSec_c h hu, h 2 (by decide), h 1 (by decide), h 21 (by decide), h 23 (by decide)]
theorem vNd_c {a a' : wA} (h : fr23 a a') (n : Nat) : vNd a' n ↔ vNd a n := by
  unfold vNd
  rw [h 20 (by decide), h 21 (by decide)]
def fixU (a : wA) (u : Nat) : Prop := ¬ a 3 u = 0 ∧ ¬ a 4 u = -1 ∧ vCan a u (a 4 u).toNatClampNeg
def fixN (a : wA) (n : Nat) : Prop := ¬ a 22 n = -1 ∧ fixU a (a 22 n).toNatClampNeg
theorem fixU_c {a a' : wA} (h : fr23 a a') {u : Nat} (hu : u < 12) : fixU a' u ↔ fixU a u := by
  unfold fixU
  rw [h 3 (by decide), h 4 (by decide), vCan_c h hu]
def SC (a : wA) (U NC : Nat) : Prop := U ≤ 12 ∧ NC ≤ 10 ∧ (∀ n, n < NC → vNd a n ∧ (vOp a n = 0 ∨ vOp a n = 1) ∧ (∃ r, 1 ≤ r ∧ r ≤ 9 ∧ vRk a n = nI r) ∧ (∀ u, u < 12 → sOK (vSec a u n)) ∧ (a 22 n = -1 ∨ ∃ u, u < U ∧ a 22 n = nI u)) ∧ (∀ u, u < 12 → a 4 u = -1 ∨ ∃ n, n < NC ∧ a 4 u = nI n)
theorem SC.c {a a' : wA} {U NC : Nat} (hs : SC a U NC) (h : fr23 a a') : SC a' U NC := by
  obtain ⟨h1, h2, h3, h4⟩ := hs
  refine ⟨h1, h2, fun n hn => ?_, fun u hu => by rw [h 4 (by decide)]; exact h4 u hu⟩
  rw [vNd_c h, vOp_c h, vRk_c h, h 22 (by decide)]
  obtain ⟨g1, g2, g3, g4, g5⟩ := h3 n hn
  exact ⟨g1, g2, g3, fun u hu => by rw [vSec_c h hu]; exact g4 u hu, g5⟩
theorem fixN_c {a a' : wA} {U NC : Nat} (hs : SC a U NC) (h : fr23 a a') {n : Nat} (hn : n < NC) : fixN a' n ↔ fixN a n := by
  unfold fixN
  rw [h 22 (by decide)]
  rcases (hs.2.2.1 n hn).2.2.2.2 with z | ⟨u, u1, u2⟩
  · rw [z]; exact ⟨fun y => absurd rfl y.1, fun y => absurd rfl y.1⟩
  · have := hs.1
    rw [u2, nI_clamp (by omega), fixU_c h (by omega)]
theorem Sta.sc {fS fM : wF} {aS aM : wA} {U IC NC rs rr : Nat} (h : Sta fS aS fM aM U IC NC rs rr) (hf : iFill aS aM U NC) : SC aS U NC := by
  have hU := h.1.1.2.2
  have hNC := h.1.2.2.1.2.2
  refine ⟨hU, hNC, fun n hn => ⟨(h.nd hn).1, h.op2 hn, ?_, fun u hu => (h.sec hu hn).2, ?_⟩, fun u hu => ?_⟩
  · obtain ⟨r, r1, r2, r3, -⟩ := h.rk hn
    exact ⟨r, r1, r2, r3⟩
  · rcases ((hf.1 n (by omega)).1 hn).2 with z | ⟨u, u1, u2, -⟩
    · exact Or.inl z.1
    · exact Or.inr ⟨u, u1, u2⟩
  · rcases hf.un hU hNC hu with z | ⟨n, n1, n2, -⟩
    · exact Or.inl z.1
    · exact Or.inr ⟨n, n1, n2⟩
section LAY
variable {f : wF} {a : wA} {b : wB} {U NC rr : Nat}
theorem S_isFixed {po : Int32 → wF → wA → wB → Prop} {u : Nat} (hs : SC a U NC) (hu : u < 12) (h1 : fixU a u → po 1 f a b) (h0 : ¬ fixU a u → po 0 f a b) : wp_S_isFixed po (nI u) f a b := by
  unfold wp_S_isFixed
  rw [nI_clamp (n := u) (by omega)]
  refine ⟨vp_in_nI hu (by decide), fun c => ⟨zb0, h0 (fun z => z.1 c)⟩, fun c => ⟨vp_in_nI hu (by decide), fun c2 => ⟨zb0, h0 (fun z => z.2.1 c2)⟩, fun c2 => ⟨vp_in_nI hu (by decide), ?_⟩⟩⟩
  have hNC := hs.2.1
  rcases hs.2.2.2 u hu with z | ⟨n, n1, n2⟩
  · exact absurd z c2
  · rw [n2]
    have ecl : (a 4 u).toNatClampNeg = n := by rw [n2, nI_clamp (by omega)]
    refine S_canFill hu (hs.2.2.1 n n1).1 (fun hc => iN n10 ⟨zb1, h1 ⟨c, c2, by rw [ecl]; exact hc⟩⟩) (fun hc => ip rfl ⟨zb0, h0 (fun z => hc ?_)⟩)
    have := z.2.2
    rw [ecl] at this
    exact this
theorem S_hasFixedUnit {po : Int32 → wF → wA → wB → Prop} {n : Nat} (hs : SC a U NC) (hn : n < NC) (h1 : fixN a n → po 1 f a b) (h0 : ¬ fixN a n → po 0 f a b) : wp_S_hasFixedUnit po (nI n) f a b := by
  have hNC := hs.2.1
  have hU := hs.1
  unfold wp_S_hasFixedUnit
  rw [nI_clamp (n := n) (by omega)]
  refine ⟨vp_in_nI (by omega) (by decide), fun c => ⟨zb0, h0 (fun z => z.1 c)⟩, fun c => ⟨vp_in_nI (by omega) (by decide), ?_⟩⟩
  rcases (hs.2.2.1 n hn).2.2.2.2 with z | ⟨u, u1, u2⟩
  · exact absurd z c
  · have ecl : (a 22 n).toNatClampNeg = u := by rw [u2, nI_clamp (by omega)]
    rw [u2]
    refine S_isFixed hs (by omega) (fun hc => iN n10 ⟨zb1, h1 ⟨c, by rw [ecl]; exact hc⟩⟩) (fun hc => ip rfl ⟨zb0, h0 (fun z => hc ?_)⟩)
    have := z.2
    rw [ecl] at this
    exact this
/-- what a unit costs a need -/
noncomputable def ccn (a : wA) (U n u : Nat) : Int := cif (u < U ∧ ¬ fixU a u ∧ vCan a u n) ((vRk a n).toInt * ((vSec a u n).toInt - 100000000)) 0
/-- rows laid so far -/
def LO (a : wA) (b : wB) (U : Nat) (f0 : wF) (L : List Nat) (f' : wF) (a' : wA) (b' : wB) : Prop := f' 5 = nI L.length ∧ (∀ k, k ≠ 5 → f' k = f0 k) ∧ fr23 a a' ∧ (∀ r, r < L.length → a' 25 r = nI (L.getD r 0)) ∧ (∀ r u, r < L.length → u < 12 → b' (27 + r) u = Int64.ofInt (ccn a U (L.getD r 0) u)) ∧ (∀ r u, L.length ≤ r → r < 10 → u < 12 → b' (27 + r) u = 0) ∧ ∀ j, (∀ r, r < 10 → j ≠ 27 + r) → b' j = b j
theorem i32_64 (x : Int32) : x.toInt64 = Int64.ofInt x.toInt := by
  have := Int64.ofInt_toInt x.toInt64
  rw [Int32.toInt_toInt64] at this
  exact this.symm
theorem getD_app {L : List Nat} {x r : Nat} (h : r < L.length) : (L ++ [x]).getD r 0 = L.getD r 0 := by
  rw [List.getD_eq_getElem?_getD, List.getD_eq_getElem?_getD, List.getElem?_append_left h]
theorem getD_last {L : List Nat} {x : Nat} : (L ++ [x]).getD L.length 0 = x := by
  rw [List.getD_eq_getElem?_getD, List.getElem?_append_right (Nat.le_refl _)]
  simp
theorem S_addNeed {po : wF → wA → wB → Prop} {f0 f' : wF} {a' : wA} {b' : wB} {L : List Nat} {k : Nat} (hs : SC a U NC) (hU : f0 0 = nI U) (hk : k < NC) (hL : L.length < 10) (h : LO a b U f0 L f' a' b') (hp : ∀ f2 a2 b2, LO a b U f0 (L ++ [k]) f2 a2 b2 → po f2 a2 b2) : wp_S_addNeed po (nI k) f' a' b' := by
  have hU12 := hs.1
  obtain ⟨q1, q2, q3, q4, q5, q6, q7⟩ := h
  unfold wp_S_addNeed wp_P_addRow
  rw [va_up_self, q1, nI_1, nI_pred, nI_clamp (by omega)]
  refine ⟨vp_in_nI hL (by decide), ?_⟩
  have hfr : fr23 a (va_up a' 25 (upd (a' 25) L.length (nI k))) := fun j hj => (va_up_ne _ _ (by omega)).trans (q3 j hj)
  have hs2 := hs.c hfr
  refine pk_loop (σ := wB) (fun m u s => wp_S_addNeed_11 po m (nI k) (nI L.length) (nI u) (va_up f' 5 (nI (L.length + 1))) (va_up a' 25 (upd (a' 25) L.length (nI k))) s) (fun u s => (∀ r v, r < L.length → v < 12 → s (27 + r) v = Int64.ofInt (ccn a U (L.getD r 0) v)) ∧ (∀ r v, L.length < r → r < 10 → v < 12 → s (27 + r) v = 0) ∧ (∀ v, v < u → s (27 + L.length) v = Int64.ofInt (ccn a U k v)) ∧ (∀ v, u ≤ v → v < 12 → s (27 + L.length) v = 0) ∧ ∀ j, (∀ r, r < 10 → j ≠ 27 + r) → s j = b j) U 0 b' (by omega) ⟨q5, fun r v h1 h2 h3 => q6 r v (by omega) h2 h3, fun v hv => absurd hv (Nat.not_lt_zero v), fun v _ hv => q6 L.length v (Nat.le_refl _) hL hv, q7⟩ ?_ ?_
  · intro m s ⟨t1, t2, t3, t4, t5⟩
    refine pk_le U U (fun _ => hp _ _ _ ⟨?_, fun j hj => (va_up_ne _ _ hj).trans (q2 j hj), hfr, fun r hr => ?_, fun r u hr hu => ?_, fun r u hr1 hr2 hu => ?_, t5⟩) (fun y => absurd y (by omega)) ((va_up_ne _ _ (by decide)).trans ((q2 0 (by decide)).trans hU))
    · rw [va_up_self]; simp
    · rw [va_up_self]
      simp only [List.length_append, List.length_singleton] at hr
      by_cases e : r = L.length
      · subst e; rw [pk_us, getD_last]
      · rw [pk_un e, getD_app (by omega)]; exact q4 r (by omega)
    · simp only [List.length_append, List.length_singleton] at hr
      by_cases e : r = L.length
      · subst e
        rw [getD_last]
        by_cases eu : u < U
        · exact t3 u eu
        · rw [t4 u (by omega) hu]
          show _ = Int64.ofInt (cif _ _ _)
          rw [cif_n (fun z => eu z.1)]
          rfl
      · rw [getD_app (by omega)]; exact t1 r u (by omega) hu
    · simp only [List.length_append, List.length_singleton] at hr1
      exact t2 r u (by omega) hr2 hu
  · intro m u s hu ⟨t1, t2, t3, t4, t5⟩ ih
    refine pk_le U u (fun y => absurd y (by omega)) (fun _ => ?_) ((va_up_ne _ _ (by decide)).trans ((q2 0 (by decide)).trans hU))
    have hno : ¬ (u < U ∧ ¬ fixU a u ∧ vCan a u k) → wp_S_addNeed_11 po m (nI k) (nI L.length) (nI u + 1) (va_up f' 5 (nI (L.length + 1))) (va_up a' 25 (upd (a' 25) L.length (nI k))) s := fun hz => by
      rw [nI_1]
      refine ih s ⟨t1, t2, fun v hv => ?_, fun v h1 h2 => t4 v (by omega) h2, t5⟩
      by_cases e : v = u
      · subst e
        rw [t4 v (Nat.le_refl v) (by omega)]
        show _ = Int64.ofInt (cif _ _ _)
        rw [cif_n hz]
        rfl
      · exact t3 v (by omega)
    refine S_isFixed hs2 (by omega) (fun hc => iN' n10 (hno (fun z => z.2.1 ((fixU_c hfr (by omega)).mp hc)))) (fun hc => ip' rfl ?_)
    refine S_canFill (by omega) (hs2.2.2.1 k hk).1 (fun hd => iN n10 ?_) (fun hd => ip rfl (hno (fun z => hd ((vCan_c hfr (by omega) k).mpr z.2.2))))
    refine S_rankOfNeed (hs2.2.2.1 k hk).1 (S_secondsTo (by omega) (hs2.2.2.1 k hk).1 ⟨vp_in_nI hL (by decide), vp_in_nI (by omega) (by decide), ?_⟩)
    show wp_S_addNeed_11 po m (nI k) (nI L.length) (nI u + 1) _ _ _
    rw [nI_1, nI_clamp (n := L.length) (by omega), nI_clamp (n := u) (by omega), vRk_c hfr, vSec_c hfr (by omega), i32_64, i32_64, show (100000000 : Int64) = Int64.ofInt 100000000 by decide, ← Int64.ofInt_sub, ← Int64.ofInt_mul]
    refine ih _ ⟨fun r v hr hv => ?_, fun r v h1 h2 h3 => ?_, fun v hv => ?_, fun v h1 h2 => ?_, fun j hj => ?_⟩
    · rw [va_up_ne _ _ (by omega)]; exact t1 r v hr hv
    · rw [va_up_ne _ _ (by omega)]; exact t2 r v h1 h2 h3
    · rw [va_up_self]
      by_cases e : v = u
      · subst e
        rw [pk_uLs]
        show _ = Int64.ofInt (cif _ _ _)
        rw [cif_p ⟨hu, fun z => hc ((fixU_c hfr (by omega)).mpr z), (vCan_c hfr (by omega) k).mp hd⟩]
      · rw [pk_uLn e]; exact t3 v (by omega)
    · rw [va_up_self, pk_uLn (by omega)]; exact t4 v (by omega) h2
    · rw [va_up_ne _ _ (hj L.length hL)]; exact t5 j hj
/-- the numbers below k that p picks -/
noncomputable def rl (p : Nat → Prop) : Nat → List Nat
  | 0 => []
  | k + 1 => cif (p k) (rl p k ++ [k]) (rl p k)
theorem rl_y {p : Nat → Prop} {k : Nat} (h : p k) : rl p (k + 1) = rl p k ++ [k] := cif_p h
theorem rl_n {p : Nat → Prop} {k : Nat} (h : ¬ p k) : rl p (k + 1) = rl p k := cif_n h
theorem mem_rl {p : Nat → Prop} {n : Nat} : ∀ k, n ∈ rl p k ↔ n < k ∧ p n
  | 0 => Iff.intro (fun h => absurd h (List.not_mem_nil)) (fun h => absurd h.1 (Nat.not_lt_zero n))
  | k + 1 => by
    have ih := mem_rl (p := p) (n := n) k
    by_cases h : p k
    · rw [rl_y h, List.mem_append, ih, List.mem_singleton]
      constructor
      · rintro (z | z)
        · exact ⟨by omega, z.2⟩
        · subst z; exact ⟨by omega, h⟩
      · intro z
        by_cases e : n = k
        · exact Or.inr e
        · exact Or.inl ⟨by omega, z.2⟩
    · rw [rl_n h, ih]
      constructor
      · intro z; exact ⟨by omega, z.2⟩
      · intro z
        refine ⟨?_, z.2⟩
        have : n ≠ k := fun e => h (by rw [← e]; exact z.2)
        omega
theorem nodup_rl {p : Nat → Prop} : ∀ k, (rl p k).Nodup
  | 0 => List.nodup_nil
  | k + 1 => by
    have ih := nodup_rl (p := p) k
    by_cases h : p k
    · rw [rl_y h]
      refine List.nodup_append.mpr ⟨ih, by simp, fun x hx y hy => ?_⟩
      rw [List.mem_singleton] at hy
      have := (mem_rl (p := p) (n := x) k).mp hx
      omega
    · rw [rl_n h]; exact ih
theorem rl_len {p : Nat → Prop} : ∀ k, (rl p k).length ≤ k
  | 0 => Nat.le_refl 0
  | k + 1 => by
    have ih := rl_len (p := p) k
    by_cases h : p k
    · rw [rl_y h]; simp; omega
    · rw [rl_n h]; omega
/-- which needs are rows of a plan: those that the reserve doesn't bind, and those that it binds -/
def pk0 (a : wA) (rr n : Nat) : Prop := ¬ vOp a n = 0 ∧ ¬ fixN a n ∧ ¬ vRk a n < nI rr
def pk1 (a : wA) (rr n : Nat) : Prop := ¬ vOp a n = 0 ∧ ¬ fixN a n ∧ vRk a n < nI rr
theorem pk01_len (a : wA) (rr k : Nat) : (rl (pk0 a rr) k).length + (rl (pk1 a rr) k).length ≤ k := by
  have hd : (rl (pk0 a rr) k ++ rl (pk1 a rr) k).Nodup := List.nodup_append.mpr ⟨nodup_rl k, nodup_rl k, fun x hx y hy e => by
    have h1 := (mem_rl (p := pk0 a rr) k).mp hx
    have h2 := (mem_rl (p := pk1 a rr) k).mp hy
    rw [← e] at h2
    exact h1.2.2.2 h2.2.2.2⟩
  have := nodup_len k _ hd (fun x hx => by
    rcases List.mem_append.mp hx with z | z
    · exact ((mem_rl k).mp z).1
    · exact ((mem_rl k).mp z).1)
  simp only [List.length_append] at this
  exact this
theorem S_addNeeds {po : wF → wA → wB → Prop} {f0 f' : wF} {a' : wA} {b' : wB} {L0 : List Nat} {x : Int32} {p : Nat → Prop} (hs : SC a U NC) (hU : f0 0 = nI U) (hN : f0 2 = nI NC) (hr : f0 4 = nI rr) (hx : (x = 1 ∧ p = pk0 a rr) ∨ (x = 0 ∧ p = pk1 a rr)) (hlen : ∀ k, k ≤ NC → (rl p k).length + L0.length ≤ 10) (h : LO a b U f0 L0 f' a' b') (hp : ∀ f2 a2 b2, LO a b U f0 (L0 ++ rl p NC) f2 a2 b2 → po f2 a2 b2) : wp_S_addNeeds po x f' a' b' := by
  have hNC := hs.2.1
  refine pk_loop (σ := wF × wA × wB) (fun m k s => wp_S_addNeeds_2 po m x (nI k) s.1 s.2.1 s.2.2) (fun k s => LO a b U f0 (L0 ++ rl p k) s.1 s.2.1 s.2.2) NC 0 (f', a', b') (by omega) (by
    show LO a b U f0 (L0 ++ []) f' a' b'
    rw [List.append_nil]; exact h) ?_ ?_
  · rintro m ⟨f1, a1, b1⟩ q
    exact pk_le NC NC (fun _ => hp f1 a1 b1 q) (fun y => absurd y (by omega)) ((q.2.1 2 (by decide)).trans hN)
  · rintro m k ⟨f1, a1, b1⟩ hk q ih
    have q' : LO a b U f0 (L0 ++ rl p k) f1 a1 b1 := q
    refine pk_le NC k (fun y => absurd y (by omega)) (fun _ => ?_) ((q'.2.1 2 (by decide)).trans hN)
    have hfr : fr23 a a1 := q'.2.2.1
    have hs1 := hs.c hfr
    have g := hs1.2.2.1 k hk
    have hno : ¬ p k → wp_S_addNeeds_52 po (wp_S_addNeeds_2 po m) x (nI k) f1 a1 b1 := fun hz => by
      show wp_S_addNeeds_2 po m x (nI k + 1) f1 a1 b1
      rw [nI_1]
      refine ih (f1, a1, b1) ?_
      rw [rl_n hz]; exact q'
    have hyes : p k → wp_S_addNeed (fun f49 a49 b49 => wp_S_addNeeds_52 po (wp_S_addNeeds_2 po m) x (nI k) f49 a49 b49) (nI k) f1 a1 b1 := fun hz => by
      have hl := hlen (k + 1) (by omega)
      rw [rl_y hz] at hl
      simp only [List.length_append, List.length_singleton] at hl
      refine S_addNeed hs hU hk (by simp only [List.length_append]; omega) q' (fun f2 a2 b2 q2 => ?_)
      show wp_S_addNeeds_2 po m x (nI k + 1) f2 a2 b2
      rw [nI_1]
      refine ih (f2, a2, b2) ?_
      rw [rl_y hz, ← List.append_assoc]
      exact q2
    have h4 : f1 4 = nI rr := (q'.2.1 4 (by decide)).trans hr
    refine S_isOpenNeed g.1 g.2.1 ⟨fun c => hno (fun z => ?_), fun c => S_hasFixedUnit hs1 hk (fun hf => iN' n10 (hno (fun z => ?_))) (fun hf => ip' rfl (S_rankOfNeed g.1 ?_))⟩
    · rw [vOp_c hfr] at c
      rcases hx with ⟨-, e⟩ | ⟨-, e⟩
      · rw [e] at z; exact z.1 c
      · rw [e] at z; exact z.1 c
    · rw [fixN_c hs hfr hk] at hf
      rcases hx with ⟨-, e⟩ | ⟨-, e⟩
      · rw [e] at z; exact z.2.1 hf
      · rw [e] at z; exact z.2.1 hf
    · rw [vOp_c hfr] at c
      rw [fixN_c hs hfr hk] at hf
      show (vRk a1 k < f1 4 → _) ∧ (¬ vRk a1 k < f1 4 → _)
      rw [h4, vRk_c hfr]
      refine ⟨fun c3 => ?_, fun c3 => ?_⟩
      · rcases hx with ⟨e1, e⟩ | ⟨e1, e⟩
        · subst e1
          exact iN' (by decide) (hno (fun z => by rw [e] at z; exact z.2.2 c3))
        · subst e1
          exact ip' rfl (hyes (by rw [e]; exact ⟨c, hf, c3⟩))
      · rcases hx with ⟨e1, e⟩ | ⟨e1, e⟩
        · subst e1
          exact ip' rfl (hyes (by rw [e]; exact ⟨c, hf, c3⟩))
        · subst e1
          exact iN' (by decide) (hno (fun z => by rw [e] at z; exact c3 z.2.2))
noncomputable def rowsL (a : wA) (rr NC : Nat) : List Nat := rl (pk0 a rr) NC ++ rl (pk1 a rr) NC
noncomputable def unbC (a : wA) (rr NC : Nat) : Nat := (rl (pk0 a rr) NC).length
theorem P_clear {po : wF → wA → wB → Prop} (h : ∀ b', (∀ r u, r < 10 → b' (27 + r) u = 0) → (∀ j, (∀ r, r < 10 → j ≠ 27 + r) → b' j = b j) → po (va_up (va_up f 5 0) 6 0) a b') : wp_P_clear po f a b := by
  refine pk_loop (σ := wB) (fun m k s => wp_P_clear_12 po m (nI k) (va_up (va_up f 5 0) 6 0) a s) (fun k s => (∀ r u, r < k → s (27 + r) u = 0) ∧ ∀ j, (∀ r, r < 10 → j ≠ 27 + r) → s j = b j) 10 0 b (by omega) ⟨fun r u hr => absurd hr (Nat.not_lt_zero r), fun _ _ => rfl⟩ ?_ ?_
  · intro m s q
    exact ip (by decide) (h s q.1 q.2)
  · intro m k s hk q ih
    refine pk_le 10 k (fun y => absurd y (by omega)) (fun _ => ⟨vp_in_nI hk (by decide), ?_⟩)
    rw [nI_1, nI_clamp (n := k) (by omega)]
    refine ih _ ⟨fun r u hr => ?_, fun j hj => (va_up_ne _ _ (hj k hk)).trans (q.2 j hj)⟩
    by_cases e : r = k
    · rw [e, va_up_self]
    · rw [va_up_ne _ _ (by omega)]; exact q.1 r u (by omega)
theorem S_layOutNeeds {po : wF → wA → wB → Prop} (hs : SC a U NC) (hU : f 0 = nI U) (hN : f 2 = nI NC) (hr : f 4 = nI rr) (h : ∀ f' a' b', f' 6 = nI (unbC a rr NC) → (∀ k, k < 5 → f' k = f k) → LO a b U f' (rowsL a rr NC) f' a' b' → po f' a' b') : wp_S_layOutNeeds po f a b := by
  refine P_clear (fun b1 z1 z2 => ?_)
  have hf0 : ∀ k, k < 5 → (va_up (va_up f 5 0) 6 0 : wF) k = f k := fun k hk => (va_up_ne _ _ (by omega)).trans (va_up_ne _ _ (by omega))
  have hN10 := hs.2.1
  refine S_addNeeds (f0 := va_up (va_up f 5 0) 6 0) (L0 := []) (b := b) (rr := rr) (p := pk0 a rr) hs ((hf0 0 (by decide)).trans hU) ((hf0 2 (by decide)).trans hN) ((hf0 4 (by decide)).trans hr) (Or.inl ⟨rfl, rfl⟩) (fun k hk => by have := rl_len (p := pk0 a rr) k; simp; omega) ⟨rfl, fun _ _ => rfl, fr23.r, fun r hr => absurd hr (Nat.not_lt_zero r), fun r u hr => absurd hr (Nat.not_lt_zero r), fun r u _ hr hu => z1 r u hr, z2⟩ (fun f2 a2 b2 q => ?_)
  rw [List.nil_append] at q
  have e6 : (va_up f2 6 (f2 5)) 6 = nI (unbC a rr NC) := (va_up_self _ _ _).trans q.1
  have hf2 : ∀ k, k < 5 → (va_up f2 6 (f2 5)) k = f k := fun k hk => (va_up_ne _ _ (by omega)).trans ((q.2.1 k (by omega)).trans (hf0 k hk))
  refine S_addNeeds (f0 := va_up f2 6 (f2 5)) (L0 := rl (pk0 a rr) NC) (b := b) (rr := rr) (p := pk1 a rr) hs ((hf2 0 (by decide)).trans hU) ((hf2 2 (by decide)).trans hN) ((hf2 4 (by decide)).trans hr) (Or.inr ⟨rfl, rfl⟩) (fun k hk => ?_) ⟨(va_up_ne _ _ (by decide)).trans q.1, fun _ _ => rfl, q.2.2⟩ (fun f3 a3 b3 q3 => ?_)
  · have h1 := pk01_len a rr NC
    have h2 : (rl (pk1 a rr) k).length ≤ (rl (pk1 a rr) NC).length := by
      have mono : ∀ m, (rl (pk1 a rr) k).length ≤ (rl (pk1 a rr) (k + m)).length := by
        intro m
        induction m with
        | zero => exact Nat.le_refl _
        | succ m ih =>
          by_cases hz : pk1 a rr (k + m)
          · rw [← Nat.add_assoc, rl_y hz]; simp; omega
          · rw [← Nat.add_assoc, rl_n hz]; exact ih
      have := mono (NC - k)
      rw [show k + (NC - k) = NC by omega] at this
      exact this
    omega
  · exact h f3 a3 b3 ((q3.2.1 6 (by decide)).trans e6) (fun k hk => (q3.2.1 k (by omega)).trans (hf2 k hk)) ⟨q3.1, fun _ _ => rfl, q3.2.2⟩
end LAY
