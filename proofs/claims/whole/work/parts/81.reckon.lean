/-! the reference fills its table -/
def mayR (a : wA) (U NC rs rr : Nat) : Nat → Nat → Nat → Prop := fun i u t => mayP a U rs rr (rho a rr NC i) u t
noncomputable def svR (a : wA) (NC rr : Nat) : Nat → Nat → Int := fun i u => (vRk a (rho a rr NC i)).toInt * (vSec a u (rho a rr NC i)).toInt
noncomputable def rkR (a : wA) (NC rr : Nat) : Nat → Int := fun i => (vRk a (rho a rr NC i)).toInt
noncomputable def lsR (a : wA) (U NC rs rr m i t : Nat) : Int := lst (mayR a U NC rs rr) (svR a NC rr) (rkR a NC rr) U m i t
theorem rkR_bd {a : wA} {U NC rr i : Nat} (hs : SC a U NC) (hi : i < rwC a rr NC) : 1 ≤ rkR a NC rr i ∧ rkR a NC rr i ≤ 9 := by
  obtain ⟨r, r1, r2, r3⟩ := (hs.2.2.1 _ (rows_in hi).1).2.2.1
  unfold rkR
  rw [r3, nI_toInt (by omega)]
  omega
theorem can_sec {a : wA} {U NC u n : Nat} (hs : SC a U NC) (hu : u < 12) (hn : n < NC) (h : vCan a u n) : 0 ≤ (vSec a u n).toInt ∧ (vSec a u n).toInt ≤ 99999 := by
  rcases (hs.2.2.1 n hn).2.2.2.1 u hu with z | ⟨k, k1, k2⟩
  · exact absurd z h.2.2.1
  · rw [k2, nI_toInt (by omega)]
    omega
theorem svR_bd {a : wA} {U NC rs rr i u t : Nat} (hs : SC a U NC) (hi : i < rwC a rr NC) (hu : u < 12) (h : mayR a U NC rs rr i u t) : 0 ≤ svR a NC rr i u ∧ svR a NC rr i u ≤ 899991 := by
  have h1 := rkR_bd hs hi
  have h2 := can_sec hs hu (rows_in hi).1 h.2.1
  exact ws_bd h1.1 h1.2 h2.1 h2.2
theorem mnv_bd {a : wA} {U NC rs rr : Nat} (hs : SC a U NC) {nxt : Nat → Int} {i : Nat} (hi : i < rwC a rr NC) {M : Int} (hn : ∀ t, 0 ≤ nxt t ∧ nxt t ≤ M) (t : Nat) : ∀ k, k ≤ 12 → 0 ≤ mnv (mayR a U NC rs rr) (svR a NC rr) (rkR a NC rr) nxt i t k ∧ mnv (mayR a U NC rs rr) (svR a NC rr) (rkR a NC rr) nxt i t k ≤ M + 9000000000000
  | k, hk => by
    have h1 := rkR_bd hs hi
    have h2 := mnv_0 (may := mayR a U NC rs rr) (sv := svR a NC rr) (rk := rkR a NC rr) (nxt := nxt) (i := i) (t := t) k
    have h3 := hn t
    refine ⟨?_, by omega⟩
    rcases mnv_at (may := mayR a U NC rs rr) (sv := svR a NC rr) (rk := rkR a NC rr) (nxt := nxt) (i := i) (t := t) k with z | ⟨j, j1, j2, j3⟩
    · rw [z]; omega
    · have := svR_bd hs hi (by omega) j2
      have := hn (t ||| 2 ^ j)
      omega
theorem lsR_bd {a : wA} {U NC rs rr : Nat} (hs : SC a U NC) : ∀ (m i t : Nat), i + m ≤ rwC a rr NC → 0 ≤ lsR a U NC rs rr m i t ∧ lsR a U NC rs rr m i t ≤ (m : Int) * 9000000000000
  | 0, i, t, _ => by
    have : lsR a U NC rs rr 0 i t = 0 := rfl
    omega
  | m + 1, i, t, h => by
    have ih := fun t => lsR_bd (rs := rs) (rr := rr) hs m (i + 1) t (by omega)
    have := mnv_bd (rs := rs) (rr := rr) hs (i := i) (by omega) ih t U hs.1
    have e : lsR a U NC rs rr (m + 1) i t = mnv (mayR a U NC rs rr) (svR a NC rr) (rkR a NC rr) (lsR a U NC rs rr m (i + 1)) i t U := rfl
    omega
def tab (a : wA) (U NC rs rr i0 : Nat) (b : wB) : Prop := ∀ i t, i0 ≤ i → i ≤ rwC a rr NC → t < 4096 → b 12 (4096 * i + t) = Int64.ofInt (lsR a U NC rs rr (rwC a rr NC - i) i t)
theorem ix4 (i t : Nat) : ((4096 : Int32) * nI i) + nI t = nI (4096 * i + t) := by
  show (nI 4096 * nI i) + nI t = _
  rw [pk_mul, nI_add]
section RK
variable {fS f : wF} {aS a : wA} {b : wB} {U IC NC rs rr : Nat}
theorem M_with {po : Int64 → wF → wA → wB → Prop} {i u t : Nat} (h : Sta fS aS f a U IC NC rs rr) (h11 : ∀ r, r < rwC aS rr NC → a 11 r = nI (rho aS rr NC r)) (hi : i < rwC aS rr NC) (hu : u < U) (ht : t < 4096) (htab : tab aS U NC rs rr (i + 1) b) (hp : po (Int64.ofInt (svR aS NC rr i u + lsR aS U NC rs rr (rwC aS rr NC - (i + 1)) (i + 1) (t ||| 2 ^ u))) f a b) : wp_M_with po (nI i) (nI u) (nI t) f a b := by
  have hU := h.1.1.2.2
  have hNC := h.1.2.2.1.2.2
  have hIC := h.1.2.1.2.2
  have hR := rwC_le aS rr NC
  have hn := (rows_in hi).1
  obtain ⟨g1, g2, g3, g4, g5, g6, g7⟩ := h.nd hn
  unfold wp_M_with
  rw [nI_clamp (n := i) (by omega), h11 i hi]
  refine ⟨vp_in_nI (by omega) (by decide), M_rankOf h hn ?_⟩
  have hlt := or_lt ht (show u < 12 by omega)
  rw [nI_clamp (n := rho aS rr NC i) (by omega), g5, six, nI_clamp (n := 6 * u + vInc aS (rho aS rr NC i)) (by omega), (h.sec (u := u) (by omega) hn).1, shl_u u (by omega), orI, nI_1, ix4, nI_clamp (n := 4096 * (i + 1) + (t ||| 2 ^ u)) (by omega), htab (i + 1) _ (Nat.le_refl _) (by omega) hlt, i32_64, i32_64, ← Int64.ofInt_mul, ← Int64.ofInt_add]
  exact ⟨vp_in_nI (by omega) (by decide), vp_in_nI (by omega) (by decide), vp_in_nI (by omega) (by decide), hp⟩
theorem M_without {po : Int64 → wF → wA → wB → Prop} {i t : Nat} (h : Sta fS aS f a U IC NC rs rr) (h11 : ∀ r, r < rwC aS rr NC → a 11 r = nI (rho aS rr NC r)) (hi : i < rwC aS rr NC) (ht : t < 4096) (htab : tab aS U NC rs rr (i + 1) b) (hp : po (Int64.ofInt (1000000000000 * rkR aS NC rr i + lsR aS U NC rs rr (rwC aS rr NC - (i + 1)) (i + 1) t)) f a b) : wp_M_without po (nI i) (nI t) f a b := by
  have hNC := h.1.2.2.1.2.2
  have hR := rwC_le aS rr NC
  have hn := (rows_in hi).1
  unfold wp_M_without
  rw [nI_clamp (n := i) (by omega), h11 i hi]
  refine ⟨vp_in_nI (by omega) (by decide), M_rankOf h hn ?_⟩
  rw [nI_1, ix4, nI_clamp (n := 4096 * (i + 1) + t) (by omega), htab (i + 1) _ (Nat.le_refl _) (by omega) ht, i32_64, show (1000000000000 : Int64) = Int64.ofInt 1000000000000 by decide, ← Int64.ofInt_mul, ← Int64.ofInt_add]
  exact ⟨vp_in_nI (by omega) (by decide), hp⟩
/-- one row of the table -/
theorem M_row {po : wF → wA → wB → Prop} {J : Int32 → wF → wA → wB → Prop} {i : Nat} (h : Sta fS aS f a U IC NC rs rr) (hs : SC aS U NC) (h11 : ∀ r, r < rwC aS rr NC → a 11 r = nI (rho aS rr NC r)) (hi : i < rwC aS rr NC) (htab : tab aS U NC rs rr (i + 1) b) (hp : ∀ b', tab aS U NC rs rr i b' → J (nI i + (-1)) f a b') : ∃ n9, wp_M_reckon_48 po J n9 (nI i) (0 : Int32) f a b := by
  have hU := h.1.1.2.2
  have hNC := h.1.2.2.1.2.2
  have hR := rwC_le aS rr NC
  refine pk_loop (σ := wB) (fun m t s => wp_M_reckon_48 po J m (nI i) (nI t) f a s) (fun t s => tab aS U NC rs rr (i + 1) s ∧ ∀ v, v < t → s 12 (4096 * i + v) = Int64.ofInt (lsR aS U NC rs rr (rwC aS rr NC - i) i v)) 4096 0 b (by omega) ⟨htab, fun v hv => absurd hv (Nat.not_lt_zero v)⟩ ?_ ?_
  · intro m s ⟨q1, q2⟩
    refine ip (by decide) (hp s (fun j t hj1 hj2 ht => ?_))
    by_cases e : j = i
    · rw [e]; exact q2 t ht
    · exact q1 j t (by omega) hj2 ht
  · intro m t s ht ⟨q1, q2⟩ ih
    refine pk_le 4096 t (fun y => absurd y (by omega)) (fun _ => M_without h h11 hi ht q1 ?_)
    have hbd := fun k hk => mnv_bd (rs := rs) (rr := rr) (nxt := lsR aS U NC rs rr (rwC aS rr NC - (i + 1)) (i + 1)) hs hi (fun t => lsR_bd (rs := rs) (rr := rr) hs (rwC aS rr NC - (i + 1)) (i + 1) t (by omega)) t k hk
    refine pk_loop (σ := Int64) (fun m2 k x => wp_M_reckon_65 po J (wp_M_reckon_48 po J m) m2 (nI i) (nI t) x (nI k) f a s) (fun k x => x = Int64.ofInt (mnv (mayR aS U NC rs rr) (svR aS NC rr) (rkR aS NC rr) (lsR aS U NC rs rr (rwC aS rr NC - (i + 1)) (i + 1)) i t k)) U 0 _ (by omega) rfl ?_ ?_
    · intro m2 x e
      refine pk_le U U (fun _ => ?_) (fun y => absurd y (by omega)) h.1.1.2.1
      rw [ix4, nI_clamp (n := 4096 * i + t) (by omega), nI_1]
      refine ⟨vp_in_nI (by omega) (by decide), ih _ ⟨fun j v hj1 hj2 hv => ?_, fun v hv => ?_⟩⟩
      · rw [va_up_self, pk_uLn (by omega)]; exact q1 j v hj1 hj2 hv
      · rw [va_up_self]
        by_cases ev : v = t
        · subst ev
          rw [pk_uLs, e, show rwC aS rr NC - i = (rwC aS rr NC - (i + 1)) + 1 by omega]
          rfl
        · rw [pk_uLn (by omega)]; exact q2 v (by omega)
    · intro m2 k x hk e ih2
      refine pk_le U k (fun y => absurd y (by omega)) (fun _ => ⟨vp_in_nI (by omega) (by decide), ?_⟩) h.1.1.2.1
      rw [nI_clamp (n := i) (by omega), h11 i hi]
      have b1 := hbd k (by omega)
      have hsame : ¬ (mayR aS U NC rs rr i k t ∧ svR aS NC rr i k + lsR aS U NC rs rr (rwC aS rr NC - (i + 1)) (i + 1) (t ||| 2 ^ k) < mnv (mayR aS U NC rs rr) (svR aS NC rr) (rkR aS NC rr) (lsR aS U NC rs rr (rwC aS rr NC - (i + 1)) (i + 1)) i t k) → wp_M_reckon_65 po J (wp_M_reckon_48 po J m) m2 (nI i) (nI t) x (nI k + 1) f a s := fun hz => by
        rw [nI_1]
        exact ih2 x (by rw [e, mnv_n hz])
      refine M_may h (rows_in hi).1 hk ht (fun hm => iN n10 (M_with h h11 hi hk ht q1 ?_)) (fun hm => ip rfl ?_)
      · have b2 := svR_bd hs hi (by omega) hm
        have b3 := lsR_bd (rs := rs) (rr := rr) hs (rwC aS rr NC - (i + 1)) (i + 1) (t ||| 2 ^ k) (by omega)
        unfold wp_M_reckon_102
        rw [e, lg_cmp_ge, i64_le (by unfold sml; omega) (by unfold sml; omega)]
        refine ⟨fun c => ?_, fun c => ?_⟩
        · rw [← e]
          exact hsame (fun z => by omega)
        · show wp_M_reckon_65 po J (wp_M_reckon_48 po J m) m2 (nI i) (nI t) _ (nI k + 1) f a s
          rw [nI_1]
          exact ih2 _ (congrArg Int64.ofInt (mnv_y (may := mayR aS U NC rs rr) ⟨hm, by omega⟩).symm)
      · unfold wp_M_reckon_102
        exact ip (by rw [lg_cmp_ge]; exact Int64.le_refl x) (hsame (fun z => hm z.1))
theorem M_rows {po : wF → wA → wB → Prop} (h : Sta fS aS f a U IC NC rs rr) (hs : SC aS U NC) (h11 : ∀ r, r < rwC aS rr NC → a 11 r = nI (rho aS rr NC r)) (hp : ∀ b', tab aS U NC rs rr 0 b' → po f a b') : ∀ (m : Nat) (b : wB), m ≤ rwC aS rr NC → tab aS U NC rs rr m b → wp_M_reckon_42 po (m + 1) (nI m + (-1)) f a b
  | 0, b, _, hb => ip (by decide) (hp b hb)
  | m + 1, b, hm, hb => by
    have hNC := h.1.2.2.1.2.2
    have hR := rwC_le aS rr NC
    rw [pk_m1]
    exact iN (nI_pos (by omega)) (M_row h hs h11 (by omega) hb (fun b' hb' => M_rows h hs h11 hp m b' (by omega) hb'))
theorem M_reckon {po : wF → wA → wB → Prop} (h : Sta fS aS f a U IC NC rs rr) (hf : iFill aS a U NC) (hp : ∀ f2 a2 b2, f2 6 = nI (rwC aS rr NC) → (∀ k, k ≠ 6 → f2 k = f k) → (∀ j, j ≠ 11 → a2 j = a j) → (∀ r, r < rwC aS rr NC → a2 11 r = nI (rho aS rr NC r)) → tab aS U NC rs rr 0 b2 → po f2 a2 b2) : wp_M_reckon po f a b := by
  have hNC := h.1.2.2.1.2.2
  have hR := rwC_le aS rr NC
  have hs := h.sc hf
  refine M_gather h hf (fun f2 a2 q1 q2 q3 q4 => ?_)
  have h2 : Sta fS aS f2 a2 U IC NC rs rr := h.cm (fun k _ _ => q2 k (by omega)) (fun j _ _ hj => q3 j hj)
  refine pk_loop (σ := wB) (fun m t s => wp_M_reckon_6 po m (nI t) f2 a2 s) (fun t s => ∀ v, v < t → s 12 (4096 * rwC aS rr NC + v) = 0) 4096 0 b (by omega) (fun v hv => absurd hv (Nat.not_lt_zero v)) ?_ ?_
  · intro m s q
    refine ip (by decide) ⟨rwC aS rr NC + 1, ?_⟩
    rw [q1, Int32.sub_eq_add_neg]
    refine M_rows h2 hs q4 (fun b' hb' => hp f2 a2 b' q1 q2 q3 q4 hb') (rwC aS rr NC) s (Nat.le_refl _) (fun i t hi1 hi2 ht => ?_)
    have e : i = rwC aS rr NC := by omega
    rw [e, q t ht, Nat.sub_self]
    rfl
  · intro m t s ht q ih
    refine pk_le 4096 t (fun y => absurd y (by omega)) (fun _ => ?_)
    rw [q1, ix4, nI_clamp (n := 4096 * rwC aS rr NC + t) (by omega), nI_1]
    refine ⟨vp_in_nI (by omega) (by decide), ih _ (fun v hv => ?_)⟩
    rw [va_up_self]
    by_cases ev : v = t
    · subst ev; rw [pk_uLs]
    · rw [pk_uLn (by omega)]; exact q v (by omega)
end RK
