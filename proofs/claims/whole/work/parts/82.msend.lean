/-! the reference: what the present plan costs, the plan that it takes, how many needs have a unit -/
theorem tmk_lt {t0 : Nat} {Q : Nat → Nat} (h0 : t0 < 4096) : ∀ i, (∀ r, r < i → Q r ≤ 12) → tmk t0 Q i < 4096
  | 0, _ => h0
  | i + 1, h => by
    have ih := tmk_lt (Q := Q) h0 i (fun r hr => h r (by omega))
    show (if Q i = 12 then tmk t0 Q i else tmk t0 Q i ||| 2 ^ Q i) < 4096
    by_cases e : Q i = 12
    · rw [if_pos e]; exact ih
    · rw [if_neg e]; exact or_lt ih (by have := h i (by omega); omega)
theorem en_neg {k : Nat} (hk : k ≤ 12) : en 12 k < 0 ↔ k = 12 := by
  by_cases e : k = 12
  · rw [e, en_m]; exact ⟨fun _ => rfl, fun _ => m1neg⟩
  · rw [en_n e]; exact ⟨fun z => absurd z (nI_pos (by omega)), fun z => absurd z e⟩
section MP
variable {fS f : wF} {aS aM a : wA} {b : wB} {U IC NC rs rr : Nat}
theorem M_present {po : Int64 → wF → wA → wB → Prop} (h : Sta fS aS f a U IC NC rs rr) (hf : iFill aS a U NC) (hf6 : f 6 = nI (rwC aS rr NC)) (h11 : ∀ r, r < rwC aS rr NC → a 11 r = nI (rho aS rr NC r))
    (h1 : (∀ r, r < rwC aS rr NC → prs aS rr NC r ≠ 12 → mayR aS U NC rs rr r (prs aS rr NC r) (tmk (fxm aS NC) (prs aS rr NC) r)) → po (Int64.ofInt (scf (svR aS NC rr) (rkR aS NC rr) (prs aS rr NC) (rwC aS rr NC) 0)) f a b)
    (h0 : ¬ (∀ r, r < rwC aS rr NC → prs aS rr NC r ≠ 12 → mayR aS U NC rs rr r (prs aS rr NC r) (tmk (fxm aS NC) (prs aS rr NC) r)) → po (-1) f a b) : wp_M_present po f a b := by
  have hNC := h.1.2.2.1.2.2
  have hU := h.1.1.2.2
  have hIC := h.1.2.1.2.2
  have hR := rwC_le aS rr NC
  have hs := h.sc hf
  have ht0 := fxm_lt hs NC (Nat.le_refl NC)
  refine M_fixedUnits h hf ?_
  refine pk_loop (σ := Int64 × Int32) (fun m i s => wp_M_present_10 po m s.1 s.2 (nI i) f a b) (fun i s => s.1 = Int64.ofInt (sm (rcf (svR aS NC rr) (rkR aS NC rr) (prs aS rr NC)) i) ∧ s.2 = nI (tmk (fxm aS NC) (prs aS rr NC) i) ∧ ∀ r, r < i → prs aS rr NC r ≠ 12 → mayR aS U NC rs rr r (prs aS rr NC r) (tmk (fxm aS NC) (prs aS rr NC) r)) (rwC aS rr NC) 0 (0, nI (fxm aS NC)) (by omega) ⟨rfl, rfl, fun r hr => absurd hr (Nat.not_lt_zero r)⟩ ?_ ?_
  · rintro m ⟨x, y⟩ ⟨q1, q2, q3⟩
    refine pk_le (rwC aS rr NC) (rwC aS rr NC) (fun _ => ?_) (fun y => absurd y (by omega)) hf6
    have := h1 q3
    rw [scf_sm, ← show x = _ from q1] at this
    exact this
  · rintro m i ⟨x, y⟩ hi ⟨q1, q2, q3⟩ ih
    have q1' : x = Int64.ofInt (sm (rcf (svR aS NC rr) (rkR aS NC rr) (prs aS rr NC)) i) := q1
    have q2' : y = nI (tmk (fxm aS NC) (prs aS rr NC) i) := q2
    have hn := (rows_in hi).1
    obtain ⟨p1, p2, p3⟩ := prs_en hs hi
    obtain ⟨g1, g2, g3, g4, g5, g6, g7⟩ := h.nd hn
    have e8 : a 8 (rho aS rr NC i) = en 12 (prs aS rr NC i) := (((hf.1 _ (by omega)).1 hn).1).trans p1
    have ht := tmk_lt (Q := prs aS rr NC) ht0 i (fun r hr => (prs_en hs (show r < rwC aS rr NC by omega)).2.1)
    refine pk_le (rwC aS rr NC) i (fun y => absurd y (by omega)) (fun _ => ⟨vp_in_nI (by omega) (by decide), ?_⟩) hf6
    rw [nI_clamp (n := i) (by omega), h11 i hi, nI_clamp (n := rho aS rr NC i) (by omega), e8, en_neg p2]
    refine ⟨vp_in_nI (by omega) (by decide), ?_⟩
    have etm : tmk (fxm aS NC) (prs aS rr NC) (i + 1) = if prs aS rr NC i = 12 then tmk (fxm aS NC) (prs aS rr NC) i else tmk (fxm aS NC) (prs aS rr NC) i ||| 2 ^ prs aS rr NC i := rfl
    have esm : sm (rcf (svR aS NC rr) (rkR aS NC rr) (prs aS rr NC)) (i + 1) = sm (rcf (svR aS NC rr) (rkR aS NC rr) (prs aS rr NC)) i + (if prs aS rr NC i = 12 then 1000000000000 * rkR aS NC rr i else svR aS NC rr i (prs aS rr NC i)) := rfl
    refine ⟨fun c => ?_, fun c => ?_⟩
    · refine ip ((en_neg p2).mpr c) (ip ((en_neg p2).mpr c) (M_rankOf h hn ?_))
      show wp_M_present_10 po m (x + 1000000000000 * (vRk aS (rho aS rr NC i)).toInt64) (y ||| 0) (nI i + 1) f a b
      rw [nI_1]
      refine ih (x + 1000000000000 * (vRk aS (rho aS rr NC i)).toInt64, y ||| 0) ⟨?_, ?_, fun r hr hne => ?_⟩
      · show x + 1000000000000 * (vRk aS (rho aS rr NC i)).toInt64 = _
        rw [esm, if_pos c, q1', i32_64, show (1000000000000 : Int64) = Int64.ofInt 1000000000000 by decide, ← Int64.ofInt_mul, ← Int64.ofInt_add]
        rfl
      · show y ||| 0 = _
        rw [etm, if_pos c, q2', show (0 : Int32) = nI 0 from rfl, orI, Nat.or_zero]
      · by_cases e : r = i
        · rw [e] at hne; exact absurd c hne
        · exact q3 r (by omega) hne
    · rw [en_n c]
      have hlt := p3 c
      show wp_M_may _ (nI (rho aS rr NC i)) (nI (prs aS rr NC i)) y f a b
      rw [q2']
      refine M_may h hn hlt ht (fun hm => iN' n10 ?_) (fun hm => ip' rfl (h0 (fun z => hm (z i hi c))))
      refine iN (nI_pos (by omega)) (iN (nI_pos (by omega)) (M_rankOf h hn ?_))
      rw [nI_clamp (n := rho aS rr NC i) (by omega), g5, six, nI_clamp (n := 6 * prs aS rr NC i + vInc aS (rho aS rr NC i)) (by omega), (h.sec (u := prs aS rr NC i) (by omega) hn).1]
      refine ⟨vp_in_nI (by omega) (by decide), vp_in_nI (by omega) (by decide), ?_⟩
      show wp_M_present_10 po m (x + (vRk aS (rho aS rr NC i)).toInt64 * (vSec aS (prs aS rr NC i) (rho aS rr NC i)).toInt64) (nI (tmk (fxm aS NC) (prs aS rr NC) i) ||| ((1 : Int32) <<< (nI (prs aS rr NC i) &&& 31))) (nI i + 1) f a b
      rw [nI_1, shl_u _ (by omega), orI]
      refine ih (x + (vRk aS (rho aS rr NC i)).toInt64 * (vSec aS (prs aS rr NC i) (rho aS rr NC i)).toInt64, nI (tmk (fxm aS NC) (prs aS rr NC) i ||| 2 ^ prs aS rr NC i)) ⟨?_, ?_, fun r hr hne => ?_⟩
      · show x + (vRk aS (rho aS rr NC i)).toInt64 * (vSec aS (prs aS rr NC i) (rho aS rr NC i)).toInt64 = _
        rw [esm, if_neg c, q1', i32_64, i32_64, ← Int64.ofInt_mul, ← Int64.ofInt_add]
        rfl
      · show nI _ = _
        rw [etm, if_neg c]
      · by_cases e : r = i
        · rw [e]; exact hm
        · exact q3 r (by omega) hne
noncomputable def grR (a : wA) (U NC rs rr : Nat) : Nat → Nat := grd (mayR a U NC rs rr) (svR a NC rr) (rkR a NC rr) U (rwC a rr NC) (fxm a NC)
noncomputable def htR (a : wA) (U NC rs rr r t u : Nat) : Prop := hit (mayR a U NC rs rr) (svR a NC rr) (rkR a NC rr) U (rwC a rr NC) r t u
/-- the lowest unit that attains the least -/
theorem M_choose {po : Int32 → wF → wA → wB → Prop} {J : Int32 → Int32 → Int32 → wF → wA → wB → Prop} {x7 : Int32} {i t : Nat} (h : Sta fS aS f a U IC NC rs rr) (hs : SC aS U NC) (h11 : ∀ r, r < rwC aS rr NC → a 11 r = nI (rho aS rr NC r)) (htab : tab aS U NC rs rr 0 b) (hi : i < rwC aS rr NC) (ht : t < 4096)
    (hp : ∀ c, (c = 12 ∧ ∀ u, u < U → ¬ htR aS U NC rs rr i t u) ∨ (c < U ∧ htR aS U NC rs rr i t c ∧ ∀ u, u < c → ¬ htR aS U NC rs rr i t u) → wp_M_send_134 po J 1 (nI t) x7 (nI i) (nI (rho aS rr NC i)) (en 12 c) (-1) f a b) :
    ∀ (m : Nat) (c : Nat), m ≤ U → ((c = 12 ∧ ∀ u, m ≤ u → u < U → ¬ htR aS U NC rs rr i t u) ∨ (m ≤ c ∧ c < U ∧ htR aS U NC rs rr i t c ∧ ∀ u, m ≤ u → u < c → ¬ htR aS U NC rs rr i t u)) → wp_M_send_134 po J (m + 1) (nI t) x7 (nI i) (nI (rho aS rr NC i)) (en 12 c) (nI m + (-1)) f a b
  | 0, c, _, hc => hp c (by
      rcases hc with z | z
      · exact Or.inl ⟨z.1, fun u hu => z.2 u (Nat.zero_le u) hu⟩
      · exact Or.inr ⟨z.2.1, z.2.2.1, fun u hu => z.2.2.2 u (Nat.zero_le u) hu⟩)
  | m + 1, c, hm, hc => by
    have hNC := h.1.2.2.1.2.2
    have hU := h.1.1.2.2
    have hR := rwC_le aS rr NC
    have hn := (rows_in hi).1
    rw [pk_m1]
    have ih := M_choose (x7 := x7) h hs h11 htab hi ht hp m
    have hno : ¬ htR aS U NC rs rr i t m → wp_M_send_134 po J (m + 1) (nI t) x7 (nI i) (nI (rho aS rr NC i)) (en 12 c) (nI m + (-1)) f a b := fun hz => ih c (by omega) (by
      rcases hc with z | z
      · refine Or.inl ⟨z.1, fun u h1 h2 => ?_⟩
        by_cases e : u = m
        · rw [e]; exact hz
        · exact z.2 u (by omega) h2
      · refine Or.inr ⟨by omega, z.2.1, z.2.2.1, fun u h1 h2 => ?_⟩
        by_cases e : u = m
        · rw [e]; exact hz
        · exact z.2.2.2 u (by omega) h2)
    refine iN (nI_pos (by omega)) (M_may h hn (by omega) ht (fun hmm => iN n10 (M_with h h11 hi (by omega) ht (fun j v hj1 hj2 hv => htab j v (Nat.zero_le j) hj2 hv) ?_)) (fun hmm => ip rfl (hno (fun z => hmm z.1))))
    have b2 := svR_bd hs hi (by omega) hmm
    have b3 := lsR_bd (rs := rs) (rr := rr) hs (rwC aS rr NC - (i + 1)) (i + 1) (t ||| 2 ^ m) (by omega)
    have b4 := lsR_bd (rs := rs) (rr := rr) hs (rwC aS rr NC - i) i t (by omega)
    rw [ix4, nI_clamp (n := 4096 * i + t) (by omega), htab i t (Nat.zero_le i) (by omega) ht, lg_cmp_eq, i64_eq (by unfold sml; omega) (by unfold sml; omega)]
    refine ⟨vp_in_nI (by omega) (by decide), fun c2 => hno (fun z => c2 z.2), fun c2 => ?_⟩
    show wp_M_send_134 po J (m + 1) (nI t) x7 (nI i) (nI (rho aS rr NC i)) (nI m) (nI m + (-1)) f a b
    have hit1 : htR aS U NC rs rr i t m := ⟨hmm, c2⟩
    have g := ih m (by omega) (Or.inr ⟨Nat.le_refl m, by omega, hit1, fun u h1 h2 => by omega⟩)
    rw [en_n (show m ≠ 12 by omega)] at g
    exact g
theorem grR_of {i c : Nat} (hU : U ≤ 12) (hc : (c = 12 ∧ ∀ u, u < U → ¬ htR aS U NC rs rr i (tmk (fxm aS NC) (grR aS U NC rs rr) i) u) ∨ (c < U ∧ htR aS U NC rs rr i (tmk (fxm aS NC) (grR aS U NC rs rr) i) c ∧ ∀ u, u < c → ¬ htR aS U NC rs rr i (tmk (fxm aS NC) (grR aS U NC rs rr) i) u)) : c = grR aS U NC rs rr i := by
  have hg := grd_ok (may := mayR aS U NC rs rr) (sv := svR aS NC rr) (rk := rkR aS NC rr) (R := rwC aS rr NC) (t0 := fxm aS NC) hU i
  rcases hc with z | z
  · rcases hg with y | y
    · exact z.1.trans y.1.symm
    · exact absurd y.2.1 (z.2 _ y.1)
  · rcases hg with y | y
    · exact absurd z.2.1 (y.2 _ z.1)
    · have h1 : ¬ c < grR aS U NC rs rr i := fun q => y.2.2 c q z.2.1
      have h2 : ¬ grR aS U NC rs rr i < c := fun q => z.2.2 _ q y.2.1
      omega
theorem grR_le (hU : U ≤ 12) (i : Nat) : grR aS U NC rs rr i ≤ 12 := by
  rcases grd_ok (may := mayR aS U NC rs rr) (sv := svR aS NC rr) (rk := rkR aS NC rr) (R := rwC aS rr NC) (t0 := fxm aS NC) hU i with z | z
  · exact Nat.le_of_eq z.1
  · exact Nat.le_trans (Nat.le_of_lt z.1) hU
theorem M_taken {po : Int32 → wF → wA → wB → Prop} (h : Sta fS aS f a U IC NC rs rr) (hf : iFill aS a U NC) (hf6 : f 6 = nI (rwC aS rr NC)) (h11 : ∀ r, r < rwC aS rr NC → a 11 r = nI (rho aS rr NC r)) (htab : tab aS U NC rs rr 0 b)
    (hp : ∀ a', (∀ j, j ≠ 8 → j ≠ 9 → a' j = a j) → (∀ r, r < rwC aS rr NC → a' 8 (rho aS rr NC r) = en 12 (grR aS U NC rs rr r) ∧ a' 9 (rho aS rr NC r) = 0) → (∀ n, (∀ r, r < rwC aS rr NC → rho aS rr NC r ≠ n) → a' 8 n = a 8 n ∧ a' 9 n = a 9 n) → wp_M_send_252 po f a' b) : wp_M_send_94 po (nI (fxm aS NC)) f a b := by
  have hNC := h.1.2.2.1.2.2
  have hU := h.1.1.2.2
  have hR := rwC_le aS rr NC
  have hs := h.sc hf
  have ht0 := fxm_lt hs NC (Nat.le_refl NC)
  refine pk_loop (σ := wA) (fun m i s => wp_M_send_100 po m (nI (tmk (fxm aS NC) (grR aS U NC rs rr) i)) 0 (nI i) f s b) (fun i s => (∀ j, j ≠ 8 → j ≠ 9 → s j = a j) ∧ (∀ r, r < i → r < rwC aS rr NC → s 8 (rho aS rr NC r) = en 12 (grR aS U NC rs rr r) ∧ s 9 (rho aS rr NC r) = 0) ∧ (∀ n, (∀ r, r < i → r < rwC aS rr NC → rho aS rr NC r ≠ n) → s 8 n = a 8 n ∧ s 9 n = a 9 n)) (rwC aS rr NC) 0 a (by omega) ⟨fun _ _ _ => rfl, fun r hr => absurd hr (Nat.not_lt_zero r), fun _ _ => ⟨rfl, rfl⟩⟩ ?_ ?_
  · intro m s ⟨q1, q2, q3⟩
    exact pk_le (rwC aS rr NC) (rwC aS rr NC) (fun _ => hp s q1 (fun r hr => q2 r hr hr) (fun n hn => q3 n (fun r hr _ => hn r hr))) (fun y => absurd y (by omega)) hf6
  · intro m i s hi ⟨q1, q2, q3⟩ ih
    have hn := (rows_in hi).1
    have h1 : Sta fS aS f s U IC NC rs rr := h.cm (fun _ _ _ => rfl) (fun j z1 z2 _ => q1 j z1 z2)
    have h11' : ∀ r, r < rwC aS rr NC → s 11 r = nI (rho aS rr NC r) := fun r hr => by rw [q1 11 (by decide) (by decide)]; exact h11 r hr
    have ht := tmk_lt (Q := grR aS U NC rs rr) ht0 i (fun r _ => grR_le hU r)
    refine pk_le (rwC aS rr NC) i (fun y => absurd y (by omega)) (fun _ => ip' rfl ⟨vp_in_nI (by omega) (by decide), ⟨U + 1, ?_⟩⟩) hf6
    rw [nI_clamp (n := i) (by omega), h11' i hi, h.1.1.2.1, Int32.sub_eq_add_neg]
    have hch := M_choose (po := po) (J := wp_M_send_100 po m) (x7 := 0) (f := f) (a := s) (b := b) (i := i) h1 hs h11' htab hi ht (fun c hc => ?_) U 12 (Nat.le_refl U) (Or.inl ⟨rfl, fun u z1 z2 => by omega⟩)
    · rw [en_m] at hch
      exact hch
    · have hcg := grR_of hU hc
      have hc12 : c ≤ 12 := by rw [hcg]; exact grR_le hU i
      refine ip (by decide) ⟨vp_in_nI (by omega) (by decide), ?_⟩
      rw [nI_clamp (n := rho aS rr NC i) (by omega)]
      obtain ⟨e8, e9⟩ := q3 (rho aS rr NC i) (fun r hr hr2 z => by have := rows_inj hr2 hi z; omega)
      have etm : tmk (fxm aS NC) (grR aS U NC rs rr) (i + 1) = if grR aS U NC rs rr i = 12 then tmk (fxm aS NC) (grR aS U NC rs rr) i else tmk (fxm aS NC) (grR aS U NC rs rr) i ||| 2 ^ grR aS U NC rs rr i := rfl
      have hgo : wp_M_send_219 po (wp_M_send_100 po m) (nI (rho aS rr NC i)) (nI (tmk (fxm aS NC) (grR aS U NC rs rr) i)) 0 (nI i) (nI (rho aS rr NC i)) (en 12 c) f s b := by
        show vp_in _ 10 ∧ vp_in _ 10 ∧ _
        rw [nI_clamp (n := rho aS rr NC i) (by omega), nar0, va_up_ne _ _ (show (8 : Nat) ≠ 9 by decide)]
        have hnx : wp_M_send_100 po m (nI (tmk (fxm aS NC) (grR aS U NC rs rr) (i + 1))) 0 (nI i + 1) f (va_up (va_up s 9 (upd (s 9) (rho aS rr NC i) 0)) 8 (upd (s 8) (rho aS rr NC i) (en 12 c))) b := by
          rw [nI_1]
          refine ih _ ⟨fun j z1 z2 => (va_up_ne _ _ z1).trans ((va_up_ne _ _ z2).trans (q1 j z1 z2)), fun r hr hr2 => ?_, fun n hnn => ?_⟩
          · rw [va_up_self, va_up_ne _ _ (show (9 : Nat) ≠ 8 by decide), va_up_self]
            by_cases e : r = i
            · subst e; rw [pk_us, pk_us, hcg]; exact ⟨rfl, rfl⟩
            · rw [pk_un (fun z => e (rows_inj hr2 hi z)), pk_un (fun z => e (rows_inj hr2 hi z))]; exact q2 r (by omega) hr2
          · have hne : n ≠ rho aS rr NC i := fun z => hnn i (by omega) hi z.symm
            rw [va_up_self, va_up_ne _ _ (show (9 : Nat) ≠ 8 by decide), va_up_self, pk_un hne, pk_un hne]
            exact q3 n (fun r hr hr2 => hnn r (by omega) hr2)
        rw [etm, ← hcg] at hnx
        refine ⟨vp_in_nI (by omega) (by decide), vp_in_nI (by omega) (by decide), fun z => ?_, fun z => ?_⟩
        · rw [en_neg hc12] at z
          rw [if_pos z] at hnx
          show wp_M_send_100 po m (nI (tmk (fxm aS NC) (grR aS U NC rs rr) i) ||| nI 0) 0 (nI i + 1) f _ b
          rw [orI, Nat.or_zero]
          exact hnx
        · rw [en_neg hc12] at z
          rw [if_neg z] at hnx
          show wp_M_send_100 po m (nI (tmk (fxm aS NC) (grR aS U NC rs rr) i) ||| ((1 : Int32) <<< (en 12 c &&& 31))) 0 (nI i + 1) f _ b
          rw [show ((1 : Int32) <<< (en 12 c &&& 31)) = nI (2 ^ c) by rw [en_n z]; exact shl_u c (by omega), orI]
          exact hnx
      refine ⟨fun _ => hgo, fun z9 => ⟨vp_in_nI (by omega) (by decide), iN' ?_ hgo⟩⟩
      -- a unit that stays and isn't fixed can't fill the need
      rw [e8]
      rw [e9] at z9
      intro ec
      obtain ⟨g1, g2⟩ := (hf.1 (rho aS rr NC i) (by omega)).1 hn
      rcases g2 with ⟨-, g3⟩ | ⟨u, u1, u2, u3, u4⟩
      · exact z9 g3
      · have hcu : c = u := (en_eq (by decide) hc12 (by omega)).mp (ec.symm.trans (g1.trans u2))
        have hcan : vCan aS u (rho aS rr NC i) := by
          rcases hc with y | y
          · omega
          · rw [← hcu]; exact y.2.1.1.2.1
        refine (rows_in hi).2.2 ?_
        unfold fixN fixU
        rw [u2, nI_clamp (by omega), u3, nI_clamp (by omega)]
        exact ⟨m1ne (by omega), by rw [← u4]; exact z9, m1ne (by omega), hcan⟩
theorem M_count {po : Int32 → wF → wA → wB → Prop} (h : Sta fS aS f a U IC NC rs rr) (hp : po (nI (ucn (fun n => ¬ vOp aS n = 0 ∧ ¬ a 8 n < 0) NC)) f a b) : wp_M_send_252 po f a b := by
  have hNC := h.1.2.2.1.2.2
  refine pk_loop (σ := Int32) (fun m k s => wp_M_send_258 po m s (nI k) f a b) (fun k s => s = nI (ucn (fun n => ¬ vOp aS n = 0 ∧ ¬ a 8 n < 0) k)) NC 0 0 (by omega) rfl ?_ ?_
  · intro m s e
    exact pk_le NC NC (fun _ => by rw [e]; exact hp) (fun y => absurd y (by omega)) h.1.2.2.1.2.1
  · intro m k s hk e ih
    refine pk_le NC k (fun y => absurd y (by omega)) (fun _ => M_isOpen h hk ?_) h.1.2.2.1.2.1
    have hno : ¬ (¬ vOp aS k = 0 ∧ ¬ a 8 k < 0) → wp_M_send_258 po m (s + 0) (nI k + 1) f a b := fun hz => by
      rw [nI_1, Int32.add_zero]
      exact ih s (by rw [e, ucn_n (p := fun n => ¬ vOp aS n = 0 ∧ ¬ a 8 n < 0) hz])
    rw [nI_clamp (n := k) (by omega)]
    refine ⟨fun c => hno (fun z => z.1 c), fun c => ⟨vp_in_nI (by omega) (by decide), fun c2 => hno (fun z => z.2 c2), fun c2 => ?_⟩⟩
    show wp_M_send_258 po m (s + 1) (nI k + 1) f a b
    rw [nI_1]
    exact ih _ (by rw [e, ucn_y (p := fun n => ¬ vOp aS n = 0 ∧ ¬ a 8 n < 0) ⟨c, c2⟩, nI_1])
end MP
