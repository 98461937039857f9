/-! send -/
theorem i64_div {c : Int} (h0 : 0 ≤ c) (h1 : c ≤ 4611686018427387904) : Int64.ofInt c / (1000000000000 : Int64) = Int64.ofInt (c / 1000000000000) := by
  obtain ⟨n, rfl⟩ := Int.eq_ofNat_of_zero_le h0
  have e : ∀ k : Nat, Int64.ofInt (k : Int) = lN k := fun k => Int64.ofInt_eq_ofNat
  rw [e, show (1000000000000 : Int64) = lN 1000000000000 by decide, pk_lDiv (by omega) (by decide) (by decide)]
  rw [show ((n : Int) / 1000000000000) = ((n / 1000000000000 : Nat) : Int) by omega, e]
section MSEND
variable {fS fM : wF} {aS aM : wA} {bM : wB} {U IC NC rs rr : Nat}
/-- the present plan stays -/
def kpS (a : wA) (U NC rs rr : Nat) (P : Nat → Nat) (k : Int) : Prop := (∀ r, r < rwC a rr NC → prs a rr NC r ≠ 12 → al (CR a U NC rr) r (prs a rr NC r)) ∧ vld (rwC a rr NC) (unbC a rr NC) (max (spr a U rs) 0) (prs a rr NC) ∧ ky (rwC a rr NC) (CR a U NC rr) (prs a rr NC) - ky (rwC a rr NC) (CR a U NC rr) P < k
theorem M_send {po : Int32 → wF → wA → wB → Prop} {P : Nat → Nat} {s : Nat} (hs : Sta fS aS fM aM U IC NC rs rr) (hf : iFill aS aM U NC) (hs6 : s ≤ 1000000) (hP : bstV (rwC aS rr NC) (unbC aS rr NC) (CR aS U NC rr) (max (spr aS U rs) 0) P)
    (hk : kpS aS U NC rs rr P (max (s : Int) 1) → ∀ f2 a2 b2, (∀ k, k ≠ 6 → f2 k = va_up fM 0 0 k) → (∀ j, j ≠ 11 → a2 j = aM j) → wp_M_send_252 po f2 a2 b2)
    (ht : ¬ kpS aS U NC rs rr P (max (s : Int) 1) → ∀ f2 a2 b2, (∀ k, k ≠ 6 → f2 k = va_up fM 0 0 k) → (∀ j, j ≠ 11 → j ≠ 8 → j ≠ 9 → a2 j = aM j) → (∀ r, r < rwC aS rr NC → a2 8 (rho aS rr NC r) = en 12 (P r) ∧ a2 9 (rho aS rr NC r) = 0) → (∀ n, (∀ r, r < rwC aS rr NC → rho aS rr NC r ≠ n) → a2 8 n = aM 8 n ∧ a2 9 n = aM 9 n) → wp_M_send_252 po f2 a2 b2) : wp_M_send po (nI s) fM aM bM := by
  have hsc := hs.sc hf
  have hR : rwC aS rr NC ≤ 10 := by have := rwC_le aS rr NC; have := hsc.2.1; omega
  have hs0 : Sta fS aS (va_up fM 0 0) aM U IC NC rs rr := hs.cf (fun _ _ => rfl) (fun k hk _ => va_up_ne _ _ (by omega))
  refine M_in (fun _ => iN' n10 (thr0 (ip rfl ?_))) (fun z => absurd ⟨nI_pos' (by omega), nI_le (b := 1000000) hs6 (by decide)⟩ z)
  refine M_reckon hs0 hf (fun f2 a2 b2 q1 q2 q3 q4 q5 => ?_)
  have h2 : Sta fS aS f2 a2 U IC NC rs rr := hs0.cm (fun k _ _ => q2 k (by omega)) (fun j _ _ hj => q3 j hj)
  have hf2 : iFill aS a2 U NC := hf.c rfl rfl rfl rfl rfl rfl (q3 8 (by decide)) (q3 9 (by decide))
  have ht0 := fxm_lt hsc NC (Nat.le_refl NC)
  have hpe := plan_eq hsc hf hP
  have htk : ¬ kpS aS U NC rs rr P (max (s : Int) 1) → wp_M_send_94 po (nI (fxm aS NC)) f2 a2 b2 := fun hz => M_taken h2 hf2 q1 q4 q5 (fun a' z1 z2 z3 => ht hz f2 a' b2 q2 (fun j y1 y2 y3 => (z1 j y2 y3).trans (q3 j y1)) (fun r hr => by rw [hpe.1 r hr]; exact z2 r hr) (fun n hn => by
    obtain ⟨y1, y2⟩ := z3 n hn
    rw [y1, y2, q3 8 (by decide), q3 9 (by decide)]
    exact ⟨rfl, rfl⟩))
  refine M_fixedUnits h2 hf2 ⟨vp_in_nI (by omega) (by decide), ?_⟩
  have etab : b2 12 (nI (fxm aS NC)).toNatClampNeg = Int64.ofInt (lsR aS U NC rs rr (rwC aS rr NC) 0 (fxm aS NC)) := by
    rw [nI_clamp (by omega)]
    have := q5 0 (fxm aS NC) (Nat.le_refl 0) (by omega) ht0
    rw [show 4096 * 0 + fxm aS NC = fxm aS NC by omega, Nat.sub_zero] at this
    exact this
  rw [etab]
  refine M_present h2 hf2 q1 q4 (fun hm => ?_) (fun hm => ip (by decide) (htk (fun z => hm ((prs_ok hsc hf).mp ⟨z.1, z.2.1⟩))))
  obtain ⟨p1, p2⟩ := (prs_ok (rs := rs) hsc hf).mpr hm
  obtain ⟨e1, e2, e3⟩ := keep_iff hsc hf hP p1 p2 (k := max (s : Int) 1) (by omega) (by omega)
  have b1 := lsR_bd (rs := rs) (rr := rr) hsc (rwC aS rr NC) 0 (fxm aS NC) (by omega)
  generalize scf (svR aS NC rr) (rkR aS NC rr) (prs aS rr NC) (rwC aS rr NC) 0 = sc at e1 e2 e3 ⊢
  generalize lsR aS U NC rs rr (rwC aS rr NC) 0 (fxm aS NC) = ls at e1 b1 ⊢
  have hbig : ls ≤ 90000000000000 := by
    have : (rwC aS rr NC : Int) * 9000000000000 ≤ 10 * 9000000000000 := Int.mul_le_mul_of_nonneg_right (by omega) (by decide)
    omega
  rw [lg_cmp_lt, lg_cmp_eq, i64_div e2 (by omega), i64_div b1.1 (by omega), i64_eq (by unfold sml; omega) (by unfold sml; omega), show (0 : Int64) = Int64.ofInt 0 by decide, i64_lt (by unfold sml; omega) (by unfold sml; omega), ← Int64.ofInt_sub]
  refine ⟨fun c => absurd c (by omega), fun _ => ⟨fun c => htk (fun z => c (e1.mp z.2.2).1), fun c => ?_⟩⟩
  have hgo : ∀ x : Int32, x.toInt = max (s : Int) 1 → wp_M_send_85 po x (Int64.ofInt (sc - ls)) (nI (fxm aS NC)) f2 a2 b2 := by
    intro x hx
    unfold wp_M_send_85
    rw [lg_cmp_ge, i32_64, hx, i64_le (by unfold sml; omega) (by unfold sml; omega)]
    refine ⟨fun c2 => htk (fun z => absurd (e1.mp z.2.2).2 (by omega)), fun c2 => ⟨1, ?_⟩⟩
    have hkk := hk ⟨p1, p2, e1.mpr ⟨c, by omega⟩⟩ f2 a2 b2 q2 q3
    exact ⟨fun _ => hkk, fun _ => iN' n10 hkk⟩
  refine ⟨fun c2 => hgo _ ?_, fun c2 => hgo 1 ?_⟩
  · rw [Int32.le_iff_toInt_le, nI_toInt (by omega)] at c2
    have : (1 : Int32).toInt = 1 := by decide
    rw [nI_toInt (by omega)]
    omega
  · rw [Int32.le_iff_toInt_le, nI_toInt (by omega)] at c2
    have : (1 : Int32).toInt = 1 := by decide
    omega
end MSEND
theorem iFill.cM {aS aM aM' : wA} {U NC : Nat} (h : iFill aS aM U NC) (e : ∀ n, n < NC → aM' 8 n = aM 8 n ∧ aM' 9 n = aM 9 n) : iFill aS aM' U NC := by
  refine ⟨fun n hn => ⟨fun hc => ?_, (h.1 n hn).2⟩, h.2⟩
  rw [(e n hc).1, (e n hc).2]
  exact (h.1 n hn).1 hc
theorem spr_c {a a' : wA} {U rs : Nat} (hU : U ≤ 12) (h : fr23 a a') : spr a' U rs = spr a U rs := by
  have e : ucn (fun u => a' 2 u = 0 ∧ ¬ fixU a' u) U = ucn (fun u => a 2 u = 0 ∧ ¬ fixU a u) U := ucn_congr (fun i hi => by
    show a' 2 i = 0 ∧ ¬ fixU a' i ↔ a 2 i = 0 ∧ ¬ fixU a i
    rw [h 2 (by decide), fixU_c h (by omega)])
  unfold spr
  rw [e]
/-- both count the same needs -/
theorem cnt_eq {aS a' aM' : wA} {U NC : Nat} (hU : U ≤ 12) (hNC : NC ≤ 10) (hf : iFill a' aM' U NC) (h19 : a' 19 = aS 19) (h20 : a' 20 = aS 20) : ucn (fun n => ¬ vOp aS n = 0 ∧ ¬ aM' 8 n < 0) NC = ucn (fun n => ¬ a' 22 n = -1) NC := by
  refine ucn_congr (fun n hn => ?_)
  obtain ⟨g1, g2⟩ := (hf.1 n (by omega)).1 hn
  show (¬ vOp aS n = 0 ∧ ¬ aM' 8 n < 0) ↔ ¬ a' 22 n = -1
  rw [g1]
  rcases g2 with ⟨g2, -⟩ | ⟨u, u1, u2, u3, -⟩
  · rw [g2]
    exact ⟨fun z => absurd m1neg z.2, fun z => absurd rfl z⟩
  · rw [u2]
    refine ⟨fun _ => m1ne (by omega), fun _ => ⟨?_, nI_pos (by omega)⟩⟩
    rcases hf.un hU hNC (u := u) (by omega) with z | ⟨m, m1, m2, m3, m4, m5, m6, m7, m8⟩
    · rw [u3] at z; exact absurd z.1 (m1ne (by omega))
    · have := ninj (by omega) (by omega) (u3.symm.trans m2)
      subst this
      have e : vOp aS n = vOp a' n := by unfold vOp vInc; rw [h19, h20]
      rw [e, m8]
      exact n10
theorem okc_send_Inv : okc_send Inv := by
  intro x fS aS bS fM aM bM hI
  have hI0 := hI
  obtain ⟨U, IC, NC, rs, rr, hN⟩ := hI
  have hs := hN.sta
  obtain ⟨k0, h2, h3, h4, h5, h6, h7, h8, h9⟩ := hN
  obtain ⟨⟨k11, k12, k13⟩, ⟨k21, k22, k23⟩, ⟨k31, k32, k33⟩, ⟨k41, k42, k43⟩, k51, k52, k53⟩ := id k0
  have hsc := hs.sc h7
  have hbad : ¬ (0 ≤ x ∧ x ≤ 1000000) → wp_M_send (fun r f2 a2 b2 => wp_M_thrown (fun t f3 a3 b3 => t = 1 ∧ ((1 : Int32) = 0 → mgB bS bS 57 (0 : Int32).toNatClampNeg = r.toInt64) ∧ Inv fS aS (mgB bS bS) f3 a3 b3) f2 a2 b2) x fM aM bM := fun q => M_in (fun z => absurd z q) (fun _ => ip' rfl (thr1 (iN n10 (bad_out2 hI0 n10))))
  refine ⟨fun c => ⟨rfl, hbad (fun q => absurd c (Int32.not_lt.mpr q.1))⟩, fun c => ⟨fun c2 => ?_, fun c2 => ⟨rfl, hbad (fun q => c2 q.2)⟩⟩⟩
  obtain ⟨s, -, s2, s3⟩ := between (l := 0) (h := 1000000) rfl rfl (by decide) (by decide) ⟨Int32.not_lt.mp c, c2⟩
  have hx2 : (if x < (1 : Int32) then (1 : Int32) else x).toInt = max (s : Int) 1 := by
    have e1 : (1 : Int32).toInt = 1 := by decide
    have e2 : x.toInt = (s : Int) := by rw [s3, nI_toInt (by omega)]
    by_cases hz : x < 1
    · rw [if_pos hz, e1]
      rw [Int32.lt_iff_toInt_lt] at hz
      omega
    · rw [if_neg hz, e2]
      rw [Int32.lt_iff_toInt_lt] at hz
      omega
  have hR : rwC aS rr NC ≤ 10 := by have := rwC_le aS rr NC; omega
  refine S_layOutNeeds hsc k11 k31 k51 (fun f1 a1 b1 y1 y2 ⟨l1, _, l3, l4, l5, l6, l7⟩ => ?_)
  refine S_spareUnits (hsc.c l3) ((y2 0 (by decide)).trans k11) ((y2 3 (by decide)).trans k41) ?_
  rw [spr_c k13 l3]
  obtain ⟨z1, z2, z3⟩ := spr_int (a := aS) k13 k43
  have hb27 : ∀ r u, r < 10 → u < 12 → b1 (27 + r) u = Int64.ofInt (CR aS U NC rr r u) := fun r u hr hu => by
    unfold CR
    by_cases e : r < rwC aS rr NC
    · rw [cif_p e]; exact l5 r u e hu
    · rw [cif_n e, l6 r u (Nat.not_lt.mp e) hr hu]; rfl
  have hb38 : ∀ r u, r < 10 → u < 12 → b1 (38 + r) u = Int64.ofInt (tieI r u) := fun r u hr hu => by
    rw [l7 (38 + r) (fun r' _ => by omega)]; exact h9 r u hr hu
  refine P_findBest l1 y1 (unb_le aS rr NC) hR (fun r u hr hu => ⟨hb27 r u hr hu, hb38 r u hr hu⟩) (CR_cw hsc) (fun r u _ _ => CR_bd hsc r u) (fun P a2 b2 hP p48 p5 pb => ?_)
  rw [z1] at hP
  have hfr2 : fr23 aS a2 := l3.t (fun j hj => p5 j (by omega) (by omega) (by omega) (by omega) (by omega))
  have hb27' : ∀ r u, r < 10 → u < 12 → b2 (27 + r) u = Int64.ofInt (CR aS U NC rr r u) := fun r u hr hu => by
    rw [pb _ (by omega) (by omega) (by omega) (by omega)]; exact hb27 r u hr hu
  have htie : iTie b2 := fun r u hr hu => by
    rw [pb _ (by omega) (by omega) (by omega) (by omega)]; exact hb38 r u hr hu
  have h25 : ∀ r, r < rwC aS rr NC → a2 25 r = nI (rho aS rr NC r) := fun r hr => by
    rw [p5 25 (by decide) (by decide) (by decide) (by decide) (by decide)]; exact l4 r hr
  have hf1 : ∀ k, k < 5 → f1 k = fS k := y2
  -- the state at the end
  have fin : ∀ {f2 : wF} {a4 a3 : wA} {b3 : wB} (v : Int32), (∀ k, k ≠ 6 → f2 k = va_up fM 0 0 k) → (∀ j, j ≤ 23 → j ≠ 22 → j ≠ 4 → j ≠ 3 → a4 j = aS j) → (∀ j, j ≠ 11 → j ≠ 8 → j ≠ 9 → a3 j = aM j) → iFill a4 a3 U NC → v = nI (ucn (fun n => ¬ a4 22 n = -1) NC) → f2 0 = 0 ∧ ((0 : Int32) = 0 → (va_up (mgB bS b2) 57 (vp_updL ((mgB bS b2) 57) (0 : Int32).toNatClampNeg (nI (ucn (fun n => ¬ a4 22 n = -1) NC)).toInt64)) 57 (0 : Int32).toNatClampNeg = v.toInt64) ∧ Inv f1 a4 (va_up (mgB bS b2) 57 (vp_updL ((mgB bS b2) 57) (0 : Int32).toNatClampNeg (nI (ucn (fun n => ¬ a4 22 n = -1) NC)).toInt64)) f2 a3 b3 := by
    intro f2 a4 a3 b3 v w1 w2 w3 w4 w5
    refine ⟨(w1 0 (by decide)).trans (va_up_self _ _ _), fun _ => by rw [w5]; exact out_get, U, IC, NC, rs, rr, k0.c hf1 (fun k hk1 hk2 => (w1 k (by omega)).trans (va_up_ne _ _ (by omega))), h2.c (w2 1 (by decide) (by decide) (by decide) (by decide)) (w3 1 (by decide) (by decide) (by decide)), h3.c (w2 2 (by decide) (by decide) (by decide) (by decide)) (w3 2 (by decide) (by decide) (by decide)), h4.c (fun u hu => w2 _ (by omega) (by omega) (by omega) (by omega)) (w3 3 (by decide) (by decide) (by decide)), h5.c (w2 18 (by decide) (by decide) (by decide) (by decide)) (w2 19 (by decide) (by decide) (by decide) (by decide)) (w3 4 (by decide) (by decide) (by decide)) (w3 5 (by decide) (by decide) (by decide)), h6.c (w2 20 (by decide) (by decide) (by decide) (by decide)) (w2 21 (by decide) (by decide) (by decide) (by decide)) (w3 6 (by decide) (by decide) (by decide)) (w3 7 (by decide) (by decide) (by decide)), w4, h8.c (w2 23 (by decide) (by decide) (by decide) (by decide)) (w3 10 (by decide) (by decide) (by decide)), htie.c (fun j hj => (va_up_ne _ _ hj).trans (mg_ne hj))⟩
  have hstaM : ∀ {f2 : wF} {a3 : wA}, (∀ k, k ≠ 6 → f2 k = va_up fM 0 0 k) → (∀ j, j ≠ 11 → j ≠ 8 → j ≠ 9 → a3 j = aM j) → Sta fS aS f2 a3 U IC NC rs rr := fun w1 w3 => hs.cm (fun k hk1 hk2 => (w1 k (by omega)).trans (va_up_ne _ _ (by omega))) (fun j q1 q2 q3 => w3 j q3 q1 q2)
  rw [s3] at hx2 ⊢
  refine S_presentStays (rr := rr) (C := CR aS U NC rr) (P := P) hsc hfr2 h25 l1 y1 (unb_le aS rr NC) hb27' (fun r u _ _ => CR_bd hsc r u) (fun r hr => ⟨p48 r hr, hP.1.le r hr⟩) (fun a3 q50 q1 q2 q3 => iN' n10 ?_) (fun a3 q50 q => ip' rfl ?_)
  · rw [z1] at q2
    rw [hx2] at q3
    have hfr3 : fr23 aS a3 := hfr2.t (fun j hj => q50 j (by omega))
    refine S_countFilled ((hf1 2 (by decide)).trans k31) k33 ?_
    refine M_send hs h7 s2 hP (fun _ f2 aM2 b3 w1 w2 => ?_) (fun z => absurd ⟨q1, q2, q3⟩ z)
    have hf' : iFill a3 aM2 U NC := h7.c (hfr3 22 (by decide)) (hfr3 4 (by decide)) (hfr3 3 (by decide)) (hfr3 2 (by decide)) (hfr3 19 (by decide)) (hfr3 20 (by decide)) (w2 8 (by decide)) (w2 9 (by decide))
    refine M_count (hstaM w1 (fun j q _ _ => w2 j q)) ?_
    exact fin _ w1 (fun j hj _ _ _ => hfr3 j hj) (fun j q _ _ => w2 j q) hf' (by rw [cnt_eq k13 k33 hf' (hfr3 19 (by decide)) (hfr3 20 (by decide))])
  · rw [z1, hx2] at q
    have hfr3 : fr23 aS a3 := hfr2.t (fun j hj => q50 j (by omega))
    have hPal : ∀ r, r < rwC aS rr NC → P r ≠ 12 → P r < U ∧ ¬ fixU aS (P r) ∧ vCan aS (P r) (rho aS rr NC r) := fun r hr hne => by
      rcases hP.1.1 r hr with z | z
      · exact absurd z hne
      · exact ((CR_al hsc).mp z.2).2
    refine S_takeBest (rr := rr) (P := P) hsc h7 hfr3 (fun r hr => by rw [q50 25 (by decide)]; exact h25 r hr) (fun r hr => ⟨by rw [q50 48 (by decide)]; exact p48 r hr, hP.1.le r hr⟩) l1 hPal hP.1.2 (fun a4 sM t1 t2 t3 t4 => ?_)
    have hfr4 : ∀ j, j ≤ 23 → j ≠ 22 → j ≠ 4 → j ≠ 3 → a4 j = aS j := fun j v1 v2 v3 v4 => (t1 j v2 v3 v4).trans (hfr3 j v1)
    refine S_countFilled ((hf1 2 (by decide)).trans k31) k33 ?_
    refine M_send hs h7 s2 hP (fun z => absurd z q) (fun _ f2 aM2 b3 w1 w2 w3 w4 => ?_)
    have hf' : iFill a4 aM2 U NC := t2.cM (fun n hn => by
      by_cases hrow : ∃ r, r < rwC aS rr NC ∧ rho aS rr NC r = n
      · obtain ⟨r, r1, r2⟩ := hrow
        subst r2
        rw [(w3 r r1).1, (w3 r r1).2, (t3 r r1).1, (t3 r r1).2]
        exact ⟨rfl, rfl⟩
      · have hno : ∀ r, r < rwC aS rr NC → rho aS rr NC r ≠ n := fun r r1 r2 => hrow ⟨r, r1, r2⟩
        rw [(w4 n hno).1, (w4 n hno).2, (t4 n hn hno).1, (t4 n hn hno).2]
        exact ⟨rfl, rfl⟩)
    refine M_count (hstaM w1 w2) ?_
    exact fin _ w1 hfr4 w2 hf' (by rw [cnt_eq k13 k33 hf' (hfr4 19 (by decide) (by decide) (by decide) (by decide)) (hfr4 20 (by decide) (by decide) (by decide) (by decide))])
theorem okAll_Inv : okAll Inv := ⟨okc_unit_Inv, okc_incident_Inv, okc_rank_Inv, okc_need_Inv, okc_seconds_Inv, okc_limit_Inv, okc_reserve_Inv, okc_broken_Inv, okc_send_Inv, okc_stay_Inv, okc_recall_Inv, okc_close_Inv, okc_needAt_Inv, okc_fills_Inv, okc_sum_Inv, okc_alternative_Inv, okc_never_Inv⟩
