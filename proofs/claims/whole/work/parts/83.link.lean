/-! the class's plans and the reference's -/
theorem ucn_split {p q : Nat → Prop} : ∀ {k : Nat}, (∀ i, i < k → q i → p i) → ucn p k = ucn (fun i => p i ∧ ¬ q i) k + ucn q k
  | 0, _ => rfl
  | k + 1, h => by
    have ih := ucn_split (p := p) (q := q) (k := k) (fun i hi => h i (by omega))
    by_cases e : q k
    · have hp := h k (by omega) e
      rw [ucn_y hp, ucn_y e, ucn_n (p := fun i => p i ∧ ¬ q i) (fun z => z.2 e)]
      omega
    · rw [ucn_n e]
      by_cases e2 : p k
      · rw [ucn_y e2, ucn_y (p := fun i => p i ∧ ¬ q i) ⟨e2, e⟩]
        omega
      · rw [ucn_n e2, ucn_n (p := fun i => p i ∧ ¬ q i) (fun z => e2 z.1)]
        omega
theorem ucn_ext {p : Nat → Prop} {k : Nat} : ∀ {m : Nat}, k ≤ m → (∀ i, k ≤ i → i < m → ¬ p i) → ucn p m = ucn p k
  | 0, h, _ => by
    have : k = 0 := by omega
    rw [this]
  | m + 1, h, hz => by
    by_cases e : k = m + 1
    · rw [e]
    · rw [ucn_n (hz m (by omega) (by omega))]
      exact ucn_ext (by omega) (fun i h1 h2 => hz i h1 (by omega))
theorem ucn_ins {p : Nat → Prop} {u : Nat} (hu : ¬ p u) : ∀ k, ucn (fun v => p v ∨ u = v) k = ucn p k + if u < k then 1 else 0
  | 0 => by rw [if_neg (Nat.not_lt_zero u)]; rfl
  | k + 1 => by
    have ih := ucn_ins hu k
    by_cases e : u = k
    · subst e
      rw [ucn_y (p := fun v => p v ∨ u = v) (Or.inr rfl), ih, ucn_n hu, if_neg (Nat.lt_irrefl u), if_pos (by omega)]
    · have hif : (if u < k + 1 then 1 else 0) = if u < k then 1 else 0 := by
        by_cases h : u < k
        · rw [if_pos h, if_pos (by omega)]
        · rw [if_neg h, if_neg (by omega)]
      rw [hif]
      by_cases h : p k
      · rw [ucn_y (p := fun v => p v ∨ u = v) (Or.inl h), ucn_y h, ih]; omega
      · rw [ucn_n (p := fun v => p v ∨ u = v) (fun z => by
          rcases z with z | z
          · exact h z
          · exact e z), ucn_n h, ih]
theorem onc_or {t u : Nat} (hu : u < 12) (h : ¬ tb t u) : onc (t ||| 2 ^ u) = onc t + 1 := by
  unfold onc
  rw [ucn_congr (q := fun v => tb t v ∨ u = v) (fun i _ => tb_or), ucn_ins h, if_pos hu]
theorem tmk_tb {t0 : Nat} {Q : Nat → Nat} {u : Nat} : ∀ i, tb (tmk t0 Q i) u ↔ tb t0 u ∨ ∃ r, r < i ∧ Q r ≠ 12 ∧ Q r = u
  | 0 => ⟨fun h => Or.inl h, fun h => by
      rcases h with h | ⟨r, hr, -⟩
      · exact h
      · exact absurd hr (Nat.not_lt_zero r)⟩
  | i + 1 => by
    have ih := tmk_tb (t0 := t0) (Q := Q) (u := u) i
    have e : tmk t0 Q (i + 1) = if Q i = 12 then tmk t0 Q i else tmk t0 Q i ||| 2 ^ Q i := rfl
    rw [e]
    by_cases h : Q i = 12
    · rw [if_pos h, ih]
      constructor
      · rintro (z | ⟨r, r1, r2⟩)
        · exact Or.inl z
        · exact Or.inr ⟨r, by omega, r2⟩
      · rintro (z | ⟨r, r1, r2, r3⟩)
        · exact Or.inl z
        · have : r ≠ i := fun z => r2 (by rw [z]; exact h)
          exact Or.inr ⟨r, by omega, r2, r3⟩
    · rw [if_neg h, tb_or, ih]
      constructor
      · rintro ((z | ⟨r, r1, r2⟩) | z)
        · exact Or.inl z
        · exact Or.inr ⟨r, by omega, r2⟩
        · exact Or.inr ⟨i, by omega, h, z⟩
      · rintro (z | ⟨r, r1, r2, r3⟩)
        · exact Or.inl (Or.inl z)
        · by_cases e2 : r = i
          · rw [e2] at r3; exact Or.inr r3
          · exact Or.inl (Or.inr ⟨r, by omega, r2, r3⟩)
theorem tmk_onc {t0 : Nat} {Q : Nat → Nat} : ∀ i, (∀ r, r < i → Q r ≠ 12 → Q r < 12 ∧ ¬ tb (tmk t0 Q r) (Q r)) → (onc (tmk t0 Q i) : Int) = onc t0 + cn i Q
  | 0, _ => by
    show (onc t0 : Int) = onc t0 + 0
    omega
  | i + 1, h => by
    have ih := tmk_onc (t0 := t0) (Q := Q) i (fun r hr => h r (by omega))
    have e : tmk t0 Q (i + 1) = if Q i = 12 then tmk t0 Q i else tmk t0 Q i ||| 2 ^ Q i := rfl
    have e2 : cn (i + 1) Q = cn i Q + (if Q i = 12 then 0 else 1) := rfl
    rw [e, e2]
    by_cases hq : Q i = 12
    · rw [if_pos hq, if_pos hq]; omega
    · rw [if_neg hq, if_neg hq]
      obtain ⟨g1, g2⟩ := h i (by omega) hq
      rw [onc_or g1 g2]
      omega
/-- the class's costs by rows -/
noncomputable def CR (a : wA) (U NC rr : Nat) : Nat → Nat → Int := fun r u => cif (r < rwC a rr NC) (ccn a U (rho a rr NC r) u) 0
section LK
variable {a aM : wA} {U NC rs rr : Nat}
theorem CR_form (hs : SC a U NC) {r u : Nat} (h : r < rwC a rr NC ∧ u < U ∧ ¬ fixU a u ∧ vCan a u (rho a rr NC r)) : CR a U NC rr r u = rkR a NC rr r * (-100000000) + svR a NC rr r u ∧ 0 ≤ svR a NC rr r u ∧ svR a NC rr r u ≤ 899991 ∧ 0 ≤ (vSec a u (rho a rr NC r)).toInt ∧ (vSec a u (rho a rr NC r)).toInt ≤ 99999 := by
  have hU := hs.1
  have h1 := rkR_bd hs h.1
  have h2 := can_sec hs (show u < 12 by omega) (rows_in h.1).1 h.2.2.2
  have h3 := ws_bd h1.1 h1.2 h2.1 h2.2
  refine ⟨?_, h3.1, h3.2, h2⟩
  unfold CR ccn
  rw [cif_p h.1, cif_p ⟨h.2.1, h.2.2.1, h.2.2.2⟩]
  show rkR a NC rr r * ((vSec a u (rho a rr NC r)).toInt - 100000000) = rkR a NC rr r * (-100000000) + rkR a NC rr r * (vSec a u (rho a rr NC r)).toInt
  rw [Int.sub_eq_add_neg, Int.mul_add]
  omega
theorem CR_al (hs : SC a U NC) {r u : Nat} : al (CR a U NC rr) r u ↔ r < rwC a rr NC ∧ u < U ∧ ¬ fixU a u ∧ vCan a u (rho a rr NC r) := by
  constructor
  · intro h
    by_cases hr : r < rwC a rr NC
    · by_cases hz : u < U ∧ ¬ fixU a u ∧ vCan a u (rho a rr NC r)
      · exact ⟨hr, hz⟩
      · refine absurd ?_ h
        unfold CR ccn
        rw [cif_p hr, cif_n hz]
    · refine absurd ?_ h
      unfold CR
      rw [cif_n hr]
  · intro h
    obtain ⟨e, e1, e2, -⟩ := CR_form hs h
    have h1 := rkR_bd hs h.1
    unfold al
    rw [e]
    omega
theorem CR_bd (hs : SC a U NC) (r u : Nat) : -900000000 ≤ CR a U NC rr r u ∧ CR a U NC rr r u ≤ 0 := by
  by_cases h : al (CR a U NC rr) r u
  · obtain ⟨e, e1, e2, -⟩ := CR_form hs ((CR_al hs).mp h)
    have h1 := rkR_bd hs ((CR_al hs).mp h).1
    rw [e]
    omega
  · have e : CR a U NC rr r u = 0 := Classical.not_not.mp h
    rw [e]
    omega
noncomputable def wtR (a : wA) (NC rr : Nat) : Nat → Int := fun r => cif (r < rwC a rr NC) (rkR a NC rr r) 1
noncomputable def sxR (a : wA) (NC rr : Nat) : Nat → Nat → Int := fun r u => (vSec a u (rho a rr NC r)).toInt
theorem wtR_bd (hs : SC a U NC) (r : Nat) : 1 ≤ wtR a NC rr r ∧ wtR a NC rr r ≤ 9 := by
  unfold wtR
  by_cases h : r < rwC a rr NC
  · rw [cif_p h]; exact rkR_bd hs h
  · rw [cif_n h]; omega
theorem CR_ws (hs : SC a U NC) (r u : Nat) (h : CR a U NC rr r u ≠ 0) : CR a U NC rr r u = wtR a NC rr r * (-100000000) + wtR a NC rr r * sxR a NC rr r u ∧ 0 ≤ sxR a NC rr r u ∧ sxR a NC rr r u ≤ 99999 := by
  have hh := (CR_al hs).mp h
  obtain ⟨e, e1, e2, e3⟩ := CR_form hs hh
  refine ⟨?_, e3⟩
  unfold wtR
  rw [cif_p hh.1, e]
  rfl
theorem CR_cw (hs : SC a U NC) : CW (CR a U NC rr) := ⟨wtR a NC rr, sxR a NC rr, wtR_bd hs, CR_ws hs⟩
theorem ky_CR (hs : SC a U NC) {Q : Nat → Nat} (hQ : okP (rwC a rr NC) (al (CR a U NC rr)) Q) : ky (rwC a rr NC) (CR a U NC rr) Q = ky (rwC a rr NC) (fun r _ => rkR a NC rr r) Q * (-100000000) + ky (rwC a rr NC) (svR a NC rr) Q ∧ 0 ≤ ky (rwC a rr NC) (svR a NC rr) Q ∧ ky (rwC a rr NC) (svR a NC rr) Q ≤ 8999910 := by
  have hR : rwC a rr NC ≤ 10 := by have := rwC_le a rr NC; have := hs.2.1; omega
  have e1 := ky_C (CR_ws (rr := rr) hs) hQ
  have e2 := ky_S hR (wtR_bd (rr := rr) hs) (CR_ws hs) hQ
  have e3 : ky (rwC a rr NC) (fun r u => wtR a NC rr r * sxR a NC rr r u) Q = ky (rwC a rr NC) (svR a NC rr) Q := sm_congr (fun r hr => by
    unfold kyf wtR
    dsimp only
    rw [cif_p hr]
    rfl)
  have e4 : ky (rwC a rr NC) (fun r _ => wtR a NC rr r) Q = ky (rwC a rr NC) (fun r _ => rkR a NC rr r) Q := sm_congr (fun r hr => by
    unfold kyf wtR
    dsimp only
    rw [cif_p hr])
  rw [e3] at e1 e2
  rw [e4] at e1
  exact ⟨e1, e2⟩
/-- what the reference counts -/
theorem scf_R {Q : Nat → Nat} : scf (svR a NC rr) (rkR a NC rr) Q (rwC a rr NC) 0 = ky (rwC a rr NC) (svR a NC rr) Q + (sm (rkR a NC rr) (rwC a rr NC) - ky (rwC a rr NC) (fun r _ => rkR a NC rr r) Q) * 1000000000000 := by
  rw [scf_sm]
  have e : sm (rcf (svR a NC rr) (rkR a NC rr) Q) (rwC a rr NC) = sm (fun r => kyf (svR a NC rr) Q r + (rkR a NC rr r - kyf (fun r _ => rkR a NC rr r) Q r) * 1000000000000) (rwC a rr NC) := sm_congr (fun r _ => by
    show (if Q r = 12 then 1000000000000 * rkR a NC rr r else svR a NC rr r (Q r)) = (if Q r = 12 then 0 else svR a NC rr r (Q r)) + (rkR a NC rr r - if Q r = 12 then 0 else rkR a NC rr r) * 1000000000000
    by_cases h : Q r = 12
    · rw [if_pos h, if_pos h, if_pos h]; omega
    · rw [if_neg h, if_neg h, if_neg h]; omega)
  rw [e, sm_add, sm_mul, sm_sub]
  rfl
theorem fx_tb (hs : SC a U NC) (hf : iFill a aM U NC) {u : Nat} (hu : u < 12) : tb (fxm a NC) u ↔ fixU a u := by
  have hU := hs.1
  have hNC := hs.2.1
  rw [fxm_tb]
  constructor
  · rintro ⟨n, n1, n2, n3⟩
    have := n2.2
    rw [n3] at this
    exact this
  · intro h
    rcases hf.un hU hNC hu with z | ⟨n, n1, n2, n3, -⟩
    · exact absurd z.1 h.2.1
    · refine ⟨n, n1, ⟨by rw [n3]; exact m1ne (by omega), ?_⟩, by rw [n3, nI_clamp (by omega)]⟩
      rw [n3, nI_clamp (by omega)]
      exact h
theorem mst_spr (hs : SC a U NC) (hf : iFill a aM U NC) : mst a U rs = spr a U rs + onc (fxm a NC) := by
  have hU := hs.1
  have hNC := hs.2.1
  have e1 : onc (fxm a NC) = ucn (fixU a) 12 := ucn_congr (fun i hi => fx_tb hs hf hi)
  have e2 : ucn (fixU a) 12 = ucn (fixU a) U := ucn_ext hU (fun i h1 h2 z => by
    rcases hf.un hU hNC h2 with y | ⟨n, -, -, -, -, n5, -⟩
    · exact z.2.1 y.1
    · omega)
  have e3 := ucn_split (p := fun u => a 2 u = 0) (q := fixU a) (k := U) (fun i _ z => z.2.2.1)
  unfold mst spr
  omega
def mayAll (a : wA) (U NC rs rr : Nat) (Q : Nat → Nat) : Prop := ∀ r, r < rwC a rr NC → Q r ≠ 12 → Q r < U ∧ mayR a U NC rs rr r (Q r) (tmk (fxm a NC) Q r)
theorem may_ok (hs : SC a U NC) (hf : iFill a aM U NC) {Q : Nat → Nat} (hQ : mayAll a U NC rs rr Q) : okP (rwC a rr NC) (al (CR a U NC rr)) Q ∧ vld (rwC a rr NC) (unbC a rr NC) (max (spr a U rs) 0) Q := by
  have hU := hs.1
  have hB := unb_le a rr NC
  have hlt : ∀ r, r < rwC a rr NC → Q r ≠ 12 → Q r < 12 ∧ ¬ tb (tmk (fxm a NC) Q r) (Q r) := fun r hr hne => by
    obtain ⟨g1, g2⟩ := hQ r hr hne
    exact ⟨by omega, g2.1⟩
  refine ⟨⟨fun r hr => ?_, ?_⟩, ?_⟩
  · by_cases e : Q r = 12
    · exact Or.inl e
    · obtain ⟨g1, g2, g3, g4⟩ := hQ r hr e
      refine Or.inr ⟨by omega, (CR_al hs).mpr ⟨hr, g1, fun z => g2 ((tmk_tb r).mpr (Or.inl ((fx_tb hs hf (by omega)).mpr z))), g3⟩⟩
  · have key : ∀ r q, r < q → q < rwC a rr NC → Q r = Q q → Q r ≠ 12 → False := fun r q h1 h2 h3 h4 => by
      have g := (hlt q h2 (by rw [← h3]; exact h4)).2
      exact g ((tmk_tb q).mpr (Or.inr ⟨r, h1, h4, h3⟩))
    intro r q hr hq e1 e2
    by_cases h1 : r < q
    · exact (key r q h1 hq e1 e2).elim
    · by_cases h2 : q < r
      · exact (key q r h2 hr e1.symm (by rw [← e1]; exact e2)).elim
      · omega
  · have claim : ∀ k, unbC a rr NC + k ≤ rwC a rr NC → (∀ r, unbC a rr NC ≤ r → r < unbC a rr NC + k → Q r = 12) ∨ cn (unbC a rr NC + k) Q ≤ spr a U rs := by
      intro k
      induction k with
      | zero => exact fun _ => Or.inl (fun r h1 h2 => by omega)
      | succ k ih =>
        intro hk
        have e2 : cn (unbC a rr NC + (k + 1)) Q = cn (unbC a rr NC + k) Q + (if Q (unbC a rr NC + k) = 12 then 0 else 1) := rfl
        by_cases e : Q (unbC a rr NC + k) = 12
        · rw [if_pos e] at e2
          rcases ih (by omega) with z | z
          · left
            intro r h1 h2
            by_cases er : r = unbC a rr NC + k
            · rw [er]; exact e
            · exact z r h1 (by omega)
          · right; omega
        · rw [if_neg e] at e2
          right
          obtain ⟨g1, g2, g3, g4⟩ := hQ (unbC a rr NC + k) (by omega) e
          have hb := (rows_hi (a := a) (rr := rr) (NC := NC) (r := unbC a rr NC + k) (by omega) (by omega)).2.2.2
          have ho := tmk_onc (t0 := fxm a NC) (Q := Q) (unbC a rr NC + k) (fun r hr hne => hlt r (by omega) hne)
          have hm := mst_spr (rs := rs) hs hf
          rcases g4 with g4 | g4
          · exact absurd hb g4
          · omega
    rcases claim (rwC a rr NC - unbC a rr NC) (by omega) with z | z
    · right
      intro r h1 h2
      exact z r h1 (by omega)
    · left
      rw [show unbC a rr NC + (rwC a rr NC - unbC a rr NC) = rwC a rr NC by omega] at z
      omega
theorem cn_mono {Q : Nat → Nat} {k : Nat} : ∀ {m : Nat}, k ≤ m → cn k Q ≤ cn m Q
  | 0, h => by
    have : k = 0 := by omega
    rw [this]; exact Int.le_refl _
  | m + 1, h => by
    by_cases e : k = m + 1
    · rw [e]; exact Int.le_refl _
    · have ih := cn_mono (Q := Q) (k := k) (m := m) (by omega)
      have e2 : cn (m + 1) Q = cn m Q + (if Q m = 12 then 0 else 1) := rfl
      by_cases hq : Q m = 12
      · rw [if_pos hq] at e2; omega
      · rw [if_neg hq] at e2; omega
theorem ok_may (hs : SC a U NC) (hf : iFill a aM U NC) {Q : Nat → Nat} (hQ : okP (rwC a rr NC) (al (CR a U NC rr)) Q) (hv : vld (rwC a rr NC) (unbC a rr NC) (max (spr a U rs) 0) Q) : mayAll a U NC rs rr Q := by
  have hU := hs.1
  have hal : ∀ r, r < rwC a rr NC → Q r ≠ 12 → Q r < U ∧ ¬ fixU a (Q r) ∧ vCan a (Q r) (rho a rr NC r) := fun r hr hne => by
    rcases hQ.1 r hr with z | z
    · exact absurd z hne
    · exact ((CR_al hs).mp z.2).2
  have hnt : ∀ r, r < rwC a rr NC → Q r ≠ 12 → Q r < 12 ∧ ¬ tb (tmk (fxm a NC) Q r) (Q r) := fun r hr hne => by
    obtain ⟨g1, g2, g3⟩ := hal r hr hne
    refine ⟨by omega, fun z => ?_⟩
    rcases (tmk_tb r).mp z with y | ⟨q, q1, q2, q3⟩
    · exact g2 ((fx_tb hs hf (by omega)).mp y)
    · have := hQ.2 q r (by omega) hr q3 q2
      omega
  intro r hr hne
  obtain ⟨g1, g2, g3⟩ := hal r hr hne
  refine ⟨g1, (hnt r hr hne).2, g3, ?_⟩
  by_cases hb : r < unbC a rr NC
  · exact Or.inl (rows_lo hb).2.2.2
  · right
    rcases hv with hv | hv
    · have ho := tmk_onc (t0 := fxm a NC) (Q := Q) r (fun q hq hn => hnt q (by omega) hn)
      have hm := mst_spr (rs := rs) hs hf
      have e2 : cn (r + 1) Q = cn r Q + (if Q r = 12 then 0 else 1) := rfl
      rw [if_neg hne] at e2
      have h1 := cn_mono (Q := Q) (k := r + 1) (m := rwC a rr NC) (by omega)
      have h2 := cn_nonneg r Q
      omega
    · exact absurd (hv r (by omega) hr) hne
/-- the class's best plan is what the reference takes -/
theorem plan_eq (hs : SC a U NC) (hf : iFill a aM U NC) {P : Nat → Nat} (hP : bstV (rwC a rr NC) (unbC a rr NC) (CR a U NC rr) (max (spr a U rs) 0) P) : (∀ r, r < rwC a rr NC → P r = grR a U NC rs rr r) ∧ scf (svR a NC rr) (rkR a NC rr) P (rwC a rr NC) 0 = lsR a U NC rs rr (rwC a rr NC) 0 (fxm a NC) := by
  have hU := hs.1
  have hR : rwC a rr NC ≤ 10 := by have := rwC_le a rr NC; have := hs.2.1; omega
  -- the same plan, with none behind the rows
  let P' : Nat → Nat := fun r => if r < rwC a rr NC then P r else 12
  have eP : ∀ r, r < rwC a rr NC → P' r = P r := fun r hr => if_pos hr
  have hok' : okP (rwC a rr NC) (al (CR a U NC rr)) P' := ⟨fun r hr => by rw [eP r hr]; exact hP.1.1 r hr, fun r q hr hq => by rw [eP r hr, eP q hq]; exact hP.1.2 r q hr hq⟩
  have hcn' : cn (rwC a rr NC) P' = cn (rwC a rr NC) P := sm_congr (fun r hr => by unfold cnf; rw [eP r hr])
  have hv' : vld (rwC a rr NC) (unbC a rr NC) (max (spr a U rs) 0) P' := by
    rcases hP.2.1 with z | z
    · exact Or.inl (by rw [hcn']; exact z)
    · exact Or.inr (fun r h1 h2 => by rw [eP r h2]; exact z r h1 h2)
  have hky' : ∀ w : Nat → Nat → Int, ky (rwC a rr NC) w P' = ky (rwC a rr NC) w P := fun w => sm_congr (fun r hr => by unfold kyf; rw [eP r hr])
  have hsc' : scf (svR a NC rr) (rkR a NC rr) P' (rwC a rr NC) 0 = scf (svR a NC rr) (rkR a NC rr) P (rwC a rr NC) 0 := by
    rw [scf_R, scf_R, hky', hky']
  have hP12 : ∀ r, P' r ≤ 12 := fun r => by
    by_cases h : r < rwC a rr NC
    · rw [eP r h]; exact hP.1.le r h
    · show (if r < rwC a rr NC then P r else 12) ≤ 12
      rw [if_neg h]; exact Nat.le_refl 12
  have hmay' := ok_may hs hf hok' hv'
  -- the reference's plan is one
  have hG : mayAll a U NC rs rr (grR a U NC rs rr) := fun r hr hne => by
    rcases grd_ok (may := mayR a U NC rs rr) (sv := svR a NC rr) (rk := rkR a NC rr) (R := rwC a rr NC) (t0 := fxm a NC) hU r with z | z
    · exact absurd z.1 hne
    · exact ⟨z.1, z.2.1.1⟩
  obtain ⟨hGok, hGv⟩ := may_ok hs hf hG
  have h1 := lst_le (may := mayR a U NC rs rr) (sv := svR a NC rr) (rk := rkR a NC rr) (U := U) (t0 := fxm a NC) (Q := P') (rwC a rr NC) 0 (fun r _ h2 h3 => hmay' r (by omega) h3)
  have h2 := grd_sc (may := mayR a U NC rs rr) (sv := svR a NC rr) (rk := rkR a NC rr) (R := rwC a rr NC) (t0 := fxm a NC) hU (rwC a rr NC) 0 (by omega)
  have h1' : lsR a U NC rs rr (rwC a rr NC) 0 (fxm a NC) ≤ scf (svR a NC rr) (rkR a NC rr) P' (rwC a rr NC) 0 := h1
  have h2' : lsR a U NC rs rr (rwC a rr NC) 0 (fxm a NC) = scf (svR a NC rr) (rkR a NC rr) (grR a U NC rs rr) (rwC a rr NC) 0 := h2
  have h3 := hP.2.2 (grR a U NC rs rr) hGok hGv
  rw [← hky', ky_W, ky_W] at h3
  obtain ⟨c1, c2, c3⟩ := ky_CR hs hok'
  obtain ⟨d1, d2, d3⟩ := ky_CR hs hGok
  have t1 := ky_T hR hok'.le
  have t2 := ky_T hR hGok.le
  have s1 := scf_R (a := a) (NC := NC) (rr := rr) (Q := P')
  have s2 := scf_R (a := a) (NC := NC) (rr := rr) (Q := grR a U NC rs rr)
  have hW : ky (rwC a rr NC) (fun r _ => rkR a NC rr r) P' = ky (rwC a rr NC) (fun r _ => rkR a NC rr r) (grR a U NC rs rr) := by omega
  have hS : ky (rwC a rr NC) (svR a NC rr) P' = ky (rwC a rr NC) (svR a NC rr) (grR a U NC rs rr) := by omega
  have hT : ky (rwC a rr NC) tieI P' ≤ ky (rwC a rr NC) tieI (grR a U NC rs rr) := by omega
  have hsc : scf (svR a NC rr) (rkR a NC rr) P' (rwC a rr NC) 0 = scf (svR a NC rr) (rkR a NC rr) (grR a U NC rs rr) (rwC a rr NC) 0 := by omega
  have main := grd_eq (may := mayR a U NC rs rr) (sv := svR a NC rr) (rk := rkR a NC rr) (R := rwC a rr NC) (t0 := fxm a NC) hU hR hP12 (fun r hr hne => hmay' r hr hne) (Int.le_of_eq hsc) hT
  exact ⟨fun r hr => by rw [← eP r hr]; exact main r hr, by rw [← hsc', hsc, h2']⟩
/-- the present plan: no unit twice -/
theorem prs_inj (hs : SC a U NC) (hf : iFill a aM U NC) : inj (rwC a rr NC) (prs a rr NC) := by
  have hU := hs.1
  have hNC := hs.2.1
  intro r q hr hq e1 e2
  obtain ⟨r1, r2, r3⟩ := prs_en hs hr
  obtain ⟨q1, q2, q3⟩ := prs_en hs hq
  have hu : prs a rr NC r < U := r3 e2
  rw [en_n e2] at r1
  rw [← e1, en_n e2] at q1
  obtain ⟨f1, -⟩ := hf.of hU hNC hu
  have g1 := f1 _ (rows_in hr).1 ((((hf.1 _ (by have := (rows_in hr).1; omega)).1 (rows_in hr).1).1).trans r1)
  have g2 := f1 _ (rows_in hq).1 ((((hf.1 _ (by have := (rows_in hq).1; omega)).1 (rows_in hq).1).1).trans q1)
  have := ninj (by have := (rows_in hr).1; omega) (by have := (rows_in hq).1; omega) (g1.symm.trans g2)
  exact rows_inj hr hq this
theorem prs_ok (hs : SC a U NC) (hf : iFill a aM U NC) : ((∀ r, r < rwC a rr NC → prs a rr NC r ≠ 12 → al (CR a U NC rr) r (prs a rr NC r)) ∧ vld (rwC a rr NC) (unbC a rr NC) (max (spr a U rs) 0) (prs a rr NC)) ↔ ∀ r, r < rwC a rr NC → prs a rr NC r ≠ 12 → mayR a U NC rs rr r (prs a rr NC r) (tmk (fxm a NC) (prs a rr NC) r) := by
  have hU := hs.1
  constructor
  · rintro ⟨h1, h2⟩ r hr hne
    refine (ok_may hs hf ⟨fun q hq => ?_, prs_inj hs hf⟩ h2 r hr hne).2
    obtain ⟨-, q2, q3⟩ := prs_en hs hq
    by_cases e : prs a rr NC q = 12
    · exact Or.inl e
    · exact Or.inr ⟨by omega, h1 q hq e⟩
  · intro h
    obtain ⟨g1, g2⟩ := may_ok hs hf (Q := prs a rr NC) (rs := rs) (fun r hr hne => ⟨(prs_en hs hr).2.2 hne, h r hr hne⟩)
    refine ⟨fun r hr hne => ?_, g2⟩
    rcases g1.1 r hr with z | z
    · exact absurd z hne
    · exact z.2
/-- whether the present plan stays -/
theorem keep_iff (hs : SC a U NC) (hf : iFill a aM U NC) {P : Nat → Nat} (hP : bstV (rwC a rr NC) (unbC a rr NC) (CR a U NC rr) (max (spr a U rs) 0) P) (h1 : ∀ r, r < rwC a rr NC → prs a rr NC r ≠ 12 → al (CR a U NC rr) r (prs a rr NC r)) (h2 : vld (rwC a rr NC) (unbC a rr NC) (max (spr a U rs) 0) (prs a rr NC)) {k : Int} (hk1 : 1 ≤ k) (hk : k ≤ 1000000) :
    (ky (rwC a rr NC) (CR a U NC rr) (prs a rr NC) - ky (rwC a rr NC) (CR a U NC rr) P < k ↔ (scf (svR a NC rr) (rkR a NC rr) (prs a rr NC) (rwC a rr NC) 0 / 1000000000000 = lsR a U NC rs rr (rwC a rr NC) 0 (fxm a NC) / 1000000000000 ∧ scf (svR a NC rr) (rkR a NC rr) (prs a rr NC) (rwC a rr NC) 0 - lsR a U NC rs rr (rwC a rr NC) 0 (fxm a NC) < k)) ∧ 0 ≤ scf (svR a NC rr) (rkR a NC rr) (prs a rr NC) (rwC a rr NC) 0 ∧ scf (svR a NC rr) (rkR a NC rr) (prs a rr NC) (rwC a rr NC) 0 ≤ 100000000000000 := by
  have hU := hs.1
  have hR : rwC a rr NC ≤ 10 := by have := rwC_le a rr NC; have := hs.2.1; omega
  have hQ : okP (rwC a rr NC) (al (CR a U NC rr)) (prs a rr NC) := ⟨fun q hq => by
    obtain ⟨-, q2, q3⟩ := prs_en hs hq
    by_cases e : prs a rr NC q = 12
    · exact Or.inl e
    · exact Or.inr ⟨by omega, h1 q hq e⟩, prs_inj hs hf⟩
  obtain ⟨-, e⟩ := plan_eq hs hf hP
  rw [← e, scf_R, scf_R]
  obtain ⟨c1, c2, c3⟩ := ky_CR hs hP.1
  obtain ⟨d1, d2, d3⟩ := ky_CR hs hQ
  have h3 := hP.2.2 _ hQ h2
  rw [ky_W, ky_W] at h3
  have t1 := ky_T hR hP.1.le
  have t2 := ky_T hR hQ.le
  have w0 : 0 ≤ ky (rwC a rr NC) (fun r _ => rkR a NC rr r) (prs a rr NC) ∧ ky (rwC a rr NC) (fun r _ => rkR a NC rr r) (prs a rr NC) ≤ sm (rkR a NC rr) (rwC a rr NC) ∧ sm (rkR a NC rr) (rwC a rr NC) ≤ 90 := by
    refine ⟨?_, sm_le (fun r hr => ?_), ?_⟩
    · have g : sm (fun _ => 0) (rwC a rr NC) ≤ sm (kyf (fun r _ => rkR a NC rr r) (prs a rr NC)) (rwC a rr NC) := sm_le (fun r hr => by
        have := rkR_bd hs hr
        show (0 : Int) ≤ if prs a rr NC r = 12 then 0 else rkR a NC rr r
        by_cases z : prs a rr NC r = 12
        · rw [if_pos z]; omega
        · rw [if_neg z]; omega)
      rw [sm_zero] at g
      exact g
    · have := rkR_bd hs hr
      show (if prs a rr NC r = 12 then 0 else rkR a NC rr r) ≤ rkR a NC rr r
      by_cases z : prs a rr NC r = 12
      · rw [if_pos z]; omega
      · rw [if_neg z]; omega
    · have g : sm (rkR a NC rr) (rwC a rr NC) ≤ sm (fun _ => 1 * 9) (rwC a rr NC) := sm_le (fun r hr => by have := rkR_bd hs hr; omega)
      rw [sm_mul 9 (fun _ => 1), sm_one] at g
      omega
  refine ⟨?_, by omega, by omega⟩
  constructor
  · intro z
    constructor
    · omega
    · omega
  · rintro ⟨z1, z2⟩
    omega
end LK
