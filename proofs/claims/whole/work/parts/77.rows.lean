/-! the rows by number; spare units; the present plan; taking a plan over; counting -/
theorem getD_el {L : List Nat} {r : Nat} (h : r < L.length) : L.getD r 0 = L[r] := by
  rw [List.getD_eq_getElem?_getD, List.getElem?_eq_getElem h]
  rfl
noncomputable def rho (a : wA) (rr NC : Nat) : Nat → Nat := fun r => (rowsL a rr NC).getD r 0
noncomputable def rwC (a : wA) (rr NC : Nat) : Nat := (rowsL a rr NC).length
theorem unb_le (a : wA) (rr NC : Nat) : unbC a rr NC ≤ rwC a rr NC := by
  unfold unbC rwC rowsL
  rw [List.length_append]
  omega
theorem rwC_le (a : wA) (rr NC : Nat) : rwC a rr NC ≤ NC := by
  have := pk01_len a rr NC
  unfold rwC rowsL
  rw [List.length_append]
  exact this
theorem rows_lo {a : wA} {rr NC r : Nat} (h : r < unbC a rr NC) : rho a rr NC r < NC ∧ pk0 a rr (rho a rr NC r) := by
  have h' : r < (rl (pk0 a rr) NC).length := h
  have e : rho a rr NC r = (rl (pk0 a rr) NC)[r] := by
    unfold rho rowsL
    rw [List.getD_eq_getElem?_getD, List.getElem?_append_left h', List.getElem?_eq_getElem h']
    rfl
  rw [e]
  exact (mem_rl NC).mp (List.getElem_mem h')
theorem rows_hi {a : wA} {rr NC r : Nat} (h : unbC a rr NC ≤ r) (h2 : r < rwC a rr NC) : rho a rr NC r < NC ∧ pk1 a rr (rho a rr NC r) := by
  have h' : (rl (pk0 a rr) NC).length ≤ r := h
  have h3 : r - (rl (pk0 a rr) NC).length < (rl (pk1 a rr) NC).length := by
    unfold rwC rowsL at h2
    rw [List.length_append] at h2
    omega
  have e : rho a rr NC r = (rl (pk1 a rr) NC)[r - (rl (pk0 a rr) NC).length] := by
    unfold rho rowsL
    rw [List.getD_eq_getElem?_getD, List.getElem?_append_right h', List.getElem?_eq_getElem h3]
    rfl
  rw [e]
  exact (mem_rl NC).mp (List.getElem_mem h3)
theorem rows_in {a : wA} {rr NC r : Nat} (h : r < rwC a rr NC) : rho a rr NC r < NC ∧ ¬ vOp a (rho a rr NC r) = 0 ∧ ¬ fixN a (rho a rr NC r) := by
  by_cases e : r < unbC a rr NC
  · have := rows_lo e
    exact ⟨this.1, this.2.1, this.2.2.1⟩
  · have := rows_hi (by omega) h
    exact ⟨this.1, this.2.1, this.2.2.1⟩
theorem rowsL_nodup (a : wA) (rr NC : Nat) : (rowsL a rr NC).Nodup := List.nodup_append.mpr ⟨nodup_rl NC, nodup_rl NC, fun x hx y hy e => by
    have h1 := (mem_rl (p := pk0 a rr) NC).mp hx
    have h2 := (mem_rl (p := pk1 a rr) NC).mp hy
    rw [← e] at h2
    exact h1.2.2.2 h2.2.2.2⟩
theorem rows_inj {a : wA} {rr NC r q : Nat} (h : r < rwC a rr NC) (h2 : q < rwC a rr NC) (e : rho a rr NC r = rho a rr NC q) : r = q := by
  unfold rho at e
  rw [getD_el h, getD_el h2] at e
  exact (List.getElem_inj (rowsL_nodup a rr NC)).mp e
theorem rows_all {a : wA} {rr NC n : Nat} (hn : n < NC) (h1 : ¬ vOp a n = 0) (h2 : ¬ fixN a n) : ∃ r, r < rwC a rr NC ∧ rho a rr NC r = n := by
  have hm : n ∈ rowsL a rr NC := by
    unfold rowsL
    rw [List.mem_append]
    by_cases e : vRk a n < nI rr
    · exact Or.inr ((mem_rl NC).mpr ⟨hn, h1, h2, e⟩)
    · exact Or.inl ((mem_rl NC).mpr ⟨hn, h1, h2, e⟩)
  obtain ⟨i, hi, e⟩ := List.mem_iff_getElem.mp hm
  refine ⟨i, hi, ?_⟩
  unfold rho
  rw [getD_el hi]
  exact e
/-- how many below k -/
noncomputable def ucn (p : Nat → Prop) : Nat → Nat
  | 0 => 0
  | k + 1 => cif (p k) (ucn p k + 1) (ucn p k)
theorem ucn_y {p : Nat → Prop} {k : Nat} (h : p k) : ucn p (k + 1) = ucn p k + 1 := cif_p h
theorem ucn_n {p : Nat → Prop} {k : Nat} (h : ¬ p k) : ucn p (k + 1) = ucn p k := cif_n h
theorem ucn_le {p : Nat → Prop} : ∀ k, ucn p k ≤ k
  | 0 => Nat.le_refl 0
  | k + 1 => by
    have := ucn_le (p := p) k
    by_cases h : p k
    · rw [ucn_y h]; omega
    · rw [ucn_n h]; omega
theorem ucn_congr {p q : Nat → Prop} : ∀ {k : Nat}, (∀ i, i < k → (p i ↔ q i)) → ucn p k = ucn q k
  | 0, _ => rfl
  | k + 1, h => by
    have ih := ucn_congr (p := p) (q := q) (k := k) (fun i hi => h i (by omega))
    by_cases e : p k
    · rw [ucn_y e, ucn_y ((h k (by omega)).mp e), ih]
    · rw [ucn_n e, ucn_n (fun z => e ((h k (by omega)).mpr z)), ih]
theorem nI_int (n : Nat) : nI n = Int32.ofInt n := Int32.ofInt_eq_ofNat.symm
/-- how many units a plan may have that gives one to a bound row -/
noncomputable def spr (a : wA) (U rs : Nat) : Int := (ucn (fun u => a 2 u = 0 ∧ ¬ fixU a u) U : Int) - rs
section SP
variable {f : wF} {a : wA} {b : wB} {U NC rr rs : Nat}
theorem S_spareUnits {po : Int32 → wF → wA → wB → Prop} (hs : SC a U NC) (hU : f 0 = nI U) (hr : f 3 = nI rs) (h : po (Int32.ofInt (spr a U rs)) f a b) : wp_S_spareUnits po f a b := by
  have hU12 := hs.1
  refine pk_loop (σ := Int32) (fun m k s => wp_S_spareUnits_8 po m s (nI k) f a b) (fun k s => s = Int32.ofInt ((ucn (fun u => a 2 u = 0 ∧ ¬ fixU a u) k : Int) - rs)) U 0 (-(f 3)) (by omega) ?_ ?_ ?_
  · rw [hr, nI_int, ← Int32.ofInt_neg]
    show _ = Int32.ofInt (((0 : Nat) : Int) - rs)
    rw [show (((0 : Nat) : Int) - rs) = -(rs : Int) by omega]
  · intro m s e
    exact pk_le U U (fun _ => by rw [e]; exact h) (fun y => absurd y (by omega)) hU
  · intro m k s hk e ih
    refine pk_le U k (fun y => absurd y (by omega)) (fun _ => ⟨vp_in_nI (by omega) (by decide), ?_⟩) hU
    rw [nI_clamp (n := k) (by omega)]
    have hno : ¬ (a 2 k = 0 ∧ ¬ fixU a k) → wp_S_spareUnits_8 po m s (nI k + 1) f a b := fun hz => by
      rw [nI_1]
      exact ih s (by rw [e, ucn_n (p := fun u => a 2 u = 0 ∧ ¬ fixU a u) hz])
    refine ⟨fun c => hno (fun z => c z.1), fun c => S_isFixed hs (by omega) (fun hf => iN' n10 (hno (fun z => z.2 hf))) (fun hf => ip' rfl ?_)⟩
    show wp_S_spareUnits_8 po m (s + 1) (nI k + 1) f a b
    rw [nI_1]
    refine ih (s + 1) ?_
    rw [e, ucn_y (p := fun u => a 2 u = 0 ∧ ¬ fixU a u) ⟨c, hf⟩, show (1 : Int32) = Int32.ofInt 1 by decide, ← Int32.ofInt_add]
    rw [show (ucn (fun u => a 2 u = 0 ∧ ¬ fixU a u) k : Int) - rs + 1 = ((ucn (fun u => a 2 u = 0 ∧ ¬ fixU a u) k + 1 : Nat) : Int) - rs by omega]
theorem spr_int (hU : U ≤ 12) (hr : rs ≤ 12) : (Int32.ofInt (spr a U rs)).toInt = spr a U rs ∧ -12 ≤ spr a U rs ∧ spr a U rs ≤ 12 := by
  have h1 := ucn_le (p := fun u => a 2 u = 0 ∧ ¬ fixU a u) U
  have h2 : -12 ≤ spr a U rs ∧ spr a U rs ≤ 12 := by unfold spr; omega
  exact ⟨Int32.toInt_ofInt_of_le (by omega) (by omega), h2⟩
/-- the present plan -/
noncomputable def prs (a : wA) (rr NC : Nat) : Nat → Nat := fun r => if a 22 (rho a rr NC r) = -1 then 12 else (a 22 (rho a rr NC r)).toNatClampNeg
theorem prs_en (hs : SC a U NC) {r : Nat} (hr : r < rwC a rr NC) : a 22 (rho a rr NC r) = en 12 (prs a rr NC r) ∧ prs a rr NC r ≤ 12 ∧ (prs a rr NC r ≠ 12 → prs a rr NC r < U) := by
  have hU := hs.1
  unfold prs
  rcases (hs.2.2.1 _ (rows_in hr).1).2.2.2.2 with z | ⟨u, u1, u2⟩
  · rw [if_pos z, en_m]; exact ⟨z, Nat.le_refl 12, fun y => absurd rfl y⟩
  · have hne : ¬ a 22 (rho a rr NC r) = -1 := by rw [u2]; exact m1ne (by omega)
    rw [if_neg hne, u2, nI_clamp (by omega), en_n (by omega)]
    exact ⟨rfl, by omega, fun _ => u1⟩
theorem P_presentIsPlan {po : Int32 → wF → wA → wB → Prop} {C : Nat → Nat → Int} {P : Nat → Nat} {R B : Nat} {x1 : Int32} (hf5 : f 5 = nI R) (hf6 : f 6 = nI B) (hB : B ≤ R) (hR : R ≤ 10) (hb : ∀ r u, r < 10 → u < 12 → b (27 + r) u = Int64.ofInt (C r u)) (hC2 : ∀ r u, r < 10 → u < 12 → -900000000 ≤ C r u ∧ C r u ≤ 0) (ha : ∀ r, r < R → a 50 r = en 12 (P r) ∧ P r ≤ 12)
    (h1 : (∀ r, r < R → P r ≠ 12 → al C r (P r)) → vld R B (max x1.toInt 0) P → po 1 f a b) (h0 : ¬ ((∀ r, r < R → P r ≠ 12 → al C r (P r)) ∧ vld R B (max x1.toInt 0) P) → po 0 f a b) : wp_P_presentIsPlan po x1 f a b := by
  refine pk_loop (σ := Int32 × Int32) (fun m k s => wp_P_presentIsPlan_7 po m x1 s.1 s.2 (nI k) f a b) (fun k s => ∃ c d : Nat, s.1 = nI c ∧ s.2 = nI d ∧ cn k P = (c : Int) ∧ c ≤ k ∧ d ≤ k ∧ (d = 0 ↔ ∀ r, B ≤ r → r < k → P r = 12) ∧ ∀ r, r < k → P r ≠ 12 → al C r (P r)) R 0 (0, 0) (by omega) ⟨0, 0, rfl, rfl, rfl, Nat.le_refl 0, Nat.le_refl 0, ⟨fun _ r _ hr => absurd hr (Nat.not_lt_zero r), fun _ => rfl⟩, fun r hr => absurd hr (Nat.not_lt_zero r)⟩ ?_ ?_
  · rintro m ⟨x, y⟩ ⟨c, d, e1, e2, e3, e4, e5, e6, e7⟩
    have e1' : x = nI c := e1
    have e2' : y = nI d := e2
    refine pk_le R R (fun _ => ?_) (fun y => absurd y (by omega)) hf5
    show (y = 0 → _) ∧ (¬ y = 0 → (x1 < x → _) ∧ (¬ x1 < x → _))
    rw [e1', e2', Int32.lt_iff_toInt_lt, nI_toInt (by omega)]
    refine ⟨fun z => ⟨zb1, h1 e7 (Or.inr ?_)⟩, fun z => ⟨fun z2 => ⟨zb0, h0 (fun q => ?_)⟩, fun z2 => ⟨zb1, h1 e7 (Or.inl (by omega))⟩⟩⟩
    · have : d = 0 := ninj (by omega) (by decide) z
      exact fun r q1 q2 => e6.mp this r q1 q2
    · rcases q.2 with q | q
      · have hd : d ≠ 0 := fun hd => z (by rw [hd]; rfl)
        have hc : c ≠ 0 := by
          intro hc
          refine hd (e6.mpr (fun r q1 q2 => ?_))
          by_cases e : P r = 12
          · exact e
          · have g : sm (fun i => if i = r then (1 : Int) else 0) R ≤ sm (cnf P) R := sm_le (fun i _ => by
              show (if i = r then (1 : Int) else 0) ≤ if P i = 12 then 0 else 1
              by_cases ei : i = r
              · rw [if_pos ei, ei, if_neg e]; exact Int.le_refl 1
              · rw [if_neg ei]
                by_cases ep : P i = 12
                · rw [if_pos ep]; exact Int.le_refl 0
                · rw [if_neg ep]; decide)
            rw [sm_upd (f := fun _ => 0) (x := 1) q2, sm_zero] at g
            have : cn R P = sm (cnf P) R := rfl
            omega
        omega
      · have := e6.mpr q
        exact z (by rw [this]; rfl)
  · rintro m k ⟨x, y⟩ hk ⟨c, d, e1, e2, e3, e4, e5, e6, e7⟩ ih
    have e1' : x = nI c := e1
    have e2' : y = nI d := e2
    obtain ⟨g1, g2⟩ := ha k hk
    refine pk_le R k (fun y => absurd y (by omega)) (fun _ => ⟨vp_in_nI (by omega) (by decide), ?_⟩) hf5
    rw [nI_clamp (n := k) (by omega), g1, en_iff (by omega)]
    refine ⟨fun z => ?_, fun z => ?_⟩
    · show wp_P_presentIsPlan_7 po m x1 x y (nI k + 1) f a b
      rw [nI_1]
      refine ih (x, y) ⟨c, d, e1, e2, ?_, by omega, by omega, ⟨fun q r q1 q2 => ?_, fun q => e6.mpr (fun r q1 q2 => q r q1 (by omega))⟩, fun r hr hne => ?_⟩
      · show cn k P + cnf P k = c
        rw [show cnf P k = 0 from if_pos z]; omega
      · by_cases e : r = k
        · rw [e]; exact z
        · exact e6.mp q r q1 (by omega)
      · by_cases e : r = k
        · rw [e] at hne; exact absurd z hne
        · exact e7 r (by omega) hne
    · have hcb := hC2 k (P k) (by omega) (by omega)
      rw [en_n z, nI_clamp (n := P k) (by omega), lg_cmp_eq, hb k (P k) (by omega) (by omega), show (0 : Int64) = Int64.ofInt 0 by decide, i64_eq (by unfold sml; omega) (by unfold sml; omega)]
      refine ⟨vp_in_nI (by omega) (by decide), vp_in_nI (by omega) (by decide), fun z2 => ?_, fun z2 => ⟨zb0, h0 (fun q => q.1 k hk z z2)⟩⟩
      have hcn : cn (k + 1) P = ((c + 1 : Nat) : Int) := by
        show cn k P + cnf P k = _
        rw [show cnf P k = 1 from if_neg z]; omega
      refine pk_lt k B (fun q => ?_) (fun q => ?_) rfl hf6
      · show wp_P_presentIsPlan_7 po m x1 (x + 1) (y + 0) (nI k + 1) f a b
        rw [nI_1, Int32.add_zero, e1', nI_1]
        refine ih (nI (c + 1), y) ⟨c + 1, d, rfl, e2, hcn, by omega, by omega, ⟨fun q3 r q1 q2 => ?_, fun q3 => e6.mpr (fun r q1 q2 => q3 r q1 (by omega))⟩, fun r hr hne => ?_⟩
        · exact e6.mp q3 r q1 (by omega)
        · by_cases e : r = k
          · rw [e]; exact z2
          · exact e7 r (by omega) hne
      · show wp_P_presentIsPlan_7 po m x1 (x + 1) (y + 1) (nI k + 1) f a b
        rw [nI_1, e1', e2', nI_1, nI_1]
        refine ih (nI (c + 1), nI (d + 1)) ⟨c + 1, d + 1, rfl, rfl, hcn, by omega, by omega, ⟨fun q3 => by omega, fun q3 => absurd (q3 k q (by omega)) z⟩, fun r hr hne => ?_⟩
        by_cases e : r = k
        · rw [e]; exact z2
        · exact e7 r (by omega) hne
def fr50 (a a' : wA) : Prop := ∀ j, j ≠ 50 → a' j = a j
theorem S_presentStays {po : Int32 → wF → wA → wB → Prop} {a0 : wA} {C : Nat → Nat → Int} {P : Nat → Nat} {B : Nat} {x1 x2 : Int32} (hs : SC a0 U NC) (hfr : fr23 a0 a) (h25 : ∀ r, r < rwC a0 rr NC → a 25 r = nI (rho a0 rr NC r)) (hf5 : f 5 = nI (rwC a0 rr NC)) (hf6 : f 6 = nI B) (hB : B ≤ rwC a0 rr NC) (hb : ∀ r u, r < 10 → u < 12 → b (27 + r) u = Int64.ofInt (C r u)) (hC2 : ∀ r u, r < 10 → u < 12 → -900000000 ≤ C r u ∧ C r u ≤ 0) (ha : ∀ r, r < rwC a0 rr NC → a 48 r = en 12 (P r) ∧ P r ≤ 12)
    (h1 : ∀ a', fr50 a a' → (∀ r, r < rwC a0 rr NC → prs a0 rr NC r ≠ 12 → al C r (prs a0 rr NC r)) → vld (rwC a0 rr NC) B (max x1.toInt 0) (prs a0 rr NC) → ky (rwC a0 rr NC) C (prs a0 rr NC) - ky (rwC a0 rr NC) C P < x2.toInt → po 1 f a' b)
    (h0 : ∀ a', fr50 a a' → ¬ ((∀ r, r < rwC a0 rr NC → prs a0 rr NC r ≠ 12 → al C r (prs a0 rr NC r)) ∧ vld (rwC a0 rr NC) B (max x1.toInt 0) (prs a0 rr NC) ∧ ky (rwC a0 rr NC) C (prs a0 rr NC) - ky (rwC a0 rr NC) C P < x2.toInt) → po 0 f a' b) : wp_S_presentStays po x1 x2 f a b := by
  have hR : rwC a0 rr NC ≤ 10 := by have := rwC_le a0 rr NC; have := hs.2.1; omega
  refine pk_loop (σ := wA) (fun m k s => wp_S_presentStays_2 po m x1 x2 (nI k) f s b) (fun k s => fr50 a s ∧ ∀ r, r < k → s 50 r = en 12 (prs a0 rr NC r)) (rwC a0 rr NC) 0 a (by omega) ⟨fun _ _ => rfl, fun r hr => absurd hr (Nat.not_lt_zero r)⟩ ?_ ?_
  · intro m s ⟨q1, q2⟩
    refine pk_le (rwC a0 rr NC) (rwC a0 rr NC) (fun _ => ?_) (fun y => absurd y (by omega)) hf5
    have hA : ∀ r, r < rwC a0 rr NC → s 50 r = en 12 (prs a0 rr NC r) ∧ prs a0 rr NC r ≤ 12 := fun r hr => ⟨q2 r hr, (prs_en hs hr).2.1⟩
    have hA2 : ∀ r, r < rwC a0 rr NC → s 48 r = en 12 (P r) ∧ P r ≤ 12 := fun r hr => by rw [q1 48 (by decide)]; exact ha r hr
    refine P_presentIsPlan hf5 hf6 hB hR hb hC2 hA (fun z1 z2 => iN n10 ?_) (fun z => ip rfl ⟨zb0, h0 s q1 (fun y => z ⟨y.1, y.2.1⟩)⟩)
    refine P_total_26_50 hf5 hR hb hA (P_total_26_48 hf5 hR hb hA2 ?_)
    have l1 := kyC_lb hR hC2 (fun r hr => (hA r hr).2)
    have l2 := kyC_lb hR hC2 (fun r hr => (hA2 r hr).2)
    unfold lb at l1 l2
    have hx := Int32.toInt_lt x2
    have hx' := Int32.le_toInt x2
    dsimp only
    rw [lg_cmp_ge, i32_64, ← Int64.ofInt_sub, i64_le (by unfold sml; omega) (by unfold sml; omega)]
    exact ⟨fun c => ⟨zb0, h0 s q1 (fun y => absurd y.2.2 (by omega))⟩, fun c => ⟨zb1, h1 s q1 z1 z2 (by omega)⟩⟩
  · intro m k s hk ⟨q1, q2⟩ ih
    refine pk_le (rwC a0 rr NC) k (fun y => absurd y (by omega)) (fun _ => ?_) hf5
    have hrin := (rows_in (a := a0) (rr := rr) (NC := NC) hk).1
    have hNC := hs.2.1
    show vp_in (nI k) 10 ∧ vp_in (s 25 (nI k).toNatClampNeg) 10 ∧ vp_in (nI k) 10 ∧ _
    rw [nI_clamp (n := k) (by omega), q1 25 (by decide), h25 k hk, nI_clamp (n := rho a0 rr NC k) (by omega), q1 22 (by decide), hfr 22 (by decide)]
    refine ⟨vp_in_nI (by omega) (by decide), vp_in_nI (by omega) (by decide), vp_in_nI (by omega) (by decide), ?_⟩
    rw [nI_1, (prs_en hs hk).1]
    refine ih _ ⟨fun j hj => (va_up_ne _ _ hj).trans (q1 j hj), fun r hr => ?_⟩
    rw [va_up_self]
    by_cases e : r = k
    · subst e; rw [pk_us]
    · rw [pk_un e]; exact q2 r (by omega)
end SP
