set_option maxHeartbeats 4000000 in
set_option maxRecDepth 100000 in
theorem law_unit {p : Program} {l : Launch} {e : Env} {s : State} {m : MethodId} {below : List Frame} {meth : Method} {c : Code} {D : va_G} {sa : Nat → Nat} {ad : Nat → Nat} {ca : Nat → ClassId} {bs L : Nat} {xs : Nat → Int32} {I : wF → wA → wB → wF → wA → wB → Prop} (hok : okc_unit I) (X : cx Wl (tyS ca) txS D vwCl sa (fun q : Nat => s.heap.size ≤ q) p l s m #[Value.ref bs] meth c code 7 "SendBestLaw") (hX : va_X bs L xs s s.heap) (hbl : bs < s.heap.size) {c0 s0 : Nat} (hc0 : c0 + 8 ≤ 601024) (hs0 : s0 + 48 ≤ 7293034) {x4 : Int32} (h1 : vp_in (x4 + (1 : Int32)) L) (h2 : vp_in (x4 + (2 : Int32)) L) (h3 : vp_in (x4 + (3 : Int32)) L)
    (hJ : ∀ (fS : wF) (aS : wA) (bS : wB) (fM : wF) (aM : wA) (bM : wB), I fS aS bS fM aM bM → ∀ (H : Heap) (locs : List Loc), wd nL9 kL9 D vwCl ad ca (fun q : Nat => s.heap.size ≤ q) s H locs (jF fS fM) (jA aS aM) (jB bS bM) → ∀ (ls : Array Slot), lv_has ls 7 [(0, .ref bs), (1, .ref (ad 0)), (2, .ref (ad 58)), (3, .ref (ad 57)), (4, .int x4)] → W p l e room_1 s m #[Value.ref bs] below meth c H locs (c0 + 8) (s0 + 48) (lw_Z below #[Value.ref bs] s) (F0 m 1064 ls []))
    (fS : wF) (aS : wA) (bS : wB) (fM : wF) (aM : wA) (bM : wB) (hI : I fS aS bS fM aM bM) {H : Heap} {locs : List Loc} (K : wd nL9 kL9 D vwCl ad ca (fun q : Nat => s.heap.size ≤ q) s H locs (jF fS fM) (jA aS aM) (jB bS bM)) {ls : Array Slot} (hl : lv_has ls 7 [(0, .ref bs), (1, .ref (ad 0)), (2, .ref (ad 58)), (3, .ref (ad 57)), (4, .int x4)]) : W p l e room_1 s m #[Value.ref bs] below meth c H locs c0 s0 (lw_Z below #[Value.ref bs] s) (F0 m 120 ls []) := by
  obtain ⟨hx, hb, hml, hown, hts, hK, hA, hth, hlk, hl9⟩ := id X
  have hbA : ¬ (fun q : Nat => s.heap.size ≤ q) bs := Nat.not_le.mpr hbl
  refine lv_aload_n hx hb dL_law_120 rfl (lv_at hl 1 rfl) ?_
  refine lv_aload_n hx hb dL_law_121 rfl (lv_at hl 0 rfl) ?_
  refine lv_iload hx hb dL_law_122 (lv_at hl 4 rfl) ?_
  refine lv_iconst (v := (1 : Int32)) hx hb dL_law_124 (by decide) ?_
  refine lv_iadd hx hb dL_law_125 ?_
  refine va_sld hx hb hX hbl hbA K.2.2 h1 dL_law_126 ?_
  refine lv_aload_n hx hb dL_law_127 rfl (lv_at hl 3 rfl) ?_
  have hw := hok (xs (x4 + (1 : Int32)).toNatClampNeg) fS aS bS fM aM bM hI
  refine geSX X K (embW fS aS bS) (fun u1 => jF u1 fM) (fun u1 => jA u1 aM) (fun u1 => jB u1 bM) (fun u1 u2 u3 => embW u1 u2 u3) embWr (n0 := 3) (As := [.ref (ad 0), .int (xs (x4 + (1 : Int32)).toNatClampNeg), .ref (ad 57)]) (rest := []) (hM := met_L_unit hl9 D ad ca sa _ (xs (x4 + (1 : Int32)).toNatClampNeg) fS aS bS _ hw) (w1 := (tm1 (i := 134) rfl rfl)) (w2 := (tm1 (i := 135) rfl rfl)) (w4 := (tm1 (i := 0) rfl rfl)) (w5 := (tm1 (i := 136) rfl rfl)) (hd := ⟨by decide, by decide, by decide +kernel⟩) (hrc := rfl) (hrs := rfl) (hR := ⟨Nat.le_of_ble_eq_true rfl, Nat.le_of_ble_eq_true rfl⟩) (hn := rfl) (hsz := hl.1) (hst := rfl) (hW := Nat.le_of_ble_eq_true rfl) (hdg := dL_law_128) (hf := ⟨by show _ ≤ 601024; omega, by show _ ≤ 7293034; omega⟩) (fun _ _ _ _ _ _ _ _ hw => hw.elim) (fun k9 f1 a1 b1 H locs hw K => ?_)
  refine lv_istore (lv' := [(5, .int k9), (0, .ref bs), (1, .ref (ad 0)), (2, .ref (ad 58)), (3, .ref (ad 57)), (4, .int x4)]) hx hb dL_law_131 hl (by decide) rfl (fun ls hl => ?_)
  refine lv_aload_n hx hb dL_law_133 rfl (lv_at hl 3 rfl) ?_
  refine lv_aload_n hx hb dL_law_134 rfl (lv_at hl 1 rfl) ?_
  refine lv_iload hx hb dL_law_135 (lv_at hl 5 rfl) ?_
  refine lv_iconst (v := (1 : Int32)) hx hb dL_law_137 (by decide) ?_
  refine lv_iadd hx hb dL_law_138 ?_
  refine va_sld hx hb hX hbl hbA K.2.2 h1 dL_law_139 ?_
  refine geI X K (embM fM aM bM) (fun u1 => jF f1 u1) (fun u1 => jA a1 u1) (fun u1 => jB b1 u1) (fun u1 u2 u3 => embM u1 u2 u3) embMr (n0 := 1) (As := [.int (xs (x4 + (1 : Int32)).toNatClampNeg)]) (rest := []) (hM := met_M_unit hl9 D (fun k => ad (58 + k)) ca sa _ (xs (x4 + (1 : Int32)).toNatClampNeg) fM aM bM _ hw) (r0 := 0) (ho := by decide) (hko := kM_o0) (hci := rfl) (w1 := (tm3 (i := 165) rfl rfl)) (w2 := (tm3 (i := 166) rfl rfl)) (w3 := (tm3 (i := 167) rfl rfl)) (w4 := (tm1 (i := 4) rfl rfl)) (w5 := (tm3 (i := 168) rfl rfl)) (hd := ⟨rfl, by decide, by decide, by decide +kernel⟩) (hrc := rfl) (hrs := rfl) (hR := ⟨Nat.le_of_ble_eq_true rfl, Nat.le_of_ble_eq_true rfl⟩) (hn := rfl) (hsz := hl.1) (hst := rfl) (hW := Nat.le_of_ble_eq_true rfl) (hdg := dL_law_140) (hf := ⟨by show _ ≤ 601024; omega, by show _ ≤ 7293034; omega⟩) (fun _ _ _ _ _ _ _ _ hw => hw.elim) (fun r9 f2 a2 b2 H locs hw K => ?_)
  refine lv_istore (lv' := [(6, .int r9), (5, .int k9), (0, .ref bs), (1, .ref (ad 0)), (2, .ref (ad 58)), (3, .ref (ad 57)), (4, .int x4)]) hx hb dL_law_143 hl (by decide) rfl (fun ls hl => ?_)
  refine lv_aload_n hx hb dL_law_145 rfl (lv_at hl 4 rfl) ?_
  refine geI X K (embM f2 a2 b2) (fun u1 => jF f1 u1) (fun u1 => jA a1 u1) (fun u1 => jB b1 u1) (fun u1 u2 u3 => embM u1 u2 u3) embMr (n0 := 0) (As := []) (rest := []) (hM := met_M_thrown hl9 D (fun k => ad (58 + k)) ca sa _  f2 a2 b2 _ hw) (r0 := 0) (ho := by decide) (hko := kM_o0) (hci := rfl) (w1 := (tm3 (i := 161) rfl rfl)) (w2 := (tm3 (i := 162) rfl rfl)) (w3 := (tm3 (i := 163) rfl rfl)) (w4 := (tm1 (i := 4) rfl rfl)) (w5 := (tm3 (i := 164) rfl rfl)) (hd := ⟨rfl, by decide, by decide, by decide +kernel⟩) (hrc := rfl) (hrs := rfl) (hR := ⟨Nat.le_of_ble_eq_true rfl, Nat.le_of_ble_eq_true rfl⟩) (hn := rfl) (hsz := hl.1) (hst := rfl) (hW := Nat.le_of_ble_eq_true rfl) (hdg := dL_law_146) (hf := ⟨by show _ ≤ 601024; omega, by show _ ≤ 7293034; omega⟩) (fun _ _ _ _ _ _ _ _ hw => hw.elim) (fun t9 f3 a3 b3 H locs hw K => ?_)
  refine lv_iload hx hb dL_law_149 (lv_at hl 1 rfl) ?_
  refine lv_icmp_eq (tgt := 156) hx hb dL_law_151 (by decide) (fun hc => ?_) (fun hc => absurd hw.1 hc)
  refine lv_iload hx hb dL_law_156 (lv_at hl 1 rfl) ?_
  refine lv_if_ne (tgt := 173) hx hb dL_law_158 (by decide) (fun hk => ?_) (fun hk => ?_)
  · refine lv_goto (tgt := 1064) hx hb dL_law_173 (by decide) ?_
    refine W.widen (k := c0 + 8) (n := s0 + 48) (by omega) (by omega) ?_
    exact hJ f1 a1 b1 f3 a3 b3 hw.2.2 _ _ K _ (lv_sub hl [2, 3, 4, 5, 6] rfl)
  · refine lv_aload_n hx hb dL_law_161 rfl (lv_at hl 5 rfl) ?_
    refine lv_iconst (v := (0 : Int32)) hx hb dL_law_162 (by decide) ?_
    refine glld X K (o := 57) (t0 := 2) (by decide) ((kL_lo (by decide)).trans kW_c57) rfl (by unfold vp_in; decide) dL_law_163 ?_
    refine lv_iload hx hb dL_law_164 (lv_at hl 0 rfl) ?_
    refine lv_i2l (v := r9.toInt64) hx hb dL_law_166 rfl ?_
    refine W.lcmp hx hb dL_law_167 ?_
    refine lv_if_eq (tgt := 173) hx hb dL_law_168 (by decide) (fun _ => ?_) (fun hc => absurd (lg_self (hw.2.1 hk)) hc)
    refine lv_goto (tgt := 1064) hx hb dL_law_173 (by decide) ?_
    refine W.widen (k := c0 + 8) (n := s0 + 48) (by omega) (by omega) ?_
    exact hJ f1 a1 b1 f3 a3 b3 hw.2.2 _ _ K _ (lv_sub hl [2, 3, 4, 5, 6] rfl)
set_option maxHeartbeats 4000000 in
set_option maxRecDepth 100000 in
theorem law_incident {p : Program} {l : Launch} {e : Env} {s : State} {m : MethodId} {below : List Frame} {meth : Method} {c : Code} {D : va_G} {sa : Nat → Nat} {ad : Nat → Nat} {ca : Nat → ClassId} {bs L : Nat} {xs : Nat → Int32} {I : wF → wA → wB → wF → wA → wB → Prop} (hok : okc_incident I) (X : cx Wl (tyS ca) txS D vwCl sa (fun q : Nat => s.heap.size ≤ q) p l s m #[Value.ref bs] meth c code 7 "SendBestLaw") (hX : va_X bs L xs s s.heap) (hbl : bs < s.heap.size) {c0 s0 : Nat} (hc0 : c0 + 8 ≤ 601024) (hs0 : s0 + 48 ≤ 7293034) {x4 : Int32} (h1 : vp_in (x4 + (1 : Int32)) L) (h2 : vp_in (x4 + (2 : Int32)) L) (h3 : vp_in (x4 + (3 : Int32)) L)
    (hJ : ∀ (fS : wF) (aS : wA) (bS : wB) (fM : wF) (aM : wA) (bM : wB), I fS aS bS fM aM bM → ∀ (H : Heap) (locs : List Loc), wd nL9 kL9 D vwCl ad ca (fun q : Nat => s.heap.size ≤ q) s H locs (jF fS fM) (jA aS aM) (jB bS bM) → ∀ (ls : Array Slot), lv_has ls 7 [(0, .ref bs), (1, .ref (ad 0)), (2, .ref (ad 58)), (3, .ref (ad 57)), (4, .int x4)] → W p l e room_1 s m #[Value.ref bs] below meth c H locs (c0 + 8) (s0 + 48) (lw_Z below #[Value.ref bs] s) (F0 m 1064 ls []))
    (fS : wF) (aS : wA) (bS : wB) (fM : wF) (aM : wA) (bM : wB) (hI : I fS aS bS fM aM bM) {H : Heap} {locs : List Loc} (K : wd nL9 kL9 D vwCl ad ca (fun q : Nat => s.heap.size ≤ q) s H locs (jF fS fM) (jA aS aM) (jB bS bM)) {ls : Array Slot} (hl : lv_has ls 7 [(0, .ref bs), (1, .ref (ad 0)), (2, .ref (ad 58)), (3, .ref (ad 57)), (4, .int x4)]) : W p l e room_1 s m #[Value.ref bs] below meth c H locs c0 s0 (lw_Z below #[Value.ref bs] s) (F0 m 176 ls []) := by
  obtain ⟨hx, hb, hml, hown, hts, hK, hA, hth, hlk, hl9⟩ := id X
  have hbA : ¬ (fun q : Nat => s.heap.size ≤ q) bs := Nat.not_le.mpr hbl
  refine lv_aload_n hx hb dL_law_176 rfl (lv_at hl 1 rfl) ?_
  refine lv_aload_n hx hb dL_law_177 rfl (lv_at hl 0 rfl) ?_
  refine lv_iload hx hb dL_law_178 (lv_at hl 4 rfl) ?_
  refine lv_iconst (v := (1 : Int32)) hx hb dL_law_180 (by decide) ?_
  refine lv_iadd hx hb dL_law_181 ?_
  refine va_sld hx hb hX hbl hbA K.2.2 h1 dL_law_182 ?_
  refine lv_aload_n hx hb dL_law_183 rfl (lv_at hl 3 rfl) ?_
  have hw := hok (xs (x4 + (1 : Int32)).toNatClampNeg) fS aS bS fM aM bM hI
  refine geSX X K (embW fS aS bS) (fun u1 => jF u1 fM) (fun u1 => jA u1 aM) (fun u1 => jB u1 bM) (fun u1 u2 u3 => embW u1 u2 u3) embWr (n0 := 3) (As := [.ref (ad 0), .int (xs (x4 + (1 : Int32)).toNatClampNeg), .ref (ad 57)]) (rest := []) (hM := met_L_incident hl9 D ad ca sa _ (xs (x4 + (1 : Int32)).toNatClampNeg) fS aS bS _ hw) (w1 := (tm1 (i := 229) rfl rfl)) (w2 := (tm1 (i := 230) rfl rfl)) (w4 := (tm1 (i := 0) rfl rfl)) (w5 := (tm1 (i := 231) rfl rfl)) (hd := ⟨by decide, by decide, by decide +kernel⟩) (hrc := rfl) (hrs := rfl) (hR := ⟨Nat.le_of_ble_eq_true rfl, Nat.le_of_ble_eq_true rfl⟩) (hn := rfl) (hsz := hl.1) (hst := rfl) (hW := Nat.le_of_ble_eq_true rfl) (hdg := dL_law_184) (hf := ⟨by show _ ≤ 601024; omega, by show _ ≤ 7293034; omega⟩) (fun _ _ _ _ _ _ _ _ hw => hw.elim) (fun k9 f1 a1 b1 H locs hw K => ?_)
  refine lv_istore (lv' := [(5, .int k9), (0, .ref bs), (1, .ref (ad 0)), (2, .ref (ad 58)), (3, .ref (ad 57)), (4, .int x4)]) hx hb dL_law_187 hl (by decide) rfl (fun ls hl => ?_)
  refine lv_aload_n hx hb dL_law_189 rfl (lv_at hl 3 rfl) ?_
  refine lv_aload_n hx hb dL_law_190 rfl (lv_at hl 1 rfl) ?_
  refine lv_iload hx hb dL_law_191 (lv_at hl 5 rfl) ?_
  refine lv_iconst (v := (1 : Int32)) hx hb dL_law_193 (by decide) ?_
  refine lv_iadd hx hb dL_law_194 ?_
  refine va_sld hx hb hX hbl hbA K.2.2 h1 dL_law_195 ?_
  refine geI X K (embM fM aM bM) (fun u1 => jF f1 u1) (fun u1 => jA a1 u1) (fun u1 => jB b1 u1) (fun u1 u2 u3 => embM u1 u2 u3) embMr (n0 := 1) (As := [.int (xs (x4 + (1 : Int32)).toNatClampNeg)]) (rest := []) (hM := met_M_incident hl9 D (fun k => ad (58 + k)) ca sa _ (xs (x4 + (1 : Int32)).toNatClampNeg) fM aM bM _ hw) (r0 := 0) (ho := by decide) (hko := kM_o0) (hci := rfl) (w1 := (tm3 (i := 177) rfl rfl)) (w2 := (tm3 (i := 178) rfl rfl)) (w3 := (tm3 (i := 179) rfl rfl)) (w4 := (tm1 (i := 4) rfl rfl)) (w5 := (tm3 (i := 180) rfl rfl)) (hd := ⟨rfl, by decide, by decide, by decide +kernel⟩) (hrc := rfl) (hrs := rfl) (hR := ⟨Nat.le_of_ble_eq_true rfl, Nat.le_of_ble_eq_true rfl⟩) (hn := rfl) (hsz := hl.1) (hst := rfl) (hW := Nat.le_of_ble_eq_true rfl) (hdg := dL_law_196) (hf := ⟨by show _ ≤ 601024; omega, by show _ ≤ 7293034; omega⟩) (fun _ _ _ _ _ _ _ _ hw => hw.elim) (fun r9 f2 a2 b2 H locs hw K => ?_)
  refine lv_istore (lv' := [(6, .int r9), (5, .int k9), (0, .ref bs), (1, .ref (ad 0)), (2, .ref (ad 58)), (3, .ref (ad 57)), (4, .int x4)]) hx hb dL_law_199 hl (by decide) rfl (fun ls hl => ?_)
  refine lv_aload_n hx hb dL_law_201 rfl (lv_at hl 4 rfl) ?_
  refine geI X K (embM f2 a2 b2) (fun u1 => jF f1 u1) (fun u1 => jA a1 u1) (fun u1 => jB b1 u1) (fun u1 u2 u3 => embM u1 u2 u3) embMr (n0 := 0) (As := []) (rest := []) (hM := met_M_thrown hl9 D (fun k => ad (58 + k)) ca sa _  f2 a2 b2 _ hw) (r0 := 0) (ho := by decide) (hko := kM_o0) (hci := rfl) (w1 := (tm3 (i := 161) rfl rfl)) (w2 := (tm3 (i := 162) rfl rfl)) (w3 := (tm3 (i := 163) rfl rfl)) (w4 := (tm1 (i := 4) rfl rfl)) (w5 := (tm3 (i := 164) rfl rfl)) (hd := ⟨rfl, by decide, by decide, by decide +kernel⟩) (hrc := rfl) (hrs := rfl) (hR := ⟨Nat.le_of_ble_eq_true rfl, Nat.le_of_ble_eq_true rfl⟩) (hn := rfl) (hsz := hl.1) (hst := rfl) (hW := Nat.le_of_ble_eq_true rfl) (hdg := dL_law_202) (hf := ⟨by show _ ≤ 601024; omega, by show _ ≤ 7293034; omega⟩) (fun _ _ _ _ _ _ _ _ hw => hw.elim) (fun t9 f3 a3 b3 H locs hw K => ?_)
  refine lv_iload hx hb dL_law_205 (lv_at hl 1 rfl) ?_
  refine lv_icmp_eq (tgt := 212) hx hb dL_law_207 (by decide) (fun hc => ?_) (fun hc => absurd hw.1 hc)
  refine lv_iload hx hb dL_law_212 (lv_at hl 1 rfl) ?_
  refine lv_if_ne (tgt := 229) hx hb dL_law_214 (by decide) (fun hk => ?_) (fun hk => ?_)
  · refine lv_goto (tgt := 1064) hx hb dL_law_229 (by decide) ?_
    refine W.widen (k := c0 + 8) (n := s0 + 48) (by omega) (by omega) ?_
    exact hJ f1 a1 b1 f3 a3 b3 hw.2.2 _ _ K _ (lv_sub hl [2, 3, 4, 5, 6] rfl)
  · refine lv_aload_n hx hb dL_law_217 rfl (lv_at hl 5 rfl) ?_
    refine lv_iconst (v := (0 : Int32)) hx hb dL_law_218 (by decide) ?_
    refine glld X K (o := 57) (t0 := 2) (by decide) ((kL_lo (by decide)).trans kW_c57) rfl (by unfold vp_in; decide) dL_law_219 ?_
    refine lv_iload hx hb dL_law_220 (lv_at hl 0 rfl) ?_
    refine lv_i2l (v := r9.toInt64) hx hb dL_law_222 rfl ?_
    refine W.lcmp hx hb dL_law_223 ?_
    refine lv_if_eq (tgt := 229) hx hb dL_law_224 (by decide) (fun _ => ?_) (fun hc => absurd (lg_self (hw.2.1 hk)) hc)
    refine lv_goto (tgt := 1064) hx hb dL_law_229 (by decide) ?_
    refine W.widen (k := c0 + 8) (n := s0 + 48) (by omega) (by omega) ?_
    exact hJ f1 a1 b1 f3 a3 b3 hw.2.2 _ _ K _ (lv_sub hl [2, 3, 4, 5, 6] rfl)
set_option maxHeartbeats 4000000 in
set_option maxRecDepth 100000 in
theorem law_rank {p : Program} {l : Launch} {e : Env} {s : State} {m : MethodId} {below : List Frame} {meth : Method} {c : Code} {D : va_G} {sa : Nat → Nat} {ad : Nat → Nat} {ca : Nat → ClassId} {bs L : Nat} {xs : Nat → Int32} {I : wF → wA → wB → wF → wA → wB → Prop} (hok : okc_rank I) (X : cx Wl (tyS ca) txS D vwCl sa (fun q : Nat => s.heap.size ≤ q) p l s m #[Value.ref bs] meth c code 7 "SendBestLaw") (hX : va_X bs L xs s s.heap) (hbl : bs < s.heap.size) {c0 s0 : Nat} (hc0 : c0 + 8 ≤ 601024) (hs0 : s0 + 48 ≤ 7293034) {x4 : Int32} (h1 : vp_in (x4 + (1 : Int32)) L) (h2 : vp_in (x4 + (2 : Int32)) L) (h3 : vp_in (x4 + (3 : Int32)) L)
    (hJ : ∀ (fS : wF) (aS : wA) (bS : wB) (fM : wF) (aM : wA) (bM : wB), I fS aS bS fM aM bM → ∀ (H : Heap) (locs : List Loc), wd nL9 kL9 D vwCl ad ca (fun q : Nat => s.heap.size ≤ q) s H locs (jF fS fM) (jA aS aM) (jB bS bM) → ∀ (ls : Array Slot), lv_has ls 7 [(0, .ref bs), (1, .ref (ad 0)), (2, .ref (ad 58)), (3, .ref (ad 57)), (4, .int x4)] → W p l e room_1 s m #[Value.ref bs] below meth c H locs (c0 + 8) (s0 + 48) (lw_Z below #[Value.ref bs] s) (F0 m 1064 ls []))
    (fS : wF) (aS : wA) (bS : wB) (fM : wF) (aM : wA) (bM : wB) (hI : I fS aS bS fM aM bM) {H : Heap} {locs : List Loc} (K : wd nL9 kL9 D vwCl ad ca (fun q : Nat => s.heap.size ≤ q) s H locs (jF fS fM) (jA aS aM) (jB bS bM)) {ls : Array Slot} (hl : lv_has ls 7 [(0, .ref bs), (1, .ref (ad 0)), (2, .ref (ad 58)), (3, .ref (ad 57)), (4, .int x4)]) : W p l e room_1 s m #[Value.ref bs] below meth c H locs c0 s0 (lw_Z below #[Value.ref bs] s) (F0 m 232 ls []) := by
  obtain ⟨hx, hb, hml, hown, hts, hK, hA, hth, hlk, hl9⟩ := id X
  have hbA : ¬ (fun q : Nat => s.heap.size ≤ q) bs := Nat.not_le.mpr hbl
  refine lv_aload_n hx hb dL_law_232 rfl (lv_at hl 1 rfl) ?_
  refine lv_aload_n hx hb dL_law_233 rfl (lv_at hl 0 rfl) ?_
  refine lv_iload hx hb dL_law_234 (lv_at hl 4 rfl) ?_
  refine lv_iconst (v := (1 : Int32)) hx hb dL_law_236 (by decide) ?_
  refine lv_iadd hx hb dL_law_237 ?_
  refine va_sld hx hb hX hbl hbA K.2.2 h1 dL_law_238 ?_
  refine lv_aload_n hx hb dL_law_239 rfl (lv_at hl 0 rfl) ?_
  refine lv_iload hx hb dL_law_240 (lv_at hl 4 rfl) ?_
  refine lv_iconst (v := (2 : Int32)) hx hb dL_law_242 (by decide) ?_
  refine lv_iadd hx hb dL_law_243 ?_
  refine va_sld hx hb hX hbl hbA K.2.2 h2 dL_law_244 ?_
  have hw := hok (xs (x4 + (1 : Int32)).toNatClampNeg) (xs (x4 + (2 : Int32)).toNatClampNeg) fS aS bS fM aM bM hI
  refine geSX X K (embW fS aS bS) (fun u1 => jF u1 fM) (fun u1 => jA u1 aM) (fun u1 => jB u1 bM) (fun u1 u2 u3 => embW u1 u2 u3) embWr (n0 := 3) (As := [.ref (ad 0), .int (xs (x4 + (1 : Int32)).toNatClampNeg), .int (xs (x4 + (2 : Int32)).toNatClampNeg)]) (rest := []) (hM := met_L_rank hl9 D ad ca sa _ (xs (x4 + (1 : Int32)).toNatClampNeg) (xs (x4 + (2 : Int32)).toNatClampNeg) fS aS bS _ hw) (w1 := (tm2 (i := 1) rfl rfl)) (w2 := (tm2 (i := 2) rfl rfl)) (w4 := (tm1 (i := 0) rfl rfl)) (w5 := (tm2 (i := 3) rfl rfl)) (hd := ⟨by decide, by decide, by decide +kernel⟩) (hrc := rfl) (hrs := rfl) (hR := ⟨Nat.le_of_ble_eq_true rfl, Nat.le_of_ble_eq_true rfl⟩) (hn := rfl) (hsz := hl.1) (hst := rfl) (hW := Nat.le_of_ble_eq_true rfl) (hdg := dL_law_245) (hf := ⟨by show _ ≤ 601024; omega, by show _ ≤ 7293034; omega⟩) (fun _ _ _ _ _ _ _ _ hw => hw.elim) (fun k9 f1 a1 b1 H locs hw K => ?_)
  refine lv_istore (lv' := [(5, .int k9), (0, .ref bs), (1, .ref (ad 0)), (2, .ref (ad 58)), (3, .ref (ad 57)), (4, .int x4)]) hx hb dL_law_248 hl (by decide) rfl (fun ls hl => ?_)
  refine lv_aload_n hx hb dL_law_250 rfl (lv_at hl 3 rfl) ?_
  refine lv_aload_n hx hb dL_law_251 rfl (lv_at hl 1 rfl) ?_
  refine lv_iload hx hb dL_law_252 (lv_at hl 5 rfl) ?_
  refine lv_iconst (v := (1 : Int32)) hx hb dL_law_254 (by decide) ?_
  refine lv_iadd hx hb dL_law_255 ?_
  refine va_sld hx hb hX hbl hbA K.2.2 h1 dL_law_256 ?_
  refine lv_aload_n hx hb dL_law_257 rfl (lv_at hl 1 rfl) ?_
  refine lv_iload hx hb dL_law_258 (lv_at hl 5 rfl) ?_
  refine lv_iconst (v := (2 : Int32)) hx hb dL_law_260 (by decide) ?_
  refine lv_iadd hx hb dL_law_261 ?_
  refine va_sld hx hb hX hbl hbA K.2.2 h2 dL_law_262 ?_
  refine geV X K (embM fM aM bM) (fun u1 => jF f1 u1) (fun u1 => jA a1 u1) (fun u1 => jB b1 u1) (fun u1 u2 u3 => embM u1 u2 u3) embMr (n0 := 2) (As := [.int (xs (x4 + (1 : Int32)).toNatClampNeg), .int (xs (x4 + (2 : Int32)).toNatClampNeg)]) (rest := []) (hM := met_M_rank hl9 D (fun k => ad (58 + k)) ca sa _ (xs (x4 + (1 : Int32)).toNatClampNeg) (xs (x4 + (2 : Int32)).toNatClampNeg) fM aM bM _ hw) (r0 := 0) (ho := by decide) (hko := kM_o0) (hci := rfl) (w1 := (tm3 (i := 181) rfl rfl)) (w2 := (tm3 (i := 182) rfl rfl)) (w3 := (tm3 (i := 183) rfl rfl)) (w4 := (tm1 (i := 4) rfl rfl)) (w5 := (tm3 (i := 184) rfl rfl)) (hd := ⟨rfl, by decide, by decide, by decide +kernel⟩) (hrc := rfl) (hrs := rfl) (hR := ⟨Nat.le_of_ble_eq_true rfl, Nat.le_of_ble_eq_true rfl⟩) (hn := rfl) (hsz := hl.1) (hst := rfl) (hW := Nat.le_of_ble_eq_true rfl) (hdg := dL_law_263) (hf := ⟨by show _ ≤ 601024; omega, by show _ ≤ 7293034; omega⟩) (fun _ _ _ _ _ _ _ _ hw => hw.elim) (fun f2 a2 b2 H locs hw K => ?_)
  refine lv_aload_n hx hb dL_law_266 rfl (lv_at hl 3 rfl) ?_
  refine geI X K (embM f2 a2 b2) (fun u1 => jF f1 u1) (fun u1 => jA a1 u1) (fun u1 => jB b1 u1) (fun u1 u2 u3 => embM u1 u2 u3) embMr (n0 := 0) (As := []) (rest := []) (hM := met_M_thrown hl9 D (fun k => ad (58 + k)) ca sa _  f2 a2 b2 _ hw) (r0 := 0) (ho := by decide) (hko := kM_o0) (hci := rfl) (w1 := (tm3 (i := 161) rfl rfl)) (w2 := (tm3 (i := 162) rfl rfl)) (w3 := (tm3 (i := 163) rfl rfl)) (w4 := (tm1 (i := 4) rfl rfl)) (w5 := (tm3 (i := 164) rfl rfl)) (hd := ⟨rfl, by decide, by decide, by decide +kernel⟩) (hrc := rfl) (hrs := rfl) (hR := ⟨Nat.le_of_ble_eq_true rfl, Nat.le_of_ble_eq_true rfl⟩) (hn := rfl) (hsz := hl.1) (hst := rfl) (hW := Nat.le_of_ble_eq_true rfl) (hdg := dL_law_267) (hf := ⟨by show _ ≤ 601024; omega, by show _ ≤ 7293034; omega⟩) (fun _ _ _ _ _ _ _ _ hw => hw.elim) (fun t9 f3 a3 b3 H locs hw K => ?_)
  refine lv_iload hx hb dL_law_270 (lv_at hl 0 rfl) ?_
  refine lv_icmp_eq (tgt := 277) hx hb dL_law_272 (by decide) (fun hc => ?_) (fun hc => absurd hw.1 hc)
  refine lv_goto (tgt := 1064) hx hb dL_law_277 (by decide) ?_
  refine W.widen (k := c0 + 8) (n := s0 + 48) (by omega) (by omega) ?_
  exact hJ f1 a1 b1 f3 a3 b3 hw.2 _ _ K _ (lv_sub hl [1, 2, 3, 4, 5] rfl)
set_option maxHeartbeats 4000000 in
set_option maxRecDepth 100000 in
theorem law_need {p : Program} {l : Launch} {e : Env} {s : State} {m : MethodId} {below : List Frame} {meth : Method} {c : Code} {D : va_G} {sa : Nat → Nat} {ad : Nat → Nat} {ca : Nat → ClassId} {bs L : Nat} {xs : Nat → Int32} {I : wF → wA → wB → wF → wA → wB → Prop} (hok : okc_need I) (X : cx Wl (tyS ca) txS D vwCl sa (fun q : Nat => s.heap.size ≤ q) p l s m #[Value.ref bs] meth c code 7 "SendBestLaw") (hX : va_X bs L xs s s.heap) (hbl : bs < s.heap.size) {c0 s0 : Nat} (hc0 : c0 + 8 ≤ 601024) (hs0 : s0 + 48 ≤ 7293034) {x4 : Int32} (h1 : vp_in (x4 + (1 : Int32)) L) (h2 : vp_in (x4 + (2 : Int32)) L) (h3 : vp_in (x4 + (3 : Int32)) L)
    (hJ : ∀ (fS : wF) (aS : wA) (bS : wB) (fM : wF) (aM : wA) (bM : wB), I fS aS bS fM aM bM → ∀ (H : Heap) (locs : List Loc), wd nL9 kL9 D vwCl ad ca (fun q : Nat => s.heap.size ≤ q) s H locs (jF fS fM) (jA aS aM) (jB bS bM) → ∀ (ls : Array Slot), lv_has ls 7 [(0, .ref bs), (1, .ref (ad 0)), (2, .ref (ad 58)), (3, .ref (ad 57)), (4, .int x4)] → W p l e room_1 s m #[Value.ref bs] below meth c H locs (c0 + 8) (s0 + 48) (lw_Z below #[Value.ref bs] s) (F0 m 1064 ls []))
    (fS : wF) (aS : wA) (bS : wB) (fM : wF) (aM : wA) (bM : wB) (hI : I fS aS bS fM aM bM) {H : Heap} {locs : List Loc} (K : wd nL9 kL9 D vwCl ad ca (fun q : Nat => s.heap.size ≤ q) s H locs (jF fS fM) (jA aS aM) (jB bS bM)) {ls : Array Slot} (hl : lv_has ls 7 [(0, .ref bs), (1, .ref (ad 0)), (2, .ref (ad 58)), (3, .ref (ad 57)), (4, .int x4)]) : W p l e room_1 s m #[Value.ref bs] below meth c H locs c0 s0 (lw_Z below #[Value.ref bs] s) (F0 m 280 ls []) := by
  obtain ⟨hx, hb, hml, hown, hts, hK, hA, hth, hlk, hl9⟩ := id X
  have hbA : ¬ (fun q : Nat => s.heap.size ≤ q) bs := Nat.not_le.mpr hbl
  refine lv_aload_n hx hb dL_law_280 rfl (lv_at hl 1 rfl) ?_
  refine lv_aload_n hx hb dL_law_281 rfl (lv_at hl 0 rfl) ?_
  refine lv_iload hx hb dL_law_282 (lv_at hl 4 rfl) ?_
  refine lv_iconst (v := (1 : Int32)) hx hb dL_law_284 (by decide) ?_
  refine lv_iadd hx hb dL_law_285 ?_
  refine va_sld hx hb hX hbl hbA K.2.2 h1 dL_law_286 ?_
  refine lv_aload_n hx hb dL_law_287 rfl (lv_at hl 0 rfl) ?_
  refine lv_iload hx hb dL_law_288 (lv_at hl 4 rfl) ?_
  refine lv_iconst (v := (2 : Int32)) hx hb dL_law_290 (by decide) ?_
  refine lv_iadd hx hb dL_law_291 ?_
  refine va_sld hx hb hX hbl hbA K.2.2 h2 dL_law_292 ?_
  refine lv_aload_n hx hb dL_law_293 rfl (lv_at hl 0 rfl) ?_
  refine lv_iload hx hb dL_law_294 (lv_at hl 4 rfl) ?_
  refine lv_iconst (v := (3 : Int32)) hx hb dL_law_296 (by decide) ?_
  refine lv_iadd hx hb dL_law_297 ?_
  refine va_sld hx hb hX hbl hbA K.2.2 h3 dL_law_298 ?_
  refine lv_aload_n hx hb dL_law_299 rfl (lv_at hl 3 rfl) ?_
  have hw := hok (xs (x4 + (1 : Int32)).toNatClampNeg) (xs (x4 + (2 : Int32)).toNatClampNeg) (xs (x4 + (3 : Int32)).toNatClampNeg) fS aS bS fM aM bM hI
  refine geSX X K (embW fS aS bS) (fun u1 => jF u1 fM) (fun u1 => jA u1 aM) (fun u1 => jB u1 bM) (fun u1 u2 u3 => embW u1 u2 u3) embWr (n0 := 5) (As := [.ref (ad 0), .int (xs (x4 + (1 : Int32)).toNatClampNeg), .int (xs (x4 + (2 : Int32)).toNatClampNeg), .int (xs (x4 + (3 : Int32)).toNatClampNeg), .ref (ad 57)]) (rest := []) (hM := met_L_need hl9 D ad ca sa _ (xs (x4 + (1 : Int32)).toNatClampNeg) (xs (x4 + (2 : Int32)).toNatClampNeg) (xs (x4 + (3 : Int32)).toNatClampNeg) fS aS bS _ hw) (w1 := (tm2 (i := 50) rfl rfl)) (w2 := (tm2 (i := 51) rfl rfl)) (w4 := (tm1 (i := 0) rfl rfl)) (w5 := (tm2 (i := 52) rfl rfl)) (hd := ⟨by decide, by decide, by decide +kernel⟩) (hrc := rfl) (hrs := rfl) (hR := ⟨Nat.le_of_ble_eq_true rfl, Nat.le_of_ble_eq_true rfl⟩) (hn := rfl) (hsz := hl.1) (hst := rfl) (hW := Nat.le_of_ble_eq_true rfl) (hdg := dL_law_300) (hf := ⟨by show _ ≤ 601024; omega, by show _ ≤ 7293034; omega⟩) (fun _ _ _ _ _ _ _ _ hw => hw.elim) (fun k9 f1 a1 b1 H locs hw K => ?_)
  refine lv_istore (lv' := [(5, .int k9), (0, .ref bs), (1, .ref (ad 0)), (2, .ref (ad 58)), (3, .ref (ad 57)), (4, .int x4)]) hx hb dL_law_303 hl (by decide) rfl (fun ls hl => ?_)
  refine lv_aload_n hx hb dL_law_305 rfl (lv_at hl 3 rfl) ?_
  refine lv_aload_n hx hb dL_law_306 rfl (lv_at hl 1 rfl) ?_
  refine lv_iload hx hb dL_law_307 (lv_at hl 5 rfl) ?_
  refine lv_iconst (v := (1 : Int32)) hx hb dL_law_309 (by decide) ?_
  refine lv_iadd hx hb dL_law_310 ?_
  refine va_sld hx hb hX hbl hbA K.2.2 h1 dL_law_311 ?_
  refine lv_aload_n hx hb dL_law_312 rfl (lv_at hl 1 rfl) ?_
  refine lv_iload hx hb dL_law_313 (lv_at hl 5 rfl) ?_
  refine lv_iconst (v := (2 : Int32)) hx hb dL_law_315 (by decide) ?_
  refine lv_iadd hx hb dL_law_316 ?_
  refine va_sld hx hb hX hbl hbA K.2.2 h2 dL_law_317 ?_
  refine lv_aload_n hx hb dL_law_318 rfl (lv_at hl 1 rfl) ?_
  refine lv_iload hx hb dL_law_319 (lv_at hl 5 rfl) ?_
  refine lv_iconst (v := (3 : Int32)) hx hb dL_law_321 (by decide) ?_
  refine lv_iadd hx hb dL_law_322 ?_
  refine va_sld hx hb hX hbl hbA K.2.2 h3 dL_law_323 ?_
  refine geI X K (embM fM aM bM) (fun u1 => jF f1 u1) (fun u1 => jA a1 u1) (fun u1 => jB b1 u1) (fun u1 u2 u3 => embM u1 u2 u3) embMr (n0 := 3) (As := [.int (xs (x4 + (1 : Int32)).toNatClampNeg), .int (xs (x4 + (2 : Int32)).toNatClampNeg), .int (xs (x4 + (3 : Int32)).toNatClampNeg)]) (rest := []) (hM := met_M_need hl9 D (fun k => ad (58 + k)) ca sa _ (xs (x4 + (1 : Int32)).toNatClampNeg) (xs (x4 + (2 : Int32)).toNatClampNeg) (xs (x4 + (3 : Int32)).toNatClampNeg) fM aM bM _ hw) (r0 := 0) (ho := by decide) (hko := kM_o0) (hci := rfl) (w1 := (tm3 (i := 189) rfl rfl)) (w2 := (tm3 (i := 190) rfl rfl)) (w3 := (tm3 (i := 191) rfl rfl)) (w4 := (tm1 (i := 4) rfl rfl)) (w5 := (tm3 (i := 192) rfl rfl)) (hd := ⟨rfl, by decide, by decide, by decide +kernel⟩) (hrc := rfl) (hrs := rfl) (hR := ⟨Nat.le_of_ble_eq_true rfl, Nat.le_of_ble_eq_true rfl⟩) (hn := rfl) (hsz := hl.1) (hst := rfl) (hW := Nat.le_of_ble_eq_true rfl) (hdg := dL_law_324) (hf := ⟨by show _ ≤ 601024; omega, by show _ ≤ 7293034; omega⟩) (fun _ _ _ _ _ _ _ _ hw => hw.elim) (fun r9 f2 a2 b2 H locs hw K => ?_)
  refine lv_istore (lv' := [(6, .int r9), (5, .int k9), (0, .ref bs), (1, .ref (ad 0)), (2, .ref (ad 58)), (3, .ref (ad 57)), (4, .int x4)]) hx hb dL_law_327 hl (by decide) rfl (fun ls hl => ?_)
  refine lv_aload_n hx hb dL_law_329 rfl (lv_at hl 4 rfl) ?_
  refine geI X K (embM f2 a2 b2) (fun u1 => jF f1 u1) (fun u1 => jA a1 u1) (fun u1 => jB b1 u1) (fun u1 u2 u3 => embM u1 u2 u3) embMr (n0 := 0) (As := []) (rest := []) (hM := met_M_thrown hl9 D (fun k => ad (58 + k)) ca sa _  f2 a2 b2 _ hw) (r0 := 0) (ho := by decide) (hko := kM_o0) (hci := rfl) (w1 := (tm3 (i := 161) rfl rfl)) (w2 := (tm3 (i := 162) rfl rfl)) (w3 := (tm3 (i := 163) rfl rfl)) (w4 := (tm1 (i := 4) rfl rfl)) (w5 := (tm3 (i := 164) rfl rfl)) (hd := ⟨rfl, by decide, by decide, by decide +kernel⟩) (hrc := rfl) (hrs := rfl) (hR := ⟨Nat.le_of_ble_eq_true rfl, Nat.le_of_ble_eq_true rfl⟩) (hn := rfl) (hsz := hl.1) (hst := rfl) (hW := Nat.le_of_ble_eq_true rfl) (hdg := dL_law_330) (hf := ⟨by show _ ≤ 601024; omega, by show _ ≤ 7293034; omega⟩) (fun _ _ _ _ _ _ _ _ hw => hw.elim) (fun t9 f3 a3 b3 H locs hw K => ?_)
  refine lv_iload hx hb dL_law_333 (lv_at hl 1 rfl) ?_
  refine lv_icmp_eq (tgt := 340) hx hb dL_law_335 (by decide) (fun hc => ?_) (fun hc => absurd hw.1 hc)
  refine lv_iload hx hb dL_law_340 (lv_at hl 1 rfl) ?_
  refine lv_if_ne (tgt := 357) hx hb dL_law_342 (by decide) (fun hk => ?_) (fun hk => ?_)
  · refine lv_goto (tgt := 1064) hx hb dL_law_357 (by decide) ?_
    refine W.widen (k := c0 + 8) (n := s0 + 48) (by omega) (by omega) ?_
    exact hJ f1 a1 b1 f3 a3 b3 hw.2.2 _ _ K _ (lv_sub hl [2, 3, 4, 5, 6] rfl)
  · refine lv_aload_n hx hb dL_law_345 rfl (lv_at hl 5 rfl) ?_
    refine lv_iconst (v := (0 : Int32)) hx hb dL_law_346 (by decide) ?_
    refine glld X K (o := 57) (t0 := 2) (by decide) ((kL_lo (by decide)).trans kW_c57) rfl (by unfold vp_in; decide) dL_law_347 ?_
    refine lv_iload hx hb dL_law_348 (lv_at hl 0 rfl) ?_
    refine lv_i2l (v := r9.toInt64) hx hb dL_law_350 rfl ?_
    refine W.lcmp hx hb dL_law_351 ?_
    refine lv_if_eq (tgt := 357) hx hb dL_law_352 (by decide) (fun _ => ?_) (fun hc => absurd (lg_self (hw.2.1 hk)) hc)
    refine lv_goto (tgt := 1064) hx hb dL_law_357 (by decide) ?_
    refine W.widen (k := c0 + 8) (n := s0 + 48) (by omega) (by omega) ?_
    exact hJ f1 a1 b1 f3 a3 b3 hw.2.2 _ _ K _ (lv_sub hl [2, 3, 4, 5, 6] rfl)
set_option maxHeartbeats 4000000 in
set_option maxRecDepth 100000 in
theorem law_seconds {p : Program} {l : Launch} {e : Env} {s : State} {m : MethodId} {below : List Frame} {meth : Method} {c : Code} {D : va_G} {sa : Nat → Nat} {ad : Nat → Nat} {ca : Nat → ClassId} {bs L : Nat} {xs : Nat → Int32} {I : wF → wA → wB → wF → wA → wB → Prop} (hok : okc_seconds I) (X : cx Wl (tyS ca) txS D vwCl sa (fun q : Nat => s.heap.size ≤ q) p l s m #[Value.ref bs] meth c code 7 "SendBestLaw") (hX : va_X bs L xs s s.heap) (hbl : bs < s.heap.size) {c0 s0 : Nat} (hc0 : c0 + 8 ≤ 601024) (hs0 : s0 + 48 ≤ 7293034) {x4 : Int32} (h1 : vp_in (x4 + (1 : Int32)) L) (h2 : vp_in (x4 + (2 : Int32)) L) (h3 : vp_in (x4 + (3 : Int32)) L)
    (hJ : ∀ (fS : wF) (aS : wA) (bS : wB) (fM : wF) (aM : wA) (bM : wB), I fS aS bS fM aM bM → ∀ (H : Heap) (locs : List Loc), wd nL9 kL9 D vwCl ad ca (fun q : Nat => s.heap.size ≤ q) s H locs (jF fS fM) (jA aS aM) (jB bS bM) → ∀ (ls : Array Slot), lv_has ls 7 [(0, .ref bs), (1, .ref (ad 0)), (2, .ref (ad 58)), (3, .ref (ad 57)), (4, .int x4)] → W p l e room_1 s m #[Value.ref bs] below meth c H locs (c0 + 8) (s0 + 48) (lw_Z below #[Value.ref bs] s) (F0 m 1064 ls []))
    (fS : wF) (aS : wA) (bS : wB) (fM : wF) (aM : wA) (bM : wB) (hI : I fS aS bS fM aM bM) {H : Heap} {locs : List Loc} (K : wd nL9 kL9 D vwCl ad ca (fun q : Nat => s.heap.size ≤ q) s H locs (jF fS fM) (jA aS aM) (jB bS bM)) {ls : Array Slot} (hl : lv_has ls 7 [(0, .ref bs), (1, .ref (ad 0)), (2, .ref (ad 58)), (3, .ref (ad 57)), (4, .int x4)]) : W p l e room_1 s m #[Value.ref bs] below meth c H locs c0 s0 (lw_Z below #[Value.ref bs] s) (F0 m 360 ls []) := by
  obtain ⟨hx, hb, hml, hown, hts, hK, hA, hth, hlk, hl9⟩ := id X
  have hbA : ¬ (fun q : Nat => s.heap.size ≤ q) bs := Nat.not_le.mpr hbl
  refine lv_aload_n hx hb dL_law_360 rfl (lv_at hl 1 rfl) ?_
  refine lv_aload_n hx hb dL_law_361 rfl (lv_at hl 0 rfl) ?_
  refine lv_iload hx hb dL_law_362 (lv_at hl 4 rfl) ?_
  refine lv_iconst (v := (1 : Int32)) hx hb dL_law_364 (by decide) ?_
  refine lv_iadd hx hb dL_law_365 ?_
  refine va_sld hx hb hX hbl hbA K.2.2 h1 dL_law_366 ?_
  refine lv_aload_n hx hb dL_law_367 rfl (lv_at hl 0 rfl) ?_
  refine lv_iload hx hb dL_law_368 (lv_at hl 4 rfl) ?_
  refine lv_iconst (v := (2 : Int32)) hx hb dL_law_370 (by decide) ?_
  refine lv_iadd hx hb dL_law_371 ?_
  refine va_sld hx hb hX hbl hbA K.2.2 h2 dL_law_372 ?_
  refine lv_aload_n hx hb dL_law_373 rfl (lv_at hl 0 rfl) ?_
  refine lv_iload hx hb dL_law_374 (lv_at hl 4 rfl) ?_
  refine lv_iconst (v := (3 : Int32)) hx hb dL_law_376 (by decide) ?_
  refine lv_iadd hx hb dL_law_377 ?_
  refine va_sld hx hb hX hbl hbA K.2.2 h3 dL_law_378 ?_
  have hw := hok (xs (x4 + (1 : Int32)).toNatClampNeg) (xs (x4 + (2 : Int32)).toNatClampNeg) (xs (x4 + (3 : Int32)).toNatClampNeg) fS aS bS fM aM bM hI
  refine geSX X K (embW fS aS bS) (fun u1 => jF u1 fM) (fun u1 => jA u1 aM) (fun u1 => jB u1 bM) (fun u1 u2 u3 => embW u1 u2 u3) embWr (n0 := 4) (As := [.ref (ad 0), .int (xs (x4 + (1 : Int32)).toNatClampNeg), .int (xs (x4 + (2 : Int32)).toNatClampNeg), .int (xs (x4 + (3 : Int32)).toNatClampNeg)]) (rest := []) (hM := met_L_seconds hl9 D ad ca sa _ (xs (x4 + (1 : Int32)).toNatClampNeg) (xs (x4 + (2 : Int32)).toNatClampNeg) (xs (x4 + (3 : Int32)).toNatClampNeg) fS aS bS _ hw) (w1 := (tm2 (i := 63) rfl rfl)) (w2 := (tm2 (i := 64) rfl rfl)) (w4 := (tm1 (i := 0) rfl rfl)) (w5 := (tm2 (i := 65) rfl rfl)) (hd := ⟨by decide, by decide, by decide +kernel⟩) (hrc := rfl) (hrs := rfl) (hR := ⟨Nat.le_of_ble_eq_true rfl, Nat.le_of_ble_eq_true rfl⟩) (hn := rfl) (hsz := hl.1) (hst := rfl) (hW := Nat.le_of_ble_eq_true rfl) (hdg := dL_law_379) (hf := ⟨by show _ ≤ 601024; omega, by show _ ≤ 7293034; omega⟩) (fun _ _ _ _ _ _ _ _ hw => hw.elim) (fun k9 f1 a1 b1 H locs hw K => ?_)
  refine lv_istore (lv' := [(5, .int k9), (0, .ref bs), (1, .ref (ad 0)), (2, .ref (ad 58)), (3, .ref (ad 57)), (4, .int x4)]) hx hb dL_law_382 hl (by decide) rfl (fun ls hl => ?_)
  refine lv_aload_n hx hb dL_law_384 rfl (lv_at hl 3 rfl) ?_
  refine lv_aload_n hx hb dL_law_385 rfl (lv_at hl 1 rfl) ?_
  refine lv_iload hx hb dL_law_386 (lv_at hl 5 rfl) ?_
  refine lv_iconst (v := (1 : Int32)) hx hb dL_law_388 (by decide) ?_
  refine lv_iadd hx hb dL_law_389 ?_
  refine va_sld hx hb hX hbl hbA K.2.2 h1 dL_law_390 ?_
  refine lv_aload_n hx hb dL_law_391 rfl (lv_at hl 1 rfl) ?_
  refine lv_iload hx hb dL_law_392 (lv_at hl 5 rfl) ?_
  refine lv_iconst (v := (2 : Int32)) hx hb dL_law_394 (by decide) ?_
  refine lv_iadd hx hb dL_law_395 ?_
  refine va_sld hx hb hX hbl hbA K.2.2 h2 dL_law_396 ?_
  refine lv_aload_n hx hb dL_law_397 rfl (lv_at hl 1 rfl) ?_
  refine lv_iload hx hb dL_law_398 (lv_at hl 5 rfl) ?_
  refine lv_iconst (v := (3 : Int32)) hx hb dL_law_400 (by decide) ?_
  refine lv_iadd hx hb dL_law_401 ?_
  refine va_sld hx hb hX hbl hbA K.2.2 h3 dL_law_402 ?_
  refine geV X K (embM fM aM bM) (fun u1 => jF f1 u1) (fun u1 => jA a1 u1) (fun u1 => jB b1 u1) (fun u1 u2 u3 => embM u1 u2 u3) embMr (n0 := 3) (As := [.int (xs (x4 + (1 : Int32)).toNatClampNeg), .int (xs (x4 + (2 : Int32)).toNatClampNeg), .int (xs (x4 + (3 : Int32)).toNatClampNeg)]) (rest := []) (hM := met_M_seconds hl9 D (fun k => ad (58 + k)) ca sa _ (xs (x4 + (1 : Int32)).toNatClampNeg) (xs (x4 + (2 : Int32)).toNatClampNeg) (xs (x4 + (3 : Int32)).toNatClampNeg) fM aM bM _ hw) (r0 := 0) (ho := by decide) (hko := kM_o0) (hci := rfl) (w1 := (tm3 (i := 193) rfl rfl)) (w2 := (tm3 (i := 194) rfl rfl)) (w3 := (tm3 (i := 195) rfl rfl)) (w4 := (tm1 (i := 4) rfl rfl)) (w5 := (tm3 (i := 196) rfl rfl)) (hd := ⟨rfl, by decide, by decide, by decide +kernel⟩) (hrc := rfl) (hrs := rfl) (hR := ⟨Nat.le_of_ble_eq_true rfl, Nat.le_of_ble_eq_true rfl⟩) (hn := rfl) (hsz := hl.1) (hst := rfl) (hW := Nat.le_of_ble_eq_true rfl) (hdg := dL_law_403) (hf := ⟨by show _ ≤ 601024; omega, by show _ ≤ 7293034; omega⟩) (fun _ _ _ _ _ _ _ _ hw => hw.elim) (fun f2 a2 b2 H locs hw K => ?_)
  refine lv_aload_n hx hb dL_law_406 rfl (lv_at hl 3 rfl) ?_
  refine geI X K (embM f2 a2 b2) (fun u1 => jF f1 u1) (fun u1 => jA a1 u1) (fun u1 => jB b1 u1) (fun u1 u2 u3 => embM u1 u2 u3) embMr (n0 := 0) (As := []) (rest := []) (hM := met_M_thrown hl9 D (fun k => ad (58 + k)) ca sa _  f2 a2 b2 _ hw) (r0 := 0) (ho := by decide) (hko := kM_o0) (hci := rfl) (w1 := (tm3 (i := 161) rfl rfl)) (w2 := (tm3 (i := 162) rfl rfl)) (w3 := (tm3 (i := 163) rfl rfl)) (w4 := (tm1 (i := 4) rfl rfl)) (w5 := (tm3 (i := 164) rfl rfl)) (hd := ⟨rfl, by decide, by decide, by decide +kernel⟩) (hrc := rfl) (hrs := rfl) (hR := ⟨Nat.le_of_ble_eq_true rfl, Nat.le_of_ble_eq_true rfl⟩) (hn := rfl) (hsz := hl.1) (hst := rfl) (hW := Nat.le_of_ble_eq_true rfl) (hdg := dL_law_407) (hf := ⟨by show _ ≤ 601024; omega, by show _ ≤ 7293034; omega⟩) (fun _ _ _ _ _ _ _ _ hw => hw.elim) (fun t9 f3 a3 b3 H locs hw K => ?_)
  refine lv_iload hx hb dL_law_410 (lv_at hl 0 rfl) ?_
  refine lv_icmp_eq (tgt := 417) hx hb dL_law_412 (by decide) (fun hc => ?_) (fun hc => absurd hw.1 hc)
  refine lv_goto (tgt := 1064) hx hb dL_law_417 (by decide) ?_
  refine W.widen (k := c0 + 8) (n := s0 + 48) (by omega) (by omega) ?_
  exact hJ f1 a1 b1 f3 a3 b3 hw.2 _ _ K _ (lv_sub hl [1, 2, 3, 4, 5] rfl)
set_option maxHeartbeats 4000000 in
set_option maxRecDepth 100000 in
theorem law_limit {p : Program} {l : Launch} {e : Env} {s : State} {m : MethodId} {below : List Frame} {meth : Method} {c : Code} {D : va_G} {sa : Nat → Nat} {ad : Nat → Nat} {ca : Nat → ClassId} {bs L : Nat} {xs : Nat → Int32} {I : wF → wA → wB → wF → wA → wB → Prop} (hok : okc_limit I) (X : cx Wl (tyS ca) txS D vwCl sa (fun q : Nat => s.heap.size ≤ q) p l s m #[Value.ref bs] meth c code 7 "SendBestLaw") (hX : va_X bs L xs s s.heap) (hbl : bs < s.heap.size) {c0 s0 : Nat} (hc0 : c0 + 8 ≤ 601024) (hs0 : s0 + 48 ≤ 7293034) {x4 : Int32} (h1 : vp_in (x4 + (1 : Int32)) L) (h2 : vp_in (x4 + (2 : Int32)) L) (h3 : vp_in (x4 + (3 : Int32)) L)
    (hJ : ∀ (fS : wF) (aS : wA) (bS : wB) (fM : wF) (aM : wA) (bM : wB), I fS aS bS fM aM bM → ∀ (H : Heap) (locs : List Loc), wd nL9 kL9 D vwCl ad ca (fun q : Nat => s.heap.size ≤ q) s H locs (jF fS fM) (jA aS aM) (jB bS bM) → ∀ (ls : Array Slot), lv_has ls 7 [(0, .ref bs), (1, .ref (ad 0)), (2, .ref (ad 58)), (3, .ref (ad 57)), (4, .int x4)] → W p l e room_1 s m #[Value.ref bs] below meth c H locs (c0 + 8) (s0 + 48) (lw_Z below #[Value.ref bs] s) (F0 m 1064 ls []))
    (fS : wF) (aS : wA) (bS : wB) (fM : wF) (aM : wA) (bM : wB) (hI : I fS aS bS fM aM bM) {H : Heap} {locs : List Loc} (K : wd nL9 kL9 D vwCl ad ca (fun q : Nat => s.heap.size ≤ q) s H locs (jF fS fM) (jA aS aM) (jB bS bM)) {ls : Array Slot} (hl : lv_has ls 7 [(0, .ref bs), (1, .ref (ad 0)), (2, .ref (ad 58)), (3, .ref (ad 57)), (4, .int x4)]) : W p l e room_1 s m #[Value.ref bs] below meth c H locs c0 s0 (lw_Z below #[Value.ref bs] s) (F0 m 420 ls []) := by
  obtain ⟨hx, hb, hml, hown, hts, hK, hA, hth, hlk, hl9⟩ := id X
  have hbA : ¬ (fun q : Nat => s.heap.size ≤ q) bs := Nat.not_le.mpr hbl
  refine lv_aload_n hx hb dL_law_420 rfl (lv_at hl 1 rfl) ?_
  refine lv_aload_n hx hb dL_law_421 rfl (lv_at hl 0 rfl) ?_
  refine lv_iload hx hb dL_law_422 (lv_at hl 4 rfl) ?_
  refine lv_iconst (v := (1 : Int32)) hx hb dL_law_424 (by decide) ?_
  refine lv_iadd hx hb dL_law_425 ?_
  refine va_sld hx hb hX hbl hbA K.2.2 h1 dL_law_426 ?_
  refine lv_aload_n hx hb dL_law_427 rfl (lv_at hl 0 rfl) ?_
  refine lv_iload hx hb dL_law_428 (lv_at hl 4 rfl) ?_
  refine lv_iconst (v := (2 : Int32)) hx hb dL_law_430 (by decide) ?_
  refine lv_iadd hx hb dL_law_431 ?_
  refine va_sld hx hb hX hbl hbA K.2.2 h2 dL_law_432 ?_
  have hw := hok (xs (x4 + (1 : Int32)).toNatClampNeg) (xs (x4 + (2 : Int32)).toNatClampNeg) fS aS bS fM aM bM hI
  refine geSX X K (embW fS aS bS) (fun u1 => jF u1 fM) (fun u1 => jA u1 aM) (fun u1 => jB u1 bM) (fun u1 u2 u3 => embW u1 u2 u3) embWr (n0 := 3) (As := [.ref (ad 0), .int (xs (x4 + (1 : Int32)).toNatClampNeg), .int (xs (x4 + (2 : Int32)).toNatClampNeg)]) (rest := []) (hM := met_L_limit hl9 D ad ca sa _ (xs (x4 + (1 : Int32)).toNatClampNeg) (xs (x4 + (2 : Int32)).toNatClampNeg) fS aS bS _ hw) (w1 := (tm2 (i := 80) rfl rfl)) (w2 := (tm2 (i := 81) rfl rfl)) (w4 := (tm1 (i := 0) rfl rfl)) (w5 := (tm2 (i := 82) rfl rfl)) (hd := ⟨by decide, by decide, by decide +kernel⟩) (hrc := rfl) (hrs := rfl) (hR := ⟨Nat.le_of_ble_eq_true rfl, Nat.le_of_ble_eq_true rfl⟩) (hn := rfl) (hsz := hl.1) (hst := rfl) (hW := Nat.le_of_ble_eq_true rfl) (hdg := dL_law_433) (hf := ⟨by show _ ≤ 601024; omega, by show _ ≤ 7293034; omega⟩) (fun _ _ _ _ _ _ _ _ hw => hw.elim) (fun k9 f1 a1 b1 H locs hw K => ?_)
  refine lv_istore (lv' := [(5, .int k9), (0, .ref bs), (1, .ref (ad 0)), (2, .ref (ad 58)), (3, .ref (ad 57)), (4, .int x4)]) hx hb dL_law_436 hl (by decide) rfl (fun ls hl => ?_)
  refine lv_aload_n hx hb dL_law_438 rfl (lv_at hl 3 rfl) ?_
  refine lv_aload_n hx hb dL_law_439 rfl (lv_at hl 1 rfl) ?_
  refine lv_iload hx hb dL_law_440 (lv_at hl 5 rfl) ?_
  refine lv_iconst (v := (1 : Int32)) hx hb dL_law_442 (by decide) ?_
  refine lv_iadd hx hb dL_law_443 ?_
  refine va_sld hx hb hX hbl hbA K.2.2 h1 dL_law_444 ?_
  refine lv_aload_n hx hb dL_law_445 rfl (lv_at hl 1 rfl) ?_
  refine lv_iload hx hb dL_law_446 (lv_at hl 5 rfl) ?_
  refine lv_iconst (v := (2 : Int32)) hx hb dL_law_448 (by decide) ?_
  refine lv_iadd hx hb dL_law_449 ?_
  refine va_sld hx hb hX hbl hbA K.2.2 h2 dL_law_450 ?_
  refine geV X K (embM fM aM bM) (fun u1 => jF f1 u1) (fun u1 => jA a1 u1) (fun u1 => jB b1 u1) (fun u1 u2 u3 => embM u1 u2 u3) embMr (n0 := 2) (As := [.int (xs (x4 + (1 : Int32)).toNatClampNeg), .int (xs (x4 + (2 : Int32)).toNatClampNeg)]) (rest := []) (hM := met_M_limit hl9 D (fun k => ad (58 + k)) ca sa _ (xs (x4 + (1 : Int32)).toNatClampNeg) (xs (x4 + (2 : Int32)).toNatClampNeg) fM aM bM _ hw) (r0 := 0) (ho := by decide) (hko := kM_o0) (hci := rfl) (w1 := (tm3 (i := 202) rfl rfl)) (w2 := (tm3 (i := 203) rfl rfl)) (w3 := (tm3 (i := 204) rfl rfl)) (w4 := (tm1 (i := 4) rfl rfl)) (w5 := (tm3 (i := 205) rfl rfl)) (hd := ⟨rfl, by decide, by decide, by decide +kernel⟩) (hrc := rfl) (hrs := rfl) (hR := ⟨Nat.le_of_ble_eq_true rfl, Nat.le_of_ble_eq_true rfl⟩) (hn := rfl) (hsz := hl.1) (hst := rfl) (hW := Nat.le_of_ble_eq_true rfl) (hdg := dL_law_451) (hf := ⟨by show _ ≤ 601024; omega, by show _ ≤ 7293034; omega⟩) (fun _ _ _ _ _ _ _ _ hw => hw.elim) (fun f2 a2 b2 H locs hw K => ?_)
  refine lv_aload_n hx hb dL_law_454 rfl (lv_at hl 3 rfl) ?_
  refine geI X K (embM f2 a2 b2) (fun u1 => jF f1 u1) (fun u1 => jA a1 u1) (fun u1 => jB b1 u1) (fun u1 u2 u3 => embM u1 u2 u3) embMr (n0 := 0) (As := []) (rest := []) (hM := met_M_thrown hl9 D (fun k => ad (58 + k)) ca sa _  f2 a2 b2 _ hw) (r0 := 0) (ho := by decide) (hko := kM_o0) (hci := rfl) (w1 := (tm3 (i := 161) rfl rfl)) (w2 := (tm3 (i := 162) rfl rfl)) (w3 := (tm3 (i := 163) rfl rfl)) (w4 := (tm1 (i := 4) rfl rfl)) (w5 := (tm3 (i := 164) rfl rfl)) (hd := ⟨rfl, by decide, by decide, by decide +kernel⟩) (hrc := rfl) (hrs := rfl) (hR := ⟨Nat.le_of_ble_eq_true rfl, Nat.le_of_ble_eq_true rfl⟩) (hn := rfl) (hsz := hl.1) (hst := rfl) (hW := Nat.le_of_ble_eq_true rfl) (hdg := dL_law_455) (hf := ⟨by show _ ≤ 601024; omega, by show _ ≤ 7293034; omega⟩) (fun _ _ _ _ _ _ _ _ hw => hw.elim) (fun t9 f3 a3 b3 H locs hw K => ?_)
  refine lv_iload hx hb dL_law_458 (lv_at hl 0 rfl) ?_
  refine lv_icmp_eq (tgt := 465) hx hb dL_law_460 (by decide) (fun hc => ?_) (fun hc => absurd hw.1 hc)
  refine lv_goto (tgt := 1064) hx hb dL_law_465 (by decide) ?_
  refine W.widen (k := c0 + 8) (n := s0 + 48) (by omega) (by omega) ?_
  exact hJ f1 a1 b1 f3 a3 b3 hw.2 _ _ K _ (lv_sub hl [1, 2, 3, 4, 5] rfl)
set_option maxHeartbeats 4000000 in
set_option maxRecDepth 100000 in
theorem law_reserve {p : Program} {l : Launch} {e : Env} {s : State} {m : MethodId} {below : List Frame} {meth : Method} {c : Code} {D : va_G} {sa : Nat → Nat} {ad : Nat → Nat} {ca : Nat → ClassId} {bs L : Nat} {xs : Nat → Int32} {I : wF → wA → wB → wF → wA → wB → Prop} (hok : okc_reserve I) (X : cx Wl (tyS ca) txS D vwCl sa (fun q : Nat => s.heap.size ≤ q) p l s m #[Value.ref bs] meth c code 7 "SendBestLaw") (hX : va_X bs L xs s s.heap) (hbl : bs < s.heap.size) {c0 s0 : Nat} (hc0 : c0 + 8 ≤ 601024) (hs0 : s0 + 48 ≤ 7293034) {x4 : Int32} (h1 : vp_in (x4 + (1 : Int32)) L) (h2 : vp_in (x4 + (2 : Int32)) L) (h3 : vp_in (x4 + (3 : Int32)) L)
    (hJ : ∀ (fS : wF) (aS : wA) (bS : wB) (fM : wF) (aM : wA) (bM : wB), I fS aS bS fM aM bM → ∀ (H : Heap) (locs : List Loc), wd nL9 kL9 D vwCl ad ca (fun q : Nat => s.heap.size ≤ q) s H locs (jF fS fM) (jA aS aM) (jB bS bM) → ∀ (ls : Array Slot), lv_has ls 7 [(0, .ref bs), (1, .ref (ad 0)), (2, .ref (ad 58)), (3, .ref (ad 57)), (4, .int x4)] → W p l e room_1 s m #[Value.ref bs] below meth c H locs (c0 + 8) (s0 + 48) (lw_Z below #[Value.ref bs] s) (F0 m 1064 ls []))
    (fS : wF) (aS : wA) (bS : wB) (fM : wF) (aM : wA) (bM : wB) (hI : I fS aS bS fM aM bM) {H : Heap} {locs : List Loc} (K : wd nL9 kL9 D vwCl ad ca (fun q : Nat => s.heap.size ≤ q) s H locs (jF fS fM) (jA aS aM) (jB bS bM)) {ls : Array Slot} (hl : lv_has ls 7 [(0, .ref bs), (1, .ref (ad 0)), (2, .ref (ad 58)), (3, .ref (ad 57)), (4, .int x4)]) : W p l e room_1 s m #[Value.ref bs] below meth c H locs c0 s0 (lw_Z below #[Value.ref bs] s) (F0 m 468 ls []) := by
  obtain ⟨hx, hb, hml, hown, hts, hK, hA, hth, hlk, hl9⟩ := id X
  have hbA : ¬ (fun q : Nat => s.heap.size ≤ q) bs := Nat.not_le.mpr hbl
  refine lv_aload_n hx hb dL_law_468 rfl (lv_at hl 1 rfl) ?_
  refine lv_aload_n hx hb dL_law_469 rfl (lv_at hl 0 rfl) ?_
  refine lv_iload hx hb dL_law_470 (lv_at hl 4 rfl) ?_
  refine lv_iconst (v := (1 : Int32)) hx hb dL_law_472 (by decide) ?_
  refine lv_iadd hx hb dL_law_473 ?_
  refine va_sld hx hb hX hbl hbA K.2.2 h1 dL_law_474 ?_
  refine lv_aload_n hx hb dL_law_475 rfl (lv_at hl 0 rfl) ?_
  refine lv_iload hx hb dL_law_476 (lv_at hl 4 rfl) ?_
  refine lv_iconst (v := (2 : Int32)) hx hb dL_law_478 (by decide) ?_
  refine lv_iadd hx hb dL_law_479 ?_
  refine va_sld hx hb hX hbl hbA K.2.2 h2 dL_law_480 ?_
  have hw := hok (xs (x4 + (1 : Int32)).toNatClampNeg) (xs (x4 + (2 : Int32)).toNatClampNeg) fS aS bS fM aM bM hI
  refine geSX X K (embW fS aS bS) (fun u1 => jF u1 fM) (fun u1 => jA u1 aM) (fun u1 => jB u1 bM) (fun u1 u2 u3 => embW u1 u2 u3) embWr (n0 := 3) (As := [.ref (ad 0), .int (xs (x4 + (1 : Int32)).toNatClampNeg), .int (xs (x4 + (2 : Int32)).toNatClampNeg)]) (rest := []) (hM := met_L_reserve hl9 D ad ca sa _ (xs (x4 + (1 : Int32)).toNatClampNeg) (xs (x4 + (2 : Int32)).toNatClampNeg) fS aS bS _ hw) (w1 := (tm2 (i := 87) rfl rfl)) (w2 := (tm2 (i := 88) rfl rfl)) (w4 := (tm1 (i := 0) rfl rfl)) (w5 := (tm2 (i := 89) rfl rfl)) (hd := ⟨by decide, by decide, by decide +kernel⟩) (hrc := rfl) (hrs := rfl) (hR := ⟨Nat.le_of_ble_eq_true rfl, Nat.le_of_ble_eq_true rfl⟩) (hn := rfl) (hsz := hl.1) (hst := rfl) (hW := Nat.le_of_ble_eq_true rfl) (hdg := dL_law_481) (hf := ⟨by show _ ≤ 601024; omega, by show _ ≤ 7293034; omega⟩) (fun _ _ _ _ _ _ _ _ hw => hw.elim) (fun k9 f1 a1 b1 H locs hw K => ?_)
  refine lv_istore (lv' := [(5, .int k9), (0, .ref bs), (1, .ref (ad 0)), (2, .ref (ad 58)), (3, .ref (ad 57)), (4, .int x4)]) hx hb dL_law_484 hl (by decide) rfl (fun ls hl => ?_)
  refine lv_aload_n hx hb dL_law_486 rfl (lv_at hl 3 rfl) ?_
  refine lv_aload_n hx hb dL_law_487 rfl (lv_at hl 1 rfl) ?_
  refine lv_iload hx hb dL_law_488 (lv_at hl 5 rfl) ?_
  refine lv_iconst (v := (1 : Int32)) hx hb dL_law_490 (by decide) ?_
  refine lv_iadd hx hb dL_law_491 ?_
  refine va_sld hx hb hX hbl hbA K.2.2 h1 dL_law_492 ?_
  refine lv_aload_n hx hb dL_law_493 rfl (lv_at hl 1 rfl) ?_
  refine lv_iload hx hb dL_law_494 (lv_at hl 5 rfl) ?_
  refine lv_iconst (v := (2 : Int32)) hx hb dL_law_496 (by decide) ?_
  refine lv_iadd hx hb dL_law_497 ?_
  refine va_sld hx hb hX hbl hbA K.2.2 h2 dL_law_498 ?_
  refine geV X K (embM fM aM bM) (fun u1 => jF f1 u1) (fun u1 => jA a1 u1) (fun u1 => jB b1 u1) (fun u1 u2 u3 => embM u1 u2 u3) embMr (n0 := 2) (As := [.int (xs (x4 + (1 : Int32)).toNatClampNeg), .int (xs (x4 + (2 : Int32)).toNatClampNeg)]) (rest := []) (hM := met_M_reserve hl9 D (fun k => ad (58 + k)) ca sa _ (xs (x4 + (1 : Int32)).toNatClampNeg) (xs (x4 + (2 : Int32)).toNatClampNeg) fM aM bM _ hw) (r0 := 0) (ho := by decide) (hko := kM_o0) (hci := rfl) (w1 := (tm3 (i := 206) rfl rfl)) (w2 := (tm3 (i := 207) rfl rfl)) (w3 := (tm3 (i := 208) rfl rfl)) (w4 := (tm1 (i := 4) rfl rfl)) (w5 := (tm3 (i := 209) rfl rfl)) (hd := ⟨rfl, by decide, by decide, by decide +kernel⟩) (hrc := rfl) (hrs := rfl) (hR := ⟨Nat.le_of_ble_eq_true rfl, Nat.le_of_ble_eq_true rfl⟩) (hn := rfl) (hsz := hl.1) (hst := rfl) (hW := Nat.le_of_ble_eq_true rfl) (hdg := dL_law_499) (hf := ⟨by show _ ≤ 601024; omega, by show _ ≤ 7293034; omega⟩) (fun _ _ _ _ _ _ _ _ hw => hw.elim) (fun f2 a2 b2 H locs hw K => ?_)
  refine lv_aload_n hx hb dL_law_502 rfl (lv_at hl 3 rfl) ?_
  refine geI X K (embM f2 a2 b2) (fun u1 => jF f1 u1) (fun u1 => jA a1 u1) (fun u1 => jB b1 u1) (fun u1 u2 u3 => embM u1 u2 u3) embMr (n0 := 0) (As := []) (rest := []) (hM := met_M_thrown hl9 D (fun k => ad (58 + k)) ca sa _  f2 a2 b2 _ hw) (r0 := 0) (ho := by decide) (hko := kM_o0) (hci := rfl) (w1 := (tm3 (i := 161) rfl rfl)) (w2 := (tm3 (i := 162) rfl rfl)) (w3 := (tm3 (i := 163) rfl rfl)) (w4 := (tm1 (i := 4) rfl rfl)) (w5 := (tm3 (i := 164) rfl rfl)) (hd := ⟨rfl, by decide, by decide, by decide +kernel⟩) (hrc := rfl) (hrs := rfl) (hR := ⟨Nat.le_of_ble_eq_true rfl, Nat.le_of_ble_eq_true rfl⟩) (hn := rfl) (hsz := hl.1) (hst := rfl) (hW := Nat.le_of_ble_eq_true rfl) (hdg := dL_law_503) (hf := ⟨by show _ ≤ 601024; omega, by show _ ≤ 7293034; omega⟩) (fun _ _ _ _ _ _ _ _ hw => hw.elim) (fun t9 f3 a3 b3 H locs hw K => ?_)
  refine lv_iload hx hb dL_law_506 (lv_at hl 0 rfl) ?_
  refine lv_icmp_eq (tgt := 513) hx hb dL_law_508 (by decide) (fun hc => ?_) (fun hc => absurd hw.1 hc)
  refine lv_goto (tgt := 1064) hx hb dL_law_513 (by decide) ?_
  refine W.widen (k := c0 + 8) (n := s0 + 48) (by omega) (by omega) ?_
  exact hJ f1 a1 b1 f3 a3 b3 hw.2 _ _ K _ (lv_sub hl [1, 2, 3, 4, 5] rfl)
set_option maxHeartbeats 4000000 in
set_option maxRecDepth 100000 in
theorem law_broken {p : Program} {l : Launch} {e : Env} {s : State} {m : MethodId} {below : List Frame} {meth : Method} {c : Code} {D : va_G} {sa : Nat → Nat} {ad : Nat → Nat} {ca : Nat → ClassId} {bs L : Nat} {xs : Nat → Int32} {I : wF → wA → wB → wF → wA → wB → Prop} (hok : okc_broken I) (X : cx Wl (tyS ca) txS D vwCl sa (fun q : Nat => s.heap.size ≤ q) p l s m #[Value.ref bs] meth c code 7 "SendBestLaw") (hX : va_X bs L xs s s.heap) (hbl : bs < s.heap.size) {c0 s0 : Nat} (hc0 : c0 + 8 ≤ 601024) (hs0 : s0 + 48 ≤ 7293034) {x4 : Int32} (h1 : vp_in (x4 + (1 : Int32)) L) (h2 : vp_in (x4 + (2 : Int32)) L) (h3 : vp_in (x4 + (3 : Int32)) L)
    (hJ : ∀ (fS : wF) (aS : wA) (bS : wB) (fM : wF) (aM : wA) (bM : wB), I fS aS bS fM aM bM → ∀ (H : Heap) (locs : List Loc), wd nL9 kL9 D vwCl ad ca (fun q : Nat => s.heap.size ≤ q) s H locs (jF fS fM) (jA aS aM) (jB bS bM) → ∀ (ls : Array Slot), lv_has ls 7 [(0, .ref bs), (1, .ref (ad 0)), (2, .ref (ad 58)), (3, .ref (ad 57)), (4, .int x4)] → W p l e room_1 s m #[Value.ref bs] below meth c H locs (c0 + 8) (s0 + 48) (lw_Z below #[Value.ref bs] s) (F0 m 1064 ls []))
    (fS : wF) (aS : wA) (bS : wB) (fM : wF) (aM : wA) (bM : wB) (hI : I fS aS bS fM aM bM) {H : Heap} {locs : List Loc} (K : wd nL9 kL9 D vwCl ad ca (fun q : Nat => s.heap.size ≤ q) s H locs (jF fS fM) (jA aS aM) (jB bS bM)) {ls : Array Slot} (hl : lv_has ls 7 [(0, .ref bs), (1, .ref (ad 0)), (2, .ref (ad 58)), (3, .ref (ad 57)), (4, .int x4)]) : W p l e room_1 s m #[Value.ref bs] below meth c H locs c0 s0 (lw_Z below #[Value.ref bs] s) (F0 m 516 ls []) := by
  obtain ⟨hx, hb, hml, hown, hts, hK, hA, hth, hlk, hl9⟩ := id X
  have hbA : ¬ (fun q : Nat => s.heap.size ≤ q) bs := Nat.not_le.mpr hbl
  refine lv_aload_n hx hb dL_law_516 rfl (lv_at hl 1 rfl) ?_
  refine lv_aload_n hx hb dL_law_517 rfl (lv_at hl 0 rfl) ?_
  refine lv_iload hx hb dL_law_518 (lv_at hl 4 rfl) ?_
  refine lv_iconst (v := (1 : Int32)) hx hb dL_law_520 (by decide) ?_
  refine lv_iadd hx hb dL_law_521 ?_
  refine va_sld hx hb hX hbl hbA K.2.2 h1 dL_law_522 ?_
  refine lv_aload_n hx hb dL_law_523 rfl (lv_at hl 0 rfl) ?_
  refine lv_iload hx hb dL_law_524 (lv_at hl 4 rfl) ?_
  refine lv_iconst (v := (2 : Int32)) hx hb dL_law_526 (by decide) ?_
  refine lv_iadd hx hb dL_law_527 ?_
  refine va_sld hx hb hX hbl hbA K.2.2 h2 dL_law_528 ?_
  refine lv_if_eq (tgt := 536) hx hb dL_law_529 (by decide) (fun hz => ?_) (fun hz => ?_)
  · refine lv_iconst (v := (0 : Int32)) hx hb dL_law_536 (by decide) ?_
    have hw := hok (xs (x4 + (1 : Int32)).toNatClampNeg) (0 : Int32) (Or.inl rfl) fS aS bS fM aM bM hI
    refine geSX X K (embW fS aS bS) (fun u1 => jF u1 fM) (fun u1 => jA u1 aM) (fun u1 => jB u1 bM) (fun u1 u2 u3 => embW u1 u2 u3) embWr (n0 := 3) (As := [.ref (ad 0), .int (xs (x4 + (1 : Int32)).toNatClampNeg), .int (0 : Int32)]) (rest := []) (hM := met_L_broken hl9 D ad ca sa _ (xs (x4 + (1 : Int32)).toNatClampNeg) (0 : Int32) fS aS bS _ hw) (w1 := (tm2 (i := 96) rfl rfl)) (w2 := (tm2 (i := 97) rfl rfl)) (w4 := (tm1 (i := 0) rfl rfl)) (w5 := (tm2 (i := 98) rfl rfl)) (hd := ⟨by decide, by decide, by decide +kernel⟩) (hrc := rfl) (hrs := rfl) (hR := ⟨Nat.le_of_ble_eq_true rfl, Nat.le_of_ble_eq_true rfl⟩) (hn := rfl) (hsz := hl.1) (hst := rfl) (hW := Nat.le_of_ble_eq_true rfl) (hdg := dL_law_537) (hf := ⟨by show _ ≤ 601024; omega, by show _ ≤ 7293034; omega⟩) (fun _ _ _ _ _ _ _ _ hw => hw.elim) (fun k9 f1 a1 b1 H locs hw K => ?_)
    refine lv_istore (lv' := [(5, .int k9), (0, .ref bs), (1, .ref (ad 0)), (2, .ref (ad 58)), (3, .ref (ad 57)), (4, .int x4)]) hx hb dL_law_540 hl (by decide) rfl (fun ls hl => ?_)
    refine lv_aload_n hx hb dL_law_542 rfl (lv_at hl 3 rfl) ?_
    refine lv_aload_n hx hb dL_law_543 rfl (lv_at hl 1 rfl) ?_
    refine lv_iload hx hb dL_law_544 (lv_at hl 5 rfl) ?_
    refine lv_iconst (v := (1 : Int32)) hx hb dL_law_546 (by decide) ?_
    refine lv_iadd hx hb dL_law_547 ?_
    refine va_sld hx hb hX hbl hbA K.2.2 h1 dL_law_548 ?_
    refine lv_aload_n hx hb dL_law_549 rfl (lv_at hl 1 rfl) ?_
    refine lv_iload hx hb dL_law_550 (lv_at hl 5 rfl) ?_
    refine lv_iconst (v := (2 : Int32)) hx hb dL_law_552 (by decide) ?_
    refine lv_iadd hx hb dL_law_553 ?_
    refine va_sld hx hb hX hbl hbA K.2.2 h2 dL_law_554 ?_
    refine lv_if_eq (tgt := 562) hx hb dL_law_555 (by decide) (fun _ => ?_) (fun hc => absurd hz hc)
    refine lv_iconst (v := (0 : Int32)) hx hb dL_law_562 (by decide) ?_
    refine geV X K (embM fM aM bM) (fun u1 => jF f1 u1) (fun u1 => jA a1 u1) (fun u1 => jB b1 u1) (fun u1 u2 u3 => embM u1 u2 u3) embMr (n0 := 2) (As := [.int (xs (x4 + (1 : Int32)).toNatClampNeg), .int (0 : Int32)]) (rest := []) (hM := met_M_broken hl9 D (fun k => ad (58 + k)) ca sa _ (xs (x4 + (1 : Int32)).toNatClampNeg) (0 : Int32) fM aM bM _ hw) (r0 := 0) (ho := by decide) (hko := kM_o0) (hci := rfl) (w1 := (tm3 (i := 210) rfl rfl)) (w2 := (tm3 (i := 211) rfl rfl)) (w3 := (tm3 (i := 212) rfl rfl)) (w4 := (tm1 (i := 4) rfl rfl)) (w5 := (tm3 (i := 213) rfl rfl)) (hd := ⟨rfl, by decide, by decide, by decide +kernel⟩) (hrc := rfl) (hrs := rfl) (hR := ⟨Nat.le_of_ble_eq_true rfl, Nat.le_of_ble_eq_true rfl⟩) (hn := rfl) (hsz := hl.1) (hst := rfl) (hW := Nat.le_of_ble_eq_true rfl) (hdg := dL_law_563) (hf := ⟨by show _ ≤ 601024; omega, by show _ ≤ 7293034; omega⟩) (fun _ _ _ _ _ _ _ _ hw => hw.elim) (fun f2 a2 b2 H locs hw K => ?_)
    refine lv_aload_n hx hb dL_law_566 rfl (lv_at hl 3 rfl) ?_
    refine geI X K (embM f2 a2 b2) (fun u1 => jF f1 u1) (fun u1 => jA a1 u1) (fun u1 => jB b1 u1) (fun u1 u2 u3 => embM u1 u2 u3) embMr (n0 := 0) (As := []) (rest := []) (hM := met_M_thrown hl9 D (fun k => ad (58 + k)) ca sa _  f2 a2 b2 _ hw) (r0 := 0) (ho := by decide) (hko := kM_o0) (hci := rfl) (w1 := (tm3 (i := 161) rfl rfl)) (w2 := (tm3 (i := 162) rfl rfl)) (w3 := (tm3 (i := 163) rfl rfl)) (w4 := (tm1 (i := 4) rfl rfl)) (w5 := (tm3 (i := 164) rfl rfl)) (hd := ⟨rfl, by decide, by decide, by decide +kernel⟩) (hrc := rfl) (hrs := rfl) (hR := ⟨Nat.le_of_ble_eq_true rfl, Nat.le_of_ble_eq_true rfl⟩) (hn := rfl) (hsz := hl.1) (hst := rfl) (hW := Nat.le_of_ble_eq_true rfl) (hdg := dL_law_567) (hf := ⟨by show _ ≤ 601024; omega, by show _ ≤ 7293034; omega⟩) (fun _ _ _ _ _ _ _ _ hw => hw.elim) (fun t9 f3 a3 b3 H locs hw K => ?_)
    refine lv_iload hx hb dL_law_570 (lv_at hl 0 rfl) ?_
    refine lv_icmp_eq (tgt := 577) hx hb dL_law_572 (by decide) (fun hc => ?_) (fun hc => absurd hw.1 hc)
    refine lv_goto (tgt := 1064) hx hb dL_law_577 (by decide) ?_
    refine W.widen (k := c0 + 8) (n := s0 + 48) (by omega) (by omega) ?_
    exact hJ f1 a1 b1 f3 a3 b3 hw.2 _ _ K _ (lv_sub hl [1, 2, 3, 4, 5] rfl)
  · refine lv_iconst (v := (1 : Int32)) hx hb dL_law_532 (by decide) ?_
    refine lv_goto (tgt := 537) hx hb dL_law_533 (by decide) ?_
    have hw := hok (xs (x4 + (1 : Int32)).toNatClampNeg) (1 : Int32) (Or.inr rfl) fS aS bS fM aM bM hI
    refine geSX X K (embW fS aS bS) (fun u1 => jF u1 fM) (fun u1 => jA u1 aM) (fun u1 => jB u1 bM) (fun u1 u2 u3 => embW u1 u2 u3) embWr (n0 := 3) (As := [.ref (ad 0), .int (xs (x4 + (1 : Int32)).toNatClampNeg), .int (1 : Int32)]) (rest := []) (hM := met_L_broken hl9 D ad ca sa _ (xs (x4 + (1 : Int32)).toNatClampNeg) (1 : Int32) fS aS bS _ hw) (w1 := (tm2 (i := 96) rfl rfl)) (w2 := (tm2 (i := 97) rfl rfl)) (w4 := (tm1 (i := 0) rfl rfl)) (w5 := (tm2 (i := 98) rfl rfl)) (hd := ⟨by decide, by decide, by decide +kernel⟩) (hrc := rfl) (hrs := rfl) (hR := ⟨Nat.le_of_ble_eq_true rfl, Nat.le_of_ble_eq_true rfl⟩) (hn := rfl) (hsz := hl.1) (hst := rfl) (hW := Nat.le_of_ble_eq_true rfl) (hdg := dL_law_537) (hf := ⟨by show _ ≤ 601024; omega, by show _ ≤ 7293034; omega⟩) (fun _ _ _ _ _ _ _ _ hw => hw.elim) (fun k9 f1 a1 b1 H locs hw K => ?_)
    refine lv_istore (lv' := [(5, .int k9), (0, .ref bs), (1, .ref (ad 0)), (2, .ref (ad 58)), (3, .ref (ad 57)), (4, .int x4)]) hx hb dL_law_540 hl (by decide) rfl (fun ls hl => ?_)
    refine lv_aload_n hx hb dL_law_542 rfl (lv_at hl 3 rfl) ?_
    refine lv_aload_n hx hb dL_law_543 rfl (lv_at hl 1 rfl) ?_
    refine lv_iload hx hb dL_law_544 (lv_at hl 5 rfl) ?_
    refine lv_iconst (v := (1 : Int32)) hx hb dL_law_546 (by decide) ?_
    refine lv_iadd hx hb dL_law_547 ?_
    refine va_sld hx hb hX hbl hbA K.2.2 h1 dL_law_548 ?_
    refine lv_aload_n hx hb dL_law_549 rfl (lv_at hl 1 rfl) ?_
    refine lv_iload hx hb dL_law_550 (lv_at hl 5 rfl) ?_
    refine lv_iconst (v := (2 : Int32)) hx hb dL_law_552 (by decide) ?_
    refine lv_iadd hx hb dL_law_553 ?_
    refine va_sld hx hb hX hbl hbA K.2.2 h2 dL_law_554 ?_
    refine lv_if_eq (tgt := 562) hx hb dL_law_555 (by decide) (fun hc => absurd hc hz) (fun _ => ?_)
    refine lv_iconst (v := (1 : Int32)) hx hb dL_law_558 (by decide) ?_
    refine lv_goto (tgt := 563) hx hb dL_law_559 (by decide) ?_
    refine geV X K (embM fM aM bM) (fun u1 => jF f1 u1) (fun u1 => jA a1 u1) (fun u1 => jB b1 u1) (fun u1 u2 u3 => embM u1 u2 u3) embMr (n0 := 2) (As := [.int (xs (x4 + (1 : Int32)).toNatClampNeg), .int (1 : Int32)]) (rest := []) (hM := met_M_broken hl9 D (fun k => ad (58 + k)) ca sa _ (xs (x4 + (1 : Int32)).toNatClampNeg) (1 : Int32) fM aM bM _ hw) (r0 := 0) (ho := by decide) (hko := kM_o0) (hci := rfl) (w1 := (tm3 (i := 210) rfl rfl)) (w2 := (tm3 (i := 211) rfl rfl)) (w3 := (tm3 (i := 212) rfl rfl)) (w4 := (tm1 (i := 4) rfl rfl)) (w5 := (tm3 (i := 213) rfl rfl)) (hd := ⟨rfl, by decide, by decide, by decide +kernel⟩) (hrc := rfl) (hrs := rfl) (hR := ⟨Nat.le_of_ble_eq_true rfl, Nat.le_of_ble_eq_true rfl⟩) (hn := rfl) (hsz := hl.1) (hst := rfl) (hW := Nat.le_of_ble_eq_true rfl) (hdg := dL_law_563) (hf := ⟨by show _ ≤ 601024; omega, by show _ ≤ 7293034; omega⟩) (fun _ _ _ _ _ _ _ _ hw => hw.elim) (fun f2 a2 b2 H locs hw K => ?_)
    refine lv_aload_n hx hb dL_law_566 rfl (lv_at hl 3 rfl) ?_
    refine geI X K (embM f2 a2 b2) (fun u1 => jF f1 u1) (fun u1 => jA a1 u1) (fun u1 => jB b1 u1) (fun u1 u2 u3 => embM u1 u2 u3) embMr (n0 := 0) (As := []) (rest := []) (hM := met_M_thrown hl9 D (fun k => ad (58 + k)) ca sa _  f2 a2 b2 _ hw) (r0 := 0) (ho := by decide) (hko := kM_o0) (hci := rfl) (w1 := (tm3 (i := 161) rfl rfl)) (w2 := (tm3 (i := 162) rfl rfl)) (w3 := (tm3 (i := 163) rfl rfl)) (w4 := (tm1 (i := 4) rfl rfl)) (w5 := (tm3 (i := 164) rfl rfl)) (hd := ⟨rfl, by decide, by decide, by decide +kernel⟩) (hrc := rfl) (hrs := rfl) (hR := ⟨Nat.le_of_ble_eq_true rfl, Nat.le_of_ble_eq_true rfl⟩) (hn := rfl) (hsz := hl.1) (hst := rfl) (hW := Nat.le_of_ble_eq_true rfl) (hdg := dL_law_567) (hf := ⟨by show _ ≤ 601024; omega, by show _ ≤ 7293034; omega⟩) (fun _ _ _ _ _ _ _ _ hw => hw.elim) (fun t9 f3 a3 b3 H locs hw K => ?_)
    refine lv_iload hx hb dL_law_570 (lv_at hl 0 rfl) ?_
    refine lv_icmp_eq (tgt := 577) hx hb dL_law_572 (by decide) (fun hc => ?_) (fun hc => absurd hw.1 hc)
    refine lv_goto (tgt := 1064) hx hb dL_law_577 (by decide) ?_
    refine W.widen (k := c0 + 8) (n := s0 + 48) (by omega) (by omega) ?_
    exact hJ f1 a1 b1 f3 a3 b3 hw.2 _ _ K _ (lv_sub hl [1, 2, 3, 4, 5] rfl)
set_option maxHeartbeats 4000000 in
set_option maxRecDepth 100000 in
theorem law_send {p : Program} {l : Launch} {e : Env} {s : State} {m : MethodId} {below : List Frame} {meth : Method} {c : Code} {D : va_G} {sa : Nat → Nat} {ad : Nat → Nat} {ca : Nat → ClassId} {bs L : Nat} {xs : Nat → Int32} {I : wF → wA → wB → wF → wA → wB → Prop} (hok : okc_send I) (X : cx Wl (tyS ca) txS D vwCl sa (fun q : Nat => s.heap.size ≤ q) p l s m #[Value.ref bs] meth c code 7 "SendBestLaw") (hX : va_X bs L xs s s.heap) (hbl : bs < s.heap.size) {c0 s0 : Nat} (hc0 : c0 + 8 ≤ 601024) (hs0 : s0 + 48 ≤ 7293034) {x4 : Int32} (h1 : vp_in (x4 + (1 : Int32)) L) (h2 : vp_in (x4 + (2 : Int32)) L) (h3 : vp_in (x4 + (3 : Int32)) L)
    (hJ : ∀ (fS : wF) (aS : wA) (bS : wB) (fM : wF) (aM : wA) (bM : wB), I fS aS bS fM aM bM → ∀ (H : Heap) (locs : List Loc), wd nL9 kL9 D vwCl ad ca (fun q : Nat => s.heap.size ≤ q) s H locs (jF fS fM) (jA aS aM) (jB bS bM) → ∀ (ls : Array Slot), lv_has ls 7 [(0, .ref bs), (1, .ref (ad 0)), (2, .ref (ad 58)), (3, .ref (ad 57)), (4, .int x4)] → W p l e room_1 s m #[Value.ref bs] below meth c H locs (c0 + 8) (s0 + 48) (lw_Z below #[Value.ref bs] s) (F0 m 1064 ls []))
    (fS : wF) (aS : wA) (bS : wB) (fM : wF) (aM : wA) (bM : wB) (hI : I fS aS bS fM aM bM) {H : Heap} {locs : List Loc} (K : wd nL9 kL9 D vwCl ad ca (fun q : Nat => s.heap.size ≤ q) s H locs (jF fS fM) (jA aS aM) (jB bS bM)) {ls : Array Slot} (hl : lv_has ls 7 [(0, .ref bs), (1, .ref (ad 0)), (2, .ref (ad 58)), (3, .ref (ad 57)), (4, .int x4)]) : W p l e room_1 s m #[Value.ref bs] below meth c H locs c0 s0 (lw_Z below #[Value.ref bs] s) (F0 m 580 ls []) := by
  obtain ⟨hx, hb, hml, hown, hts, hK, hA, hth, hlk, hl9⟩ := id X
  have hbA : ¬ (fun q : Nat => s.heap.size ≤ q) bs := Nat.not_le.mpr hbl
  refine lv_aload_n hx hb dL_law_580 rfl (lv_at hl 1 rfl) ?_
  refine lv_aload_n hx hb dL_law_581 rfl (lv_at hl 0 rfl) ?_
  refine lv_iload hx hb dL_law_582 (lv_at hl 4 rfl) ?_
  refine lv_iconst (v := (1 : Int32)) hx hb dL_law_584 (by decide) ?_
  refine lv_iadd hx hb dL_law_585 ?_
  refine va_sld hx hb hX hbl hbA K.2.2 h1 dL_law_586 ?_
  refine lv_aload_n hx hb dL_law_587 rfl (lv_at hl 3 rfl) ?_
  have hw := hok (xs (x4 + (1 : Int32)).toNatClampNeg) fS aS bS fM aM bM hI
  refine geSX X K (embW fS aS bS) (fun u1 => jF u1 fM) (fun u1 => jA u1 aM) (fun u1 => jB u1 bM) (fun u1 u2 u3 => embW u1 u2 u3) embWr (n0 := 3) (As := [.ref (ad 0), .int (xs (x4 + (1 : Int32)).toNatClampNeg), .ref (ad 57)]) (rest := []) (hM := met_L_send hl9 D ad ca sa _ (xs (x4 + (1 : Int32)).toNatClampNeg) fS aS bS _ hw) (w1 := (tm2 (i := 108) rfl rfl)) (w2 := (tm2 (i := 109) rfl rfl)) (w4 := (tm1 (i := 0) rfl rfl)) (w5 := (tm2 (i := 110) rfl rfl)) (hd := ⟨by decide, by decide, by decide +kernel⟩) (hrc := rfl) (hrs := rfl) (hR := ⟨Nat.le_of_ble_eq_true rfl, Nat.le_of_ble_eq_true rfl⟩) (hn := rfl) (hsz := hl.1) (hst := rfl) (hW := Nat.le_of_ble_eq_true rfl) (hdg := dL_law_588) (hf := ⟨by show _ ≤ 601024; omega, by show _ ≤ 7293034; omega⟩) (fun _ _ _ _ _ _ _ _ hw => hw.elim) (fun k9 f1 a1 b1 H locs hw K => ?_)
  refine lv_istore (lv' := [(5, .int k9), (0, .ref bs), (1, .ref (ad 0)), (2, .ref (ad 58)), (3, .ref (ad 57)), (4, .int x4)]) hx hb dL_law_591 hl (by decide) rfl (fun ls hl => ?_)
  refine lv_aload_n hx hb dL_law_593 rfl (lv_at hl 3 rfl) ?_
  refine lv_aload_n hx hb dL_law_594 rfl (lv_at hl 1 rfl) ?_
  refine lv_iload hx hb dL_law_595 (lv_at hl 5 rfl) ?_
  refine lv_iconst (v := (1 : Int32)) hx hb dL_law_597 (by decide) ?_
  refine lv_iadd hx hb dL_law_598 ?_
  refine va_sld hx hb hX hbl hbA K.2.2 h1 dL_law_599 ?_
  refine geI X K (embM fM aM bM) (fun u1 => jF f1 u1) (fun u1 => jA a1 u1) (fun u1 => jB b1 u1) (fun u1 u2 u3 => embM u1 u2 u3) embMr (n0 := 1) (As := [.int (xs (x4 + (1 : Int32)).toNatClampNeg)]) (rest := []) (hM := met_M_send hl9 D (fun k => ad (58 + k)) ca sa _ (xs (x4 + (1 : Int32)).toNatClampNeg) fM aM bM _ hw) (r0 := 0) (ho := by decide) (hko := kM_o0) (hci := rfl) (w1 := (tm3 (i := 222) rfl rfl)) (w2 := (tm3 (i := 223) rfl rfl)) (w3 := (tm3 (i := 224) rfl rfl)) (w4 := (tm1 (i := 4) rfl rfl)) (w5 := (tm3 (i := 225) rfl rfl)) (hd := ⟨rfl, by decide, by decide, by decide +kernel⟩) (hrc := rfl) (hrs := rfl) (hR := ⟨Nat.le_of_ble_eq_true rfl, Nat.le_of_ble_eq_true rfl⟩) (hn := rfl) (hsz := hl.1) (hst := rfl) (hW := Nat.le_of_ble_eq_true rfl) (hdg := dL_law_600) (hf := ⟨by show _ ≤ 601024; omega, by show _ ≤ 7293034; omega⟩) (fun _ _ _ _ _ _ _ _ hw => hw.elim) (fun r9 f2 a2 b2 H locs hw K => ?_)
  refine lv_istore (lv' := [(6, .int r9), (5, .int k9), (0, .ref bs), (1, .ref (ad 0)), (2, .ref (ad 58)), (3, .ref (ad 57)), (4, .int x4)]) hx hb dL_law_603 hl (by decide) rfl (fun ls hl => ?_)
  refine lv_aload_n hx hb dL_law_605 rfl (lv_at hl 4 rfl) ?_
  refine geI X K (embM f2 a2 b2) (fun u1 => jF f1 u1) (fun u1 => jA a1 u1) (fun u1 => jB b1 u1) (fun u1 u2 u3 => embM u1 u2 u3) embMr (n0 := 0) (As := []) (rest := []) (hM := met_M_thrown hl9 D (fun k => ad (58 + k)) ca sa _  f2 a2 b2 _ hw) (r0 := 0) (ho := by decide) (hko := kM_o0) (hci := rfl) (w1 := (tm3 (i := 161) rfl rfl)) (w2 := (tm3 (i := 162) rfl rfl)) (w3 := (tm3 (i := 163) rfl rfl)) (w4 := (tm1 (i := 4) rfl rfl)) (w5 := (tm3 (i := 164) rfl rfl)) (hd := ⟨rfl, by decide, by decide, by decide +kernel⟩) (hrc := rfl) (hrs := rfl) (hR := ⟨Nat.le_of_ble_eq_true rfl, Nat.le_of_ble_eq_true rfl⟩) (hn := rfl) (hsz := hl.1) (hst := rfl) (hW := Nat.le_of_ble_eq_true rfl) (hdg := dL_law_606) (hf := ⟨by show _ ≤ 601024; omega, by show _ ≤ 7293034; omega⟩) (fun _ _ _ _ _ _ _ _ hw => hw.elim) (fun t9 f3 a3 b3 H locs hw K => ?_)
  refine lv_iload hx hb dL_law_609 (lv_at hl 1 rfl) ?_
  refine lv_icmp_eq (tgt := 616) hx hb dL_law_611 (by decide) (fun hc => ?_) (fun hc => absurd hw.1 hc)
  refine lv_iload hx hb dL_law_616 (lv_at hl 1 rfl) ?_
  refine lv_if_ne (tgt := 633) hx hb dL_law_618 (by decide) (fun hk => ?_) (fun hk => ?_)
  · refine lv_goto (tgt := 1064) hx hb dL_law_633 (by decide) ?_
    refine W.widen (k := c0 + 8) (n := s0 + 48) (by omega) (by omega) ?_
    exact hJ f1 a1 b1 f3 a3 b3 hw.2.2 _ _ K _ (lv_sub hl [2, 3, 4, 5, 6] rfl)
  · refine lv_aload_n hx hb dL_law_621 rfl (lv_at hl 5 rfl) ?_
    refine lv_iconst (v := (0 : Int32)) hx hb dL_law_622 (by decide) ?_
    refine glld X K (o := 57) (t0 := 2) (by decide) ((kL_lo (by decide)).trans kW_c57) rfl (by unfold vp_in; decide) dL_law_623 ?_
    refine lv_iload hx hb dL_law_624 (lv_at hl 0 rfl) ?_
    refine lv_i2l (v := r9.toInt64) hx hb dL_law_626 rfl ?_
    refine W.lcmp hx hb dL_law_627 ?_
    refine lv_if_eq (tgt := 633) hx hb dL_law_628 (by decide) (fun _ => ?_) (fun hc => absurd (lg_self (hw.2.1 hk)) hc)
    refine lv_goto (tgt := 1064) hx hb dL_law_633 (by decide) ?_
    refine W.widen (k := c0 + 8) (n := s0 + 48) (by omega) (by omega) ?_
    exact hJ f1 a1 b1 f3 a3 b3 hw.2.2 _ _ K _ (lv_sub hl [2, 3, 4, 5, 6] rfl)
set_option maxHeartbeats 4000000 in
set_option maxRecDepth 100000 in
theorem law_stay {p : Program} {l : Launch} {e : Env} {s : State} {m : MethodId} {below : List Frame} {meth : Method} {c : Code} {D : va_G} {sa : Nat → Nat} {ad : Nat → Nat} {ca : Nat → ClassId} {bs L : Nat} {xs : Nat → Int32} {I : wF → wA → wB → wF → wA → wB → Prop} (hok : okc_stay I) (X : cx Wl (tyS ca) txS D vwCl sa (fun q : Nat => s.heap.size ≤ q) p l s m #[Value.ref bs] meth c code 7 "SendBestLaw") (hX : va_X bs L xs s s.heap) (hbl : bs < s.heap.size) {c0 s0 : Nat} (hc0 : c0 + 8 ≤ 601024) (hs0 : s0 + 48 ≤ 7293034) {x4 : Int32} (h1 : vp_in (x4 + (1 : Int32)) L) (h2 : vp_in (x4 + (2 : Int32)) L) (h3 : vp_in (x4 + (3 : Int32)) L)
    (hJ : ∀ (fS : wF) (aS : wA) (bS : wB) (fM : wF) (aM : wA) (bM : wB), I fS aS bS fM aM bM → ∀ (H : Heap) (locs : List Loc), wd nL9 kL9 D vwCl ad ca (fun q : Nat => s.heap.size ≤ q) s H locs (jF fS fM) (jA aS aM) (jB bS bM) → ∀ (ls : Array Slot), lv_has ls 7 [(0, .ref bs), (1, .ref (ad 0)), (2, .ref (ad 58)), (3, .ref (ad 57)), (4, .int x4)] → W p l e room_1 s m #[Value.ref bs] below meth c H locs (c0 + 8) (s0 + 48) (lw_Z below #[Value.ref bs] s) (F0 m 1064 ls []))
    (fS : wF) (aS : wA) (bS : wB) (fM : wF) (aM : wA) (bM : wB) (hI : I fS aS bS fM aM bM) {H : Heap} {locs : List Loc} (K : wd nL9 kL9 D vwCl ad ca (fun q : Nat => s.heap.size ≤ q) s H locs (jF fS fM) (jA aS aM) (jB bS bM)) {ls : Array Slot} (hl : lv_has ls 7 [(0, .ref bs), (1, .ref (ad 0)), (2, .ref (ad 58)), (3, .ref (ad 57)), (4, .int x4)]) : W p l e room_1 s m #[Value.ref bs] below meth c H locs c0 s0 (lw_Z below #[Value.ref bs] s) (F0 m 636 ls []) := by
  obtain ⟨hx, hb, hml, hown, hts, hK, hA, hth, hlk, hl9⟩ := id X
  have hbA : ¬ (fun q : Nat => s.heap.size ≤ q) bs := Nat.not_le.mpr hbl
  refine lv_aload_n hx hb dL_law_636 rfl (lv_at hl 1 rfl) ?_
  refine lv_aload_n hx hb dL_law_637 rfl (lv_at hl 0 rfl) ?_
  refine lv_iload hx hb dL_law_638 (lv_at hl 4 rfl) ?_
  refine lv_iconst (v := (1 : Int32)) hx hb dL_law_640 (by decide) ?_
  refine lv_iadd hx hb dL_law_641 ?_
  refine va_sld hx hb hX hbl hbA K.2.2 h1 dL_law_642 ?_
  refine lv_aload_n hx hb dL_law_643 rfl (lv_at hl 0 rfl) ?_
  refine lv_iload hx hb dL_law_644 (lv_at hl 4 rfl) ?_
  refine lv_iconst (v := (2 : Int32)) hx hb dL_law_646 (by decide) ?_
  refine lv_iadd hx hb dL_law_647 ?_
  refine va_sld hx hb hX hbl hbA K.2.2 h2 dL_law_648 ?_
  refine lv_if_eq (tgt := 656) hx hb dL_law_649 (by decide) (fun hz => ?_) (fun hz => ?_)
  · refine lv_iconst (v := (0 : Int32)) hx hb dL_law_656 (by decide) ?_
    have hw := hok (xs (x4 + (1 : Int32)).toNatClampNeg) (0 : Int32) (Or.inl rfl) fS aS bS fM aM bM hI
    refine geSX X K (embW fS aS bS) (fun u1 => jF u1 fM) (fun u1 => jA u1 aM) (fun u1 => jB u1 bM) (fun u1 u2 u3 => embW u1 u2 u3) embWr (n0 := 3) (As := [.ref (ad 0), .int (xs (x4 + (1 : Int32)).toNatClampNeg), .int (0 : Int32)]) (rest := []) (hM := met_L_stay hl9 D ad ca sa _ (xs (x4 + (1 : Int32)).toNatClampNeg) (0 : Int32) fS aS bS _ hw) (w1 := (tm3 (i := 15) rfl rfl)) (w2 := (tm3 (i := 16) rfl rfl)) (w4 := (tm1 (i := 0) rfl rfl)) (w5 := (tm3 (i := 17) rfl rfl)) (hd := ⟨by decide, by decide, by decide +kernel⟩) (hrc := rfl) (hrs := rfl) (hR := ⟨Nat.le_of_ble_eq_true rfl, Nat.le_of_ble_eq_true rfl⟩) (hn := rfl) (hsz := hl.1) (hst := rfl) (hW := Nat.le_of_ble_eq_true rfl) (hdg := dL_law_657) (hf := ⟨by show _ ≤ 601024; omega, by show _ ≤ 7293034; omega⟩) (fun _ _ _ _ _ _ _ _ hw => hw.elim) (fun k9 f1 a1 b1 H locs hw K => ?_)
    refine lv_istore (lv' := [(5, .int k9), (0, .ref bs), (1, .ref (ad 0)), (2, .ref (ad 58)), (3, .ref (ad 57)), (4, .int x4)]) hx hb dL_law_660 hl (by decide) rfl (fun ls hl => ?_)
    refine lv_aload_n hx hb dL_law_662 rfl (lv_at hl 3 rfl) ?_
    refine lv_aload_n hx hb dL_law_663 rfl (lv_at hl 1 rfl) ?_
    refine lv_iload hx hb dL_law_664 (lv_at hl 5 rfl) ?_
    refine lv_iconst (v := (1 : Int32)) hx hb dL_law_666 (by decide) ?_
    refine lv_iadd hx hb dL_law_667 ?_
    refine va_sld hx hb hX hbl hbA K.2.2 h1 dL_law_668 ?_
    refine lv_aload_n hx hb dL_law_669 rfl (lv_at hl 1 rfl) ?_
    refine lv_iload hx hb dL_law_670 (lv_at hl 5 rfl) ?_
    refine lv_iconst (v := (2 : Int32)) hx hb dL_law_672 (by decide) ?_
    refine lv_iadd hx hb dL_law_673 ?_
    refine va_sld hx hb hX hbl hbA K.2.2 h2 dL_law_674 ?_
    refine lv_if_eq (tgt := 682) hx hb dL_law_675 (by decide) (fun _ => ?_) (fun hc => absurd hz hc)
    refine lv_iconst (v := (0 : Int32)) hx hb dL_law_682 (by decide) ?_
    refine geV X K (embM fM aM bM) (fun u1 => jF f1 u1) (fun u1 => jA a1 u1) (fun u1 => jB b1 u1) (fun u1 u2 u3 => embM u1 u2 u3) embMr (n0 := 2) (As := [.int (xs (x4 + (1 : Int32)).toNatClampNeg), .int (0 : Int32)]) (rest := []) (hM := met_M_stay hl9 D (fun k => ad (58 + k)) ca sa _ (xs (x4 + (1 : Int32)).toNatClampNeg) (0 : Int32) fM aM bM _ hw) (r0 := 0) (ho := by decide) (hko := kM_o0) (hci := rfl) (w1 := (tm4 (i := 40) rfl rfl)) (w2 := (tm4 (i := 41) rfl rfl)) (w3 := (tm4 (i := 42) rfl rfl)) (w4 := (tm1 (i := 4) rfl rfl)) (w5 := (tm4 (i := 43) rfl rfl)) (hd := ⟨rfl, by decide, by decide, by decide +kernel⟩) (hrc := rfl) (hrs := rfl) (hR := ⟨Nat.le_of_ble_eq_true rfl, Nat.le_of_ble_eq_true rfl⟩) (hn := rfl) (hsz := hl.1) (hst := rfl) (hW := Nat.le_of_ble_eq_true rfl) (hdg := dL_law_683) (hf := ⟨by show _ ≤ 601024; omega, by show _ ≤ 7293034; omega⟩) (fun _ _ _ _ _ _ _ _ hw => hw.elim) (fun f2 a2 b2 H locs hw K => ?_)
    refine lv_aload_n hx hb dL_law_686 rfl (lv_at hl 3 rfl) ?_
    refine geI X K (embM f2 a2 b2) (fun u1 => jF f1 u1) (fun u1 => jA a1 u1) (fun u1 => jB b1 u1) (fun u1 u2 u3 => embM u1 u2 u3) embMr (n0 := 0) (As := []) (rest := []) (hM := met_M_thrown hl9 D (fun k => ad (58 + k)) ca sa _  f2 a2 b2 _ hw) (r0 := 0) (ho := by decide) (hko := kM_o0) (hci := rfl) (w1 := (tm3 (i := 161) rfl rfl)) (w2 := (tm3 (i := 162) rfl rfl)) (w3 := (tm3 (i := 163) rfl rfl)) (w4 := (tm1 (i := 4) rfl rfl)) (w5 := (tm3 (i := 164) rfl rfl)) (hd := ⟨rfl, by decide, by decide, by decide +kernel⟩) (hrc := rfl) (hrs := rfl) (hR := ⟨Nat.le_of_ble_eq_true rfl, Nat.le_of_ble_eq_true rfl⟩) (hn := rfl) (hsz := hl.1) (hst := rfl) (hW := Nat.le_of_ble_eq_true rfl) (hdg := dL_law_687) (hf := ⟨by show _ ≤ 601024; omega, by show _ ≤ 7293034; omega⟩) (fun _ _ _ _ _ _ _ _ hw => hw.elim) (fun t9 f3 a3 b3 H locs hw K => ?_)
    refine lv_iload hx hb dL_law_690 (lv_at hl 0 rfl) ?_
    refine lv_icmp_eq (tgt := 697) hx hb dL_law_692 (by decide) (fun hc => ?_) (fun hc => absurd hw.1 hc)
    refine lv_goto (tgt := 1064) hx hb dL_law_697 (by decide) ?_
    refine W.widen (k := c0 + 8) (n := s0 + 48) (by omega) (by omega) ?_
    exact hJ f1 a1 b1 f3 a3 b3 hw.2 _ _ K _ (lv_sub hl [1, 2, 3, 4, 5] rfl)
  · refine lv_iconst (v := (1 : Int32)) hx hb dL_law_652 (by decide) ?_
    refine lv_goto (tgt := 657) hx hb dL_law_653 (by decide) ?_
    have hw := hok (xs (x4 + (1 : Int32)).toNatClampNeg) (1 : Int32) (Or.inr rfl) fS aS bS fM aM bM hI
    refine geSX X K (embW fS aS bS) (fun u1 => jF u1 fM) (fun u1 => jA u1 aM) (fun u1 => jB u1 bM) (fun u1 u2 u3 => embW u1 u2 u3) embWr (n0 := 3) (As := [.ref (ad 0), .int (xs (x4 + (1 : Int32)).toNatClampNeg), .int (1 : Int32)]) (rest := []) (hM := met_L_stay hl9 D ad ca sa _ (xs (x4 + (1 : Int32)).toNatClampNeg) (1 : Int32) fS aS bS _ hw) (w1 := (tm3 (i := 15) rfl rfl)) (w2 := (tm3 (i := 16) rfl rfl)) (w4 := (tm1 (i := 0) rfl rfl)) (w5 := (tm3 (i := 17) rfl rfl)) (hd := ⟨by decide, by decide, by decide +kernel⟩) (hrc := rfl) (hrs := rfl) (hR := ⟨Nat.le_of_ble_eq_true rfl, Nat.le_of_ble_eq_true rfl⟩) (hn := rfl) (hsz := hl.1) (hst := rfl) (hW := Nat.le_of_ble_eq_true rfl) (hdg := dL_law_657) (hf := ⟨by show _ ≤ 601024; omega, by show _ ≤ 7293034; omega⟩) (fun _ _ _ _ _ _ _ _ hw => hw.elim) (fun k9 f1 a1 b1 H locs hw K => ?_)
    refine lv_istore (lv' := [(5, .int k9), (0, .ref bs), (1, .ref (ad 0)), (2, .ref (ad 58)), (3, .ref (ad 57)), (4, .int x4)]) hx hb dL_law_660 hl (by decide) rfl (fun ls hl => ?_)
    refine lv_aload_n hx hb dL_law_662 rfl (lv_at hl 3 rfl) ?_
    refine lv_aload_n hx hb dL_law_663 rfl (lv_at hl 1 rfl) ?_
    refine lv_iload hx hb dL_law_664 (lv_at hl 5 rfl) ?_
    refine lv_iconst (v := (1 : Int32)) hx hb dL_law_666 (by decide) ?_
    refine lv_iadd hx hb dL_law_667 ?_
    refine va_sld hx hb hX hbl hbA K.2.2 h1 dL_law_668 ?_
    refine lv_aload_n hx hb dL_law_669 rfl (lv_at hl 1 rfl) ?_
    refine lv_iload hx hb dL_law_670 (lv_at hl 5 rfl) ?_
    refine lv_iconst (v := (2 : Int32)) hx hb dL_law_672 (by decide) ?_
    refine lv_iadd hx hb dL_law_673 ?_
    refine va_sld hx hb hX hbl hbA K.2.2 h2 dL_law_674 ?_
    refine lv_if_eq (tgt := 682) hx hb dL_law_675 (by decide) (fun hc => absurd hc hz) (fun _ => ?_)
    refine lv_iconst (v := (1 : Int32)) hx hb dL_law_678 (by decide) ?_
    refine lv_goto (tgt := 683) hx hb dL_law_679 (by decide) ?_
    refine geV X K (embM fM aM bM) (fun u1 => jF f1 u1) (fun u1 => jA a1 u1) (fun u1 => jB b1 u1) (fun u1 u2 u3 => embM u1 u2 u3) embMr (n0 := 2) (As := [.int (xs (x4 + (1 : Int32)).toNatClampNeg), .int (1 : Int32)]) (rest := []) (hM := met_M_stay hl9 D (fun k => ad (58 + k)) ca sa _ (xs (x4 + (1 : Int32)).toNatClampNeg) (1 : Int32) fM aM bM _ hw) (r0 := 0) (ho := by decide) (hko := kM_o0) (hci := rfl) (w1 := (tm4 (i := 40) rfl rfl)) (w2 := (tm4 (i := 41) rfl rfl)) (w3 := (tm4 (i := 42) rfl rfl)) (w4 := (tm1 (i := 4) rfl rfl)) (w5 := (tm4 (i := 43) rfl rfl)) (hd := ⟨rfl, by decide, by decide, by decide +kernel⟩) (hrc := rfl) (hrs := rfl) (hR := ⟨Nat.le_of_ble_eq_true rfl, Nat.le_of_ble_eq_true rfl⟩) (hn := rfl) (hsz := hl.1) (hst := rfl) (hW := Nat.le_of_ble_eq_true rfl) (hdg := dL_law_683) (hf := ⟨by show _ ≤ 601024; omega, by show _ ≤ 7293034; omega⟩) (fun _ _ _ _ _ _ _ _ hw => hw.elim) (fun f2 a2 b2 H locs hw K => ?_)
    refine lv_aload_n hx hb dL_law_686 rfl (lv_at hl 3 rfl) ?_
    refine geI X K (embM f2 a2 b2) (fun u1 => jF f1 u1) (fun u1 => jA a1 u1) (fun u1 => jB b1 u1) (fun u1 u2 u3 => embM u1 u2 u3) embMr (n0 := 0) (As := []) (rest := []) (hM := met_M_thrown hl9 D (fun k => ad (58 + k)) ca sa _  f2 a2 b2 _ hw) (r0 := 0) (ho := by decide) (hko := kM_o0) (hci := rfl) (w1 := (tm3 (i := 161) rfl rfl)) (w2 := (tm3 (i := 162) rfl rfl)) (w3 := (tm3 (i := 163) rfl rfl)) (w4 := (tm1 (i := 4) rfl rfl)) (w5 := (tm3 (i := 164) rfl rfl)) (hd := ⟨rfl, by decide, by decide, by decide +kernel⟩) (hrc := rfl) (hrs := rfl) (hR := ⟨Nat.le_of_ble_eq_true rfl, Nat.le_of_ble_eq_true rfl⟩) (hn := rfl) (hsz := hl.1) (hst := rfl) (hW := Nat.le_of_ble_eq_true rfl) (hdg := dL_law_687) (hf := ⟨by show _ ≤ 601024; omega, by show _ ≤ 7293034; omega⟩) (fun _ _ _ _ _ _ _ _ hw => hw.elim) (fun t9 f3 a3 b3 H locs hw K => ?_)
    refine lv_iload hx hb dL_law_690 (lv_at hl 0 rfl) ?_
    refine lv_icmp_eq (tgt := 697) hx hb dL_law_692 (by decide) (fun hc => ?_) (fun hc => absurd hw.1 hc)
    refine lv_goto (tgt := 1064) hx hb dL_law_697 (by decide) ?_
    refine W.widen (k := c0 + 8) (n := s0 + 48) (by omega) (by omega) ?_
    exact hJ f1 a1 b1 f3 a3 b3 hw.2 _ _ K _ (lv_sub hl [1, 2, 3, 4, 5] rfl)
set_option maxHeartbeats 4000000 in
set_option maxRecDepth 100000 in
theorem law_recall {p : Program} {l : Launch} {e : Env} {s : State} {m : MethodId} {below : List Frame} {meth : Method} {c : Code} {D : va_G} {sa : Nat → Nat} {ad : Nat → Nat} {ca : Nat → ClassId} {bs L : Nat} {xs : Nat → Int32} {I : wF → wA → wB → wF → wA → wB → Prop} (hok : okc_recall I) (X : cx Wl (tyS ca) txS D vwCl sa (fun q : Nat => s.heap.size ≤ q) p l s m #[Value.ref bs] meth c code 7 "SendBestLaw") (hX : va_X bs L xs s s.heap) (hbl : bs < s.heap.size) {c0 s0 : Nat} (hc0 : c0 + 8 ≤ 601024) (hs0 : s0 + 48 ≤ 7293034) {x4 : Int32} (h1 : vp_in (x4 + (1 : Int32)) L) (h2 : vp_in (x4 + (2 : Int32)) L) (h3 : vp_in (x4 + (3 : Int32)) L)
    (hJ : ∀ (fS : wF) (aS : wA) (bS : wB) (fM : wF) (aM : wA) (bM : wB), I fS aS bS fM aM bM → ∀ (H : Heap) (locs : List Loc), wd nL9 kL9 D vwCl ad ca (fun q : Nat => s.heap.size ≤ q) s H locs (jF fS fM) (jA aS aM) (jB bS bM) → ∀ (ls : Array Slot), lv_has ls 7 [(0, .ref bs), (1, .ref (ad 0)), (2, .ref (ad 58)), (3, .ref (ad 57)), (4, .int x4)] → W p l e room_1 s m #[Value.ref bs] below meth c H locs (c0 + 8) (s0 + 48) (lw_Z below #[Value.ref bs] s) (F0 m 1064 ls []))
    (fS : wF) (aS : wA) (bS : wB) (fM : wF) (aM : wA) (bM : wB) (hI : I fS aS bS fM aM bM) {H : Heap} {locs : List Loc} (K : wd nL9 kL9 D vwCl ad ca (fun q : Nat => s.heap.size ≤ q) s H locs (jF fS fM) (jA aS aM) (jB bS bM)) {ls : Array Slot} (hl : lv_has ls 7 [(0, .ref bs), (1, .ref (ad 0)), (2, .ref (ad 58)), (3, .ref (ad 57)), (4, .int x4)]) : W p l e room_1 s m #[Value.ref bs] below meth c H locs c0 s0 (lw_Z below #[Value.ref bs] s) (F0 m 700 ls []) := by
  obtain ⟨hx, hb, hml, hown, hts, hK, hA, hth, hlk, hl9⟩ := id X
  have hbA : ¬ (fun q : Nat => s.heap.size ≤ q) bs := Nat.not_le.mpr hbl
  refine lv_aload_n hx hb dL_law_700 rfl (lv_at hl 1 rfl) ?_
  refine lv_aload_n hx hb dL_law_701 rfl (lv_at hl 0 rfl) ?_
  refine lv_iload hx hb dL_law_702 (lv_at hl 4 rfl) ?_
  refine lv_iconst (v := (1 : Int32)) hx hb dL_law_704 (by decide) ?_
  refine lv_iadd hx hb dL_law_705 ?_
  refine va_sld hx hb hX hbl hbA K.2.2 h1 dL_law_706 ?_
  have hw := hok (xs (x4 + (1 : Int32)).toNatClampNeg) fS aS bS fM aM bM hI
  refine geSX X K (embW fS aS bS) (fun u1 => jF u1 fM) (fun u1 => jA u1 aM) (fun u1 => jB u1 bM) (fun u1 u2 u3 => embW u1 u2 u3) embWr (n0 := 2) (As := [.ref (ad 0), .int (xs (x4 + (1 : Int32)).toNatClampNeg)]) (rest := []) (hM := met_L_recall hl9 D ad ca sa _ (xs (x4 + (1 : Int32)).toNatClampNeg) fS aS bS _ hw) (w1 := (tm3 (i := 27) rfl rfl)) (w2 := (tm3 (i := 28) rfl rfl)) (w4 := (tm1 (i := 0) rfl rfl)) (w5 := (tm3 (i := 29) rfl rfl)) (hd := ⟨by decide, by decide, by decide +kernel⟩) (hrc := rfl) (hrs := rfl) (hR := ⟨Nat.le_of_ble_eq_true rfl, Nat.le_of_ble_eq_true rfl⟩) (hn := rfl) (hsz := hl.1) (hst := rfl) (hW := Nat.le_of_ble_eq_true rfl) (hdg := dL_law_707) (hf := ⟨by show _ ≤ 601024; omega, by show _ ≤ 7293034; omega⟩) (fun _ _ _ _ _ _ _ _ hw => hw.elim) (fun k9 f1 a1 b1 H locs hw K => ?_)
  refine lv_istore (lv' := [(5, .int k9), (0, .ref bs), (1, .ref (ad 0)), (2, .ref (ad 58)), (3, .ref (ad 57)), (4, .int x4)]) hx hb dL_law_710 hl (by decide) rfl (fun ls hl => ?_)
  refine lv_aload_n hx hb dL_law_712 rfl (lv_at hl 3 rfl) ?_
  refine lv_aload_n hx hb dL_law_713 rfl (lv_at hl 1 rfl) ?_
  refine lv_iload hx hb dL_law_714 (lv_at hl 5 rfl) ?_
  refine lv_iconst (v := (1 : Int32)) hx hb dL_law_716 (by decide) ?_
  refine lv_iadd hx hb dL_law_717 ?_
  refine va_sld hx hb hX hbl hbA K.2.2 h1 dL_law_718 ?_
  refine geV X K (embM fM aM bM) (fun u1 => jF f1 u1) (fun u1 => jA a1 u1) (fun u1 => jB b1 u1) (fun u1 u2 u3 => embM u1 u2 u3) embMr (n0 := 1) (As := [.int (xs (x4 + (1 : Int32)).toNatClampNeg)]) (rest := []) (hM := met_M_recall hl9 D (fun k => ad (58 + k)) ca sa _ (xs (x4 + (1 : Int32)).toNatClampNeg) fM aM bM _ hw) (r0 := 0) (ho := by decide) (hko := kM_o0) (hci := rfl) (w1 := (tm4 (i := 44) rfl rfl)) (w2 := (tm4 (i := 45) rfl rfl)) (w3 := (tm4 (i := 46) rfl rfl)) (w4 := (tm1 (i := 4) rfl rfl)) (w5 := (tm4 (i := 47) rfl rfl)) (hd := ⟨rfl, by decide, by decide, by decide +kernel⟩) (hrc := rfl) (hrs := rfl) (hR := ⟨Nat.le_of_ble_eq_true rfl, Nat.le_of_ble_eq_true rfl⟩) (hn := rfl) (hsz := hl.1) (hst := rfl) (hW := Nat.le_of_ble_eq_true rfl) (hdg := dL_law_719) (hf := ⟨by show _ ≤ 601024; omega, by show _ ≤ 7293034; omega⟩) (fun _ _ _ _ _ _ _ _ hw => hw.elim) (fun f2 a2 b2 H locs hw K => ?_)
  refine lv_aload_n hx hb dL_law_722 rfl (lv_at hl 3 rfl) ?_
  refine geI X K (embM f2 a2 b2) (fun u1 => jF f1 u1) (fun u1 => jA a1 u1) (fun u1 => jB b1 u1) (fun u1 u2 u3 => embM u1 u2 u3) embMr (n0 := 0) (As := []) (rest := []) (hM := met_M_thrown hl9 D (fun k => ad (58 + k)) ca sa _  f2 a2 b2 _ hw) (r0 := 0) (ho := by decide) (hko := kM_o0) (hci := rfl) (w1 := (tm3 (i := 161) rfl rfl)) (w2 := (tm3 (i := 162) rfl rfl)) (w3 := (tm3 (i := 163) rfl rfl)) (w4 := (tm1 (i := 4) rfl rfl)) (w5 := (tm3 (i := 164) rfl rfl)) (hd := ⟨rfl, by decide, by decide, by decide +kernel⟩) (hrc := rfl) (hrs := rfl) (hR := ⟨Nat.le_of_ble_eq_true rfl, Nat.le_of_ble_eq_true rfl⟩) (hn := rfl) (hsz := hl.1) (hst := rfl) (hW := Nat.le_of_ble_eq_true rfl) (hdg := dL_law_723) (hf := ⟨by show _ ≤ 601024; omega, by show _ ≤ 7293034; omega⟩) (fun _ _ _ _ _ _ _ _ hw => hw.elim) (fun t9 f3 a3 b3 H locs hw K => ?_)
  refine lv_iload hx hb dL_law_726 (lv_at hl 0 rfl) ?_
  refine lv_icmp_eq (tgt := 733) hx hb dL_law_728 (by decide) (fun hc => ?_) (fun hc => absurd hw.1 hc)
  refine lv_goto (tgt := 1064) hx hb dL_law_733 (by decide) ?_
  refine W.widen (k := c0 + 8) (n := s0 + 48) (by omega) (by omega) ?_
  exact hJ f1 a1 b1 f3 a3 b3 hw.2 _ _ K _ (lv_sub hl [1, 2, 3, 4, 5] rfl)
set_option maxHeartbeats 4000000 in
set_option maxRecDepth 100000 in
theorem law_close {p : Program} {l : Launch} {e : Env} {s : State} {m : MethodId} {below : List Frame} {meth : Method} {c : Code} {D : va_G} {sa : Nat → Nat} {ad : Nat → Nat} {ca : Nat → ClassId} {bs L : Nat} {xs : Nat → Int32} {I : wF → wA → wB → wF → wA → wB → Prop} (hok : okc_close I) (X : cx Wl (tyS ca) txS D vwCl sa (fun q : Nat => s.heap.size ≤ q) p l s m #[Value.ref bs] meth c code 7 "SendBestLaw") (hX : va_X bs L xs s s.heap) (hbl : bs < s.heap.size) {c0 s0 : Nat} (hc0 : c0 + 8 ≤ 601024) (hs0 : s0 + 48 ≤ 7293034) {x4 : Int32} (h1 : vp_in (x4 + (1 : Int32)) L) (h2 : vp_in (x4 + (2 : Int32)) L) (h3 : vp_in (x4 + (3 : Int32)) L)
    (hJ : ∀ (fS : wF) (aS : wA) (bS : wB) (fM : wF) (aM : wA) (bM : wB), I fS aS bS fM aM bM → ∀ (H : Heap) (locs : List Loc), wd nL9 kL9 D vwCl ad ca (fun q : Nat => s.heap.size ≤ q) s H locs (jF fS fM) (jA aS aM) (jB bS bM) → ∀ (ls : Array Slot), lv_has ls 7 [(0, .ref bs), (1, .ref (ad 0)), (2, .ref (ad 58)), (3, .ref (ad 57)), (4, .int x4)] → W p l e room_1 s m #[Value.ref bs] below meth c H locs (c0 + 8) (s0 + 48) (lw_Z below #[Value.ref bs] s) (F0 m 1064 ls []))
    (fS : wF) (aS : wA) (bS : wB) (fM : wF) (aM : wA) (bM : wB) (hI : I fS aS bS fM aM bM) {H : Heap} {locs : List Loc} (K : wd nL9 kL9 D vwCl ad ca (fun q : Nat => s.heap.size ≤ q) s H locs (jF fS fM) (jA aS aM) (jB bS bM)) {ls : Array Slot} (hl : lv_has ls 7 [(0, .ref bs), (1, .ref (ad 0)), (2, .ref (ad 58)), (3, .ref (ad 57)), (4, .int x4)]) : W p l e room_1 s m #[Value.ref bs] below meth c H locs c0 s0 (lw_Z below #[Value.ref bs] s) (F0 m 736 ls []) := by
  obtain ⟨hx, hb, hml, hown, hts, hK, hA, hth, hlk, hl9⟩ := id X
  have hbA : ¬ (fun q : Nat => s.heap.size ≤ q) bs := Nat.not_le.mpr hbl
  refine lv_aload_n hx hb dL_law_736 rfl (lv_at hl 1 rfl) ?_
  refine lv_aload_n hx hb dL_law_737 rfl (lv_at hl 0 rfl) ?_
  refine lv_iload hx hb dL_law_738 (lv_at hl 4 rfl) ?_
  refine lv_iconst (v := (1 : Int32)) hx hb dL_law_740 (by decide) ?_
  refine lv_iadd hx hb dL_law_741 ?_
  refine va_sld hx hb hX hbl hbA K.2.2 h1 dL_law_742 ?_
  have hw := hok (xs (x4 + (1 : Int32)).toNatClampNeg) fS aS bS fM aM bM hI
  refine geSX X K (embW fS aS bS) (fun u1 => jF u1 fM) (fun u1 => jA u1 aM) (fun u1 => jB u1 bM) (fun u1 u2 u3 => embW u1 u2 u3) embWr (n0 := 2) (As := [.ref (ad 0), .int (xs (x4 + (1 : Int32)).toNatClampNeg)]) (rest := []) (hM := met_L_close hl9 D ad ca sa _ (xs (x4 + (1 : Int32)).toNatClampNeg) fS aS bS _ hw) (w1 := (tm3 (i := 34) rfl rfl)) (w2 := (tm3 (i := 35) rfl rfl)) (w4 := (tm1 (i := 0) rfl rfl)) (w5 := (tm3 (i := 36) rfl rfl)) (hd := ⟨by decide, by decide, by decide +kernel⟩) (hrc := rfl) (hrs := rfl) (hR := ⟨Nat.le_of_ble_eq_true rfl, Nat.le_of_ble_eq_true rfl⟩) (hn := rfl) (hsz := hl.1) (hst := rfl) (hW := Nat.le_of_ble_eq_true rfl) (hdg := dL_law_743) (hf := ⟨by show _ ≤ 601024; omega, by show _ ≤ 7293034; omega⟩) (fun _ _ _ _ _ _ _ _ hw => hw.elim) (fun k9 f1 a1 b1 H locs hw K => ?_)
  refine lv_istore (lv' := [(5, .int k9), (0, .ref bs), (1, .ref (ad 0)), (2, .ref (ad 58)), (3, .ref (ad 57)), (4, .int x4)]) hx hb dL_law_746 hl (by decide) rfl (fun ls hl => ?_)
  refine lv_aload_n hx hb dL_law_748 rfl (lv_at hl 3 rfl) ?_
  refine lv_aload_n hx hb dL_law_749 rfl (lv_at hl 1 rfl) ?_
  refine lv_iload hx hb dL_law_750 (lv_at hl 5 rfl) ?_
  refine lv_iconst (v := (1 : Int32)) hx hb dL_law_752 (by decide) ?_
  refine lv_iadd hx hb dL_law_753 ?_
  refine va_sld hx hb hX hbl hbA K.2.2 h1 dL_law_754 ?_
  refine geV X K (embM fM aM bM) (fun u1 => jF f1 u1) (fun u1 => jA a1 u1) (fun u1 => jB b1 u1) (fun u1 u2 u3 => embM u1 u2 u3) embMr (n0 := 1) (As := [.int (xs (x4 + (1 : Int32)).toNatClampNeg)]) (rest := []) (hM := met_M_close hl9 D (fun k => ad (58 + k)) ca sa _ (xs (x4 + (1 : Int32)).toNatClampNeg) fM aM bM _ hw) (r0 := 0) (ho := by decide) (hko := kM_o0) (hci := rfl) (w1 := (tm4 (i := 48) rfl rfl)) (w2 := (tm4 (i := 49) rfl rfl)) (w3 := (tm4 (i := 50) rfl rfl)) (w4 := (tm1 (i := 4) rfl rfl)) (w5 := (tm4 (i := 51) rfl rfl)) (hd := ⟨rfl, by decide, by decide, by decide +kernel⟩) (hrc := rfl) (hrs := rfl) (hR := ⟨Nat.le_of_ble_eq_true rfl, Nat.le_of_ble_eq_true rfl⟩) (hn := rfl) (hsz := hl.1) (hst := rfl) (hW := Nat.le_of_ble_eq_true rfl) (hdg := dL_law_755) (hf := ⟨by show _ ≤ 601024; omega, by show _ ≤ 7293034; omega⟩) (fun _ _ _ _ _ _ _ _ hw => hw.elim) (fun f2 a2 b2 H locs hw K => ?_)
  refine lv_aload_n hx hb dL_law_758 rfl (lv_at hl 3 rfl) ?_
  refine geI X K (embM f2 a2 b2) (fun u1 => jF f1 u1) (fun u1 => jA a1 u1) (fun u1 => jB b1 u1) (fun u1 u2 u3 => embM u1 u2 u3) embMr (n0 := 0) (As := []) (rest := []) (hM := met_M_thrown hl9 D (fun k => ad (58 + k)) ca sa _  f2 a2 b2 _ hw) (r0 := 0) (ho := by decide) (hko := kM_o0) (hci := rfl) (w1 := (tm3 (i := 161) rfl rfl)) (w2 := (tm3 (i := 162) rfl rfl)) (w3 := (tm3 (i := 163) rfl rfl)) (w4 := (tm1 (i := 4) rfl rfl)) (w5 := (tm3 (i := 164) rfl rfl)) (hd := ⟨rfl, by decide, by decide, by decide +kernel⟩) (hrc := rfl) (hrs := rfl) (hR := ⟨Nat.le_of_ble_eq_true rfl, Nat.le_of_ble_eq_true rfl⟩) (hn := rfl) (hsz := hl.1) (hst := rfl) (hW := Nat.le_of_ble_eq_true rfl) (hdg := dL_law_759) (hf := ⟨by show _ ≤ 601024; omega, by show _ ≤ 7293034; omega⟩) (fun _ _ _ _ _ _ _ _ hw => hw.elim) (fun t9 f3 a3 b3 H locs hw K => ?_)
  refine lv_iload hx hb dL_law_762 (lv_at hl 0 rfl) ?_
  refine lv_icmp_eq (tgt := 769) hx hb dL_law_764 (by decide) (fun hc => ?_) (fun hc => absurd hw.1 hc)
  refine lv_goto (tgt := 1064) hx hb dL_law_769 (by decide) ?_
  refine W.widen (k := c0 + 8) (n := s0 + 48) (by omega) (by omega) ?_
  exact hJ f1 a1 b1 f3 a3 b3 hw.2 _ _ K _ (lv_sub hl [1, 2, 3, 4, 5] rfl)
set_option maxHeartbeats 4000000 in
set_option maxRecDepth 100000 in
theorem law_needAt {p : Program} {l : Launch} {e : Env} {s : State} {m : MethodId} {below : List Frame} {meth : Method} {c : Code} {D : va_G} {sa : Nat → Nat} {ad : Nat → Nat} {ca : Nat → ClassId} {bs L : Nat} {xs : Nat → Int32} {I : wF → wA → wB → wF → wA → wB → Prop} (hok : okc_needAt I) (X : cx Wl (tyS ca) txS D vwCl sa (fun q : Nat => s.heap.size ≤ q) p l s m #[Value.ref bs] meth c code 7 "SendBestLaw") (hX : va_X bs L xs s s.heap) (hbl : bs < s.heap.size) {c0 s0 : Nat} (hc0 : c0 + 8 ≤ 601024) (hs0 : s0 + 48 ≤ 7293034) {x4 : Int32} (h1 : vp_in (x4 + (1 : Int32)) L) (h2 : vp_in (x4 + (2 : Int32)) L) (h3 : vp_in (x4 + (3 : Int32)) L)
    (hJ : ∀ (fS : wF) (aS : wA) (bS : wB) (fM : wF) (aM : wA) (bM : wB), I fS aS bS fM aM bM → ∀ (H : Heap) (locs : List Loc), wd nL9 kL9 D vwCl ad ca (fun q : Nat => s.heap.size ≤ q) s H locs (jF fS fM) (jA aS aM) (jB bS bM) → ∀ (ls : Array Slot), lv_has ls 7 [(0, .ref bs), (1, .ref (ad 0)), (2, .ref (ad 58)), (3, .ref (ad 57)), (4, .int x4)] → W p l e room_1 s m #[Value.ref bs] below meth c H locs (c0 + 8) (s0 + 48) (lw_Z below #[Value.ref bs] s) (F0 m 1064 ls []))
    (fS : wF) (aS : wA) (bS : wB) (fM : wF) (aM : wA) (bM : wB) (hI : I fS aS bS fM aM bM) {H : Heap} {locs : List Loc} (K : wd nL9 kL9 D vwCl ad ca (fun q : Nat => s.heap.size ≤ q) s H locs (jF fS fM) (jA aS aM) (jB bS bM)) {ls : Array Slot} (hl : lv_has ls 7 [(0, .ref bs), (1, .ref (ad 0)), (2, .ref (ad 58)), (3, .ref (ad 57)), (4, .int x4)]) : W p l e room_1 s m #[Value.ref bs] below meth c H locs c0 s0 (lw_Z below #[Value.ref bs] s) (F0 m 772 ls []) := by
  obtain ⟨hx, hb, hml, hown, hts, hK, hA, hth, hlk, hl9⟩ := id X
  have hbA : ¬ (fun q : Nat => s.heap.size ≤ q) bs := Nat.not_le.mpr hbl
  refine lv_aload_n hx hb dL_law_772 rfl (lv_at hl 1 rfl) ?_
  refine lv_aload_n hx hb dL_law_773 rfl (lv_at hl 0 rfl) ?_
  refine lv_iload hx hb dL_law_774 (lv_at hl 4 rfl) ?_
  refine lv_iconst (v := (1 : Int32)) hx hb dL_law_776 (by decide) ?_
  refine lv_iadd hx hb dL_law_777 ?_
  refine va_sld hx hb hX hbl hbA K.2.2 h1 dL_law_778 ?_
  refine lv_aload_n hx hb dL_law_779 rfl (lv_at hl 0 rfl) ?_
  refine lv_iload hx hb dL_law_780 (lv_at hl 4 rfl) ?_
  refine lv_iconst (v := (2 : Int32)) hx hb dL_law_782 (by decide) ?_
  refine lv_iadd hx hb dL_law_783 ?_
  refine va_sld hx hb hX hbl hbA K.2.2 h2 dL_law_784 ?_
  refine lv_aload_n hx hb dL_law_785 rfl (lv_at hl 3 rfl) ?_
  have hw := hok (xs (x4 + (1 : Int32)).toNatClampNeg) (xs (x4 + (2 : Int32)).toNatClampNeg) fS aS bS fM aM bM hI
  refine geSX X K (embW fS aS bS) (fun u1 => jF u1 fM) (fun u1 => jA u1 aM) (fun u1 => jB u1 bM) (fun u1 u2 u3 => embW u1 u2 u3) embWr (n0 := 4) (As := [.ref (ad 0), .int (xs (x4 + (1 : Int32)).toNatClampNeg), .int (xs (x4 + (2 : Int32)).toNatClampNeg), .ref (ad 57)]) (rest := []) (hM := met_L_needAt hl9 D ad ca sa _ (xs (x4 + (1 : Int32)).toNatClampNeg) (xs (x4 + (2 : Int32)).toNatClampNeg) fS aS bS _ hw) (w1 := (tm3 (i := 41) rfl rfl)) (w2 := (tm3 (i := 42) rfl rfl)) (w4 := (tm1 (i := 0) rfl rfl)) (w5 := (tm3 (i := 43) rfl rfl)) (hd := ⟨by decide, by decide, by decide +kernel⟩) (hrc := rfl) (hrs := rfl) (hR := ⟨Nat.le_of_ble_eq_true rfl, Nat.le_of_ble_eq_true rfl⟩) (hn := rfl) (hsz := hl.1) (hst := rfl) (hW := Nat.le_of_ble_eq_true rfl) (hdg := dL_law_786) (hf := ⟨by show _ ≤ 601024; omega, by show _ ≤ 7293034; omega⟩) (fun _ _ _ _ _ _ _ _ hw => hw.elim) (fun k9 f1 a1 b1 H locs hw K => ?_)
  refine lv_istore (lv' := [(5, .int k9), (0, .ref bs), (1, .ref (ad 0)), (2, .ref (ad 58)), (3, .ref (ad 57)), (4, .int x4)]) hx hb dL_law_789 hl (by decide) rfl (fun ls hl => ?_)
  refine lv_aload_n hx hb dL_law_791 rfl (lv_at hl 3 rfl) ?_
  refine lv_aload_n hx hb dL_law_792 rfl (lv_at hl 1 rfl) ?_
  refine lv_iload hx hb dL_law_793 (lv_at hl 5 rfl) ?_
  refine lv_iconst (v := (1 : Int32)) hx hb dL_law_795 (by decide) ?_
  refine lv_iadd hx hb dL_law_796 ?_
  refine va_sld hx hb hX hbl hbA K.2.2 h1 dL_law_797 ?_
  refine lv_aload_n hx hb dL_law_798 rfl (lv_at hl 1 rfl) ?_
  refine lv_iload hx hb dL_law_799 (lv_at hl 5 rfl) ?_
  refine lv_iconst (v := (2 : Int32)) hx hb dL_law_801 (by decide) ?_
  refine lv_iadd hx hb dL_law_802 ?_
  refine va_sld hx hb hX hbl hbA K.2.2 h2 dL_law_803 ?_
  refine geI X K (embM fM aM bM) (fun u1 => jF f1 u1) (fun u1 => jA a1 u1) (fun u1 => jB b1 u1) (fun u1 u2 u3 => embM u1 u2 u3) embMr (n0 := 2) (As := [.int (xs (x4 + (1 : Int32)).toNatClampNeg), .int (xs (x4 + (2 : Int32)).toNatClampNeg)]) (rest := []) (hM := met_M_needAt hl9 D (fun k => ad (58 + k)) ca sa _ (xs (x4 + (1 : Int32)).toNatClampNeg) (xs (x4 + (2 : Int32)).toNatClampNeg) fM aM bM _ hw) (r0 := 0) (ho := by decide) (hko := kM_o0) (hci := rfl) (w1 := (tm4 (i := 52) rfl rfl)) (w2 := (tm4 (i := 53) rfl rfl)) (w3 := (tm4 (i := 54) rfl rfl)) (w4 := (tm1 (i := 4) rfl rfl)) (w5 := (tm4 (i := 55) rfl rfl)) (hd := ⟨rfl, by decide, by decide, by decide +kernel⟩) (hrc := rfl) (hrs := rfl) (hR := ⟨Nat.le_of_ble_eq_true rfl, Nat.le_of_ble_eq_true rfl⟩) (hn := rfl) (hsz := hl.1) (hst := rfl) (hW := Nat.le_of_ble_eq_true rfl) (hdg := dL_law_804) (hf := ⟨by show _ ≤ 601024; omega, by show _ ≤ 7293034; omega⟩) (fun _ _ _ _ _ _ _ _ hw => hw.elim) (fun r9 f2 a2 b2 H locs hw K => ?_)
  refine lv_istore (lv' := [(6, .int r9), (5, .int k9), (0, .ref bs), (1, .ref (ad 0)), (2, .ref (ad 58)), (3, .ref (ad 57)), (4, .int x4)]) hx hb dL_law_807 hl (by decide) rfl (fun ls hl => ?_)
  refine lv_aload_n hx hb dL_law_809 rfl (lv_at hl 4 rfl) ?_
  refine geI X K (embM f2 a2 b2) (fun u1 => jF f1 u1) (fun u1 => jA a1 u1) (fun u1 => jB b1 u1) (fun u1 u2 u3 => embM u1 u2 u3) embMr (n0 := 0) (As := []) (rest := []) (hM := met_M_thrown hl9 D (fun k => ad (58 + k)) ca sa _  f2 a2 b2 _ hw) (r0 := 0) (ho := by decide) (hko := kM_o0) (hci := rfl) (w1 := (tm3 (i := 161) rfl rfl)) (w2 := (tm3 (i := 162) rfl rfl)) (w3 := (tm3 (i := 163) rfl rfl)) (w4 := (tm1 (i := 4) rfl rfl)) (w5 := (tm3 (i := 164) rfl rfl)) (hd := ⟨rfl, by decide, by decide, by decide +kernel⟩) (hrc := rfl) (hrs := rfl) (hR := ⟨Nat.le_of_ble_eq_true rfl, Nat.le_of_ble_eq_true rfl⟩) (hn := rfl) (hsz := hl.1) (hst := rfl) (hW := Nat.le_of_ble_eq_true rfl) (hdg := dL_law_810) (hf := ⟨by show _ ≤ 601024; omega, by show _ ≤ 7293034; omega⟩) (fun _ _ _ _ _ _ _ _ hw => hw.elim) (fun t9 f3 a3 b3 H locs hw K => ?_)
  refine lv_iload hx hb dL_law_813 (lv_at hl 1 rfl) ?_
  refine lv_icmp_eq (tgt := 820) hx hb dL_law_815 (by decide) (fun hc => ?_) (fun hc => absurd hw.1 hc)
  refine lv_iload hx hb dL_law_820 (lv_at hl 1 rfl) ?_
  refine lv_if_ne (tgt := 837) hx hb dL_law_822 (by decide) (fun hk => ?_) (fun hk => ?_)
  · refine lv_goto (tgt := 1064) hx hb dL_law_837 (by decide) ?_
    refine W.widen (k := c0 + 8) (n := s0 + 48) (by omega) (by omega) ?_
    exact hJ f1 a1 b1 f3 a3 b3 hw.2.2 _ _ K _ (lv_sub hl [2, 3, 4, 5, 6] rfl)
  · refine lv_aload_n hx hb dL_law_825 rfl (lv_at hl 5 rfl) ?_
    refine lv_iconst (v := (0 : Int32)) hx hb dL_law_826 (by decide) ?_
    refine glld X K (o := 57) (t0 := 2) (by decide) ((kL_lo (by decide)).trans kW_c57) rfl (by unfold vp_in; decide) dL_law_827 ?_
    refine lv_iload hx hb dL_law_828 (lv_at hl 0 rfl) ?_
    refine lv_i2l (v := r9.toInt64) hx hb dL_law_830 rfl ?_
    refine W.lcmp hx hb dL_law_831 ?_
    refine lv_if_eq (tgt := 837) hx hb dL_law_832 (by decide) (fun _ => ?_) (fun hc => absurd (lg_self (hw.2.1 hk)) hc)
    refine lv_goto (tgt := 1064) hx hb dL_law_837 (by decide) ?_
    refine W.widen (k := c0 + 8) (n := s0 + 48) (by omega) (by omega) ?_
    exact hJ f1 a1 b1 f3 a3 b3 hw.2.2 _ _ K _ (lv_sub hl [2, 3, 4, 5, 6] rfl)
set_option maxHeartbeats 4000000 in
set_option maxRecDepth 100000 in
theorem law_fills {p : Program} {l : Launch} {e : Env} {s : State} {m : MethodId} {below : List Frame} {meth : Method} {c : Code} {D : va_G} {sa : Nat → Nat} {ad : Nat → Nat} {ca : Nat → ClassId} {bs L : Nat} {xs : Nat → Int32} {I : wF → wA → wB → wF → wA → wB → Prop} (hok : okc_fills I) (X : cx Wl (tyS ca) txS D vwCl sa (fun q : Nat => s.heap.size ≤ q) p l s m #[Value.ref bs] meth c code 7 "SendBestLaw") (hX : va_X bs L xs s s.heap) (hbl : bs < s.heap.size) {c0 s0 : Nat} (hc0 : c0 + 8 ≤ 601024) (hs0 : s0 + 48 ≤ 7293034) {x4 : Int32} (h1 : vp_in (x4 + (1 : Int32)) L) (h2 : vp_in (x4 + (2 : Int32)) L) (h3 : vp_in (x4 + (3 : Int32)) L)
    (hJ : ∀ (fS : wF) (aS : wA) (bS : wB) (fM : wF) (aM : wA) (bM : wB), I fS aS bS fM aM bM → ∀ (H : Heap) (locs : List Loc), wd nL9 kL9 D vwCl ad ca (fun q : Nat => s.heap.size ≤ q) s H locs (jF fS fM) (jA aS aM) (jB bS bM) → ∀ (ls : Array Slot), lv_has ls 7 [(0, .ref bs), (1, .ref (ad 0)), (2, .ref (ad 58)), (3, .ref (ad 57)), (4, .int x4)] → W p l e room_1 s m #[Value.ref bs] below meth c H locs (c0 + 8) (s0 + 48) (lw_Z below #[Value.ref bs] s) (F0 m 1064 ls []))
    (fS : wF) (aS : wA) (bS : wB) (fM : wF) (aM : wA) (bM : wB) (hI : I fS aS bS fM aM bM) {H : Heap} {locs : List Loc} (K : wd nL9 kL9 D vwCl ad ca (fun q : Nat => s.heap.size ≤ q) s H locs (jF fS fM) (jA aS aM) (jB bS bM)) {ls : Array Slot} (hl : lv_has ls 7 [(0, .ref bs), (1, .ref (ad 0)), (2, .ref (ad 58)), (3, .ref (ad 57)), (4, .int x4)]) : W p l e room_1 s m #[Value.ref bs] below meth c H locs c0 s0 (lw_Z below #[Value.ref bs] s) (F0 m 840 ls []) := by
  obtain ⟨hx, hb, hml, hown, hts, hK, hA, hth, hlk, hl9⟩ := id X
  have hbA : ¬ (fun q : Nat => s.heap.size ≤ q) bs := Nat.not_le.mpr hbl
  refine lv_aload_n hx hb dL_law_840 rfl (lv_at hl 1 rfl) ?_
  refine lv_aload_n hx hb dL_law_841 rfl (lv_at hl 0 rfl) ?_
  refine lv_iload hx hb dL_law_842 (lv_at hl 4 rfl) ?_
  refine lv_iconst (v := (1 : Int32)) hx hb dL_law_844 (by decide) ?_
  refine lv_iadd hx hb dL_law_845 ?_
  refine va_sld hx hb hX hbl hbA K.2.2 h1 dL_law_846 ?_
  refine lv_aload_n hx hb dL_law_847 rfl (lv_at hl 3 rfl) ?_
  have hw := hok (xs (x4 + (1 : Int32)).toNatClampNeg) fS aS bS fM aM bM hI
  refine geSX X K (embW fS aS bS) (fun u1 => jF u1 fM) (fun u1 => jA u1 aM) (fun u1 => jB u1 bM) (fun u1 u2 u3 => embW u1 u2 u3) embWr (n0 := 3) (As := [.ref (ad 0), .int (xs (x4 + (1 : Int32)).toNatClampNeg), .ref (ad 57)]) (rest := []) (hM := met_L_fills hl9 D ad ca sa _ (xs (x4 + (1 : Int32)).toNatClampNeg) fS aS bS _ hw) (w1 := (tm3 (i := 54) rfl rfl)) (w2 := (tm3 (i := 55) rfl rfl)) (w4 := (tm1 (i := 0) rfl rfl)) (w5 := (tm3 (i := 56) rfl rfl)) (hd := ⟨by decide, by decide, by decide +kernel⟩) (hrc := rfl) (hrs := rfl) (hR := ⟨Nat.le_of_ble_eq_true rfl, Nat.le_of_ble_eq_true rfl⟩) (hn := rfl) (hsz := hl.1) (hst := rfl) (hW := Nat.le_of_ble_eq_true rfl) (hdg := dL_law_848) (hf := ⟨by show _ ≤ 601024; omega, by show _ ≤ 7293034; omega⟩) (fun _ _ _ _ _ _ _ _ hw => hw.elim) (fun k9 f1 a1 b1 H locs hw K => ?_)
  refine lv_istore (lv' := [(5, .int k9), (0, .ref bs), (1, .ref (ad 0)), (2, .ref (ad 58)), (3, .ref (ad 57)), (4, .int x4)]) hx hb dL_law_851 hl (by decide) rfl (fun ls hl => ?_)
  refine lv_aload_n hx hb dL_law_853 rfl (lv_at hl 3 rfl) ?_
  refine lv_aload_n hx hb dL_law_854 rfl (lv_at hl 1 rfl) ?_
  refine lv_iload hx hb dL_law_855 (lv_at hl 5 rfl) ?_
  refine lv_iconst (v := (1 : Int32)) hx hb dL_law_857 (by decide) ?_
  refine lv_iadd hx hb dL_law_858 ?_
  refine va_sld hx hb hX hbl hbA K.2.2 h1 dL_law_859 ?_
  refine geI X K (embM fM aM bM) (fun u1 => jF f1 u1) (fun u1 => jA a1 u1) (fun u1 => jB b1 u1) (fun u1 u2 u3 => embM u1 u2 u3) embMr (n0 := 1) (As := [.int (xs (x4 + (1 : Int32)).toNatClampNeg)]) (rest := []) (hM := met_M_fills hl9 D (fun k => ad (58 + k)) ca sa _ (xs (x4 + (1 : Int32)).toNatClampNeg) fM aM bM _ hw) (r0 := 0) (ho := by decide) (hko := kM_o0) (hci := rfl) (w1 := (tm4 (i := 56) rfl rfl)) (w2 := (tm4 (i := 57) rfl rfl)) (w3 := (tm4 (i := 58) rfl rfl)) (w4 := (tm1 (i := 4) rfl rfl)) (w5 := (tm4 (i := 59) rfl rfl)) (hd := ⟨rfl, by decide, by decide, by decide +kernel⟩) (hrc := rfl) (hrs := rfl) (hR := ⟨Nat.le_of_ble_eq_true rfl, Nat.le_of_ble_eq_true rfl⟩) (hn := rfl) (hsz := hl.1) (hst := rfl) (hW := Nat.le_of_ble_eq_true rfl) (hdg := dL_law_860) (hf := ⟨by show _ ≤ 601024; omega, by show _ ≤ 7293034; omega⟩) (fun _ _ _ _ _ _ _ _ hw => hw.elim) (fun r9 f2 a2 b2 H locs hw K => ?_)
  refine lv_istore (lv' := [(6, .int r9), (5, .int k9), (0, .ref bs), (1, .ref (ad 0)), (2, .ref (ad 58)), (3, .ref (ad 57)), (4, .int x4)]) hx hb dL_law_863 hl (by decide) rfl (fun ls hl => ?_)
  refine lv_aload_n hx hb dL_law_865 rfl (lv_at hl 4 rfl) ?_
  refine geI X K (embM f2 a2 b2) (fun u1 => jF f1 u1) (fun u1 => jA a1 u1) (fun u1 => jB b1 u1) (fun u1 u2 u3 => embM u1 u2 u3) embMr (n0 := 0) (As := []) (rest := []) (hM := met_M_thrown hl9 D (fun k => ad (58 + k)) ca sa _  f2 a2 b2 _ hw) (r0 := 0) (ho := by decide) (hko := kM_o0) (hci := rfl) (w1 := (tm3 (i := 161) rfl rfl)) (w2 := (tm3 (i := 162) rfl rfl)) (w3 := (tm3 (i := 163) rfl rfl)) (w4 := (tm1 (i := 4) rfl rfl)) (w5 := (tm3 (i := 164) rfl rfl)) (hd := ⟨rfl, by decide, by decide, by decide +kernel⟩) (hrc := rfl) (hrs := rfl) (hR := ⟨Nat.le_of_ble_eq_true rfl, Nat.le_of_ble_eq_true rfl⟩) (hn := rfl) (hsz := hl.1) (hst := rfl) (hW := Nat.le_of_ble_eq_true rfl) (hdg := dL_law_866) (hf := ⟨by show _ ≤ 601024; omega, by show _ ≤ 7293034; omega⟩) (fun _ _ _ _ _ _ _ _ hw => hw.elim) (fun t9 f3 a3 b3 H locs hw K => ?_)
  refine lv_iload hx hb dL_law_869 (lv_at hl 1 rfl) ?_
  refine lv_icmp_eq (tgt := 876) hx hb dL_law_871 (by decide) (fun hc => ?_) (fun hc => absurd hw.1 hc)
  refine lv_iload hx hb dL_law_876 (lv_at hl 1 rfl) ?_
  refine lv_if_ne (tgt := 893) hx hb dL_law_878 (by decide) (fun hk => ?_) (fun hk => ?_)
  · refine lv_goto (tgt := 1064) hx hb dL_law_893 (by decide) ?_
    refine W.widen (k := c0 + 8) (n := s0 + 48) (by omega) (by omega) ?_
    exact hJ f1 a1 b1 f3 a3 b3 hw.2.2 _ _ K _ (lv_sub hl [2, 3, 4, 5, 6] rfl)
  · refine lv_aload_n hx hb dL_law_881 rfl (lv_at hl 5 rfl) ?_
    refine lv_iconst (v := (0 : Int32)) hx hb dL_law_882 (by decide) ?_
    refine glld X K (o := 57) (t0 := 2) (by decide) ((kL_lo (by decide)).trans kW_c57) rfl (by unfold vp_in; decide) dL_law_883 ?_
    refine lv_iload hx hb dL_law_884 (lv_at hl 0 rfl) ?_
    refine lv_i2l (v := r9.toInt64) hx hb dL_law_886 rfl ?_
    refine W.lcmp hx hb dL_law_887 ?_
    refine lv_if_eq (tgt := 893) hx hb dL_law_888 (by decide) (fun _ => ?_) (fun hc => absurd (lg_self (hw.2.1 hk)) hc)
    refine lv_goto (tgt := 1064) hx hb dL_law_893 (by decide) ?_
    refine W.widen (k := c0 + 8) (n := s0 + 48) (by omega) (by omega) ?_
    exact hJ f1 a1 b1 f3 a3 b3 hw.2.2 _ _ K _ (lv_sub hl [2, 3, 4, 5, 6] rfl)
set_option maxHeartbeats 4000000 in
set_option maxRecDepth 100000 in
theorem law_sum {p : Program} {l : Launch} {e : Env} {s : State} {m : MethodId} {below : List Frame} {meth : Method} {c : Code} {D : va_G} {sa : Nat → Nat} {ad : Nat → Nat} {ca : Nat → ClassId} {bs L : Nat} {xs : Nat → Int32} {I : wF → wA → wB → wF → wA → wB → Prop} (hok : okc_sum I) (X : cx Wl (tyS ca) txS D vwCl sa (fun q : Nat => s.heap.size ≤ q) p l s m #[Value.ref bs] meth c code 7 "SendBestLaw") (hX : va_X bs L xs s s.heap) (hbl : bs < s.heap.size) {c0 s0 : Nat} (hc0 : c0 + 8 ≤ 601024) (hs0 : s0 + 48 ≤ 7293034) {x4 : Int32} (h1 : vp_in (x4 + (1 : Int32)) L) (h2 : vp_in (x4 + (2 : Int32)) L) (h3 : vp_in (x4 + (3 : Int32)) L)
    (hJ : ∀ (fS : wF) (aS : wA) (bS : wB) (fM : wF) (aM : wA) (bM : wB), I fS aS bS fM aM bM → ∀ (H : Heap) (locs : List Loc), wd nL9 kL9 D vwCl ad ca (fun q : Nat => s.heap.size ≤ q) s H locs (jF fS fM) (jA aS aM) (jB bS bM) → ∀ (ls : Array Slot), lv_has ls 7 [(0, .ref bs), (1, .ref (ad 0)), (2, .ref (ad 58)), (3, .ref (ad 57)), (4, .int x4)] → W p l e room_1 s m #[Value.ref bs] below meth c H locs (c0 + 8) (s0 + 48) (lw_Z below #[Value.ref bs] s) (F0 m 1064 ls []))
    (fS : wF) (aS : wA) (bS : wB) (fM : wF) (aM : wA) (bM : wB) (hI : I fS aS bS fM aM bM) {H : Heap} {locs : List Loc} (K : wd nL9 kL9 D vwCl ad ca (fun q : Nat => s.heap.size ≤ q) s H locs (jF fS fM) (jA aS aM) (jB bS bM)) {ls : Array Slot} (hl : lv_has ls 7 [(0, .ref bs), (1, .ref (ad 0)), (2, .ref (ad 58)), (3, .ref (ad 57)), (4, .int x4)]) : W p l e room_1 s m #[Value.ref bs] below meth c H locs c0 s0 (lw_Z below #[Value.ref bs] s) (F0 m 896 ls []) := by
  obtain ⟨hx, hb, hml, hown, hts, hK, hA, hth, hlk, hl9⟩ := id X
  have hbA : ¬ (fun q : Nat => s.heap.size ≤ q) bs := Nat.not_le.mpr hbl
  refine lv_aload_n hx hb dL_law_896 rfl (lv_at hl 1 rfl) ?_
  refine lv_aload_n hx hb dL_law_897 rfl (lv_at hl 0 rfl) ?_
  refine lv_iload hx hb dL_law_898 (lv_at hl 4 rfl) ?_
  refine lv_iconst (v := (1 : Int32)) hx hb dL_law_900 (by decide) ?_
  refine lv_iadd hx hb dL_law_901 ?_
  refine va_sld hx hb hX hbl hbA K.2.2 h1 dL_law_902 ?_
  refine lv_aload_n hx hb dL_law_903 rfl (lv_at hl 3 rfl) ?_
  have hw := hok (xs (x4 + (1 : Int32)).toNatClampNeg) fS aS bS fM aM bM hI
  refine geSX X K (embW fS aS bS) (fun u1 => jF u1 fM) (fun u1 => jA u1 aM) (fun u1 => jB u1 bM) (fun u1 u2 u3 => embW u1 u2 u3) embWr (n0 := 3) (As := [.ref (ad 0), .int (xs (x4 + (1 : Int32)).toNatClampNeg), .ref (ad 57)]) (rest := []) (hM := met_L_sum hl9 D ad ca sa _ (xs (x4 + (1 : Int32)).toNatClampNeg) fS aS bS _ hw) (w1 := (tm3 (i := 61) rfl rfl)) (w2 := (tm3 (i := 62) rfl rfl)) (w4 := (tm1 (i := 0) rfl rfl)) (w5 := (tm3 (i := 63) rfl rfl)) (hd := ⟨by decide, by decide, by decide +kernel⟩) (hrc := rfl) (hrs := rfl) (hR := ⟨Nat.le_of_ble_eq_true rfl, Nat.le_of_ble_eq_true rfl⟩) (hn := rfl) (hsz := hl.1) (hst := rfl) (hW := Nat.le_of_ble_eq_true rfl) (hdg := dL_law_904) (hf := ⟨by show _ ≤ 601024; omega, by show _ ≤ 7293034; omega⟩) (fun _ _ _ _ _ _ _ _ hw => hw.elim) (fun k9 f1 a1 b1 H locs hw K => ?_)
  refine lv_istore (lv' := [(5, .int k9), (0, .ref bs), (1, .ref (ad 0)), (2, .ref (ad 58)), (3, .ref (ad 57)), (4, .int x4)]) hx hb dL_law_907 hl (by decide) rfl (fun ls hl => ?_)
  refine lv_aload_n hx hb dL_law_909 rfl (lv_at hl 3 rfl) ?_
  refine lv_aload_n hx hb dL_law_910 rfl (lv_at hl 1 rfl) ?_
  refine lv_iload hx hb dL_law_911 (lv_at hl 5 rfl) ?_
  refine lv_iconst (v := (1 : Int32)) hx hb dL_law_913 (by decide) ?_
  refine lv_iadd hx hb dL_law_914 ?_
  refine va_sld hx hb hX hbl hbA K.2.2 h1 dL_law_915 ?_
  refine geI X K (embM fM aM bM) (fun u1 => jF f1 u1) (fun u1 => jA a1 u1) (fun u1 => jB b1 u1) (fun u1 u2 u3 => embM u1 u2 u3) embMr (n0 := 1) (As := [.int (xs (x4 + (1 : Int32)).toNatClampNeg)]) (rest := []) (hM := met_M_sum hl9 D (fun k => ad (58 + k)) ca sa _ (xs (x4 + (1 : Int32)).toNatClampNeg) fM aM bM _ hw) (r0 := 0) (ho := by decide) (hko := kM_o0) (hci := rfl) (w1 := (tm4 (i := 60) rfl rfl)) (w2 := (tm4 (i := 61) rfl rfl)) (w3 := (tm4 (i := 62) rfl rfl)) (w4 := (tm1 (i := 4) rfl rfl)) (w5 := (tm4 (i := 63) rfl rfl)) (hd := ⟨rfl, by decide, by decide, by decide +kernel⟩) (hrc := rfl) (hrs := rfl) (hR := ⟨Nat.le_of_ble_eq_true rfl, Nat.le_of_ble_eq_true rfl⟩) (hn := rfl) (hsz := hl.1) (hst := rfl) (hW := Nat.le_of_ble_eq_true rfl) (hdg := dL_law_916) (hf := ⟨by show _ ≤ 601024; omega, by show _ ≤ 7293034; omega⟩) (fun _ _ _ _ _ _ _ _ hw => hw.elim) (fun r9 f2 a2 b2 H locs hw K => ?_)
  refine lv_istore (lv' := [(6, .int r9), (5, .int k9), (0, .ref bs), (1, .ref (ad 0)), (2, .ref (ad 58)), (3, .ref (ad 57)), (4, .int x4)]) hx hb dL_law_919 hl (by decide) rfl (fun ls hl => ?_)
  refine lv_aload_n hx hb dL_law_921 rfl (lv_at hl 4 rfl) ?_
  refine geI X K (embM f2 a2 b2) (fun u1 => jF f1 u1) (fun u1 => jA a1 u1) (fun u1 => jB b1 u1) (fun u1 u2 u3 => embM u1 u2 u3) embMr (n0 := 0) (As := []) (rest := []) (hM := met_M_thrown hl9 D (fun k => ad (58 + k)) ca sa _  f2 a2 b2 _ hw) (r0 := 0) (ho := by decide) (hko := kM_o0) (hci := rfl) (w1 := (tm3 (i := 161) rfl rfl)) (w2 := (tm3 (i := 162) rfl rfl)) (w3 := (tm3 (i := 163) rfl rfl)) (w4 := (tm1 (i := 4) rfl rfl)) (w5 := (tm3 (i := 164) rfl rfl)) (hd := ⟨rfl, by decide, by decide, by decide +kernel⟩) (hrc := rfl) (hrs := rfl) (hR := ⟨Nat.le_of_ble_eq_true rfl, Nat.le_of_ble_eq_true rfl⟩) (hn := rfl) (hsz := hl.1) (hst := rfl) (hW := Nat.le_of_ble_eq_true rfl) (hdg := dL_law_922) (hf := ⟨by show _ ≤ 601024; omega, by show _ ≤ 7293034; omega⟩) (fun _ _ _ _ _ _ _ _ hw => hw.elim) (fun t9 f3 a3 b3 H locs hw K => ?_)
  refine lv_iload hx hb dL_law_925 (lv_at hl 1 rfl) ?_
  refine lv_icmp_eq (tgt := 932) hx hb dL_law_927 (by decide) (fun hc => ?_) (fun hc => absurd hw.1 hc)
  refine lv_iload hx hb dL_law_932 (lv_at hl 1 rfl) ?_
  refine lv_if_ne (tgt := 949) hx hb dL_law_934 (by decide) (fun hk => ?_) (fun hk => ?_)
  · refine lv_goto (tgt := 1064) hx hb dL_law_949 (by decide) ?_
    refine W.widen (k := c0 + 8) (n := s0 + 48) (by omega) (by omega) ?_
    exact hJ f1 a1 b1 f3 a3 b3 hw.2.2 _ _ K _ (lv_sub hl [2, 3, 4, 5, 6] rfl)
  · refine lv_aload_n hx hb dL_law_937 rfl (lv_at hl 5 rfl) ?_
    refine lv_iconst (v := (0 : Int32)) hx hb dL_law_938 (by decide) ?_
    refine glld X K (o := 57) (t0 := 2) (by decide) ((kL_lo (by decide)).trans kW_c57) rfl (by unfold vp_in; decide) dL_law_939 ?_
    refine lv_iload hx hb dL_law_940 (lv_at hl 0 rfl) ?_
    refine lv_i2l (v := r9.toInt64) hx hb dL_law_942 rfl ?_
    refine W.lcmp hx hb dL_law_943 ?_
    refine lv_if_eq (tgt := 949) hx hb dL_law_944 (by decide) (fun _ => ?_) (fun hc => absurd (lg_self (hw.2.1 hk)) hc)
    refine lv_goto (tgt := 1064) hx hb dL_law_949 (by decide) ?_
    refine W.widen (k := c0 + 8) (n := s0 + 48) (by omega) (by omega) ?_
    exact hJ f1 a1 b1 f3 a3 b3 hw.2.2 _ _ K _ (lv_sub hl [2, 3, 4, 5, 6] rfl)
set_option maxHeartbeats 4000000 in
set_option maxRecDepth 100000 in
theorem law_alternative {p : Program} {l : Launch} {e : Env} {s : State} {m : MethodId} {below : List Frame} {meth : Method} {c : Code} {D : va_G} {sa : Nat → Nat} {ad : Nat → Nat} {ca : Nat → ClassId} {bs L : Nat} {xs : Nat → Int32} {I : wF → wA → wB → wF → wA → wB → Prop} (hok : okc_alternative I) (X : cx Wl (tyS ca) txS D vwCl sa (fun q : Nat => s.heap.size ≤ q) p l s m #[Value.ref bs] meth c code 7 "SendBestLaw") (hX : va_X bs L xs s s.heap) (hbl : bs < s.heap.size) {c0 s0 : Nat} (hc0 : c0 + 8 ≤ 601024) (hs0 : s0 + 48 ≤ 7293034) {x4 : Int32} (h1 : vp_in (x4 + (1 : Int32)) L) (h2 : vp_in (x4 + (2 : Int32)) L) (h3 : vp_in (x4 + (3 : Int32)) L)
    (hJ : ∀ (fS : wF) (aS : wA) (bS : wB) (fM : wF) (aM : wA) (bM : wB), I fS aS bS fM aM bM → ∀ (H : Heap) (locs : List Loc), wd nL9 kL9 D vwCl ad ca (fun q : Nat => s.heap.size ≤ q) s H locs (jF fS fM) (jA aS aM) (jB bS bM) → ∀ (ls : Array Slot), lv_has ls 7 [(0, .ref bs), (1, .ref (ad 0)), (2, .ref (ad 58)), (3, .ref (ad 57)), (4, .int x4)] → W p l e room_1 s m #[Value.ref bs] below meth c H locs (c0 + 8) (s0 + 48) (lw_Z below #[Value.ref bs] s) (F0 m 1064 ls []))
    (fS : wF) (aS : wA) (bS : wB) (fM : wF) (aM : wA) (bM : wB) (hI : I fS aS bS fM aM bM) {H : Heap} {locs : List Loc} (K : wd nL9 kL9 D vwCl ad ca (fun q : Nat => s.heap.size ≤ q) s H locs (jF fS fM) (jA aS aM) (jB bS bM)) {ls : Array Slot} (hl : lv_has ls 7 [(0, .ref bs), (1, .ref (ad 0)), (2, .ref (ad 58)), (3, .ref (ad 57)), (4, .int x4)]) : W p l e room_1 s m #[Value.ref bs] below meth c H locs c0 s0 (lw_Z below #[Value.ref bs] s) (F0 m 952 ls []) := by
  obtain ⟨hx, hb, hml, hown, hts, hK, hA, hth, hlk, hl9⟩ := id X
  have hbA : ¬ (fun q : Nat => s.heap.size ≤ q) bs := Nat.not_le.mpr hbl
  refine lv_aload_n hx hb dL_law_952 rfl (lv_at hl 1 rfl) ?_
  refine lv_aload_n hx hb dL_law_953 rfl (lv_at hl 0 rfl) ?_
  refine lv_iload hx hb dL_law_954 (lv_at hl 4 rfl) ?_
  refine lv_iconst (v := (1 : Int32)) hx hb dL_law_956 (by decide) ?_
  refine lv_iadd hx hb dL_law_957 ?_
  refine va_sld hx hb hX hbl hbA K.2.2 h1 dL_law_958 ?_
  refine lv_aload_n hx hb dL_law_959 rfl (lv_at hl 3 rfl) ?_
  have hw := hok (xs (x4 + (1 : Int32)).toNatClampNeg) fS aS bS fM aM bM hI
  refine geSX X K (embW fS aS bS) (fun u1 => jF u1 fM) (fun u1 => jA u1 aM) (fun u1 => jB u1 bM) (fun u1 u2 u3 => embW u1 u2 u3) embWr (n0 := 3) (As := [.ref (ad 0), .int (xs (x4 + (1 : Int32)).toNatClampNeg), .ref (ad 57)]) (rest := []) (hM := met_L_alternative hl9 D ad ca sa _ (xs (x4 + (1 : Int32)).toNatClampNeg) fS aS bS _ hw) (w1 := (tm3 (i := 77) rfl rfl)) (w2 := (tm3 (i := 78) rfl rfl)) (w4 := (tm1 (i := 0) rfl rfl)) (w5 := (tm3 (i := 79) rfl rfl)) (hd := ⟨by decide, by decide, by decide +kernel⟩) (hrc := rfl) (hrs := rfl) (hR := ⟨Nat.le_of_ble_eq_true rfl, Nat.le_of_ble_eq_true rfl⟩) (hn := rfl) (hsz := hl.1) (hst := rfl) (hW := Nat.le_of_ble_eq_true rfl) (hdg := dL_law_960) (hf := ⟨by show _ ≤ 601024; omega, by show _ ≤ 7293034; omega⟩) (fun _ _ _ _ _ _ _ _ hw => hw.elim) (fun k9 f1 a1 b1 H locs hw K => ?_)
  refine lv_istore (lv' := [(5, .int k9), (0, .ref bs), (1, .ref (ad 0)), (2, .ref (ad 58)), (3, .ref (ad 57)), (4, .int x4)]) hx hb dL_law_963 hl (by decide) rfl (fun ls hl => ?_)
  refine lv_aload_n hx hb dL_law_965 rfl (lv_at hl 3 rfl) ?_
  refine lv_aload_n hx hb dL_law_966 rfl (lv_at hl 1 rfl) ?_
  refine lv_iload hx hb dL_law_967 (lv_at hl 5 rfl) ?_
  refine lv_iconst (v := (1 : Int32)) hx hb dL_law_969 (by decide) ?_
  refine lv_iadd hx hb dL_law_970 ?_
  refine va_sld hx hb hX hbl hbA K.2.2 h1 dL_law_971 ?_
  refine geI X K (embM fM aM bM) (fun u1 => jF f1 u1) (fun u1 => jA a1 u1) (fun u1 => jB b1 u1) (fun u1 u2 u3 => embM u1 u2 u3) embMr (n0 := 1) (As := [.int (xs (x4 + (1 : Int32)).toNatClampNeg)]) (rest := []) (hM := met_M_alternative hl9 D (fun k => ad (58 + k)) ca sa _ (xs (x4 + (1 : Int32)).toNatClampNeg) fM aM bM _ hw) (r0 := 0) (ho := by decide) (hko := kM_o0) (hci := rfl) (w1 := (tm4 (i := 64) rfl rfl)) (w2 := (tm4 (i := 65) rfl rfl)) (w3 := (tm4 (i := 66) rfl rfl)) (w4 := (tm1 (i := 4) rfl rfl)) (w5 := (tm4 (i := 67) rfl rfl)) (hd := ⟨rfl, by decide, by decide, by decide +kernel⟩) (hrc := rfl) (hrs := rfl) (hR := ⟨Nat.le_of_ble_eq_true rfl, Nat.le_of_ble_eq_true rfl⟩) (hn := rfl) (hsz := hl.1) (hst := rfl) (hW := Nat.le_of_ble_eq_true rfl) (hdg := dL_law_972) (hf := ⟨by show _ ≤ 601024; omega, by show _ ≤ 7293034; omega⟩) (fun _ _ _ _ _ _ _ _ hw => hw.elim) (fun r9 f2 a2 b2 H locs hw K => ?_)
  refine lv_istore (lv' := [(6, .int r9), (5, .int k9), (0, .ref bs), (1, .ref (ad 0)), (2, .ref (ad 58)), (3, .ref (ad 57)), (4, .int x4)]) hx hb dL_law_975 hl (by decide) rfl (fun ls hl => ?_)
  refine lv_aload_n hx hb dL_law_977 rfl (lv_at hl 4 rfl) ?_
  refine geI X K (embM f2 a2 b2) (fun u1 => jF f1 u1) (fun u1 => jA a1 u1) (fun u1 => jB b1 u1) (fun u1 u2 u3 => embM u1 u2 u3) embMr (n0 := 0) (As := []) (rest := []) (hM := met_M_thrown hl9 D (fun k => ad (58 + k)) ca sa _  f2 a2 b2 _ hw) (r0 := 0) (ho := by decide) (hko := kM_o0) (hci := rfl) (w1 := (tm3 (i := 161) rfl rfl)) (w2 := (tm3 (i := 162) rfl rfl)) (w3 := (tm3 (i := 163) rfl rfl)) (w4 := (tm1 (i := 4) rfl rfl)) (w5 := (tm3 (i := 164) rfl rfl)) (hd := ⟨rfl, by decide, by decide, by decide +kernel⟩) (hrc := rfl) (hrs := rfl) (hR := ⟨Nat.le_of_ble_eq_true rfl, Nat.le_of_ble_eq_true rfl⟩) (hn := rfl) (hsz := hl.1) (hst := rfl) (hW := Nat.le_of_ble_eq_true rfl) (hdg := dL_law_978) (hf := ⟨by show _ ≤ 601024; omega, by show _ ≤ 7293034; omega⟩) (fun _ _ _ _ _ _ _ _ hw => hw.elim) (fun t9 f3 a3 b3 H locs hw K => ?_)
  refine lv_iload hx hb dL_law_981 (lv_at hl 1 rfl) ?_
  refine lv_icmp_eq (tgt := 988) hx hb dL_law_983 (by decide) (fun hc => ?_) (fun hc => absurd hw.1 hc)
  refine lv_iload hx hb dL_law_988 (lv_at hl 1 rfl) ?_
  refine lv_if_ne (tgt := 1005) hx hb dL_law_990 (by decide) (fun hk => ?_) (fun hk => ?_)
  · refine lv_goto (tgt := 1064) hx hb dL_law_1005 (by decide) ?_
    refine W.widen (k := c0 + 8) (n := s0 + 48) (by omega) (by omega) ?_
    exact hJ f1 a1 b1 f3 a3 b3 hw.2.2 _ _ K _ (lv_sub hl [2, 3, 4, 5, 6] rfl)
  · refine lv_aload_n hx hb dL_law_993 rfl (lv_at hl 5 rfl) ?_
    refine lv_iconst (v := (0 : Int32)) hx hb dL_law_994 (by decide) ?_
    refine glld X K (o := 57) (t0 := 2) (by decide) ((kL_lo (by decide)).trans kW_c57) rfl (by unfold vp_in; decide) dL_law_995 ?_
    refine lv_iload hx hb dL_law_996 (lv_at hl 0 rfl) ?_
    refine lv_i2l (v := r9.toInt64) hx hb dL_law_998 rfl ?_
    refine W.lcmp hx hb dL_law_999 ?_
    refine lv_if_eq (tgt := 1005) hx hb dL_law_1000 (by decide) (fun _ => ?_) (fun hc => absurd (lg_self (hw.2.1 hk)) hc)
    refine lv_goto (tgt := 1064) hx hb dL_law_1005 (by decide) ?_
    refine W.widen (k := c0 + 8) (n := s0 + 48) (by omega) (by omega) ?_
    exact hJ f1 a1 b1 f3 a3 b3 hw.2.2 _ _ K _ (lv_sub hl [2, 3, 4, 5, 6] rfl)
set_option maxHeartbeats 4000000 in
set_option maxRecDepth 100000 in
theorem law_never {p : Program} {l : Launch} {e : Env} {s : State} {m : MethodId} {below : List Frame} {meth : Method} {c : Code} {D : va_G} {sa : Nat → Nat} {ad : Nat → Nat} {ca : Nat → ClassId} {bs L : Nat} {xs : Nat → Int32} {I : wF → wA → wB → wF → wA → wB → Prop} (hok : okc_never I) (X : cx Wl (tyS ca) txS D vwCl sa (fun q : Nat => s.heap.size ≤ q) p l s m #[Value.ref bs] meth c code 7 "SendBestLaw") (hX : va_X bs L xs s s.heap) (hbl : bs < s.heap.size) {c0 s0 : Nat} (hc0 : c0 + 8 ≤ 601024) (hs0 : s0 + 48 ≤ 7293034) {x4 : Int32} (h1 : vp_in (x4 + (1 : Int32)) L) (h2 : vp_in (x4 + (2 : Int32)) L) (h3 : vp_in (x4 + (3 : Int32)) L)
    (hJ : ∀ (fS : wF) (aS : wA) (bS : wB) (fM : wF) (aM : wA) (bM : wB), I fS aS bS fM aM bM → ∀ (H : Heap) (locs : List Loc), wd nL9 kL9 D vwCl ad ca (fun q : Nat => s.heap.size ≤ q) s H locs (jF fS fM) (jA aS aM) (jB bS bM) → ∀ (ls : Array Slot), lv_has ls 7 [(0, .ref bs), (1, .ref (ad 0)), (2, .ref (ad 58)), (3, .ref (ad 57)), (4, .int x4)] → W p l e room_1 s m #[Value.ref bs] below meth c H locs (c0 + 8) (s0 + 48) (lw_Z below #[Value.ref bs] s) (F0 m 1064 ls []))
    (fS : wF) (aS : wA) (bS : wB) (fM : wF) (aM : wA) (bM : wB) (hI : I fS aS bS fM aM bM) {H : Heap} {locs : List Loc} (K : wd nL9 kL9 D vwCl ad ca (fun q : Nat => s.heap.size ≤ q) s H locs (jF fS fM) (jA aS aM) (jB bS bM)) {ls : Array Slot} (hl : lv_has ls 7 [(0, .ref bs), (1, .ref (ad 0)), (2, .ref (ad 58)), (3, .ref (ad 57)), (4, .int x4)]) : W p l e room_1 s m #[Value.ref bs] below meth c H locs c0 s0 (lw_Z below #[Value.ref bs] s) (F0 m 1008 ls []) := by
  obtain ⟨hx, hb, hml, hown, hts, hK, hA, hth, hlk, hl9⟩ := id X
  have hbA : ¬ (fun q : Nat => s.heap.size ≤ q) bs := Nat.not_le.mpr hbl
  refine lv_aload_n hx hb dL_law_1008 rfl (lv_at hl 1 rfl) ?_
  refine lv_aload_n hx hb dL_law_1009 rfl (lv_at hl 0 rfl) ?_
  refine lv_iload hx hb dL_law_1010 (lv_at hl 4 rfl) ?_
  refine lv_iconst (v := (1 : Int32)) hx hb dL_law_1012 (by decide) ?_
  refine lv_iadd hx hb dL_law_1013 ?_
  refine va_sld hx hb hX hbl hbA K.2.2 h1 dL_law_1014 ?_
  refine lv_aload_n hx hb dL_law_1015 rfl (lv_at hl 3 rfl) ?_
  have hw := hok (xs (x4 + (1 : Int32)).toNatClampNeg) fS aS bS fM aM bM hI
  refine geSX X K (embW fS aS bS) (fun u1 => jF u1 fM) (fun u1 => jA u1 aM) (fun u1 => jB u1 bM) (fun u1 u2 u3 => embW u1 u2 u3) embWr (n0 := 3) (As := [.ref (ad 0), .int (xs (x4 + (1 : Int32)).toNatClampNeg), .ref (ad 57)]) (rest := []) (hM := met_L_never hl9 D ad ca sa _ (xs (x4 + (1 : Int32)).toNatClampNeg) fS aS bS _ hw) (w1 := (tm3 (i := 84) rfl rfl)) (w2 := (tm3 (i := 85) rfl rfl)) (w4 := (tm1 (i := 0) rfl rfl)) (w5 := (tm3 (i := 86) rfl rfl)) (hd := ⟨by decide, by decide, by decide +kernel⟩) (hrc := rfl) (hrs := rfl) (hR := ⟨Nat.le_of_ble_eq_true rfl, Nat.le_of_ble_eq_true rfl⟩) (hn := rfl) (hsz := hl.1) (hst := rfl) (hW := Nat.le_of_ble_eq_true rfl) (hdg := dL_law_1016) (hf := ⟨by show _ ≤ 601024; omega, by show _ ≤ 7293034; omega⟩) (fun _ _ _ _ _ _ _ _ hw => hw.elim) (fun k9 f1 a1 b1 H locs hw K => ?_)
  refine lv_istore (lv' := [(5, .int k9), (0, .ref bs), (1, .ref (ad 0)), (2, .ref (ad 58)), (3, .ref (ad 57)), (4, .int x4)]) hx hb dL_law_1019 hl (by decide) rfl (fun ls hl => ?_)
  refine lv_aload_n hx hb dL_law_1021 rfl (lv_at hl 3 rfl) ?_
  refine lv_aload_n hx hb dL_law_1022 rfl (lv_at hl 1 rfl) ?_
  refine lv_iload hx hb dL_law_1023 (lv_at hl 5 rfl) ?_
  refine lv_iconst (v := (1 : Int32)) hx hb dL_law_1025 (by decide) ?_
  refine lv_iadd hx hb dL_law_1026 ?_
  refine va_sld hx hb hX hbl hbA K.2.2 h1 dL_law_1027 ?_
  refine geI X K (embM fM aM bM) (fun u1 => jF f1 u1) (fun u1 => jA a1 u1) (fun u1 => jB b1 u1) (fun u1 u2 u3 => embM u1 u2 u3) embMr (n0 := 1) (As := [.int (xs (x4 + (1 : Int32)).toNatClampNeg)]) (rest := []) (hM := met_M_never hl9 D (fun k => ad (58 + k)) ca sa _ (xs (x4 + (1 : Int32)).toNatClampNeg) fM aM bM _ hw) (r0 := 0) (ho := by decide) (hko := kM_o0) (hci := rfl) (w1 := (tm4 (i := 68) rfl rfl)) (w2 := (tm4 (i := 69) rfl rfl)) (w3 := (tm4 (i := 70) rfl rfl)) (w4 := (tm1 (i := 4) rfl rfl)) (w5 := (tm4 (i := 71) rfl rfl)) (hd := ⟨rfl, by decide, by decide, by decide +kernel⟩) (hrc := rfl) (hrs := rfl) (hR := ⟨Nat.le_of_ble_eq_true rfl, Nat.le_of_ble_eq_true rfl⟩) (hn := rfl) (hsz := hl.1) (hst := rfl) (hW := Nat.le_of_ble_eq_true rfl) (hdg := dL_law_1028) (hf := ⟨by show _ ≤ 601024; omega, by show _ ≤ 7293034; omega⟩) (fun _ _ _ _ _ _ _ _ hw => hw.elim) (fun r9 f2 a2 b2 H locs hw K => ?_)
  refine lv_istore (lv' := [(6, .int r9), (5, .int k9), (0, .ref bs), (1, .ref (ad 0)), (2, .ref (ad 58)), (3, .ref (ad 57)), (4, .int x4)]) hx hb dL_law_1031 hl (by decide) rfl (fun ls hl => ?_)
  refine lv_aload_n hx hb dL_law_1033 rfl (lv_at hl 4 rfl) ?_
  refine geI X K (embM f2 a2 b2) (fun u1 => jF f1 u1) (fun u1 => jA a1 u1) (fun u1 => jB b1 u1) (fun u1 u2 u3 => embM u1 u2 u3) embMr (n0 := 0) (As := []) (rest := []) (hM := met_M_thrown hl9 D (fun k => ad (58 + k)) ca sa _  f2 a2 b2 _ hw) (r0 := 0) (ho := by decide) (hko := kM_o0) (hci := rfl) (w1 := (tm3 (i := 161) rfl rfl)) (w2 := (tm3 (i := 162) rfl rfl)) (w3 := (tm3 (i := 163) rfl rfl)) (w4 := (tm1 (i := 4) rfl rfl)) (w5 := (tm3 (i := 164) rfl rfl)) (hd := ⟨rfl, by decide, by decide, by decide +kernel⟩) (hrc := rfl) (hrs := rfl) (hR := ⟨Nat.le_of_ble_eq_true rfl, Nat.le_of_ble_eq_true rfl⟩) (hn := rfl) (hsz := hl.1) (hst := rfl) (hW := Nat.le_of_ble_eq_true rfl) (hdg := dL_law_1034) (hf := ⟨by show _ ≤ 601024; omega, by show _ ≤ 7293034; omega⟩) (fun _ _ _ _ _ _ _ _ hw => hw.elim) (fun t9 f3 a3 b3 H locs hw K => ?_)
  refine lv_iload hx hb dL_law_1037 (lv_at hl 1 rfl) ?_
  refine lv_icmp_eq (tgt := 1044) hx hb dL_law_1039 (by decide) (fun hc => ?_) (fun hc => absurd hw.1 hc)
  refine lv_iload hx hb dL_law_1044 (lv_at hl 1 rfl) ?_
  refine lv_if_ne (tgt := 1061) hx hb dL_law_1046 (by decide) (fun hk => ?_) (fun hk => ?_)
  · refine lv_goto (tgt := 1064) hx hb dL_law_1061 (by decide) ?_
    refine W.widen (k := c0 + 8) (n := s0 + 48) (by omega) (by omega) ?_
    exact hJ f1 a1 b1 f3 a3 b3 hw.2.2 _ _ K _ (lv_sub hl [2, 3, 4, 5, 6] rfl)
  · refine lv_aload_n hx hb dL_law_1049 rfl (lv_at hl 5 rfl) ?_
    refine lv_iconst (v := (0 : Int32)) hx hb dL_law_1050 (by decide) ?_
    refine glld X K (o := 57) (t0 := 2) (by decide) ((kL_lo (by decide)).trans kW_c57) rfl (by unfold vp_in; decide) dL_law_1051 ?_
    refine lv_iload hx hb dL_law_1052 (lv_at hl 0 rfl) ?_
    refine lv_i2l (v := r9.toInt64) hx hb dL_law_1054 rfl ?_
    refine W.lcmp hx hb dL_law_1055 ?_
    refine lv_if_eq (tgt := 1061) hx hb dL_law_1056 (by decide) (fun _ => ?_) (fun hc => absurd (lg_self (hw.2.1 hk)) hc)
    refine lv_goto (tgt := 1064) hx hb dL_law_1061 (by decide) ?_
    refine W.widen (k := c0 + 8) (n := s0 + 48) (by omega) (by omega) ?_
    exact hJ f1 a1 b1 f3 a3 b3 hw.2.2 _ _ K _ (lv_sub hl [2, 3, 4, 5, 6] rfl)
