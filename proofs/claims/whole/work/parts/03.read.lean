/-! the methods that only read, and enqueue and setLeafSched -/
section HSC
variable {ql dp sd : Int32} {lk dl : Int64} {K P R CE PR QU DF PT XQ QH QC XL YQ YL : Nat → Int32} {T CX SE DR RY EY CY : Nat → Int64}
theorem hs_slot {j h i : Nat} (hj : j < 16) (hh : h < 8) (hi : i ≤ 8) : nI j * 8 + ((nI h + nI i) &&& 7) = nI (j * 8 + (h + i) % 8) := by
  have e : nI j * 8 = nI (j * 8) := pk_mul j 8
  rw [nI_add, pk_andN (by omega) 3 (by decide), e, nI_add]
theorem hs_xslot {post : Int32 → Prop} {j h i : Nat} (hj : j < 16) (eh : QH j = nI h) (hh : h < 8) (hi : i ≤ 8) (hp : post (nI (j * 8 + (h + i) % 8))) : wpX_queueSlot post (ql, dp, sd, K, P, R, CE, T, CX, SE, DR, PR, QU, DF, PT, XQ, QH, QC, XL) (nI j) (nI i) := by
  unfold wpX_queueSlot
  refine ⟨hs_in hj, ?_⟩
  rw [hs_c hj, eh, hs_slot hj hh hi]
  exact hp
def hs_sm (f : Nat → Int64) : Nat → Int64
  | 0 => 0
  | n + 1 => hs_sm f n + f n
theorem hs_sm_s (f : Nat → Int64) (n : Nat) : hs_sm f (n + 1) = hs_sm f n + f n := rfl
theorem hs_xqb {post : Int64 → Prop} {j c h : Nat} (hj : j < 16) (hc : c ≤ 8) (hh : h < 8) (eh : QH j = nI h) (r : ∀ i, i < c → XQ (j * 8 + (h + i) % 8) = YQ (j * 8 + i)) (hp : post (hs_sm (fun i => (YQ (j * 8 + i)).toInt64) c)) : ∀ d i : Nat, i + d = c → wX_queuedBytes_23 post (nI j) (nI c) ql dp sd K P R CE T CX SE DR PR QU DF PT XQ QH QC XL (d + 1) (hs_sm (fun i => (YQ (j * 8 + i)).toInt64) i) (nI i) := by
  intro d
  induction d with
  | zero =>
    intro i hi
    have e : i = c := by omega
    subst e
    exact br_t (nI_le (Nat.le_refl _) (by omega)) hp
  | succ d ih =>
    intro i hi
    refine br_f (nI_ge (by omega) (by omega)) (hs_xslot hj eh hh (by omega) ⟨vp_in_nI (by omega) (by decide), nm_r ?_ (nm_r (nI_1 i) (ih (i + 1) (by omega)))⟩)
    rw [nI_clamp (by omega), r i (by omega), hs_sm_s]
theorem hs_yqb {post : Int64 → Prop} {j c : Nat} (hj : j < 16) (hc : c ≤ 8) (ec : QC j = nI c) (hp : post (hs_sm (fun i => (YQ (j * 8 + i)).toInt64) c)) : ∀ d i : Nat, i + d = 8 → wY_queuedBytes_15 post (nI j) lk ql dl sd K P RY EY T CY SE DR PR QU DF YQ QC PT YL (d + 1) (hs_sm (fun i => (YQ (j * 8 + i)).toInt64) (if i ≤ c then i else c)) (nI i) := by
  intro d
  induction d with
  | zero =>
    intro i hi
    have e : (if i ≤ c then i else c) = c := by split <;> omega
    rw [e]
    exact br_t (nI_le (a := 8) (by omega) (by omega)) hp
  | succ d ih =>
    intro i hi
    refine br_f (nI_ge (b := 8) (by omega) (by decide)) ⟨hs_in hj, ?_⟩
    rw [hs_c hj, ec]
    have ih' := ih (i + 1) (by omega)
    refine pk_le c i (fun a => nm_r (nI_1 i) ?_) (fun a => ?_)
    · have e : (if i ≤ c then i else c) = (if i + 1 ≤ c then i + 1 else c) := by split <;> split <;> omega
      rw [e]; exact ih'
    · have e0 : nI j * 8 + nI i = nI (j * 8 + i) := by
        rw [show nI j * 8 = nI (j * 8) from pk_mul j 8, nI_add]
      rw [e0]
      refine ⟨vp_in_nI (by omega) (by decide), nm_r ?_ (nm_r (nI_1 i) ih')⟩
      rw [nI_clamp (by omega), if_pos (by omega), if_pos (by omega), hs_sm_s]
theorem hs_yqb0 {post : Int64 → Prop} {j c : Nat} (hj : j < 16) (hc : c ≤ 8) (ec : QC j = nI c) (hp : post (hs_sm (fun i => (YQ (j * 8 + i)).toInt64) c)) : wY_queuedBytes_15 post (nI j) lk ql dl sd K P RY EY T CY SE DR PR QU DF YQ QC PT YL 9 0 0 := by
  have H := hs_yqb (lk := lk) (ql := ql) (dl := dl) (sd := sd) (K := K) (P := P) (RY := RY) (EY := EY) (T := T) (CY := CY) (SE := SE) (DR := DR) (PR := PR) (QU := QU) (DF := DF) (YQ := YQ) (QC := QC) (PT := PT) (YL := YL) hj hc ec hp 8 0 (by omega)
  rw [if_pos (Nat.zero_le c)] at H
  exact H
theorem i_vc_kind {k : Nat} {u : SX} {v : SY} (I : i_Rel k u v) (hk : k + 5 ≤ 2563) (v1 : Int32) : wpX_kind (fun r => wpY_kind (fun r' => r' = r ∧ i_Rel (k + 5) u v) v v1) u v1 := by
  obtain ⟨n, ql, dp, sd, lk, dl, K, P, R, CE, PR, QU, DF, PT, XQ, QH, QC, XL, YQ, YL, T, CX, SE, DR, RY, EY, CY, rfl, rfl, hA, hK, hZ, hB, hP, hQ, hL, rfl⟩ := I
  have J : i_Rel (k + 5) (ql, dp, sd, K, P, R, CE, T, CX, SE, DR, PR, QU, DF, PT, XQ, QH, QC, XL) (lk, ql, dl, sd, K, P, RY, EY, T, CY, SE, DR, PR, QU, DF, YQ, QC, PT, YL) := hs_mk hA hK hZ hB hP hQ hL
  rcases hs_ix v1 with h | ⟨j, hj, rfl⟩
  · exact hs_xkind_o h (hs_ykind_o h ⟨rfl, J⟩)
  · exact hs_xkind hj (hs_ykind hj ⟨rfl, J⟩)
theorem i_vc_colour {k : Nat} {u : SX} {v : SY} (I : i_Rel k u v) (hk : k + 5 ≤ 2563) (v1 : Int32) : wpX_colour (fun r => wpY_colour (fun r' => r' = r ∧ i_Rel (k + 5) u v) v v1) u v1 := by
  obtain ⟨n, ql, dp, sd, lk, dl, K, P, R, CE, PR, QU, DF, PT, XQ, QH, QC, XL, YQ, YL, T, CX, SE, DR, RY, EY, CY, rfl, rfl, hA, hK, hZ, hB, hP, hQ, hL, rfl⟩ := I
  have J : i_Rel (k + 5) (ql, dp, sd, K, P, R, CE, T, CX, SE, DR, PR, QU, DF, PT, XQ, QH, QC, XL) (lk, ql, dl, sd, K, P, RY, EY, T, CY, SE, DR, PR, QU, DF, YQ, QC, PT, YL) := hs_mk hA hK hZ hB hP hQ hL
  unfold wpX_colour
  rcases hs_ix v1 with h | ⟨j, hj, rfl⟩
  · refine hs_xkind_o h (br_t rfl ?_)
    unfold wpY_colour
    exact hs_yex_o h (br_t rfl ⟨rfl, J⟩)
  · by_cases hz : K j = 0
    · refine hs_xkind hj (br_t hz ?_)
      unfold wpY_colour
      exact hs_yex0 hj hz (br_t rfl ⟨rfl, J⟩)
    · exact hs_xkind hj (br_f hz (hs_xbc hj (hs_ybc hj hz hB ⟨rfl, J⟩)))
theorem i_vc_tokens {k : Nat} {u : SX} {v : SY} (I : i_Rel k u v) (hk : k + 5 ≤ 2563) (v1 : Int32) : wpX_tokens (fun r => wpY_tokens (fun r' => r' = r ∧ i_Rel (k + 5) u v) v v1) u v1 := by
  obtain ⟨n, ql, dp, sd, lk, dl, K, P, R, CE, PR, QU, DF, PT, XQ, QH, QC, XL, YQ, YL, T, CX, SE, DR, RY, EY, CY, rfl, rfl, hA, hK, hZ, hB, hP, hQ, hL, rfl⟩ := I
  have J : i_Rel (k + 5) (ql, dp, sd, K, P, R, CE, T, CX, SE, DR, PR, QU, DF, PT, XQ, QH, QC, XL) (lk, ql, dl, sd, K, P, RY, EY, T, CY, SE, DR, PR, QU, DF, YQ, QC, PT, YL) := hs_mk hA hK hZ hB hP hQ hL
  unfold wpX_tokens wpY_tokens
  rcases hs_ix v1 with h | ⟨j, hj, rfl⟩
  · exact hs_xkind_o h (br_t rfl (hs_yex_o h (br_t rfl ⟨rfl, J⟩)))
  · by_cases hz : K j = 0
    · exact hs_xkind hj (br_t hz (hs_yex0 hj hz (br_t rfl ⟨rfl, J⟩)))
    · exact hs_xkind hj (br_f hz ⟨hs_in hj, hs_yex1 hj hz (br_f (by decide) ⟨hs_in hj, rfl, J⟩)⟩)
theorem i_vc_ctokens {k : Nat} {u : SX} {v : SY} (I : i_Rel k u v) (hk : k + 5 ≤ 2563) (v1 : Int32) : wpX_ctokens (fun r => wpY_ctokens (fun r' => r' = r ∧ i_Rel (k + 5) u v) v v1) u v1 := by
  obtain ⟨n, ql, dp, sd, lk, dl, K, P, R, CE, PR, QU, DF, PT, XQ, QH, QC, XL, YQ, YL, T, CX, SE, DR, RY, EY, CY, rfl, rfl, hA, hK, hZ, hB, hP, hQ, hL, rfl⟩ := I
  have J : i_Rel (k + 5) (ql, dp, sd, K, P, R, CE, T, CX, SE, DR, PR, QU, DF, PT, XQ, QH, QC, XL) (lk, ql, dl, sd, K, P, RY, EY, T, CY, SE, DR, PR, QU, DF, YQ, QC, PT, YL) := hs_mk hA hK hZ hB hP hQ hL
  unfold wpX_ctokens wpY_ctokens
  rcases hs_ix v1 with h | ⟨j, hj, rfl⟩
  · exact hs_xkind_o h (br_t rfl (hs_yex_o h (br_t rfl ⟨rfl, J⟩)))
  · by_cases hz : K j = 0
    · exact hs_xkind hj (br_t hz (hs_yex0 hj hz (br_t rfl ⟨rfl, J⟩)))
    · refine hs_xkind hj (br_f hz ⟨hs_in hj, hs_yex1 hj hz (br_f (by decide) (pk_eq j 0 (fun e => ⟨?_, J⟩) (fun e => ⟨hs_in hj, ?_, J⟩)))⟩)
      · subst e; exact hB.2.2.1.symm
      · rw [hs_c hj]; exact (hB.2.2.2 j e).2.2
theorem i_vc_sentBytes {k : Nat} {u : SX} {v : SY} (I : i_Rel k u v) (hk : k + 5 ≤ 2563) (v1 : Int32) : wpX_sentBytes (fun r => wpY_sentBytes (fun r' => r' = r ∧ i_Rel (k + 5) u v) v v1) u v1 := by
  obtain ⟨n, ql, dp, sd, lk, dl, K, P, R, CE, PR, QU, DF, PT, XQ, QH, QC, XL, YQ, YL, T, CX, SE, DR, RY, EY, CY, rfl, rfl, hA, hK, hZ, hB, hP, hQ, hL, rfl⟩ := I
  have J : i_Rel (k + 5) (ql, dp, sd, K, P, R, CE, T, CX, SE, DR, PR, QU, DF, PT, XQ, QH, QC, XL) (lk, ql, dl, sd, K, P, RY, EY, T, CY, SE, DR, PR, QU, DF, YQ, QC, PT, YL) := hs_mk hA hK hZ hB hP hQ hL
  unfold wpX_sentBytes wpY_sentBytes
  rcases hs_ix v1 with h | ⟨j, hj, rfl⟩
  · exact hs_xkind_o h (br_t rfl (hs_yex_o h (br_t rfl ⟨rfl, J⟩)))
  · by_cases hz : K j = 0
    · exact hs_xkind hj (br_t hz (hs_yex0 hj hz (br_t rfl ⟨rfl, J⟩)))
    · exact hs_xkind hj (br_f hz ⟨hs_in hj, hs_yex1 hj hz (br_f (by decide) ⟨hs_in hj, rfl, J⟩)⟩)
theorem i_vc_droppedBytes {k : Nat} {u : SX} {v : SY} (I : i_Rel k u v) (hk : k + 5 ≤ 2563) (v1 : Int32) : wpX_droppedBytes (fun r => wpY_droppedBytes (fun r' => r' = r ∧ i_Rel (k + 5) u v) v v1) u v1 := by
  obtain ⟨n, ql, dp, sd, lk, dl, K, P, R, CE, PR, QU, DF, PT, XQ, QH, QC, XL, YQ, YL, T, CX, SE, DR, RY, EY, CY, rfl, rfl, hA, hK, hZ, hB, hP, hQ, hL, rfl⟩ := I
  have J : i_Rel (k + 5) (ql, dp, sd, K, P, R, CE, T, CX, SE, DR, PR, QU, DF, PT, XQ, QH, QC, XL) (lk, ql, dl, sd, K, P, RY, EY, T, CY, SE, DR, PR, QU, DF, YQ, QC, PT, YL) := hs_mk hA hK hZ hB hP hQ hL
  unfold wpX_droppedBytes wpY_droppedBytes
  rcases hs_ix v1 with h | ⟨j, hj, rfl⟩
  · exact hs_xkind_o h (br_f (by decide) (hs_yleaf_o h (br_t rfl ⟨rfl, J⟩)))
  · by_cases hz : K j = 3
    · exact hs_xkind hj (br_t hz ⟨hs_in hj, hs_yleaf1 hj hz (br_f (by decide) ⟨hs_in hj, rfl, J⟩)⟩)
    · exact hs_xkind hj (br_f hz (hs_yleaf0 hj hz (br_t rfl ⟨rfl, J⟩)))
theorem i_vc_queueLength {k : Nat} {u : SX} {v : SY} (I : i_Rel k u v) (hk : k + 5 ≤ 2563) (v1 : Int32) : wpX_queueLength (fun r => wpY_queueLength (fun r' => r' = r ∧ i_Rel (k + 5) u v) v v1) u v1 := by
  obtain ⟨n, ql, dp, sd, lk, dl, K, P, R, CE, PR, QU, DF, PT, XQ, QH, QC, XL, YQ, YL, T, CX, SE, DR, RY, EY, CY, rfl, rfl, hA, hK, hZ, hB, hP, hQ, hL, rfl⟩ := I
  have J : i_Rel (k + 5) (ql, dp, sd, K, P, R, CE, T, CX, SE, DR, PR, QU, DF, PT, XQ, QH, QC, XL) (lk, ql, dl, sd, K, P, RY, EY, T, CY, SE, DR, PR, QU, DF, YQ, QC, PT, YL) := hs_mk hA hK hZ hB hP hQ hL
  unfold wpX_queueLength wpY_queueLength
  rcases hs_ix v1 with h | ⟨j, hj, rfl⟩
  · exact hs_xkind_o h (br_f (by decide) (hs_yleaf_o h (br_t rfl ⟨rfl, J⟩)))
  · by_cases hz : K j = 3
    · exact hs_xkind hj (br_t hz ⟨hs_in hj, hs_yleaf1 hj hz (br_f (by decide) ⟨hs_in hj, rfl, J⟩)⟩)
    · exact hs_xkind hj (br_f hz (hs_yleaf0 hj hz (br_t rfl ⟨rfl, J⟩)))
theorem i_vc_queuedBytes {k : Nat} {u : SX} {v : SY} (I : i_Rel k u v) (hk : k + 5 ≤ 2563) (v1 : Int32) : wpX_queuedBytes (fun r => wpY_queuedBytes (fun r' => r' = r ∧ i_Rel (k + 5) u v) v v1) u v1 := by
  obtain ⟨n, ql, dp, sd, lk, dl, K, P, R, CE, PR, QU, DF, PT, XQ, QH, QC, XL, YQ, YL, T, CX, SE, DR, RY, EY, CY, rfl, rfl, hA, hK, hZ, hB, hP, hQ, hL, rfl⟩ := I
  have J : i_Rel (k + 5) (ql, dp, sd, K, P, R, CE, T, CX, SE, DR, PR, QU, DF, PT, XQ, QH, QC, XL) (lk, ql, dl, sd, K, P, RY, EY, T, CY, SE, DR, PR, QU, DF, YQ, QC, PT, YL) := hs_mk hA hK hZ hB hP hQ hL
  unfold wpX_queuedBytes wpY_queuedBytes
  rcases hs_ix v1 with h | ⟨j, hj, rfl⟩
  · exact hs_xkind_o h (br_f (by decide) (hs_yleaf_o h (br_t rfl ⟨rfl, J⟩)))
  · by_cases hz : K j = 3
    · obtain ⟨c, h, hc, hh, ec, eh, r⟩ := hQ j hj
      refine hs_xkind hj (br_t hz ⟨hs_in hj, nm_r (show QC (nI j).toNatClampNeg = nI c by rw [hs_c hj, ec]) ⟨c + 1, ?_⟩⟩)
      refine hs_xqb hj hc hh eh r ?_ c 0 (by omega)
      refine hs_yleaf1 hj hz (br_f (by decide) ⟨9, ?_⟩)
      exact hs_yqb0 hj hc ec ⟨rfl, J⟩
    · exact hs_xkind hj (br_f hz (hs_yleaf0 hj hz (br_t rfl ⟨rfl, J⟩)))
theorem hs_d48 {j l : Nat} : nI j * 3 + nI l = nI (j * 3 + l) := by
  rw [show nI j * 3 = nI (j * 3) from pk_mul j 3, nI_add]
theorem i_vc_deficit {k : Nat} {u : SX} {v : SY} (I : i_Rel k u v) (hk : k + 5 ≤ 2563) (v1 : Int32) (v2 : Int32) : wpX_deficit (fun r => wpY_deficit (fun r' => r' = r ∧ i_Rel (k + 5) u v) v v1 v2) u v1 v2 := by
  obtain ⟨n, ql, dp, sd, lk, dl, K, P, R, CE, PR, QU, DF, PT, XQ, QH, QC, XL, YQ, YL, T, CX, SE, DR, RY, EY, CY, rfl, rfl, hA, hK, hZ, hB, hP, hQ, hL, rfl⟩ := I
  have J : i_Rel (k + 5) (ql, dp, sd, K, P, R, CE, T, CX, SE, DR, PR, QU, DF, PT, XQ, QH, QC, XL) (lk, ql, dl, sd, K, P, RY, EY, T, CY, SE, DR, PR, QU, DF, YQ, QC, PT, YL) := hs_mk hA hK hZ hB hP hQ hL
  unfold wpX_deficit wpY_deficit
  rcases hs_ix v1 with h | ⟨j, hj, rfl⟩
  · exact hs_xkind_o h (br_f (by decide) (hs_yleaf_o h (br_t rfl ⟨rfl, J⟩)))
  · by_cases hz : K j = 3
    · refine hs_xkind hj (br_t hz (br_c (fun a => hs_yleaf1 hj hz (br_f (by decide) (br_t a ⟨rfl, J⟩))) (fun a => br_c (fun b => ⟨?_, hs_yleaf1 hj hz (br_f (by decide) (br_f a (br_t b ⟨?_, rfl, J⟩)))⟩) (fun b => hs_yleaf1 hj hz (br_f (by decide) (br_f a (br_f b ⟨rfl, J⟩)))))))
      all_goals
        obtain ⟨l, hl, rfl⟩ := nI_of2 (n := 2) (by decide) a b
        rw [hs_d48]
        exact vp_in_nI (by omega) (by decide)
    · exact hs_xkind hj (br_f hz (hs_yleaf0 hj hz (br_t rfl ⟨rfl, J⟩)))
theorem i_vc_sendCount {k : Nat} {u : SX} {v : SY} (I : i_Rel k u v) (hk : k + 5 ≤ 2563) : wpX_sendCount (fun r => wpY_sendCount (fun r' => r' = r ∧ i_Rel (k + 5) u v) v) u := by
  obtain ⟨n, ql, dp, sd, lk, dl, K, P, R, CE, PR, QU, DF, PT, XQ, QH, QC, XL, YQ, YL, T, CX, SE, DR, RY, EY, CY, rfl, rfl, hA, hK, hZ, hB, hP, hQ, hL, rfl⟩ := I
  have J : i_Rel (k + 5) (ql, dp, sd, K, P, R, CE, T, CX, SE, DR, PR, QU, DF, PT, XQ, QH, QC, XL) (lk, ql, dl, sd, K, P, RY, EY, T, CY, SE, DR, PR, QU, DF, YQ, QC, PT, YL) := hs_mk hA hK hZ hB hP hQ hL
  unfold wpX_sendCount wpY_sendCount
  exact ⟨rfl, J⟩
theorem i_vc_logEntry {k : Nat} {u : SX} {v : SY} (I : i_Rel k u v) (hk : k + 5 ≤ 2563) (v1 : Int32) : wpX_logEntry (fun r => wpY_logEntry (fun r' => r' = r ∧ i_Rel (k + 5) u v) v v1) u v1 := by
  obtain ⟨n, ql, dp, sd, lk, dl, K, P, R, CE, PR, QU, DF, PT, XQ, QH, QC, XL, YQ, YL, T, CX, SE, DR, RY, EY, CY, rfl, rfl, hA, hK, hZ, hB, hP, hQ, hL, rfl⟩ := I
  have J : i_Rel (k + 5) (ql, dp, sd, K, P, R, CE, T, CX, SE, DR, PR, QU, DF, PT, XQ, QH, QC, XL) (lk, ql, dl, sd, K, P, RY, EY, T, CY, SE, DR, PR, QU, DF, YQ, QC, PT, YL) := hs_mk hA hK hZ hB hP hQ hL
  unfold wpX_logEntry wpY_logEntry
  refine br_c (fun a => br_t a ⟨rfl, J⟩) (fun a => br_c (fun b => br_f a (br_t b ⟨rfl, J⟩)) (fun b => br_c (fun c => ⟨pk_andIn _ 6 (by decide) (by decide), br_f a (br_f b (br_t c ⟨?_, ?_, J⟩))⟩) (fun c => br_f a (br_f b (br_f c ⟨rfl, J⟩)))))
  all_goals
    obtain ⟨j, hj, rfl⟩ := nI_of a
    have hj64 : j < 64 := by
      rw [show (64 : Int32) = nI 64 from rfl, nI_leI (by decide) hj] at b
      omega
  · exact vp_in_nI hj64 (by decide)
  · rw [nI_clamp hj]; exact (hL j hj64).symm
end HSC
