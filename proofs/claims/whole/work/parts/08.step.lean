/-! one send keeps the relation; both sides' step put together -/
theorem hs_dn_s (f : Nat → Int64) (i : Nat) (k : Int64) : hs_dn f i k i = f i - k := pk_uLs
theorem hs_dn_n {f : Nat → Int64} {i j : Nat} {k : Int64} (h : j ≠ i) : hs_dn f i k j = f j := pk_uLn h
theorem hs_up_n {f : Nat → Int64} {i j : Nat} {k : Int64} (h : j ≠ i) : hs_up f i k j = f j := pk_uLn h
theorem hs_dn_cg {f g : Nat → Int64} {a : Nat} {k : Int64} (h : ∀ i, i ≠ 0 → f i = g i) (ha : a ≠ 0) : ∀ i, i ≠ 0 → hs_dn f a k i = hs_dn g a k i := by
  intro i hi
  by_cases e : i = a
  · subst e; rw [hs_dn_s, hs_dn_s, h i hi]
  · rw [hs_dn_n e, hs_dn_n e]; exact h i hi
theorem hs_t1_0 {T : Nat → Int64} {v L : Nat} {k : Int64} (h : L ≠ 0) : hs_t1 v T L k 0 = T 0 := by
  unfold hs_t1
  split
  · exact hs_dn_n (Ne.symm h)
  · rfl
theorem hs_t2_0 {T : Nat → Int64} {v I : Nat} {k : Int64} (h : I ≠ 0) : hs_t2 v T I k 0 = T 0 := by
  unfold hs_t2
  split
  · rfl
  · exact hs_dn_n (Ne.symm h)
theorem hs_df_n {DF : Nat → Int32} {a j : Nat} {s q : Int32} (h : j ≠ a) : hs_df DF a s q j = DF j := by
  unfold hs_df
  split
  · exact pk_un h
  · exact pk_un h
section HSI
variable {ql dp sd : Int32} {lk dl : Int64} {K P R CE PR QU DF PT XQ QH QC XL YQ YL : Nat → Int32} {T CX SE DR RY EY CY : Nat → Int64}
theorem hs_z_send {L I v c : Nat} {s q : Int32} {k : Int64} (hK : hs_K K P) (hZ : hs_Z K P SE DR PR DF QC) (hL : L < 16) (hv : v ≤ 2) (kL : K L = 3) (kI : K I = 2) : hs_Z K P (hs_up (hs_up (hs_up SE L k) I k) 0 k) DR PR (hs_df DF (L * 3 + v) s q) (upd QC L (nI c)) := by
  intro i hi h0
  have nL : i ≠ L := fun e => by rw [e, kL] at h0; exact absurd h0 (by decide)
  have nI' : i ≠ I := fun e => by rw [e, kI] at h0; exact absurd h0 (by decide)
  have n0 : i ≠ 0 := fun e => by rw [e, hK.1] at h0; exact absurd h0 (by decide)
  obtain ⟨z1, z2, z3, z4, z5, z6, z7, z8⟩ := hZ i hi h0
  exact ⟨z1, by rw [hs_up_n n0, hs_up_n nI', hs_up_n nL]; exact z2, z3, z4, by rw [pk_un nL]; exact z5, by rw [hs_df_n (by omega)]; exact z6, by rw [hs_df_n (by omega)]; exact z7, by rw [hs_df_n (by omega)]; exact z8⟩
theorem hs_b_send {L I v : Nat} {k : Int64} (hB : hs_B lk R CE T CX RY EY CY) (hL : L ≠ 0) (hI : I ≠ 0) : hs_B lk R CE (hs_dn (hs_t2 v (hs_t1 v T L k) I k) 0 k) (hs_dn (hs_dn (hs_dn CX L k) I k) 0 k) RY EY (hs_dn (hs_dn CY L k) I k) := by
  refine ⟨hB.1, hB.2.1, ?_, fun i hi => ⟨(hB.2.2.2 i hi).1, (hB.2.2.2 i hi).2.1, ?_⟩⟩
  · rw [hs_dn_s, hs_dn_s, hs_dn_n (Ne.symm hI), hs_dn_n (Ne.symm hL), hs_t2_0 hI, hs_t1_0 hL, hB.2.2.1]
  · rw [hs_dn_n hi]
    exact hs_dn_cg (hs_dn_cg (fun i hi => (hB.2.2.2 i hi).2.2) hL) hI i hi
theorem hs_p_send {L v p a : Nat} {s : Int32} (hP : hs_P PR PT) (h1 : 1 ≤ L) (hL : L ≤ 15) : hs_P PR (hs_pt DF PT L a (v * 4 + p) s) := by
  refine ⟨hP.1, fun j hj => ?_⟩
  unfold hs_pt
  by_cases e : j = v * 4 + p
  · subst e
    split
    · exact ⟨L, h1, hL, pk_us⟩
    · refine ⟨if 15 ≤ L then 1 else L + 1, ?_, ?_, pk_us⟩
      · split <;> omega
      · split <;> omega
  · split
    · rw [pk_un e]; exact hP.2 j hj
    · rw [pk_un e]; exact hP.2 j hj
theorem hs_step {n : Nat} {u : SX} {w : SY} (h : hs_R n u w) :
    ((∀ post : Int32 → Prop, post 3 → wpX_leastLendingLevel post u) ∧ (∀ post : Int32 → SY → Prop, post 0 w → wpY_sendOne post w)) ∨
    ∃ (u' : SX) (w' : SY) (a b c : Int32), 1 ≤ n ∧ hs_R (n - 1) u' w' ∧ ¬ a = 3 ∧ (∀ post : Int32 → Prop, post a → wpX_leastLendingLevel post u) ∧ (∀ post : Int32 → Prop, post b → wpX_leastPriority post u a) ∧ (∀ post : Int32 → Prop, post c → wpX_firstOfGroup post u a b) ∧ (∀ post : SX → Prop, post u' → wpX_sendHead post u c a b) ∧ (∀ post : Int32 → SY → Prop, post 1 w' → wpY_sendOne post w) := by
  obtain ⟨ql, dp, sd, lk, dl, K, P, R, CE, PR, QU, DF, PT, XQ, QH, QC, XL, YQ, YL, T, CX, SE, DR, RY, EY, CY, rfl, rfl, hA, hK, hZ, hB, hP, hQ, hL, rfl⟩ := h
  by_cases hm : hs_ml (hs_lv K P QC T CX) 15 = 3
  · exact Or.inl ⟨fun post hp => hs_xml0 hK (by rw [hm]; exact hp), fun post hp => hs_y40 hK hB (fun _ => hp) (fun z => absurd hm z)⟩
  · have lm := hs_ml_le (hs_lv K P QC T CX) 15
    obtain ⟨i0, a0, b0, e0⟩ := hs_ml_ex (hs_lv K P QC T CX) 15 (by omega)
    generalize hv : hs_ml (hs_lv K P QC T CX) 15 = v at hm lm e0
    have hv2 : v ≤ 2 := by omega
    have hpr : ∀ i, PR i = nI (PR i).toNatClampNeg := fun i => by
      obtain ⟨p, p4, ep⟩ := hP.1 i
      rw [ep, nI_clamp (by omega)]
    have h3 : ∀ i, (fun i => (PR i).toNatClampNeg) i ≤ 3 := fun i => by
      obtain ⟨p, p4, ep⟩ := hP.1 i
      show (PR i).toNatClampNeg ≤ 3
      rw [ep, nI_clamp (by omega)]; omega
    have q1 := hs_mp_lt (hs_lv K P QC T CX) (fun i => (PR i).toNatClampNeg) v 15 h3 i0 a0 b0 e0
    have q2 : (PR i0).toNatClampNeg ≤ 3 := h3 i0
    have q34 := hs_mp_34 (hs_lv K P QC T CX) (fun i => (PR i).toNatClampNeg) v 15 h3
    obtain ⟨i1, a1, b1, e1, f1⟩ := hs_mp_ex (hs_lv K P QC T CX) (fun i => (PR i).toNatClampNeg) v 15 (by omega)
    rw [if_neg (by omega)] at q34
    generalize hp : hs_mp (hs_lv K P QC T CX) (fun i => (PR i).toNatClampNeg) v 4 15 = p at q1 q34 f1
    have hp3 : p ≤ 3 := by omega
    obtain ⟨s, s1, s15, es⟩ := hP.2 (v * 4 + p) (by omega)
    obtain ⟨m, hm15, hM, hg⟩ := hs_least (fun k => (fun i => (PR i).toNatClampNeg) (hs_rg s k) = p ∧ hs_lv K P QC T CX (hs_rg s k) = v) 15 (by
      obtain ⟨k, hk, ek⟩ := hs_rg_ex s1 s15 a1 b1
      exact ⟨k, hk, by rw [ek]; exact ⟨f1, e1⟩⟩)
    have rin := hs_rg_in s m
    obtain ⟨kL, qL⟩ := hs_lv_lt (K := K) (P := P) (QC := QC) (T := T) (C := CX) (i := hs_rg s m) (by rw [hM.2]; omega)
    obtain ⟨I, I0, I16, eI, kI⟩ := hK.2.2 (hs_rg s m) (by omega) kL
    obtain ⟨c', g, c8, g8, ec', eg, rq⟩ := hQ (hs_rg s m) (by omega)
    obtain ⟨c, rfl⟩ : ∃ c, c' = c + 1 := by
      refine ⟨c' - 1, ?_⟩
      have : c' ≠ 0 := fun e => by rw [e, nI_0] at ec'; exact qL ec'
      omega
    have hz : XQ (hs_rg s m * 8 + g) = YQ (hs_rg s m * 8) := by
      have := rq 0 (by omega)
      rw [show (g + 0) % 8 = g by omega] at this
      exact this
    have ht := hs_tot_up QC 15 (hs_rg s m) c rin.1 rin.2 (by omega) ec'
    have key := hs_mkR (R := R) (CE := CE) (QU := QU) hA hK (hs_z_send (s := YQ (hs_rg s m * 8)) (q := QU (hs_rg s m)) (k := (YQ (hs_rg s m * 8)).toInt64) (c := c) (v := v) hK hZ (by omega) hv2 kL kI) (hs_b_send (v := v) (k := 16 * (YQ (hs_rg s m * 8)).toInt64) (L := hs_rg s m) (I := I) hB (by omega) I0) (hs_p_send (DF := DF) (L := hs_rg s m) (v := v) (p := p) (a := hs_rg s m * 3 + v) (s := YQ (hs_rg s m * 8)) hP rin.1 rin.2) (hs_q_take (YQ' := hs_sh YQ (hs_rg s m * 8) 7) hQ (by omega) (by omega) g8 ec' eg (fun j hj => by unfold hs_sh; rw [if_pos (by omega)]) (fun k hk => by unfold hs_sh; rw [if_neg (by omega)])) (hs_lg_step (e := (nI (hs_rg s m) + (16 * nI v)) + (64 * YQ (hs_rg s m * 8))) (YL' := upd (hs_ls YL 0) 0 ((nI (hs_rg s m) + (16 * nI v)) + (64 * YQ (hs_rg s m * 8)))) hL pk_us (fun k hk => by rw [pk_un (by omega)]; unfold hs_ls; rw [if_pos (by omega)]; rfl))
    rw [show hs_tot (upd QC (hs_rg s m) (nI c)) 15 = hs_tot QC 15 - 1 by omega] at key
    refine Or.inr ⟨_, _, nI v, nI p, nI (hs_rg s m), by omega, key, ?_, ?_, ?_, ?_, ?_, ?_⟩
    · intro e
      have := (nI_eq (a := v) (b := 3) (by omega) (by omega)).mp e
      omega
    · intro post hpost
      exact hs_xml0 hK (by rw [hv]; exact hpost)
    · intro post hpost
      exact hs_xmp0 (pr := fun i => (PR i).toNatClampNeg) hv2 hK hpr h3 (by rw [q34]; exact hpost)
    · intro post hpost
      exact hs_xfg0 (pr := fun i => (PR i).toNatClampNeg) hv2 hp3 hK hpr h3 es s1 s15 hm15 hg hM hpost
    · intro post hpost
      exact hs_xsend (by omega) I16 eI hv2 hp3 ec' eg g8 hz hpost
    · intro post hpost
      refine hs_y40 hK hB (fun z => absurd (hv.symm.trans z) hm) (fun _ => ⟨16, ?_⟩)
      rw [hv]
      refine hs_y44 (pr := fun i => (PR i).toNatClampNeg) hv2 hp3 hK hB hpr h3 hp es ⟨15 - m + m + 1, ?_⟩ 15 0 (by omega)
      exact hs_y102 (pr := fun i => (PR i).toNatClampNeg) hv2 hp3 hK hB hpr h3 s1 s15 hm15 hg hM rfl (hs_y1810 (by omega) I16 eI hv2 hp3 ec' hpost) m 0 (by omega)
end HSI
