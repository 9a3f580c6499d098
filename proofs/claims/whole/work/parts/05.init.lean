/-! addInner, addLeaf, the constructors -/
section HSE
variable {ql dp sd : Int32} {lk dl : Int64} {K P R CE PR QU DF PT XQ QH QC XL YQ YL : Nat → Int32} {T CX SE DR RY EY CY : Nat → Int64}
theorem hs_ix1 (x : Int32) : x < 1 ∨ (¬ x < 1 ∧ ¬ x ≤ 15) ∨ ∃ j, 1 ≤ j ∧ j < 16 ∧ x = nI j := by
  by_cases h : x < 1
  · exact Or.inl h
  · by_cases g : x ≤ 15
    · have h0 : ¬ x < 0 := by
        rw [Int32.lt_iff_toInt_lt, show (1 : Int32).toInt = 1 from by decide] at h
        rw [Int32.lt_iff_toInt_lt, show (0 : Int32).toInt = 0 from by decide]
        omega
      obtain ⟨j, hj, rfl⟩ := nI_of2 (n := 15) (by decide) h0 g
      refine Or.inr (Or.inr ⟨j, ?_, by omega, rfl⟩)
      rw [show (1 : Int32) = nI 1 from rfl, nI_ltI (by omega) (by decide)] at h
      omega
    · exact Or.inr (Or.inl ⟨h, g⟩)
theorem hs_n1 {j : Nat} (h1 : 1 ≤ j) (h : j < 16) : ¬ nI j < 1 := nI_nlt (b := 1) h1 (by omega)
theorem hs_xain {post : Int32 → SX → Prop} {j : Nat} {r c : Int32} (h1 : 1 ≤ j) (hj : j < 16) (hk : K j = 0) (hp : post 0 (ql, dp, sd, upd K j 2, P, upd R j (hs_cl r 1 65536), upd CE j (hs_cl c (hs_cl r 1 65536) 65536), vp_updL T j ((hs_cl r 1 65536).toInt64 * dp.toInt64), vp_updL CX j ((hs_cl c (hs_cl r 1 65536) 65536).toInt64 * dp.toInt64), SE, DR, PR, QU, DF, PT, XQ, QH, QC, XL)) : wpX_addInner post (ql, dp, sd, K, P, R, CE, T, CX, SE, DR, PR, QU, DF, PT, XQ, QH, QC, XL) (nI j) r c := by
  unfold wpX_addInner
  refine br_f (hs_n1 h1 hj) (br_t (hs_le15 hj) ⟨hs_in hj, br_t (by rw [hs_c hj]; exact hk) (hs_xopen hj ?_)⟩)
  exact hp
theorem hs_yain {post : Int32 → SY → Prop} {j : Nat} {r c : Int32} (h1 : 1 ≤ j) (hj : j < 16) (hk : K j = 0) (hp : post 0 (lk, ql, dl, sd, upd K j 2, upd P j 0, vp_updL RY j (hs_cl r 1 65536).toInt64, vp_updL EY j (hs_cl c (hs_cl r 1 65536) 65536).toInt64, vp_updL T j ((hs_cl r 1 65536).toInt64 * dl), vp_updL CY j ((hs_cl c (hs_cl r 1 65536) 65536).toInt64 * dl), vp_updL SE j 0, DR, PR, QU, DF, YQ, QC, PT, YL)) : wpY_addInner post (lk, ql, dl, sd, K, P, RY, EY, T, CY, SE, DR, PR, QU, DF, YQ, QC, PT, YL) (nI j) r c := by
  unfold wpY_addInner
  refine br_f (hs_n1 h1 hj) (br_t (hs_le15 hj) ⟨hs_in hj, br_t (by rw [hs_c hj]; exact hk) ⟨hs_in hj, nm_e ⟨hs_in hj, nm_e (hs_ysb hj ?_)⟩⟩⟩)
  simp only [hs_c hj]
  exact hp
theorem hs_k_open {j : Nat} {kd p : Int32} (hK : hs_K K P) (h1 : 1 ≤ j) (hj : j < 16) (hk : K j = 0) (h : kd ≠ 1) (hl : kd = 3 → ∃ q, q ≠ 0 ∧ q < 16 ∧ p = nI q ∧ K q = 2) : hs_K (upd K j kd) (upd P j p) := by
  have n2 : ∀ q, K q = 2 → q ≠ j := fun q hq e => by rw [e, hk] at hq; exact absurd hq (by decide)
  refine ⟨by rw [pk_un (by omega)]; exact hK.1, fun i hi h0 => ?_, fun i hi h3 => ?_⟩
  · by_cases e : i = j
    · subst e; rw [pk_us]; exact h
    · rw [pk_un e]; exact hK.2.1 i hi h0
  · by_cases e : i = j
    · subst e
      rw [pk_us] at h3
      obtain ⟨q, a, b, c, d⟩ := hl h3
      exact ⟨q, a, b, by rw [pk_us]; exact c, by rw [pk_un (n2 q d)]; exact d⟩
    · rw [pk_un e] at h3
      obtain ⟨q, a, b, c, d⟩ := hK.2.2 i hi h3
      exact ⟨q, a, b, by rw [pk_un e]; exact c, by rw [pk_un (n2 q d)]; exact d⟩
theorem hs_z_open {j : Nat} {kd p : Int32} (hZ : hs_Z K P SE DR PR DF QC) (h : kd ≠ 0) : hs_Z (upd K j kd) (upd P j p) SE DR PR DF QC := by
  intro i hi h0
  by_cases e : i = j
  · subst e; rw [pk_us] at h0; exact absurd h0 h
  · rw [pk_un e] at h0
    have z := hZ i hi h0
    exact ⟨by rw [pk_un e]; exact z.1, z.2⟩
theorem hs_b_open {j : Nat} {r c : Int32} {a b : Int64} (hB : hs_B lk R CE T CX RY EY CY) (h1 : 1 ≤ j) : hs_B lk (upd R j r) (upd CE j c) (vp_updL T j a) (vp_updL CX j b) (vp_updL RY j r.toInt64) (vp_updL EY j c.toInt64) (vp_updL CY j b) := by
  have n0 : (0 : Nat) ≠ j := by omega
  refine ⟨by rw [pk_un n0]; exact hB.1, by rw [pk_un n0, pk_un n0]; exact hB.2.1, by rw [pk_uLn n0, pk_uLn n0]; exact hB.2.2.1, fun i hi => ?_⟩
  by_cases e : i = j
  · subst e; rw [pk_us, pk_us, pk_uLs, pk_uLs, pk_uLs, pk_uLs]; exact ⟨rfl, rfl, rfl⟩
  · rw [pk_un e, pk_un e, pk_uLn e, pk_uLn e, pk_uLn e, pk_uLn e]; exact hB.2.2.2 i hi
theorem i_vc_addInner {k : Nat} {u : SX} {v : SY} (I : i_Rel k u v) (hk : k + 5 ≤ 2563) (v1 : Int32) (v2 : Int32) (v3 : Int32) : wpX_addInner (fun r u' => wpY_addInner (fun r' v' => r' = r ∧ i_Rel (k + 5) u' v') v v1 v2 v3) u v1 v2 v3 := by
  obtain ⟨n, ql, dp, sd, lk, dl, K, P, R, CE, PR, QU, DF, PT, XQ, QH, QC, XL, YQ, YL, T, CX, SE, DR, RY, EY, CY, rfl, rfl, hA, hK, hZ, hB, hP, hQ, hL, rfl⟩ := I
  have J : i_Rel (k + 5) (ql, dp, sd, K, P, R, CE, T, CX, SE, DR, PR, QU, DF, PT, XQ, QH, QC, XL) (lk, ql, dl, sd, K, P, RY, EY, T, CY, SE, DR, PR, QU, DF, YQ, QC, PT, YL) := hs_mk hA hK hZ hB hP hQ hL
  rcases hs_ix1 v1 with h | ⟨h, g⟩ | ⟨j, h1, hj, rfl⟩
  · unfold wpX_addInner wpY_addInner
    exact br_t h (br_t h ⟨rfl, J⟩)
  · unfold wpX_addInner wpY_addInner
    exact br_f h (br_f g (br_f h (br_f g ⟨rfl, J⟩)))
  · by_cases hz : K j = 0
    · refine hs_xain h1 hj hz (hs_yain h1 hj hz ⟨rfl, ?_⟩)
      have z := hZ j hj hz
      rw [hs_uLs z.2.1, hA.2]
      have hP0 : upd P j 0 = P := hs_us z.1
      have k1 := hs_k_open (kd := 2) (p := 0) hK h1 hj hz (by decide) (fun e => absurd e (by decide))
      have k2 := hs_z_open (j := j) (kd := 2) (p := 0) hZ (by decide)
      rw [hP0] at k1 k2 ⊢
      have hA' := hA
      rw [hA.2] at hA'
      exact hs_mk hA' k1 k2 (hs_b_open hB h1) hP hQ hL
    · have hz' : ¬ K (nI j).toNatClampNeg = 0 := by rw [hs_c hj]; exact hz
      unfold wpX_addInner wpY_addInner
      exact br_f (hs_n1 h1 hj) (br_t (hs_le15 hj) ⟨hs_in hj, br_f hz' (br_f (hs_n1 h1 hj) (br_t (hs_le15 hj) ⟨hs_in hj, br_f hz' ⟨rfl, J⟩⟩))⟩)
theorem hs_xalf {post : Int32 → SX → Prop} {j p : Nat} {r c : Int32} (h1 : 1 ≤ j) (hj : j < 16) (hk : K j = 0) (hp16 : p < 16) (hkp : K p = 2) (hp : post 0 (ql, dp, sd, upd K j 3, upd P j (nI p), upd R j (hs_cl r 1 65536), upd CE j (hs_cl c (hs_cl r 1 65536) 65536), vp_updL T j ((hs_cl r 1 65536).toInt64 * dp.toInt64), vp_updL CX j ((hs_cl c (hs_cl r 1 65536) 65536).toInt64 * dp.toInt64), SE, DR, PR, upd QU j 256, DF, PT, XQ, QH, QC, XL)) : wpX_addLeaf post (ql, dp, sd, K, P, R, CE, T, CX, SE, DR, PR, QU, DF, PT, XQ, QH, QC, XL) (nI j) (nI p) r c := by
  unfold wpX_addLeaf
  refine br_f (hs_n1 h1 hj) (br_t (hs_le15 hj) ⟨hs_in hj, br_t (by rw [hs_c hj]; exact hk) (hs_xkind hp16 (br_t hkp (hs_xopen hj ⟨hs_in hj, nm_e ⟨hs_in hj, nm_e ?_⟩⟩)))⟩)
  simp only [hs_c hj]
  exact hp
theorem hs_xalf_bad {post : Int32 → SX → Prop} {j : Nat} {q r c : Int32} (h1 : 1 ≤ j) (hj : j < 16) (hk : K j = 0) (hq : hs_out q ∨ ∃ p, p < 16 ∧ ¬ K p = 2 ∧ q = nI p) (hp : post (-3) (ql, dp, sd, K, P, R, CE, T, CX, SE, DR, PR, QU, DF, PT, XQ, QH, QC, XL)) : wpX_addLeaf post (ql, dp, sd, K, P, R, CE, T, CX, SE, DR, PR, QU, DF, PT, XQ, QH, QC, XL) (nI j) q r c := by
  unfold wpX_addLeaf
  refine br_f (hs_n1 h1 hj) (br_t (hs_le15 hj) ⟨hs_in hj, br_t (by rw [hs_c hj]; exact hk) ?_⟩)
  rcases hq with h | ⟨p, a, b, rfl⟩
  · exact hs_xkind_o h (br_f (by decide) hp)
  · exact hs_xkind a (br_f b hp)
theorem hs_yalf {post : Int32 → SY → Prop} {j p : Nat} {r c : Int32} (h1 : 1 ≤ j) (hj : j < 16) (hk : K j = 0) (hp16 : p < 16) (hkp : K p = 2) (hp : post 0 (lk, ql, dl, sd, upd K j 3, upd P j (nI p), vp_updL RY j (hs_cl r 1 65536).toInt64, vp_updL EY j (hs_cl c (hs_cl r 1 65536) 65536).toInt64, vp_updL T j ((hs_cl r 1 65536).toInt64 * dl), vp_updL CY j ((hs_cl c (hs_cl r 1 65536) 65536).toInt64 * dl), vp_updL SE j 0, vp_updL DR j 0, upd PR j 0, upd QU j 256, upd (upd (upd DF (j * 3) 0) (j * 3 + 1) 0) (j * 3 + 2) 0, YQ, upd QC j 0, PT, YL)) : wpY_addLeaf post (lk, ql, dl, sd, K, P, RY, EY, T, CY, SE, DR, PR, QU, DF, YQ, QC, PT, YL) (nI j) (nI p) r c := by
  have e0 : nI j * 3 = nI (j * 3) := pk_mul j 3
  have e1 : nI (j * 3) + 1 = nI (j * 3 + 1) := nI_1 _
  have e2 : nI (j * 3) + 2 = nI (j * 3 + 2) := nI_add _ 2
  unfold wpY_addLeaf
  refine br_f (hs_n1 h1 hj) (br_t (hs_le15 hj) ⟨hs_in hj, br_t (by rw [hs_c hj]; exact hk) (br_f (hs_n0 hp16) (br_f (hs_nlt15 hp16) ⟨hs_in hp16, br_t (by rw [hs_c hp16]; exact hkp) ⟨hs_in hj, nm_e ⟨hs_in hj, nm_e (hs_ysb hj ⟨hs_in hj, nm_e ⟨hs_in hj, nm_e ⟨hs_in hj, nm_e ?_⟩⟩⟩)⟩⟩⟩))⟩)
  simp only [e0, e1, e2]
  refine ⟨vp_in_nI (by omega) (by decide), nm_e ⟨vp_in_nI (by omega) (by decide), nm_e ⟨vp_in_nI (by omega) (by decide), nm_e ⟨hs_in hj, nm_e ?_⟩⟩⟩⟩
  simp only [hs_c hj]
  rw [nI_clamp (by omega), nI_clamp (by omega), nI_clamp (by omega)]
  exact hp
theorem hs_yalf_bad {post : Int32 → SY → Prop} {j : Nat} {q r c : Int32} (h1 : 1 ≤ j) (hj : j < 16) (hk : K j = 0) (hq : hs_out q ∨ ∃ p, p < 16 ∧ ¬ K p = 2 ∧ q = nI p) (hp : post (-3) (lk, ql, dl, sd, K, P, RY, EY, T, CY, SE, DR, PR, QU, DF, YQ, QC, PT, YL)) : wpY_addLeaf post (lk, ql, dl, sd, K, P, RY, EY, T, CY, SE, DR, PR, QU, DF, YQ, QC, PT, YL) (nI j) q r c := by
  unfold wpY_addLeaf
  refine br_f (hs_n1 h1 hj) (br_t (hs_le15 hj) ⟨hs_in hj, br_t (by rw [hs_c hj]; exact hk) ?_⟩)
  rcases hq with h | ⟨p, a, b, rfl⟩
  · rcases h with h | h
    · exact br_t h hp
    · exact br_f (hs_o1 h) (br_t (hs_o3 h) hp)
  · exact br_f (hs_n0 a) (br_f (hs_nlt15 a) ⟨hs_in a, br_f (by rw [hs_c a]; exact b) hp⟩)
theorem i_vc_addLeaf {k : Nat} {u : SX} {v : SY} (I : i_Rel k u v) (hk : k + 5 ≤ 2563) (v1 : Int32) (v2 : Int32) (v3 : Int32) (v4 : Int32) : wpX_addLeaf (fun r u' => wpY_addLeaf (fun r' v' => r' = r ∧ i_Rel (k + 5) u' v') v v1 v2 v3 v4) u v1 v2 v3 v4 := by
  obtain ⟨n, ql, dp, sd, lk, dl, K, P, R, CE, PR, QU, DF, PT, XQ, QH, QC, XL, YQ, YL, T, CX, SE, DR, RY, EY, CY, rfl, rfl, hA, hK, hZ, hB, hP, hQ, hL, rfl⟩ := I
  have J : i_Rel (k + 5) (ql, dp, sd, K, P, R, CE, T, CX, SE, DR, PR, QU, DF, PT, XQ, QH, QC, XL) (lk, ql, dl, sd, K, P, RY, EY, T, CY, SE, DR, PR, QU, DF, YQ, QC, PT, YL) := hs_mk hA hK hZ hB hP hQ hL
  rcases hs_ix1 v1 with h | ⟨h, g⟩ | ⟨j, h1, hj, rfl⟩
  · unfold wpX_addLeaf wpY_addLeaf
    exact br_t h (br_t h ⟨rfl, J⟩)
  · unfold wpX_addLeaf wpY_addLeaf
    exact br_f h (br_f g (br_f h (br_f g ⟨rfl, J⟩)))
  · by_cases hz : K j = 0
    · have hq : (∃ p, p < 16 ∧ K p = 2 ∧ v2 = nI p) ∨ (hs_out v2 ∨ ∃ p, p < 16 ∧ ¬ K p = 2 ∧ v2 = nI p) := by
        rcases hs_ix v2 with h | ⟨p, hp16, e⟩
        · exact Or.inr (Or.inl h)
        · by_cases h2 : K p = 2
          · exact Or.inl ⟨p, hp16, h2, e⟩
          · exact Or.inr (Or.inr ⟨p, hp16, h2, e⟩)
      rcases hq with ⟨p, hp16, h2, rfl⟩ | hq
      · refine hs_xalf h1 hj hz hp16 h2 (hs_yalf h1 hj hz hp16 h2 ⟨rfl, ?_⟩)
        obtain ⟨z1, z2, z3, z4, z5, z6, z7, z8⟩ := hZ j hj hz
        have p0 : p ≠ 0 := fun e => by rw [e, hK.1] at h2; exact absurd h2 (by decide)
        rw [hs_uLs z2, hs_uLs z3, hs_us z4, hs_us z5, hs_us z6, hs_us z7, hs_us z8, hA.2]
        have hA' := hA
        rw [hA.2] at hA'
        exact hs_mk hA' (hs_k_open hK h1 hj hz (by decide) (fun _ => ⟨p, p0, hp16, rfl, h2⟩)) (hs_z_open hZ (by decide)) (hs_b_open hB h1) hP hQ hL
      · exact hs_xalf_bad h1 hj hz hq (hs_yalf_bad h1 hj hz hq ⟨rfl, J⟩)
    · have hz' : ¬ K (nI j).toNatClampNeg = 0 := by rw [hs_c hj]; exact hz
      unfold wpX_addLeaf wpY_addLeaf
      exact br_f (hs_n1 h1 hj) (br_t (hs_le15 hj) ⟨hs_in hj, br_f hz' (br_f (hs_n1 h1 hj) (br_t (hs_le15 hj) ⟨hs_in hj, br_f hz' ⟨rfl, J⟩⟩))⟩)
/-- the first i pointers at 1 -/
def hs_p1 (i : Nat) : Nat → Int32 := fun j => if j < i then 1 else 0
theorem hs_p1_s (i : Nat) : upd (hs_p1 i) i 1 = hs_p1 (i + 1) := by
  funext j
  unfold hs_p1
  by_cases e : j = i
  · subst e; rw [pk_us, if_pos (by omega)]
  · rw [pk_un e]
    by_cases f : j < i
    · rw [if_pos f, if_pos (by omega)]
    · rw [if_neg f, if_neg (by omega)]
abbrev hs_o : Nat → Int32 := fun _ => 0
theorem hs_p1_0 : hs_p1 0 = hs_o := by
  funext j; unfold hs_p1 hs_o; rw [if_neg (by omega)]
theorem hs_xin {post : SX → Prop} {x : Int32} (H : post (ql, dp, sd, upd K 0 1, P, upd R 0 (hs_cl (hs_cl x 16 65536) 1 65536), upd CE 0 (hs_cl (hs_cl x 16 65536) (hs_cl (hs_cl x 16 65536) 1 65536) 65536), vp_updL T 0 ((hs_cl (hs_cl x 16 65536) 1 65536).toInt64 * dp.toInt64), vp_updL CX 0 ((hs_cl (hs_cl x 16 65536) (hs_cl (hs_cl x 16 65536) 1 65536) 65536).toInt64 * dp.toInt64), SE, DR, PR, QU, DF, hs_p1 12, XQ, QH, QC, XL)) : ∀ d i : Nat, i + d = 12 → wX_init_163 post x ql dp sd (d + 1) (nI i) K P R CE T CX SE DR PR QU DF (hs_p1 i) XQ QH QC XL := by
  intro d
  induction d with
  | zero =>
    intro i hi
    have e : i = 12 := by omega
    subst e
    exact br_t (nI_le (a := 12) (by omega) (by omega)) (hs_xclamp (hs_xopen (j := 0) (by omega) H))
  | succ d ih =>
    intro i hi
    refine br_f (nI_ge (b := 12) (by omega) (by omega)) ⟨vp_in_nI (by omega) (by omega), nm_r ?_ (nm_r (nI_1 i) (ih (i + 1) (by omega)))⟩
    rw [nI_clamp (by omega), hs_p1_s]
theorem hs_xin0 {post : SX → Prop} {x : Int32} (H : post (ql, dp, sd, upd K 0 1, P, upd R 0 (hs_cl (hs_cl x 16 65536) 1 65536), upd CE 0 (hs_cl (hs_cl x 16 65536) (hs_cl (hs_cl x 16 65536) 1 65536) 65536), vp_updL T 0 ((hs_cl (hs_cl x 16 65536) 1 65536).toInt64 * dp.toInt64), vp_updL CX 0 ((hs_cl (hs_cl x 16 65536) (hs_cl (hs_cl x 16 65536) 1 65536) 65536).toInt64 * dp.toInt64), SE, DR, PR, QU, DF, hs_p1 12, XQ, QH, QC, XL)) : wX_init_163 post x ql dp sd 13 0 K P R CE T CX SE DR PR QU DF hs_o XQ QH QC XL := by
  have h : wX_init_163 post x ql dp sd 13 (nI 0) K P R CE T CX SE DR PR QU DF (hs_p1 0) XQ QH QC XL := hs_xin H 12 0 (by omega)
  rw [hs_p1_0] at h
  exact h
theorem hs_yin {post : SY → Prop} (H : post (lk, ql, dl, 0, K, P, RY, EY, T, CY, SE, DR, PR, QU, DF, YQ, QC, hs_p1 12, YL)) : ∀ d i : Nat, i + d = 12 → wY_init_237 post lk ql dl sd (d + 1) (nI i) K P RY EY T CY SE DR PR QU DF YQ QC (hs_p1 i) YL := by
  intro d
  induction d with
  | zero =>
    intro i hi
    have e : i = 12 := by omega
    subst e
    exact br_t (nI_le (a := 12) (by omega) (by omega)) H
  | succ d ih =>
    intro i hi
    refine br_f (nI_ge (b := 12) (by omega) (by omega)) ⟨vp_in_nI (by omega) (by omega), nm_r ?_ (nm_r (nI_1 i) (ih (i + 1) (by omega)))⟩
    rw [nI_clamp (by omega), hs_p1_s]
theorem hs_yin0 {post : SY → Prop} (H : post (lk, ql, dl, 0, K, P, RY, EY, T, CY, SE, DR, PR, QU, DF, YQ, QC, hs_p1 12, YL)) : wY_init_237 post lk ql dl sd 13 0 K P RY EY T CY SE DR PR QU DF YQ QC hs_o YL := by
  have h : wY_init_237 post lk ql dl sd 13 (nI 0) K P RY EY T CY SE DR PR QU DF YQ QC (hs_p1 0) YL := hs_yin H 12 0 (by omega)
  rw [hs_p1_0] at h
  exact h
theorem hs_yin196 {post : SY → Prop} {a b : Int32} (H : post (a.toInt64, ql, b.toInt64, 0, upd K 0 1, P, RY, EY, vp_updL T 0 (a.toInt64 * b.toInt64), CY, SE, DR, PR, QU, DF, YQ, QC, hs_p1 12, YL)) : wY_init_196 post a b lk ql dl sd K P RY EY T CY SE DR PR QU DF YQ QC hs_o YL := by
  unfold wY_init_196
  refine nm_e (nm_e ⟨13, hs_yin0 H⟩)
theorem hs_yin172 {post : SY → Prop} {a x z : Int32} (H : post (a.toInt64, z, (hs_cl x 1 16).toInt64, 0, upd K 0 1, P, RY, EY, vp_updL T 0 (a.toInt64 * (hs_cl x 1 16).toInt64), CY, SE, DR, PR, QU, DF, YQ, QC, hs_p1 12, YL)) : wY_init_172 post x a z lk ql dl sd K P RY EY T CY SE DR PR QU DF YQ QC hs_o YL := by
  unfold wY_init_172
  refine br_c (fun c => br_c (fun d => hs_yin196 ?_) (fun d => hs_yin196 ?_)) (fun c => hs_yin196 ?_)
  · have e : hs_cl x 1 16 = x := by unfold hs_cl; rw [if_pos c, if_pos d]
    rw [e] at H; exact H
  · have e : hs_cl x 1 16 = 16 := by unfold hs_cl; rw [if_pos c, if_neg d]
    rw [e] at H; exact H
  · have e : hs_cl x 1 16 = 1 := by unfold hs_cl; rw [if_neg c]
    rw [e] at H; exact H
theorem hs_yin148 {post : SY → Prop} {a x w : Int32} (H : post (a.toInt64, hs_cl w 1 8, (hs_cl x 1 16).toInt64, 0, upd K 0 1, P, RY, EY, vp_updL T 0 (a.toInt64 * (hs_cl x 1 16).toInt64), CY, SE, DR, PR, QU, DF, YQ, QC, hs_p1 12, YL)) : wY_init_148 post w x a lk ql dl sd K P RY EY T CY SE DR PR QU DF YQ QC hs_o YL := by
  unfold wY_init_148
  refine br_c (fun c => br_c (fun d => hs_yin172 ?_) (fun d => hs_yin172 ?_)) (fun c => hs_yin172 ?_)
  · have e : hs_cl w 1 8 = w := by unfold hs_cl; rw [if_pos c, if_pos d]
    rw [e] at H; exact H
  · have e : hs_cl w 1 8 = 8 := by unfold hs_cl; rw [if_pos c, if_neg d]
    rw [e] at H; exact H
  · have e : hs_cl w 1 8 = 1 := by unfold hs_cl; rw [if_neg c]
    rw [e] at H; exact H
end HSE
section HSF
theorem hs_yini {post : SY → Prop} {y w x : Int32} (H : post ((hs_cl y 16 65536).toInt64, hs_cl w 1 8, (hs_cl x 1 16).toInt64, 0, upd (fun _ => 0) 0 1, (fun _ => 0), (fun _ => 0), (fun _ => 0), vp_updL (fun _ => 0) 0 ((hs_cl y 16 65536).toInt64 * (hs_cl x 1 16).toInt64), (fun _ => 0), (fun _ => 0), (fun _ => 0), (fun _ => 0), (fun _ => 0), (fun _ => 0), (fun _ => 0), (fun _ => 0), hs_p1 12, (fun _ => 0))) : wpY_init post y w x := by
  unfold wpY_init
  refine br_c (fun c => br_c (fun d => hs_yin148 ?_) (fun d => hs_yin148 ?_)) (fun c => hs_yin148 ?_)
  · have e : hs_cl y 16 65536 = y := by unfold hs_cl; rw [if_pos c, if_pos d]
    rw [e] at H; exact H
  · have e : hs_cl y 16 65536 = 65536 := by unfold hs_cl; rw [if_pos c, if_neg d]
    rw [e] at H; exact H
  · have e : hs_cl y 16 65536 = 16 := by unfold hs_cl; rw [if_neg c]
    rw [e] at H; exact H
theorem i_vc0 (k0 : Int32) (k1 : Int32) (k2 : Int32) : wpX_init (fun u => wpY_init (fun v => i_Rel 3 u v) k0 k1 k2) k0 k1 k2 := by
  unfold wpX_init
  refine hs_xclamp (hs_xclamp ⟨13, ?_⟩)
  obtain ⟨a, a16, a65, ea⟩ := hs_cl_in (v := k0) (lo := 16) (hi := 65536) (a := 16) (b := 65536) rfl rfl (by omega) (by omega)
  have e1 : hs_cl (hs_cl k0 16 65536) 1 65536 = hs_cl k0 16 65536 := by
    rw [ea]
    exact hs_cl_id (nI_le (a := 1) (by omega) (by omega)) (nI_le (b := 65536) (by omega) (by omega))
  have e2 : hs_cl (hs_cl k0 16 65536) (hs_cl k0 16 65536) 65536 = hs_cl k0 16 65536 := by
    rw [ea]
    exact hs_cl_id (nI_le (Nat.le_refl a) (by omega)) (nI_le (b := 65536) (by omega) (by omega))
  refine hs_xin0 ?_
  rw [e1, e2]
  refine hs_yini (hs_mk ⟨?_, rfl⟩ ⟨?_, ?_, ?_⟩ ?_ ⟨?_, ?_, ?_, ?_⟩ ⟨?_, ?_⟩ ?_ ?_)
  · exact hs_cl_in (v := k1) (lo := 1) (hi := 8) (a := 1) (b := 8) rfl rfl (by omega) (by omega)
  · exact pk_us
  · intro i hi h0; rw [pk_un h0]; decide
  · intro i hi h3
    by_cases e : i = 0
    · subst e; rw [pk_us] at h3; exact absurd h3 (by decide)
    · rw [pk_un e] at h3; exact absurd h3 (by decide)
  · intro i hi h0
    exact ⟨rfl, rfl, rfl, rfl, rfl, rfl, rfl, rfl⟩
  · rw [pk_us]
  · rw [pk_us]
  · rw [pk_uLs]
  · intro i h0
    rw [pk_un h0, pk_uLn h0]
    exact ⟨(by decide : (0 : Int64) = (0 : Int32).toInt64), (by decide : (0 : Int64) = (0 : Int32).toInt64), rfl⟩
  · intro i; exact ⟨0, by omega, rfl⟩
  · intro j hj
    refine ⟨1, by omega, by omega, ?_⟩
    unfold hs_p1; rw [if_pos hj]; rfl
  · intro i hi
    exact ⟨0, 0, by omega, by omega, rfl, rfl, fun j hj => absurd hj (by omega)⟩
  · intro j hj; rfl
end HSF
