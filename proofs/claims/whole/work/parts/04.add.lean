/-! enqueue, setLeafSched, addInner, addLeaf, the constructors -/
section HSD
variable {ql dp sd : Int32} {lk dl : Int64} {K P R CE PR QU DF PT XQ QH QC XL YQ YL : Nat → Int32} {T CX SE DR RY EY CY : Nat → Int64}
theorem hs_xenq {post : Int32 → SX → Prop} {j c h : Nat} {s : Int32} (hj : j < 16) (hk : K j = 3) (a : ¬ s < 1) (b : s ≤ 255) (d : QC j < ql) (ec : QC j = nI c) (hc : c < 8) (eh : QH j = nI h) (hh : h < 8) (hp : post 0 (ql, dp, sd, K, P, R, CE, T, CX, SE, DR, PR, QU, DF, PT, upd XQ (j * 8 + (h + c) % 8) s, QH, upd QC j (nI (c + 1)), XL)) : wpX_enqueue post (ql, dp, sd, K, P, R, CE, T, CX, SE, DR, PR, QU, DF, PT, XQ, QH, QC, XL) (nI j) s := by
  unfold wpX_enqueue
  refine hs_xkind hj (br_t hk (br_f a (br_t b ⟨hs_in hj, ?_⟩)))
  rw [hs_c hj]
  refine br_t d ⟨hs_in hj, ?_⟩
  rw [ec]
  refine hs_xslot hj eh hh (by omega) ⟨vp_in_nI (by omega) (by decide), nm_e ⟨hs_in hj, hs_in hj, nm_e ?_⟩⟩
  rw [nI_clamp (by omega), nI_1]; exact hp
theorem hs_yenq {post : Int32 → SY → Prop} {j c : Nat} {s : Int32} (hj : j < 16) (hk : K j = 3) (a : ¬ s < 1) (b : s ≤ 255) (d : QC j < ql) (ec : QC j = nI c) (hc : c < 8) (hp : post 0 (lk, ql, dl, sd, K, P, RY, EY, T, CY, SE, DR, PR, QU, DF, upd YQ (j * 8 + c) s, upd QC j (nI (c + 1)), PT, YL)) : wpY_enqueue post (lk, ql, dl, sd, K, P, RY, EY, T, CY, SE, DR, PR, QU, DF, YQ, QC, PT, YL) (nI j) s := by
  unfold wpY_enqueue
  refine hs_yleaf1 hj hk (br_f (by decide) (br_f a (br_t b ⟨hs_in hj, ?_⟩)))
  rw [hs_c hj]
  refine br_t d ⟨hs_in hj, ?_⟩
  rw [ec, show nI j * 8 + nI c = nI (j * 8 + c) from by rw [show nI j * 8 = nI (j * 8) from pk_mul j 8, nI_add]]
  refine ⟨vp_in_nI (by omega) (by decide), nm_e ⟨hs_in hj, hs_in hj, nm_e ?_⟩⟩
  rw [nI_clamp (by omega), nI_1]; exact hp
theorem hs_xenqd {post : Int32 → SX → Prop} {j : Nat} {s : Int32} (hj : j < 16) (hk : K j = 3) (a : ¬ s < 1) (b : s ≤ 255) (d : ¬ QC j < ql) (hp : post 1 (ql, dp, sd, K, P, R, CE, T, CX, SE, vp_updL DR j (DR j + s.toInt64), PR, QU, DF, PT, XQ, QH, QC, XL)) : wpX_enqueue post (ql, dp, sd, K, P, R, CE, T, CX, SE, DR, PR, QU, DF, PT, XQ, QH, QC, XL) (nI j) s := by
  unfold wpX_enqueue
  refine hs_xkind hj (br_t hk (br_f a (br_t b ⟨hs_in hj, ?_⟩)))
  rw [hs_c hj]
  exact br_f d ⟨hs_in hj, hs_in hj, nm_e hp⟩
theorem hs_yenqd {post : Int32 → SY → Prop} {j : Nat} {s : Int32} (hj : j < 16) (hk : K j = 3) (a : ¬ s < 1) (b : s ≤ 255) (d : ¬ QC j < ql) (hp : post 1 (lk, ql, dl, sd, K, P, RY, EY, T, CY, SE, vp_updL DR j (DR j + s.toInt64), PR, QU, DF, YQ, QC, PT, YL)) : wpY_enqueue post (lk, ql, dl, sd, K, P, RY, EY, T, CY, SE, DR, PR, QU, DF, YQ, QC, PT, YL) (nI j) s := by
  unfold wpY_enqueue
  refine hs_yleaf1 hj hk (br_f (by decide) (br_f a (br_t b ⟨hs_in hj, ?_⟩)))
  rw [hs_c hj]
  exact br_f d ⟨hs_in hj, hs_in hj, nm_e hp⟩
theorem hs_z_ne {j : Nat} (hk : ¬ K j = 0) {i : Nat} (hi : K i = 0) : i ≠ j := fun e => hk (e ▸ hi)
theorem hs_30 {x : Int32} (h : x = 3) : ¬ x = 0 := by rw [h]; decide
theorem i_vc_enqueue {k : Nat} {u : SX} {v : SY} (I : i_Rel k u v) (hk : k + 5 ≤ 2563) (v1 : Int32) (v2 : Int32) : wpX_enqueue (fun r u' => wpY_enqueue (fun r' v' => r' = r ∧ i_Rel (k + 5) u' v') v v1 v2) u v1 v2 := by
  obtain ⟨n, ql, dp, sd, lk, dl, K, P, R, CE, PR, QU, DF, PT, XQ, QH, QC, XL, YQ, YL, T, CX, SE, DR, RY, EY, CY, rfl, rfl, hA, hK, hZ, hB, hP, hQ, hL, rfl⟩ := I
  have J : i_Rel (k + 5) (ql, dp, sd, K, P, R, CE, T, CX, SE, DR, PR, QU, DF, PT, XQ, QH, QC, XL) (lk, ql, dl, sd, K, P, RY, EY, T, CY, SE, DR, PR, QU, DF, YQ, QC, PT, YL) := hs_mk hA hK hZ hB hP hQ hL
  rcases hs_ix v1 with h | ⟨j, hj, rfl⟩
  · unfold wpX_enqueue wpY_enqueue
    exact hs_xkind_o h (br_f (by decide) (hs_yleaf_o h (br_t rfl ⟨rfl, J⟩)))
  · by_cases hz : K j = 3
    · by_cases a : v2 < 1
      · unfold wpX_enqueue wpY_enqueue
        exact hs_xkind hj (br_t hz (br_t a (hs_yleaf1 hj hz (br_f (by decide) (br_t a ⟨rfl, J⟩)))))
      · by_cases b : v2 ≤ 255
        · obtain ⟨c, h, hc, hh, ec, eh, r⟩ := hQ j hj
          obtain ⟨q, q1, q8, eq⟩ := hA.1
          by_cases d : QC j < ql
          · have c8 : c < 8 := by
              have d' := d
              rw [ec, eq, nI_ltI (by omega) (by omega)] at d'
              omega
            refine hs_xenq hj hz a b d ec c8 eh hh (hs_yenq hj hz a b d ec c8 ⟨rfl, hs_mk hA hK ?_ hB hP (hs_q_put hQ hj c8 hh ec eh) hL⟩)
            intro i hi hi0
            have hne := hs_z_ne (hs_30 hz) hi0
            have z := hZ i hi hi0
            exact ⟨z.1, z.2.1, z.2.2.1, z.2.2.2.1, by rw [pk_un hne]; exact z.2.2.2.2.1, z.2.2.2.2.2⟩
          · refine hs_xenqd hj hz a b d (hs_yenqd hj hz a b d ⟨rfl, hs_mk hA hK ?_ hB hP hQ hL⟩)
            intro i hi hi0
            have hne := hs_z_ne (hs_30 hz) hi0
            have z := hZ i hi hi0
            exact ⟨z.1, z.2.1, by rw [pk_uLn hne]; exact z.2.2.1, z.2.2.2⟩
        · unfold wpX_enqueue wpY_enqueue
          exact hs_xkind hj (br_t hz (br_f a (br_f b (hs_yleaf1 hj hz (br_f (by decide) (br_f a (br_f b ⟨rfl, J⟩)))))))
    · unfold wpX_enqueue wpY_enqueue
      exact hs_xkind hj (br_f hz (hs_yleaf0 hj hz (br_t rfl ⟨rfl, J⟩)))
theorem hs_xsls {post : Int32 → SX → Prop} {j : Nat} {p q : Int32} (hj : j < 16) (hk : K j = 3) (hp : post 0 (ql, dp, sd, K, P, R, CE, T, CX, SE, DR, upd PR j (hs_cl p 0 3), upd QU j (hs_cl q 256 2048), DF, PT, XQ, QH, QC, XL)) : wpX_setLeafSched post (ql, dp, sd, K, P, R, CE, T, CX, SE, DR, PR, QU, DF, PT, XQ, QH, QC, XL) (nI j) p q := by
  unfold wpX_setLeafSched
  refine hs_xkind hj (br_t hk (hs_xclamp ⟨hs_in hj, nm_e (hs_xclamp ⟨hs_in hj, nm_e ?_⟩)⟩))
  rw [hs_c hj]; exact hp
theorem hs_ysls1 {post : Int32 → SY → Prop} {j : Nat} {p q : Int32} (hj : j < 16) (hp : post 0 (lk, ql, dl, sd, K, P, RY, EY, T, CY, SE, DR, upd PR j p, upd QU j (hs_cl q 256 2048), DF, YQ, QC, PT, YL)) : wY_setLeafSched_34 post (nI j) q p (nI j) lk ql dl sd K P RY EY T CY SE DR PR QU DF YQ QC PT YL := by
  unfold wY_setLeafSched_34
  unfold hs_cl at hp
  refine ⟨hs_in hj, nm_e ?_⟩
  rw [hs_c hj]
  refine br_c (fun a => br_c (fun b => ⟨hs_in hj, nm_e ?_⟩) (fun b => ⟨hs_in hj, nm_e ?_⟩)) (fun a => ⟨hs_in hj, nm_e ?_⟩)
  · rw [if_pos a, if_pos b] at hp; exact hp
  · rw [if_pos a, if_neg b] at hp; exact hp
  · rw [if_neg a] at hp; exact hp
theorem hs_ysls {post : Int32 → SY → Prop} {j : Nat} {p q : Int32} (hj : j < 16) (hk : K j = 3) (hp : post 0 (lk, ql, dl, sd, K, P, RY, EY, T, CY, SE, DR, upd PR j (hs_cl p 0 3), upd QU j (hs_cl q 256 2048), DF, YQ, QC, PT, YL)) : wpY_setLeafSched post (lk, ql, dl, sd, K, P, RY, EY, T, CY, SE, DR, PR, QU, DF, YQ, QC, PT, YL) (nI j) p q := by
  unfold wpY_setLeafSched
  refine hs_yleaf1 hj hk (br_f (by decide) (br_c (fun a => br_c (fun b => hs_ysls1 hj ?_) (fun b => hs_ysls1 hj ?_)) (fun a => hs_ysls1 hj ?_)))
  · have e : hs_cl p 0 3 = p := by unfold hs_cl; rw [if_pos a, if_pos b]
    rw [e] at hp; exact hp
  · have e : hs_cl p 0 3 = 3 := by unfold hs_cl; rw [if_pos a, if_neg b]
    rw [e] at hp; exact hp
  · have e : hs_cl p 0 3 = 0 := by unfold hs_cl; rw [if_neg a]
    rw [e] at hp; exact hp
theorem i_vc_setLeafSched {k : Nat} {u : SX} {v : SY} (I : i_Rel k u v) (hk : k + 5 ≤ 2563) (v1 : Int32) (v2 : Int32) (v3 : Int32) : wpX_setLeafSched (fun r u' => wpY_setLeafSched (fun r' v' => r' = r ∧ i_Rel (k + 5) u' v') v v1 v2 v3) u v1 v2 v3 := by
  obtain ⟨n, ql, dp, sd, lk, dl, K, P, R, CE, PR, QU, DF, PT, XQ, QH, QC, XL, YQ, YL, T, CX, SE, DR, RY, EY, CY, rfl, rfl, hA, hK, hZ, hB, hP, hQ, hL, rfl⟩ := I
  have J : i_Rel (k + 5) (ql, dp, sd, K, P, R, CE, T, CX, SE, DR, PR, QU, DF, PT, XQ, QH, QC, XL) (lk, ql, dl, sd, K, P, RY, EY, T, CY, SE, DR, PR, QU, DF, YQ, QC, PT, YL) := hs_mk hA hK hZ hB hP hQ hL
  rcases hs_ix v1 with h | ⟨j, hj, rfl⟩
  · unfold wpX_setLeafSched wpY_setLeafSched
    exact hs_xkind_o h (br_f (by decide) (hs_yleaf_o h (br_t rfl ⟨rfl, J⟩)))
  · by_cases hz : K j = 3
    · refine hs_xsls hj hz (hs_ysls hj hz ⟨rfl, hs_mk hA hK ?_ hB ⟨fun i => ?_, hP.2⟩ hQ hL⟩)
      · intro i hi hi0
        have hne := hs_z_ne (hs_30 hz) hi0
        have z := hZ i hi hi0
        exact ⟨z.1, z.2.1, z.2.2.1, by rw [pk_un hne]; exact z.2.2.2.1, z.2.2.2.2⟩
      · by_cases e : i = j
        · subst e
          obtain ⟨q, _, q3, eq⟩ := hs_cl_in (v := v2) (lo := 0) (hi := 3) (a := 0) (b := 3) rfl rfl (by omega) (by omega)
          exact ⟨q, by omega, by rw [pk_us]; exact eq⟩
        · obtain ⟨p, p4, ep⟩ := hP.1 i
          exact ⟨p, p4, by rw [pk_un e]; exact ep⟩
    · unfold wpX_setLeafSched wpY_setLeafSched
      exact hs_xkind hj (br_f hz (hs_yleaf0 hj hz (br_t rfl ⟨rfl, J⟩)))
theorem hs_xopen {post : SX → Prop} {j : Nat} {kd r c : Int32} (hj : j < 16) (hp : post (ql, dp, sd, upd K j kd, P, upd R j (hs_cl r 1 65536), upd CE j (hs_cl c (hs_cl r 1 65536) 65536), vp_updL T j ((hs_cl r 1 65536).toInt64 * dp.toInt64), vp_updL CX j ((hs_cl c (hs_cl r 1 65536) 65536).toInt64 * dp.toInt64), SE, DR, PR, QU, DF, PT, XQ, QH, QC, XL)) : wpX_openClass post (ql, dp, sd, K, P, R, CE, T, CX, SE, DR, PR, QU, DF, PT, XQ, QH, QC, XL) (nI j) kd r c := by
  unfold wpX_openClass
  refine hs_xclamp ⟨hs_in hj, nm_e ⟨hs_in hj, hs_xclamp ⟨hs_in hj, nm_e ⟨hs_in hj, hs_in hj, nm_e ⟨hs_in hj, hs_in hj, nm_e ⟨hs_in hj, nm_e ?_⟩⟩⟩⟩⟩⟩
  simp only [hs_c hj, pk_us]
  exact hp
theorem hs_ysb50 {post : SY → Prop} {j : Nat} {a b : Int64} (hj : j < 16) (hp : post (lk, ql, dl, sd, K, P, vp_updL RY j a, vp_updL EY j b, vp_updL T j (a * dl), vp_updL CY j (b * dl), vp_updL SE j 0, DR, PR, QU, DF, YQ, QC, PT, YL)) : wY_setBuckets_50 post (nI j) a b lk ql dl sd K P RY EY T CY SE DR PR QU DF YQ QC PT YL := by
  unfold wY_setBuckets_50
  refine ⟨hs_in hj, nm_e ⟨hs_in hj, nm_e ⟨hs_in hj, nm_e ⟨hs_in hj, nm_e ⟨hs_in hj, nm_e ?_⟩⟩⟩⟩⟩
  simp only [hs_c hj]
  exact hp
theorem hs_ysb22 {post : SY → Prop} {j : Nat} {r c : Int32} (hj : j < 16) (hp : post (lk, ql, dl, sd, K, P, vp_updL RY j r.toInt64, vp_updL EY j (hs_cl c r 65536).toInt64, vp_updL T j (r.toInt64 * dl), vp_updL CY j ((hs_cl c r 65536).toInt64 * dl), vp_updL SE j 0, DR, PR, QU, DF, YQ, QC, PT, YL)) : wY_setBuckets_22 post (nI j) c r.toInt64 lk ql dl sd K P RY EY T CY SE DR PR QU DF YQ QC PT YL := by
  unfold wY_setBuckets_22 wY_setBuckets_49
  refine br_c (fun a => br_c (fun b => hs_ysb50 hj ?_) (fun b => hs_ysb50 hj ?_)) (fun a => hs_ysb50 hj ?_)
  · have e : hs_cl c r 65536 = c := by unfold hs_cl; rw [if_pos (hs_i2l.mp a), if_pos b]
    rw [e] at hp; exact hp
  · have e : hs_cl c r 65536 = 65536 := by unfold hs_cl; rw [if_pos (hs_i2l.mp a), if_neg b]
    rw [e] at hp; exact hp
  · have e : hs_cl c r 65536 = r := by unfold hs_cl; rw [if_neg (fun z => a (hs_i2l.mpr z))]
    rw [e] at hp; exact hp
theorem hs_ysb {post : SY → Prop} {j : Nat} {r c : Int32} (hj : j < 16) (hp : post (lk, ql, dl, sd, K, P, vp_updL RY j (hs_cl r 1 65536).toInt64, vp_updL EY j (hs_cl c (hs_cl r 1 65536) 65536).toInt64, vp_updL T j ((hs_cl r 1 65536).toInt64 * dl), vp_updL CY j ((hs_cl c (hs_cl r 1 65536) 65536).toInt64 * dl), vp_updL SE j 0, DR, PR, QU, DF, YQ, QC, PT, YL)) : wpY_setBuckets post (lk, ql, dl, sd, K, P, RY, EY, T, CY, SE, DR, PR, QU, DF, YQ, QC, PT, YL) (nI j) r c := by
  unfold wpY_setBuckets wY_setBuckets_21
  refine br_c (fun a => br_c (fun b => hs_ysb22 hj ?_) (fun b => hs_ysb22 hj ?_)) (fun a => ?_)
  · have e : hs_cl r 1 65536 = r := by unfold hs_cl; rw [if_pos a, if_pos b]
    rw [e] at hp; exact hp
  · have e : hs_cl r 1 65536 = 65536 := by unfold hs_cl; rw [if_pos a, if_neg b]
    rw [e] at hp; exact hp
  · have e : hs_cl r 1 65536 = 1 := by unfold hs_cl; rw [if_neg a]
    rw [e] at hp
    rw [show (1 : Int64) = (1 : Int32).toInt64 from by decide]
    exact hs_ysb22 hj hp
end HSD
