theorem i_vc_run {k : Nat} {u : SX} {v : SY} (I : i_Rel k u v) (hk : k + 5 ≤ 2563) (v1 : Int32) : wpX_run (fun r u' => wpY_run (fun r' v' => r' = r ∧ i_Rel (k + 5) u' v') v v1) u v1 := by
  obtain ⟨n, h⟩ := I
  by_cases c : 1 ≤ v1
  · have h0 : ¬ v1 < 0 := by
      rw [Int32.le_iff_toInt_le, show (1 : Int32).toInt = 1 from by decide] at c
      rw [Int32.lt_iff_toInt_lt, show (0 : Int32).toInt = 0 from by decide]; omega
    by_cases e : v1 ≤ 64
    · obtain ⟨t, ht, rfl⟩ := nI_of2 (n := 64) (by decide) h0 e
      obtain ⟨r, n', u', w', h', gx, gy⟩ := hs_ticks ht t 0 n 0 u v (by omega) h
      obtain ⟨ql, dp, sd, lk, dl, K, P, R, CE, PR, QU, DF, PT, XQ, QH, QC, XL, YQ, YL, T, CX, SE, DR, RY, EY, CY, rfl, rfl, hI⟩ := h
      unfold wpX_run
      refine br_t e ⟨t + 1, hs_VXi (gx _ ?_)⟩
      unfold wpY_run
      exact br_t c (br_t e ⟨t + 1, hs_VYi (gy _ ⟨rfl, n', h'⟩)⟩)
    · obtain ⟨r, n', u', w', h', gx, gy⟩ := hs_ticks (k := 64) (by omega) 64 0 n 0 u v (by omega) h
      obtain ⟨ql, dp, sd, lk, dl, K, P, R, CE, PR, QU, DF, PT, XQ, QH, QC, XL, YQ, YL, T, CX, SE, DR, RY, EY, CY, rfl, rfl, hI⟩ := h
      unfold wpX_run
      refine br_f e ⟨65, hs_VXi (gx _ ?_)⟩
      unfold wpY_run
      exact br_t c (br_f e ⟨65, hs_VYi (gy _ ⟨rfl, n', h'⟩)⟩)
  · have c' := c
    rw [Int32.le_iff_toInt_le, show (1 : Int32).toInt = 1 from by decide] at c'
    have h64 : v1 ≤ 64 := by
      rw [Int32.le_iff_toInt_le, show (64 : Int32).toInt = 64 from by decide]; omega
    have h0 : v1 ≤ 0 := by
      rw [Int32.le_iff_toInt_le, show (0 : Int32).toInt = 0 from by decide]; omega
    have J : i_Rel (k + 5) u v := ⟨n, h⟩
    obtain ⟨ql, dp, sd, lk, dl, K, P, R, CE, PR, QU, DF, PT, XQ, QH, QC, XL, YQ, YL, T, CX, SE, DR, RY, EY, CY, rfl, rfl, hI⟩ := h
    unfold wpX_run wpY_run
    exact br_t h64 ⟨1, br_t h0 (br_f c ⟨rfl, J⟩)⟩
