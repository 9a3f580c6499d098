/-! run: the send loop by the packets left, the ticks by what is left -/
section HSK
def hs_WX (post : Int32 → SX → Prop) (n : Nat) (x : Int32) (u : SX) : Prop := match u with
  | (ql, dp, sd, K, P, R, CE, T, CX, SE, DR, PR, QU, DF, PT, XQ, QH, QC, XL) => wX_sendWhileEligible_2 post n x ql dp sd K P R CE T CX SE DR PR QU DF PT XQ QH QC XL
def hs_VX (post : Int32 → SX → Prop) (x2 : Int32) (n : Nat) (x3 x4 : Int32) (u : SX) : Prop := match u with
  | (ql, dp, sd, K, P, R, CE, T, CX, SE, DR, PR, QU, DF, PT, XQ, QH, QC, XL) => wX_run_18 post x2 n x3 x4 ql dp sd K P R CE T CX SE DR PR QU DF PT XQ QH QC XL
def hs_J (J : hs_JT) (x3 x4 : Int32) (w : SY) : Prop := match w with
  | (lk, ql, dl, sd, K, P, RY, EY, T, CY, SE, DR, PR, QU, DF, YQ, QC, PT, YL) => J x3 x4 lk ql dl sd K P RY EY T CY SE DR PR QU DF YQ QC PT YL
def hs_WY (post : Int32 → SY → Prop) (J : hs_JT) (x2 x4 : Int32) (n : Nat) (x3 x5 : Int32) (w : SY) : Prop := match w with
  | (lk, ql, dl, sd, K, P, RY, EY, T, CY, SE, DR, PR, QU, DF, YQ, QC, PT, YL) => wY_run_240 post J x2 x4 n x3 x5 lk ql dl sd K P RY EY T CY SE DR PR QU DF YQ QC PT YL
def hs_FY (post : Int32 → SY → Prop) (J : hs_JT) (x2 x3 x4 : Int32) (w : SY) : Prop := match w with
  | (lk, ql, dl, sd, K, P, RY, EY, T, CY, SE, DR, PR, QU, DF, YQ, QC, PT, YL) => ∃ n, wY_run_34 post J x2 x3 x4 lk ql dl sd n 0 K P RY EY T CY SE DR PR QU DF YQ QC PT YL
def hs_VY (post : Int32 → SY → Prop) (x2 : Int32) (n : Nat) (x3 x4 : Int32) (w : SY) : Prop := match w with
  | (lk, ql, dl, sd, K, P, RY, EY, T, CY, SE, DR, PR, QU, DF, YQ, QC, PT, YL) => wY_run_25 post x2 n x3 x4 lk ql dl sd K P RY EY T CY SE DR PR QU DF YQ QC PT YL
variable {ql dp sd : Int32} {lk dl : Int64} {K P R CE PR QU DF PT XQ QH QC XL YQ YL : Nat → Int32} {T CX SE DR RY EY CY : Nat → Int64}
theorem hs_VXi {post : Int32 → SX → Prop} {x2 : Int32} {n : Nat} {x3 x4 : Int32} (h : hs_VX post x2 n x3 x4 (ql, dp, sd, K, P, R, CE, T, CX, SE, DR, PR, QU, DF, PT, XQ, QH, QC, XL)) : wX_run_18 post x2 n x3 x4 ql dp sd K P R CE T CX SE DR PR QU DF PT XQ QH QC XL := h
theorem hs_VYi {post : Int32 → SY → Prop} {x2 : Int32} {n : Nat} {x3 x4 : Int32} (h : hs_VY post x2 n x3 x4 (lk, ql, dl, sd, K, P, RY, EY, T, CY, SE, DR, PR, QU, DF, YQ, QC, PT, YL)) : wY_run_25 post x2 n x3 x4 lk ql dl sd K P RY EY T CY SE DR PR QU DF YQ QC PT YL := h
theorem hs_R_le {n : Nat} {u : SX} {w : SY} (h : hs_R n u w) : n ≤ 120 := by
  obtain ⟨ql, dp, sd, lk, dl, K, P, R, CE, PR, QU, DF, PT, XQ, QH, QC, XL, YQ, YL, T, CX, SE, DR, RY, EY, CY, rfl, rfl, hA, hK, hZ, hB, hP, hQ, hL, rfl⟩ := h
  exact hs_q_tot hQ
theorem hs_refill {n : Nat} {u : SX} {w : SY} (h : hs_R n u w) : ∃ (u' : SX) (w' : SY), hs_R n u' w' ∧ (∀ post : SX → Prop, post u' → wpX_refillAll post u) ∧ (∀ (post : Int32 → SY → Prop) (J : hs_JT) (x2 x3 x4 : Int32), (∃ m, hs_WY post J x2 x4 m x3 0 w') → hs_FY post J x2 x3 x4 w) := by
  obtain ⟨ql, dp, sd, lk, dl, K, P, R, CE, PR, QU, DF, PT, XQ, QH, QC, XL, YQ, YL, T, CX, SE, DR, RY, EY, CY, rfl, rfl, hA, hK, hZ, hB, hP, hQ, hL, rfl⟩ := h
  have hB' := hs_b_fill (d := dl) hK hB
  refine ⟨_, _, hs_mkR (QU := QU) hA hK hZ hB' hP hQ hL, fun post hp => hs_xra0 ?_, fun post J x2 x3 x4 H => ?_⟩
  · rw [← hA.2]; exact hp
  · exact hs_y340 hK hB.1 (fun i hi => ⟨(hB.2.2.2 i hi).1, (hB.2.2.2 i hi).2.1⟩) H
theorem hs_sends : ∀ (n : Nat) (u : SX) (w : SY), hs_R n u w → ∃ (m : Nat) (u' : SX) (w' : SY), m ≤ n ∧ hs_R (n - m) u' w' ∧ (∀ (post : Int32 → SX → Prop) (f c : Nat), c + m < 128 → post (nI (c + m)) u' → hs_WX post (f + m + 1) (nI c) u) ∧ (∀ (post : Int32 → SY → Prop) (J : hs_JT) (x2 x4 : Int32) (f c : Nat) (b : Int32), c + m < 121 → hs_J J (b + nI m) (x4 + 1) w' → hs_WY post J x2 x4 (f + m + 1) b (nI c) w) := by
  intro n
  induction n with
  | zero =>
    intro u w h
    have st := hs_step h
    obtain ⟨ql, dp, sd, lk, dl, K, P, R, CE, PR, QU, DF, PT, XQ, QH, QC, XL, YQ, YL, T, CX, SE, DR, RY, EY, CY, rfl, rfl, hI⟩ := h
    rcases st with ⟨hx, hy⟩ | ⟨_, _, _, _, _, bad, _⟩
    · refine ⟨0, (ql, dp, sd, K, P, R, CE, T, CX, SE, DR, PR, QU, DF, PT, XQ, QH, QC, XL), (lk, ql, dl, sd, K, P, RY, EY, T, CY, SE, DR, PR, QU, DF, YQ, QC, PT, YL), Nat.le_refl 0, ⟨ql, dp, sd, lk, dl, K, P, R, CE, PR, QU, DF, PT, XQ, QH, QC, XL, YQ, YL, T, CX, SE, DR, RY, EY, CY, rfl, rfl, hI⟩, ?_, ?_⟩
      · intro post f c hc hp
        show wX_sendWhileEligible_2 post (f + 1) (nI c) ql dp sd K P R CE T CX SE DR PR QU DF PT XQ QH QC XL
        exact br_f (nI_ge (b := 128) (by omega) (by omega)) (hx _ (br_t rfl hp))
      · intro post J x2 x4 f c b hc hp
        have e : b + nI 0 = b := by rw [nI_0, Int32.add_zero]
        rw [e] at hp
        show wY_run_240 post J x2 x4 (f + 1) b (nI c) lk ql dl sd K P RY EY T CY SE DR PR QU DF YQ QC PT YL
        exact br_f (nI_ge (b := 121) (by omega) (by omega)) (hy _ (br_t rfl (nm_e hp)))
    · omega
  | succ n ih =>
    intro u w h
    have st := hs_step h
    obtain ⟨ql, dp, sd, lk, dl, K, P, R, CE, PR, QU, DF, PT, XQ, QH, QC, XL, YQ, YL, T, CX, SE, DR, RY, EY, CY, rfl, rfl, hI⟩ := h
    rcases st with ⟨hx, hy⟩ | ⟨u1, w1, a, b', c', _, h1, ha, hxa, hxb, hxc, hxs, hys⟩
    · refine ⟨0, (ql, dp, sd, K, P, R, CE, T, CX, SE, DR, PR, QU, DF, PT, XQ, QH, QC, XL), (lk, ql, dl, sd, K, P, RY, EY, T, CY, SE, DR, PR, QU, DF, YQ, QC, PT, YL), Nat.zero_le _, ⟨ql, dp, sd, lk, dl, K, P, R, CE, PR, QU, DF, PT, XQ, QH, QC, XL, YQ, YL, T, CX, SE, DR, RY, EY, CY, rfl, rfl, hI⟩, ?_, ?_⟩
      · intro post f c hc hp
        show wX_sendWhileEligible_2 post (f + 1) (nI c) ql dp sd K P R CE T CX SE DR PR QU DF PT XQ QH QC XL
        exact br_f (nI_ge (b := 128) (by omega) (by omega)) (hx _ (br_t rfl hp))
      · intro post J x2 x4 f c b hc hp
        have e : b + nI 0 = b := by rw [nI_0, Int32.add_zero]
        rw [e] at hp
        show wY_run_240 post J x2 x4 (f + 1) b (nI c) lk ql dl sd K P RY EY T CY SE DR PR QU DF YQ QC PT YL
        exact br_f (nI_ge (b := 121) (by omega) (by omega)) (hy _ (br_t rfl (nm_e hp)))
    · rw [Nat.add_sub_cancel] at h1
      obtain ⟨m, u2, w2, hm, h2, gx, gy⟩ := ih u1 w1 h1
      refine ⟨m + 1, u2, w2, by omega, by rw [show n + 1 - (m + 1) = n - m by omega]; exact h2, ?_, ?_⟩
      · intro post f c hc hp
        have g := gx post f (c + 1) (by omega) (by rw [show c + 1 + m = c + (m + 1) by omega]; exact hp)
        clear gx gy hys h2
        obtain ⟨ql1, dp1, sd1, lk1, dl1, K1, P1, R1, CE1, PR1, QU1, DF1, PT1, XQ1, QH1, QC1, XL1, YQ1, YL1, T1, CX1, SE1, DR1, RY1, EY1, CY1, rfl, rfl, hI1⟩ := h1
        show wX_sendWhileEligible_2 post (f + m + 1 + 1) (nI c) ql dp sd K P R CE T CX SE DR PR QU DF PT XQ QH QC XL
        exact br_f (nI_ge (b := 128) (by omega) (by omega)) (hxa _ (br_f ha (hxb _ (hxc _ (hxs _ (nm_r (nI_1 c) g))))))
      · intro post J x2 x4 f c b hc hp
        have e : b + nI (m + 1) = b + 1 + nI m := by rw [nI_succ]; grind
        rw [e] at hp
        have g := gy post J x2 x4 f (c + 1) (b + 1) (by omega) hp
        obtain ⟨ql1, dp1, sd1, lk1, dl1, K1, P1, R1, CE1, PR1, QU1, DF1, PT1, XQ1, QH1, QC1, XL1, YQ1, YL1, T1, CX1, SE1, DR1, RY1, EY1, CY1, rfl, rfl, hI1⟩ := h1
        show wY_run_240 post J x2 x4 (f + m + 1 + 1) b (nI c) lk ql dl sd K P RY EY T CY SE DR PR QU DF YQ QC PT YL
        exact br_f (nI_ge (b := 121) (by omega) (by omega)) (hys _ (br_f (by decide) (nm_e (nm_r (nI_1 c) g))))
theorem hs_ticks {k : Nat} (hk : k ≤ 64) : ∀ (d t n : Nat) (b : Int32) (u : SX) (w : SY), t + d = k → hs_R n u w → ∃ (r : Int32) (n' : Nat) (u' : SX) (w' : SY), hs_R n' u' w' ∧ (∀ post : Int32 → SX → Prop, post r u' → hs_VX post (nI k) (d + 1) b (nI t) u) ∧ (∀ post : Int32 → SY → Prop, post r w' → hs_VY post (nI k) (d + 1) b (nI t) w) := by
  intro d
  induction d with
  | zero =>
    intro t n b u w ht h
    have e : t = k := by omega
    subst e
    refine ⟨b, n, u, w, h, ?_, ?_⟩
    all_goals
      intro post hp
      obtain ⟨ql, dp, sd, lk, dl, K, P, R, CE, PR, QU, DF, PT, XQ, QH, QC, XL, YQ, YL, T, CX, SE, DR, RY, EY, CY, rfl, rfl, hI⟩ := h
    · show wX_run_18 post (nI t) 1 b (nI t) ql dp sd K P R CE T CX SE DR PR QU DF PT XQ QH QC XL
      exact br_t (nI_le (Nat.le_refl t) (by omega)) hp
    · show wY_run_25 post (nI t) 1 b (nI t) lk ql dl sd K P RY EY T CY SE DR PR QU DF YQ QC PT YL
      exact br_t (nI_le (Nat.le_refl t) (by omega)) hp
  | succ d ih =>
    intro t n b u w ht h
    obtain ⟨u1, w1, h1, rx, ry⟩ := hs_refill h
    have hn := hs_R_le h1
    obtain ⟨m, u2, w2, hm, h2, sx, sy⟩ := hs_sends n u1 w1 h1
    obtain ⟨r, n', u3, w3, h3, tx, ty⟩ := ih (t + 1) (n - m) (b + nI m) u2 w2 (by omega) h2
    refine ⟨r, n', u3, w3, h3, ?_, ?_⟩
    · intro post hp
      have g := tx post hp
      have s := sx (fun r_23 u => hs_VX post (nI k) (d + 1) (b + r_23) (nI (t + 1)) u) 0 0 (by omega) (by rw [show 0 + m = m by omega]; exact g)
      clear sx sy tx ty ry h3
      obtain ⟨ql, dp, sd, lk, dl, K, P, R, CE, PR, QU, DF, PT, XQ, QH, QC, XL, YQ, YL, T, CX, SE, DR, RY, EY, CY, rfl, rfl, hI⟩ := h
      obtain ⟨ql1, dp1, sd1, lk1, dl1, K1, P1, R1, CE1, PR1, QU1, DF1, PT1, XQ1, QH1, QC1, XL1, YQ1, YL1, T1, CX1, SE1, DR1, RY1, EY1, CY1, rfl, rfl, hI1⟩ := h1
      show wX_run_18 post (nI k) (d + 1 + 1) b (nI t) ql dp sd K P R CE T CX SE DR PR QU DF PT XQ QH QC XL
      refine br_f (nI_ge (by omega) (by omega)) (rx _ ⟨0 + m + 1, ?_⟩)
      have hpost : (fun (r_23 : Int32) (u : SX) => hs_VX post (nI k) (d + 1) (b + r_23) (nI (t + 1)) u) = (fun r_23 u => match u with | (ql, dp, sd, K, P, R, CE, T, CX, SE, DR, PR, QU, DF, PT, XQ, QH, QC, XL) => ∀ x3 : Int32, x3 = b + r_23 → ∀ x4 : Int32, x4 = nI t + 1 → wX_run_18 post (nI k) (d + 1) x3 x4 ql dp sd K P R CE T CX SE DR PR QU DF PT XQ QH QC XL) := by
        funext r_23 u
        obtain ⟨ql, dp, sd, K, P, R, CE, T, CX, SE, DR, PR, QU, DF, PT, XQ, QH, QC, XL⟩ := u
        apply propext
        constructor
        · intro z x3 e3 x4 e4
          subst e3 e4
          rw [nI_1]; exact z
        · intro z
          have z' := z _ rfl _ rfl
          rw [nI_1] at z'; exact z'
      rw [hpost] at s
      exact s
    · intro post hp
      have g := ty post hp
      have s := sy post (wY_run_25 post (nI k) (d + 1)) (nI k) (nI t) 0 0 b (by omega) (by
        rw [nI_1]
        obtain ⟨lk, ql, dl, sd, K, P, RY, EY, T, CY, SE, DR, PR, QU, DF, YQ, QC, PT, YL⟩ := w2
        exact g)
      have f := ry post (wY_run_25 post (nI k) (d + 1)) (nI k) b (nI t) ⟨_, s⟩
      clear sx sy tx ty rx ry h3
      obtain ⟨ql, dp, sd, lk, dl, K, P, R, CE, PR, QU, DF, PT, XQ, QH, QC, XL, YQ, YL, T, CX, SE, DR, RY, EY, CY, rfl, rfl, hI⟩ := h
      show wY_run_25 post (nI k) (d + 1 + 1) b (nI t) lk ql dl sd K P RY EY T CY SE DR PR QU DF YQ QC PT YL
      exact br_f (nI_ge (by omega) (by omega)) f
end HSK
