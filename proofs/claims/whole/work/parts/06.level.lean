/-! lending level, least level, least priority, the scan, of both sides -/
section HSG
variable {ql dp sd : Int32} {lk dl : Int64} {K P R CE PR QU DF PT XQ QH QC XL YQ YL : Nat → Int32} {T CX SE DR RY EY CY : Nat → Int64}
theorem hs_lv_no {j : Nat} (h : ¬ (K j = 3 ∧ ¬ QC j = 0)) : hs_lv K P QC T CX j = 3 := by
  unfold hs_lv; rw [if_neg h]
theorem hs_lv_eq {j p : Nat} (hk : K j = 3) (hq : ¬ QC j = 0) (ep : P j = nI p) (hp : p < 16) : hs_lv K P QC T CX j = if hs_bc T CX j = 2 ∨ hs_bc T CX p = 2 ∨ hs_bc T CX 0 = 2 then 3 else if hs_bc T CX j = 0 then 0 else if hs_bc T CX p = 0 then 1 else 2 := by
  unfold hs_lv; rw [if_pos ⟨hk, hq⟩, ep, nI_clamp (by omega)]
theorem hs_xlv {post : Int32 → Prop} {j : Nat} (hj : j < 16) (hK : hs_K K P) (hp : post (nI (hs_lv K P QC T CX j))) : wpX_lendingLevel post (ql, dp, sd, K, P, R, CE, T, CX, SE, DR, PR, QU, DF, PT, XQ, QH, QC, XL) (nI j) := by
  unfold wpX_lendingLevel
  refine ⟨hs_in hj, ?_⟩
  rw [hs_c hj]
  by_cases hk : K j = 3
  · refine br_t hk ⟨hs_in hj, ?_⟩
    by_cases hq : QC j = 0
    · rw [hs_lv_no (fun z => z.2 hq)] at hp
      exact br_t hq hp
    · obtain ⟨p, p0, p16, ep, ekp⟩ := hK.2.2 j hj hk
      refine br_f hq (hs_xbc hj ⟨hs_in hj, ?_⟩)
      rw [ep]
      refine hs_xbc p16 (hs_xbc (j := 0) (by omega) ?_)
      rw [hs_lv_eq hk hq ep p16] at hp
      have b1 := hs_bc_le T CX j
      have b2 := hs_bc_le T CX p
      have b3 := hs_bc_le T CX 0
      refine pk_eq (hs_bc T CX j) 2 (fun e1 => ?_) (fun e1 => pk_eq (hs_bc T CX p) 2 (fun e2 => ?_) (fun e2 => pk_eq (hs_bc T CX 0) 2 (fun e3 => ?_) (fun e3 => pk_eq (hs_bc T CX j) 0 (fun e4 => ?_) (fun e4 => pk_eq (hs_bc T CX p) 0 (fun e5 => ?_) (fun e5 => ?_)))))
      · rw [if_pos (Or.inl e1)] at hp; exact hp
      · rw [if_pos (Or.inr (Or.inl e2))] at hp; exact hp
      · rw [if_pos (Or.inr (Or.inr e3))] at hp; exact hp
      · rw [if_neg (by omega), if_pos e4] at hp; exact hp
      · rw [if_neg (by omega), if_neg e4, if_pos e5] at hp; exact hp
      · rw [if_neg (by omega), if_neg e4, if_neg e5] at hp; exact hp
  · rw [hs_lv_no (fun z => hk z.1)] at hp
    exact br_f hk hp
/-- Y's way to say a level: -1 where none -/
def hs_yl (n : Nat) : Int32 := if n = 3 then -1 else nI n
theorem hs_yl3 : hs_yl 3 = -1 := if_pos rfl
theorem hs_yl_lt {n : Nat} (h : n ≠ 3) : hs_yl n = nI n := if_neg h
theorem hs_yl_ne {n v : Nat} (h : n ≤ 3) (hv : v ≤ 2) (hn : n ≠ v) : ¬ hs_yl n = nI v := by
  by_cases e : n = 3
  · subst e
    rw [hs_yl3]
    intro z
    have h0 := nI_pos (n := v) (by omega)
    rw [← z] at h0
    exact h0 (by decide)
  · rw [hs_yl_lt e, nI_eq (by omega) (by omega)]; exact hn
theorem hs_ylv {post : Int32 → Prop} {j : Nat} (hj : j < 16) (hK : hs_K K P) (hB : hs_B lk R CE T CX RY EY CY) (hp : post (hs_yl (hs_lv K P QC T CX j))) : wpY_levelOf post (lk, ql, dl, sd, K, P, RY, EY, T, CY, SE, DR, PR, QU, DF, YQ, QC, PT, YL) (nI j) := by
  unfold wpY_levelOf
  by_cases hk : K j = 3
  · refine hs_yleaf1 hj hk (br_f (by decide) ⟨hs_in hj, ?_⟩)
    rw [hs_c hj]
    by_cases hq : QC j = 0
    · rw [hs_lv_no (fun z => z.2 hq), hs_yl3] at hp
      exact br_t hq hp
    · obtain ⟨p, p0, p16, ep, ekp⟩ := hK.2.2 j hj hk
      refine br_f hq (hs_ybc hj (hs_30 hk) hB ⟨hs_in hj, ?_⟩)
      rw [ep]
      refine hs_ybc p16 (by rw [ekp]; decide) hB (hs_ybc (j := 0) (by omega) (by rw [hK.1]; decide) hB ?_)
      rw [hs_lv_eq hk hq ep p16] at hp
      have b1 := hs_bc_le T CX j
      have b2 := hs_bc_le T CX p
      have b3 := hs_bc_le T CX 0
      refine pk_eq (hs_bc T CX j) 2 (fun e1 => ?_) (fun e1 => pk_eq (hs_bc T CX p) 2 (fun e2 => ?_) (fun e2 => pk_eq (hs_bc T CX 0) 2 (fun e3 => ?_) (fun e3 => pk_eq (hs_bc T CX j) 0 (fun e4 => ?_) (fun e4 => pk_eq (hs_bc T CX p) 0 (fun e5 => ?_) (fun e5 => ?_)))))
      · rw [if_pos (Or.inl e1), hs_yl3] at hp; exact hp
      · rw [if_pos (Or.inr (Or.inl e2)), hs_yl3] at hp; exact hp
      · rw [if_pos (Or.inr (Or.inr e3)), hs_yl3] at hp; exact hp
      · rw [if_neg (by omega), if_pos e4, hs_yl_lt (by decide)] at hp; exact hp
      · rw [if_neg (by omega), if_neg e4, if_pos e5, hs_yl_lt (by decide)] at hp; exact hp
      · rw [if_neg (by omega), if_neg e4, if_neg e5, hs_yl_lt (by decide)] at hp; exact hp
  · rw [hs_lv_no (fun z => hk z.1), hs_yl3] at hp
    exact hs_yleaf0 hj hk (br_t rfl hp)
theorem hs_15lt {i : Nat} (h : 15 ≤ i) (hi : i < 100) : (15 : Int32) < nI (i + 1) := nI_lt (a := 15) (by omega) (by omega)
theorem hs_xml {post : Int32 → Prop} (hK : hs_K K P) (hp : post (nI (hs_ml (hs_lv K P QC T CX) 15))) : ∀ d i : Nat, i + d = 15 → wX_leastLendingLevel_4 post ql dp sd K P R CE T CX SE DR PR QU DF PT XQ QH QC XL (d + 1) (nI (hs_ml (hs_lv K P QC T CX) i)) (nI (i + 1)) := by
  intro d
  induction d with
  | zero =>
    intro i hi
    have e : i = 15 := by omega
    subst e
    exact br_t (hs_15lt (by omega) (by omega)) hp
  | succ d ih =>
    intro i hi
    have ih' := ih (i + 1) (by omega)
    rw [hs_ml_s] at ih'
    have l1 := hs_ml_le (hs_lv K P QC T CX) i
    have l2 := hs_lv_le K P QC T CX (i + 1)
    refine br_f (hs_nlt15 (by omega)) (hs_xlv (by omega) hK (pk_le (hs_ml (hs_lv K P QC T CX) i) (hs_lv K P QC T CX (i + 1)) (fun a => nm_r (nI_1 (i + 1)) ?_) (fun a => nm_r (nI_1 (i + 1)) ?_)))
    · rw [if_neg (by omega)] at ih'; exact ih'
    · rw [if_pos a] at ih'; exact ih'
theorem hs_xml0 {post : Int32 → Prop} (hK : hs_K K P) (hp : post (nI (hs_ml (hs_lv K P QC T CX) 15))) : wpX_leastLendingLevel post (ql, dp, sd, K, P, R, CE, T, CX, SE, DR, PR, QU, DF, PT, XQ, QH, QC, XL) := by
  unfold wpX_leastLendingLevel
  exact ⟨16, hs_xml hK hp 15 0 (by omega)⟩
theorem hs_xmp {post : Int32 → Prop} {v : Nat} {pr : Nat → Nat} (hv : v ≤ 2) (hK : hs_K K P) (hpr : ∀ i, PR i = nI (pr i)) (h3 : ∀ i, pr i ≤ 3) (hp : post (nI (hs_mp (hs_lv K P QC T CX) pr v 3 15))) : ∀ d i : Nat, i + d = 15 → wX_leastPriority_4 post (nI v) ql dp sd K P R CE T CX SE DR PR QU DF PT XQ QH QC XL (d + 1) (nI (hs_mp (hs_lv K P QC T CX) pr v 3 i)) (nI (i + 1)) := by
  intro d
  induction d with
  | zero =>
    intro i hi
    have e : i = 15 := by omega
    subst e
    exact br_t (hs_15lt (by omega) (by omega)) hp
  | succ d ih =>
    intro i hi
    have ih' := ih (i + 1) (by omega)
    rw [hs_mp_s] at ih'
    have l1 := hs_mp_le (hs_lv K P QC T CX) pr v 3 i
    have l2 := hs_lv_le K P QC T CX (i + 1)
    have l3 := h3 (i + 1)
    refine br_f (hs_nlt15 (by omega)) ⟨hs_in (by omega), ?_⟩
    rw [hs_c (by omega), hpr (i + 1)]
    refine pk_le (hs_mp (hs_lv K P QC T CX) pr v 3 i) (pr (i + 1)) (fun a => nm_r (nI_1 (i + 1)) ?_) (fun a => hs_xlv (by omega) hK (pk_eq (hs_lv K P QC T CX (i + 1)) v (fun b => ⟨hs_in (by omega), nm_e (nm_r (nI_1 (i + 1)) ?_)⟩) (fun b => nm_r (nI_1 (i + 1)) ?_)))
    · rw [if_neg (by omega)] at ih'; exact ih'
    · rw [if_pos ⟨a, b⟩] at ih'; exact ih'
    · rw [if_neg (fun z => b z.2)] at ih'; exact ih'
theorem hs_xmp0 {post : Int32 → Prop} {v : Nat} {pr : Nat → Nat} (hv : v ≤ 2) (hK : hs_K K P) (hpr : ∀ i, PR i = nI (pr i)) (h3 : ∀ i, pr i ≤ 3) (hp : post (nI (hs_mp (hs_lv K P QC T CX) pr v 3 15))) : wpX_leastPriority post (ql, dp, sd, K, P, R, CE, T, CX, SE, DR, PR, QU, DF, PT, XQ, QH, QC, XL) (nI v) := by
  unfold wpX_leastPriority
  exact ⟨16, hs_xmp hv hK hpr h3 hp 15 0 (by omega)⟩
theorem hs_xnext {post : Int32 → Prop} {i : Nat} (hi : i < 16) (hp : post (nI (if 15 ≤ i then 1 else i + 1))) : wpX_nextId post (nI i) := by
  unfold wpX_nextId
  refine pk_lt i 15 (fun a => ?_) (fun a => ?_)
  · rw [if_neg (by omega)] at hp; rw [nI_1]; exact hp
  · rw [if_pos a] at hp; exact hp
theorem hs_xfg {post : Int32 → Prop} {v p s m : Nat} {pr : Nat → Nat} (hv : v ≤ 2) (hp3 : p ≤ 3) (hK : hs_K K P) (hpr : ∀ i, PR i = nI (pr i)) (h3 : ∀ i, pr i ≤ 3) (hm : m < 15) (hg : ∀ k, k < m → ¬ (pr (hs_rg s k) = p ∧ hs_lv K P QC T CX (hs_rg s k) = v)) (hM : pr (hs_rg s m) = p ∧ hs_lv K P QC T CX (hs_rg s m) = v) (hp : post (nI (hs_rg s m))) : ∀ d k : Nat, k + d = m → wX_firstOfGroup_14 post (nI v) (nI p) ql dp sd K P R CE T CX SE DR PR QU DF PT XQ QH QC XL (d + 1) (nI (hs_rg s k)) (nI k) := by
  intro d
  induction d with
  | zero =>
    intro k hk
    have e : k = m := by omega
    subst e
    have r := hs_rg_in s k
    refine br_f (nI_ge (b := 15) (by omega) (by omega)) ⟨hs_in (by omega), ?_⟩
    rw [hs_c (by omega), hpr]
    exact br_t (congrArg nI hM.1) (hs_xlv (by omega) hK (br_t (congrArg nI hM.2) hp))
  | succ d ih =>
    intro k hk
    have r := hs_rg_in s k
    have l2 := hs_lv_le K P QC T CX (hs_rg s k)
    have l3 := h3 (hs_rg s k)
    have ih' := ih (k + 1) (by omega)
    rw [hs_rg_s] at ih'
    have nx : wX_firstOfGroup_42 post (wX_firstOfGroup_14 post (nI v) (nI p) ql dp sd K P R CE T CX SE DR PR QU DF PT XQ QH QC XL (d + 1)) (nI v) (nI p) (nI (hs_rg s k)) (nI k) ql dp sd K P R CE T CX SE DR PR QU DF PT XQ QH QC XL := by
      unfold wX_firstOfGroup_42
      exact hs_xnext (by omega) (nm_r (nI_1 k) ih')
    refine br_f (nI_ge (b := 15) (by omega) (by omega)) ⟨hs_in (by omega), ?_⟩
    rw [hs_c (by omega), hpr]
    exact pk_eq (pr (hs_rg s k)) p (fun a => hs_xlv (by omega) hK (pk_eq (hs_lv K P QC T CX (hs_rg s k)) v (fun b => absurd ⟨a, b⟩ (hg k (by omega))) (fun _ => nx))) (fun _ => nx)
theorem hs_v4 {v p : Nat} : nI v * 4 + nI p = nI (v * 4 + p) := by
  rw [show nI v * 4 = nI (v * 4) from pk_mul v 4, nI_add]
theorem hs_xfg0 {post : Int32 → Prop} {v p s m : Nat} {pr : Nat → Nat} (hv : v ≤ 2) (hp3 : p ≤ 3) (hK : hs_K K P) (hpr : ∀ i, PR i = nI (pr i)) (h3 : ∀ i, pr i ≤ 3) (es : PT (v * 4 + p) = nI s) (s1 : 1 ≤ s) (s15 : s ≤ 15) (hm : m < 15) (hg : ∀ k, k < m → ¬ (pr (hs_rg s k) = p ∧ hs_lv K P QC T CX (hs_rg s k) = v)) (hM : pr (hs_rg s m) = p ∧ hs_lv K P QC T CX (hs_rg s m) = v) (hp : post (nI (hs_rg s m))) : wpX_firstOfGroup post (ql, dp, sd, K, P, R, CE, T, CX, SE, DR, PR, QU, DF, PT, XQ, QH, QC, XL) (nI v) (nI p) := by
  unfold wpX_firstOfGroup
  rw [hs_v4]
  refine ⟨vp_in_nI (by omega) (by omega), nm_r (e' := nI (hs_rg s 0)) ?_ ⟨m + 1, hs_xfg hv hp3 hK hpr h3 hm hg hM hp m 0 (by omega)⟩⟩
  rw [nI_clamp (by omega), es, hs_rg_0 s1 s15]
theorem hs_y4 {post : Int32 → SY → Prop} (hK : hs_K K P) (hB : hs_B lk R CE T CX RY EY CY) (H0 : hs_ml (hs_lv K P QC T CX) 15 = 3 → post 0 (lk, ql, dl, sd, K, P, RY, EY, T, CY, SE, DR, PR, QU, DF, YQ, QC, PT, YL)) (H1 : hs_ml (hs_lv K P QC T CX) 15 ≠ 3 → ∃ n, wY_sendOne_44 post (nI (hs_ml (hs_lv K P QC T CX) 15)) lk ql dl sd K P RY EY T CY SE DR PR QU DF YQ QC PT YL n 4 1) : ∀ d i : Nat, i + d = 15 → wY_sendOne_4 post lk ql dl sd K P RY EY T CY SE DR PR QU DF YQ QC PT YL (d + 1) (nI (hs_ml (hs_lv K P QC T CX) i)) (nI (i + 1)) := by
  intro d
  induction d with
  | zero =>
    intro i hi
    have e : i = 15 := by omega
    subst e
    have l1 := hs_ml_le (hs_lv K P QC T CX) 15
    exact br_t (hs_15lt (by omega) (by omega)) (pk_eq (hs_ml (hs_lv K P QC T CX) 15) 3 H0 H1)
  | succ d ih =>
    intro i hi
    have ih' := ih (i + 1) (by omega)
    rw [hs_ml_s] at ih'
    have l1 := hs_ml_le (hs_lv K P QC T CX) i
    have l2 := hs_lv_le K P QC T CX (i + 1)
    refine br_f (hs_nlt15 (by omega)) (hs_ylv (by omega) hK hB ?_)
    by_cases c : hs_lv K P QC T CX (i + 1) = 3
    · rw [if_neg (by omega)] at ih'
      rw [c, hs_yl3]
      exact br_t (by decide) (nm_r (nI_1 (i + 1)) ih')
    · rw [hs_yl_lt c]
      refine br_f (nI_pos (by omega)) (pk_le (hs_ml (hs_lv K P QC T CX) i) (hs_lv K P QC T CX (i + 1)) (fun a => nm_r (nI_1 (i + 1)) ?_) (fun a => nm_r (nI_1 (i + 1)) ?_))
      · rw [if_neg (by omega)] at ih'; exact ih'
      · rw [if_pos a] at ih'; exact ih'
theorem hs_y40 {post : Int32 → SY → Prop} (hK : hs_K K P) (hB : hs_B lk R CE T CX RY EY CY) (H0 : hs_ml (hs_lv K P QC T CX) 15 = 3 → post 0 (lk, ql, dl, sd, K, P, RY, EY, T, CY, SE, DR, PR, QU, DF, YQ, QC, PT, YL)) (H1 : hs_ml (hs_lv K P QC T CX) 15 ≠ 3 → ∃ n, wY_sendOne_44 post (nI (hs_ml (hs_lv K P QC T CX) 15)) lk ql dl sd K P RY EY T CY SE DR PR QU DF YQ QC PT YL n 4 1) : wpY_sendOne post (lk, ql, dl, sd, K, P, RY, EY, T, CY, SE, DR, PR, QU, DF, YQ, QC, PT, YL) := by
  unfold wpY_sendOne
  exact ⟨16, hs_y4 hK hB H0 H1 15 0 (by omega)⟩
theorem hs_y44 {post : Int32 → SY → Prop} {v p : Nat} {pr : Nat → Nat} {x4 : Int32} (hv : v ≤ 2) (hp3 : p ≤ 3) (hK : hs_K K P) (hB : hs_B lk R CE T CX RY EY CY) (hpr : ∀ i, PR i = nI (pr i)) (h3 : ∀ i, pr i ≤ 3) (ep : hs_mp (hs_lv K P QC T CX) pr v 4 15 = p) (e4 : PT (v * 4 + p) = x4) (H : ∃ n, wY_sendOne_102 post (nI v) (nI p) (nI (v * 4 + p)) x4 lk ql dl sd K P RY EY T CY SE DR PR QU DF YQ QC PT YL n 0 0) : ∀ d i : Nat, i + d = 15 → wY_sendOne_44 post (nI v) lk ql dl sd K P RY EY T CY SE DR PR QU DF YQ QC PT YL (d + 1) (nI (hs_mp (hs_lv K P QC T CX) pr v 4 i)) (nI (i + 1)) := by
  intro d
  induction d with
  | zero =>
    intro i hi
    have e : i = 15 := by omega
    subst e
    rw [ep]
    exact br_t (hs_15lt (by omega) (by omega)) (nm_r hs_v4 ⟨vp_in_nI (by omega) (by omega), nm_r (by rw [nI_clamp (by omega), e4]) H⟩)
  | succ d ih =>
    intro i hi
    have ih' := ih (i + 1) (by omega)
    rw [hs_mp_s] at ih'
    have l1 := hs_mp_le (hs_lv K P QC T CX) pr v 4 i
    have l2 := hs_lv_le K P QC T CX (i + 1)
    have l3 := h3 (i + 1)
    refine br_f (hs_nlt15 (by omega)) (hs_ylv (by omega) hK hB ?_)
    by_cases b : hs_lv K P QC T CX (i + 1) = v
    · rw [b, hs_yl_lt (by omega)]
      refine br_t rfl ⟨hs_in (by omega), ?_⟩
      rw [hs_c (by omega), hpr (i + 1)]
      refine pk_le (hs_mp (hs_lv K P QC T CX) pr v 4 i) (pr (i + 1)) (fun a => nm_r (nI_1 (i + 1)) ?_) (fun a => ⟨hs_in (by omega), nm_e (nm_r (nI_1 (i + 1)) ?_)⟩)
      · rw [if_neg (by omega)] at ih'; exact ih'
      · rw [if_pos ⟨a, b⟩] at ih'; exact ih'
    · rw [if_neg (fun z => b z.2)] at ih'
      exact br_f (hs_yl_ne l2 hv b) (nm_r (nI_1 (i + 1)) ih')
theorem hs_y102b {post : Int32 → SY → Prop} {v p L : Nat} {x3 x4 s : Int32} (h1 : 1 ≤ L) (hL : L < 16) (es : YQ (L * 8) = s) (H : ∃ n, wY_sendOne_181 post (nI v) x3 (nI L) s lk ql dl sd n 0 K P RY EY T CY SE DR PR QU DF YQ QC PT YL) : ∀ d i : Nat, i + d = 15 → wY_sendOne_102 post (nI v) (nI p) x3 x4 lk ql dl sd K P RY EY T CY SE DR PR QU DF YQ QC PT YL (d + 1) (nI L) (nI i) := by
  intro d
  induction d with
  | zero =>
    intro i hi
    refine br_t (nI_le (a := 15) (by omega) (by omega)) (br_f (nI_ne0 (by omega) (by omega)) ?_)
    rw [show nI L * 8 = nI (L * 8) from pk_mul L 8]
    exact ⟨vp_in_nI (by omega) (by omega), nm_r (by rw [nI_clamp (by omega), es]) H⟩
  | succ d ih =>
    intro i hi
    exact br_f (nI_ge (b := 15) (by omega) (by omega)) ⟨by decide, fun y _ => br_f (nI_ne0 (by omega) (by omega)) (nm_r (nI_1 i) (ih (i + 1) (by omega)))⟩
theorem hs_x7 {s k : Nat} (s1 : 1 ≤ s) (s15 : s ≤ 15) (hk : k < 15) : (((nI s - 1) + nI k) - ((nI s - 1) + nI k) / 15 * 15) + 1 = nI (hs_rg s k) := by
  rw [show nI s - 1 = nI (s - 1) from pk_sub (b := 1) s1, nI_add]
  exact (congrArg (fun z => z + 1) (pk_rem (a := s - 1 + k) (d := 15) (by omega) (by omega) (by omega))).trans (nI_1 _)
theorem hs_y102 {post : Int32 → SY → Prop} {v p s m : Nat} {pr : Nat → Nat} {x3 z : Int32} (hv : v ≤ 2) (hp3 : p ≤ 3) (hK : hs_K K P) (hB : hs_B lk R CE T CX RY EY CY) (hpr : ∀ i, PR i = nI (pr i)) (h3 : ∀ i, pr i ≤ 3) (s1 : 1 ≤ s) (s15 : s ≤ 15) (hm : m < 15) (hg : ∀ k, k < m → ¬ (pr (hs_rg s k) = p ∧ hs_lv K P QC T CX (hs_rg s k) = v)) (hM : pr (hs_rg s m) = p ∧ hs_lv K P QC T CX (hs_rg s m) = v) (es : YQ (hs_rg s m * 8) = z) (H : ∃ n, wY_sendOne_181 post (nI v) x3 (nI (hs_rg s m)) z lk ql dl sd n 0 K P RY EY T CY SE DR PR QU DF YQ QC PT YL) : ∀ d k : Nat, k + d = m → wY_sendOne_102 post (nI v) (nI p) x3 (nI s) lk ql dl sd K P RY EY T CY SE DR PR QU DF YQ QC PT YL (15 - m + d + 1) 0 (nI k) := by
  intro d
  induction d with
  | zero =>
    intro k hk
    have e : k = m := by omega
    subst e
    have r := hs_rg_in s k
    refine br_f (nI_ge (b := 15) (by omega) (by omega)) ⟨by decide, nm_r (hs_x7 s1 s15 hm) (br_t rfl (hs_ylv (by omega) hK hB ?_))⟩
    rw [hM.2, hs_yl_lt (by omega)]
    refine br_t rfl ⟨hs_in (by omega), ?_⟩
    rw [hs_c (by omega), hpr]
    refine br_t (congrArg nI hM.1) (nm_r (nI_1 k) ?_)
    have b := hs_y102b (v := v) (p := p) (x3 := x3) (x4 := nI s) r.1 (by omega) es H (15 - k - 1) (k + 1) (by omega)
    rw [show 15 - k - 1 + 1 = 15 - k + 0 by omega] at b
    exact b
  | succ d ih =>
    intro k hk
    have r := hs_rg_in s k
    have l2 := hs_lv_le K P QC T CX (hs_rg s k)
    have l3 := h3 (hs_rg s k)
    have ih' := ih (k + 1) (by omega)
    refine br_f (nI_ge (b := 15) (by omega) (by omega)) ⟨by decide, nm_r (hs_x7 s1 s15 (by omega)) (br_t rfl (hs_ylv (by omega) hK hB ?_))⟩
    by_cases b : hs_lv K P QC T CX (hs_rg s k) = v
    · rw [b, hs_yl_lt (by omega)]
      refine br_t rfl ⟨hs_in (by omega), ?_⟩
      rw [hs_c (by omega), hpr]
      exact pk_eq (pr (hs_rg s k)) p (fun a => absurd ⟨a, b⟩ (hg k (by omega))) (fun _ => nm_r (nI_1 k) ih')
    · exact br_f (hs_yl_ne l2 hv b) (nm_r (nI_1 k) ih')
end HSG
