/-! one send: what it does to each array, X's sendHead, Y's sendOne behind its scan -/
def hs_dn (f : Nat → Int64) (i : Nat) (k : Int64) : Nat → Int64 := vp_updL f i (f i - k)
def hs_up (f : Nat → Int64) (i : Nat) (k : Int64) : Nat → Int64 := vp_updL f i (f i + k)
def hs_t1 (v : Nat) (T : Nat → Int64) (L : Nat) (k : Int64) : Nat → Int64 := if v = 0 then hs_dn T L k else T
def hs_t2 (v : Nat) (T : Nat → Int64) (I : Nat) (k : Int64) : Nat → Int64 := if 1 < v then T else hs_dn T I k
def hs_df (DF : Nat → Int32) (at' : Nat) (s q : Int32) : Nat → Int32 := if 0 ≤ DF at' - s then upd DF at' (DF at' - s) else upd DF at' (DF at' - s + q)
def hs_pt (DF PT : Nat → Int32) (L at' pi : Nat) (s : Int32) : Nat → Int32 := if 0 ≤ DF at' - s then upd PT pi (nI L) else upd PT pi (nI (if 15 ≤ L then 1 else L + 1))
/-- Y's row of 8 at b, moved by one in its first j places -/
def hs_sh (q : Nat → Int32) (b j : Nat) : Nat → Int32 := fun k => if b ≤ k ∧ k < b + j then q (k + 1) else q k
/-- Y's log, moved by one above place j -/
def hs_ls (g : Nat → Int32) (j : Nat) : Nat → Int32 := fun k => if j < k ∧ k < 64 then g (k - 1) else g k
theorem hs_sh_0 (q : Nat → Int32) (b : Nat) : hs_sh q b 0 = q := by
  funext k; unfold hs_sh; rw [if_neg (by omega)]
theorem hs_sh_s (q : Nat → Int32) (b j : Nat) : upd (hs_sh q b j) (b + j) (hs_sh q b j (b + j + 1)) = hs_sh q b (j + 1) := by
  funext k
  by_cases e : k = b + j
  · subst e; rw [pk_us]; unfold hs_sh; rw [if_neg (by omega), if_pos (by omega)]
  · rw [pk_un e]; unfold hs_sh
    by_cases c : b ≤ k ∧ k < b + j
    · rw [if_pos c, if_pos (by omega)]
    · rw [if_neg c, if_neg (by omega)]
theorem hs_ls_63 (g : Nat → Int32) : hs_ls g 63 = g := by
  funext k; unfold hs_ls; rw [if_neg (by omega)]
theorem hs_ls_s (g : Nat → Int32) (j : Nat) (hj : j < 63) : upd (hs_ls g (j + 1)) (j + 1) (hs_ls g (j + 1) j) = hs_ls g j := by
  funext k
  by_cases e : k = j + 1
  · subst e; rw [pk_us]; unfold hs_ls; rw [if_neg (by omega), if_pos (by omega)]; rfl
  · rw [pk_un e]; unfold hs_ls
    by_cases c : j + 1 < k ∧ k < 64
    · rw [if_pos c, if_pos (by omega)]
    · rw [if_neg c, if_neg (by omega)]
section HSH
variable {ql dp sd : Int32} {lk dl : Int64} {K P R CE PR QU DF PT XQ QH QC XL YQ YL : Nat → Int32} {T CX SE DR RY EY CY : Nat → Int64}
theorem hs_xch34 {post : SX → Prop} {j : Nat} {s : Int32} (hj : j < 16) (hp : post (ql, dp, sd, K, P, R, CE, T, CX, hs_up SE j s.toInt64, DR, PR, QU, DF, PT, XQ, QH, QC, XL)) : wX_charge_34 post (nI j) s ql dp sd K P R CE T CX SE DR PR QU DF PT XQ QH QC XL := by
  unfold wX_charge_34
  refine ⟨hs_in hj, hs_in hj, nm_e ?_⟩
  rw [hs_c hj]; exact hp
theorem hs_xch1 {post : SX → Prop} {j : Nat} {s b : Int32} (hj : j < 16) (hb : ¬ b = 0) (hp : post (ql, dp, sd, K, P, R, CE, hs_dn T j (16 * s.toInt64), hs_dn CX j (16 * s.toInt64), hs_up SE j s.toInt64, DR, PR, QU, DF, PT, XQ, QH, QC, XL)) : wpX_charge post (ql, dp, sd, K, P, R, CE, T, CX, SE, DR, PR, QU, DF, PT, XQ, QH, QC, XL) (nI j) s b := by
  unfold wpX_charge
  refine nm_e ⟨hs_in hj, hs_in hj, nm_e (br_f hb ⟨hs_in hj, hs_in hj, nm_e ?_⟩)⟩
  rw [hs_c hj]
  exact hs_xch34 hj hp
theorem hs_xch0 {post : SX → Prop} {j : Nat} {s b : Int32} (hj : j < 16) (hb : b = 0) (hp : post (ql, dp, sd, K, P, R, CE, T, hs_dn CX j (16 * s.toInt64), hs_up SE j s.toInt64, DR, PR, QU, DF, PT, XQ, QH, QC, XL)) : wpX_charge post (ql, dp, sd, K, P, R, CE, T, CX, SE, DR, PR, QU, DF, PT, XQ, QH, QC, XL) (nI j) s b := by
  unfold wpX_charge
  refine nm_e ⟨hs_in hj, hs_in hj, nm_e (br_t hb ?_)⟩
  rw [hs_c hj]
  exact hs_xch34 hj hp
theorem hs_xsd {post : SX → Prop} {L v p : Nat} {s : Int32} (hL : L < 16) (hv : v ≤ 2) (hp3 : p ≤ 3) (hp : post (ql, dp, sd, K, P, R, CE, T, CX, SE, DR, PR, QU, hs_df DF (L * 3 + v) s (QU L), hs_pt DF PT L (L * 3 + v) (v * 4 + p) s, XQ, QH, QC, XL)) : wpX_spendDeficit post (ql, dp, sd, K, P, R, CE, T, CX, SE, DR, PR, QU, DF, PT, XQ, QH, QC, XL) (nI L) (nI v) (nI p) s := by
  have c48 : (nI (L * 3 + v)).toNatClampNeg = L * 3 + v := nI_clamp (by omega)
  have c12 : (nI (v * 4 + p)).toNatClampNeg = v * 4 + p := nI_clamp (by omega)
  have i48 : vp_in (nI (L * 3 + v)) 48 := vp_in_nI (by omega) (by omega)
  have i12 : vp_in (nI (v * 4 + p)) 12 := vp_in_nI (by omega) (by omega)
  unfold hs_df hs_pt at hp
  unfold wpX_spendDeficit
  refine nm_r hs_d48 (nm_r hs_v4 ⟨i48, i48, nm_e ⟨i48, ?_⟩⟩)
  rw [c48, c12, hs_c hL, pk_us]
  refine br_c (fun a => ⟨i12, nm_e ?_⟩) (fun a => ⟨i48, hs_in hL, i48, nm_e (hs_xnext hL ⟨i12, nm_e ?_⟩)⟩)
  · rw [if_pos a, if_pos a] at hp; exact hp
  · rw [if_neg a, if_neg a] at hp; rw [hs_uu]; exact hp
theorem hs_xth {post : Int32 → SX → Prop} {L c h : Nat} (hL : L < 16) (ec : QC L = nI (c + 1)) (eh : QH L = nI h) (hh : h < 8) (hp : post (XQ (L * 8 + h)) (ql, dp, sd, K, P, R, CE, T, CX, SE, DR, PR, QU, DF, PT, XQ, upd QH L (nI ((h + 1) % 8)), upd QC L (nI c), XL)) : wpX_takeHead post (ql, dp, sd, K, P, R, CE, T, CX, SE, DR, PR, QU, DF, PT, XQ, QH, QC, XL) (nI L) := by
  unfold wpX_takeHead
  refine hs_xslot (i := 0) hL eh hh (by omega) ⟨hs_in hL, hs_in hL, nm_e ⟨hs_in hL, hs_in hL, nm_e ⟨vp_in_nI (by omega) (by omega), ?_⟩⟩⟩
  have e1 : (nI h + 1) &&& 7 = nI ((h + 1) % 8) := by
    rw [nI_1]; exact pk_andN (by omega) 3 (by decide)
  rw [hs_c hL, eh, ec, e1, nI_pred, nI_clamp (by omega), show L * 8 + (h + 0) % 8 = L * 8 + h by omega]
  exact hp
theorem hs_x42 {post : SX → Prop} {L I v p : Nat} {s z0 : Int32} (hL : L < 16) (hI : I < 16) (hv : v ≤ 2) (hp3 : p ≤ 3) (hz : z0 = if 1 < v then 0 else 1) (hp : post (ql, dp, sd + 1, K, P, R, CE, hs_dn (hs_t2 v T I (16 * s.toInt64)) 0 (16 * s.toInt64), hs_dn (hs_dn CX I (16 * s.toInt64)) 0 (16 * s.toInt64), hs_up (hs_up SE I s.toInt64) 0 s.toInt64, DR, PR, QU, hs_df DF (L * 3 + v) s (QU L), hs_pt DF PT L (L * 3 + v) (v * 4 + p) s, XQ, QH, QC, upd XL (sd &&& 63).toNatClampNeg ((nI L + (16 * nI v)) + (64 * s)))) : wX_sendHead_42 post (nI L) (nI v) (nI p) s z0 s (nI I) ql dp sd K P R CE T CX SE DR PR QU DF PT XQ QH QC XL := by
  unfold wX_sendHead_42
  unfold hs_t2 at hp
  by_cases c : 1 < v
  · rw [if_pos c] at hz hp
    exact hs_xch0 hI hz (hs_xch1 (j := 0) (by omega) (by decide) (hs_xsd hL hv hp3 ⟨pk_andIn _ 6 (by decide) (by decide), nm_e (nm_e hp)⟩))
  · rw [if_neg c] at hz hp
    exact hs_xch1 hI (by rw [hz]; decide) (hs_xch1 (j := 0) (by omega) (by decide) (hs_xsd hL hv hp3 ⟨pk_andIn _ 6 (by decide) (by decide), nm_e (nm_e hp)⟩))
theorem hs_x20 {post : SX → Prop} {L I v p : Nat} {s z0 : Int32} (hL : L < 16) (hI : I < 16) (eI : P L = nI I) (hv : v ≤ 2) (hp3 : p ≤ 3) (hz : z0 = if v = 0 then 1 else 0) (hp : post (ql, dp, sd + 1, K, P, R, CE, hs_dn (hs_t2 v (hs_t1 v T L (16 * s.toInt64)) I (16 * s.toInt64)) 0 (16 * s.toInt64), hs_dn (hs_dn (hs_dn CX L (16 * s.toInt64)) I (16 * s.toInt64)) 0 (16 * s.toInt64), hs_up (hs_up (hs_up SE L s.toInt64) I s.toInt64) 0 s.toInt64, DR, PR, QU, hs_df DF (L * 3 + v) s (QU L), hs_pt DF PT L (L * 3 + v) (v * 4 + p) s, XQ, QH, QC, upd XL (sd &&& 63).toNatClampNeg ((nI L + (16 * nI v)) + (64 * s)))) : wX_sendHead_20 post (nI L) (nI v) (nI p) s z0 s (nI L) ql dp sd K P R CE T CX SE DR PR QU DF PT XQ QH QC XL := by
  unfold wX_sendHead_20
  unfold hs_t1 at hp
  by_cases c : v = 0
  · rw [if_pos c] at hz hp
    refine hs_xch1 hL (by rw [hz]; decide) ⟨hs_in hL, ?_⟩
    rw [hs_c hL, eI]
    exact pk_lt 1 v (fun a => hs_x42 hL hI hv hp3 (by rw [if_pos a]) hp) (fun a => hs_x42 hL hI hv hp3 (by rw [if_neg (by omega)]) hp)
  · rw [if_neg c] at hz hp
    refine hs_xch0 hL hz ⟨hs_in hL, ?_⟩
    rw [hs_c hL, eI]
    exact pk_lt 1 v (fun a => hs_x42 hL hI hv hp3 (by rw [if_pos a]) hp) (fun a => hs_x42 hL hI hv hp3 (by rw [if_neg (by omega)]) hp)
theorem hs_xsend {post : SX → Prop} {L I v p c h : Nat} {s : Int32} (hL : L < 16) (hI : I < 16) (eI : P L = nI I) (hv : v ≤ 2) (hp3 : p ≤ 3) (ec : QC L = nI (c + 1)) (eh : QH L = nI h) (hh : h < 8) (es : XQ (L * 8 + h) = s) (hp : post (ql, dp, sd + 1, K, P, R, CE, hs_dn (hs_t2 v (hs_t1 v T L (16 * s.toInt64)) I (16 * s.toInt64)) 0 (16 * s.toInt64), hs_dn (hs_dn (hs_dn CX L (16 * s.toInt64)) I (16 * s.toInt64)) 0 (16 * s.toInt64), hs_up (hs_up (hs_up SE L s.toInt64) I s.toInt64) 0 s.toInt64, DR, PR, QU, hs_df DF (L * 3 + v) s (QU L), hs_pt DF PT L (L * 3 + v) (v * 4 + p) s, XQ, upd QH L (nI ((h + 1) % 8)), upd QC L (nI c), upd XL (sd &&& 63).toNatClampNeg ((nI L + (16 * nI v)) + (64 * s)))) : wpX_sendHead post (ql, dp, sd, K, P, R, CE, T, CX, SE, DR, PR, QU, DF, PT, XQ, QH, QC, XL) (nI L) (nI v) (nI p) := by
  unfold wpX_sendHead
  refine hs_xth hL ec eh hh ?_
  rw [es]
  exact pk_eq v 0 (fun a => hs_x20 hL hI eI hv hp3 (by rw [if_pos a]) hp) (fun a => hs_x20 hL hI eI hv hp3 (by rw [if_neg a]) hp)
theorem hs_y444 {post : Int32 → SY → Prop} {x1 x5 x6 : Int32} (H : post 1 (lk, ql, dl, sd + 1, K, P, RY, EY, T, CY, SE, DR, PR, QU, DF, YQ, QC, PT, upd (hs_ls YL 0) 0 ((x5 + (16 * x1)) + (64 * x6)))) : ∀ d : Nat, d ≤ 63 → wY_sendOne_444 post x1 x5 x6 lk ql dl sd (d + 1) (nI d) K P RY EY T CY SE DR PR QU DF YQ QC PT (hs_ls YL d) := by
  intro d
  induction d with
  | zero =>
    intro _
    exact br_t (nI_lt (b := 1) (by omega) (by omega)) (nm_e (nm_e H))
  | succ d ih =>
    intro hd
    refine br_f (nI_nlt (b := 1) (by omega) (by omega)) ?_
    rw [nI_pred]
    refine ⟨vp_in_nI (by omega) (by omega), vp_in_nI (by omega) (by omega), nm_r ?_ (nm_r (pk_m1 d) (ih (by omega)))⟩
    rw [nI_clamp (by omega), nI_clamp (by omega), hs_ls_s YL d (by omega)]
theorem hs_y4440 {post : Int32 → SY → Prop} {x1 x5 x6 : Int32} (H : post 1 (lk, ql, dl, sd + 1, K, P, RY, EY, T, CY, SE, DR, PR, QU, DF, YQ, QC, PT, upd (hs_ls YL 0) 0 ((x5 + (16 * x1)) + (64 * x6)))) : wY_sendOne_444 post x1 x5 x6 lk ql dl sd 64 63 K P RY EY T CY SE DR PR QU DF YQ QC PT YL := by
  have h : wY_sendOne_444 post x1 x5 x6 lk ql dl sd 64 (nI 63) K P RY EY T CY SE DR PR QU DF YQ QC PT (hs_ls YL 63) := hs_y444 H 63 (by omega)
  rw [hs_ls_63] at h
  exact h
theorem hs_y308 {post : Int32 → SY → Prop} {L I v p : Nat} {s : Int32} {k : Int64} (hL : L < 16) (hI : I < 16) (hv : v ≤ 2) (hp3 : p ≤ 3) (hp : post 1 (lk, ql, dl, sd + 1, K, P, RY, EY, hs_dn T 0 k, CY, hs_up (hs_up (hs_up SE L s.toInt64) I s.toInt64) 0 s.toInt64, DR, PR, QU, hs_df DF (L * 3 + v) s (QU L), YQ, QC, hs_pt DF PT L (L * 3 + v) (v * 4 + p) s, upd (hs_ls YL 0) 0 ((nI L + (16 * nI v)) + (64 * s)))) : wY_sendOne_308 post (nI v) (nI (v * 4 + p)) (nI L) s k (nI I) lk ql dl sd K P RY EY T CY SE DR PR QU DF YQ QC PT YL := by
  have c48 : (nI (L * 3 + v)).toNatClampNeg = L * 3 + v := nI_clamp (by omega)
  have c12 : (nI (v * 4 + p)).toNatClampNeg = v * 4 + p := nI_clamp (by omega)
  have i48 : vp_in (nI (L * 3 + v)) 48 := vp_in_nI (by omega) (by omega)
  have i12 : vp_in (nI (v * 4 + p)) 12 := vp_in_nI (by omega) (by omega)
  unfold hs_df hs_pt at hp
  unfold wY_sendOne_308
  rw [hs_d48, c48, c12, hs_c hL, hs_c hI]
  refine nm_e ⟨hs_in hL, hs_in hL, nm_e ⟨hs_in hI, hs_in hI, nm_e (nm_e ⟨i48, i48, nm_e ⟨i48, ?_⟩⟩)⟩⟩
  rw [pk_us]
  refine br_c (fun a => ⟨i12, nm_e ⟨64, hs_y4440 ?_⟩⟩) (fun a => ⟨i48, hs_in hL, i48, nm_e (pk_eq L 15 (fun e => ⟨i12, nm_e ⟨64, hs_y4440 ?_⟩⟩) (fun e => ⟨i12, nm_e ⟨64, hs_y4440 ?_⟩⟩))⟩)
  · rw [if_pos a, if_pos a] at hp; exact hp
  · rw [if_neg a, if_neg a, if_pos (by omega)] at hp; rw [hs_uu]; exact hp
  · rw [if_neg a, if_neg a, if_neg (by omega)] at hp; rw [hs_uu, nI_1]; exact hp
theorem hs_y279 {post : Int32 → SY → Prop} {L I v p : Nat} {s : Int32} {k : Int64} (hL : L < 16) (hI : I < 16) (hv : v ≤ 2) (hp3 : p ≤ 3) (hp : post 1 (lk, ql, dl, sd + 1, K, P, RY, EY, hs_dn (hs_t2 v T I k) 0 k, hs_dn CY I k, hs_up (hs_up (hs_up SE L s.toInt64) I s.toInt64) 0 s.toInt64, DR, PR, QU, hs_df DF (L * 3 + v) s (QU L), YQ, QC, hs_pt DF PT L (L * 3 + v) (v * 4 + p) s, upd (hs_ls YL 0) 0 ((nI L + (16 * nI v)) + (64 * s)))) : wY_sendOne_279 post (nI v) (nI (v * 4 + p)) (nI L) s k (nI I) lk ql dl sd K P RY EY T CY SE DR PR QU DF YQ QC PT YL := by
  unfold wY_sendOne_279
  unfold hs_t2 at hp
  rw [hs_c hI]
  refine ⟨hs_in hI, hs_in hI, nm_e (pk_lt 1 v (fun a => hs_y308 hL hI hv hp3 ?_) (fun a => ⟨hs_in hI, hs_in hI, nm_e (hs_y308 hL hI hv hp3 ?_)⟩))⟩
  · rw [if_pos a] at hp; exact hp
  · rw [if_neg (by omega)] at hp; exact hp
theorem hs_y181 {post : Int32 → SY → Prop} {L I v p c : Nat} {s : Int32} (hL : L < 16) (hI : I < 16) (eI : P L = nI I) (hv : v ≤ 2) (hp3 : p ≤ 3) (ec : QC L = nI (c + 1)) (hp : post 1 (lk, ql, dl, sd + 1, K, P, RY, EY, hs_dn (hs_t2 v (hs_t1 v T L (16 * s.toInt64)) I (16 * s.toInt64)) 0 (16 * s.toInt64), hs_dn (hs_dn CY L (16 * s.toInt64)) I (16 * s.toInt64), hs_up (hs_up (hs_up SE L s.toInt64) I s.toInt64) 0 s.toInt64, DR, PR, QU, hs_df DF (L * 3 + v) s (QU L), hs_sh YQ (L * 8) 7, upd QC L (nI c), hs_pt DF PT L (L * 3 + v) (v * 4 + p) s, upd (hs_ls YL 0) 0 ((nI L + (16 * nI v)) + (64 * s)))) : ∀ d j : Nat, j + d = 7 → wY_sendOne_181 post (nI v) (nI (v * 4 + p)) (nI L) s lk ql dl sd (d + 1) (nI j) K P RY EY T CY SE DR PR QU DF (hs_sh YQ (L * 8) j) QC PT YL := by
  unfold hs_t1 at hp
  intro d
  induction d with
  | zero =>
    intro j hj
    have e : j = 7 := by omega
    subst e
    refine br_t (nI_le (a := 7) (by omega) (by omega)) ?_
    rw [hs_c hL, ec, eI, nI_pred]
    refine ⟨hs_in hL, hs_in hL, nm_e (nm_e ⟨hs_in hL, nm_e ⟨hs_in hL, hs_in hL, nm_e (pk_eq v 0 (fun a => ⟨hs_in hL, hs_in hL, nm_e (hs_y279 hL hI hv hp3 ?_)⟩) (fun a => hs_y279 hL hI hv hp3 ?_))⟩⟩)⟩
    · rw [if_pos a] at hp; exact hp
    · rw [if_neg a] at hp; exact hp
  | succ d ih =>
    intro j hj
    have e8 : nI L * 8 + nI j = nI (L * 8 + j) := by
      rw [show nI L * 8 = nI (L * 8) from pk_mul L 8, nI_add]
    refine br_f (nI_ge (b := 7) (by omega) (by omega)) ?_
    rw [e8, nI_1 (L * 8 + j)]
    refine ⟨vp_in_nI (by omega) (by omega), vp_in_nI (by omega) (by omega), nm_r ?_ (nm_r (nI_1 j) (ih (j + 1) (by omega)))⟩
    rw [nI_clamp (by omega), nI_clamp (by omega), hs_sh_s]
theorem hs_y1810 {post : Int32 → SY → Prop} {L I v p c : Nat} {s : Int32} (hL : L < 16) (hI : I < 16) (eI : P L = nI I) (hv : v ≤ 2) (hp3 : p ≤ 3) (ec : QC L = nI (c + 1)) (hp : post 1 (lk, ql, dl, sd + 1, K, P, RY, EY, hs_dn (hs_t2 v (hs_t1 v T L (16 * s.toInt64)) I (16 * s.toInt64)) 0 (16 * s.toInt64), hs_dn (hs_dn CY L (16 * s.toInt64)) I (16 * s.toInt64), hs_up (hs_up (hs_up SE L s.toInt64) I s.toInt64) 0 s.toInt64, DR, PR, QU, hs_df DF (L * 3 + v) s (QU L), hs_sh YQ (L * 8) 7, upd QC L (nI c), hs_pt DF PT L (L * 3 + v) (v * 4 + p) s, upd (hs_ls YL 0) 0 ((nI L + (16 * nI v)) + (64 * s)))) : ∃ n, wY_sendOne_181 post (nI v) (nI (v * 4 + p)) (nI L) s lk ql dl sd n 0 K P RY EY T CY SE DR PR QU DF YQ QC PT YL := by
  have h : wY_sendOne_181 post (nI v) (nI (v * 4 + p)) (nI L) s lk ql dl sd 8 (nI 0) K P RY EY T CY SE DR PR QU DF (hs_sh YQ (L * 8) 0) QC PT YL := hs_y181 hL hI eI hv hp3 ec hp 7 0 (by omega)
  rw [hs_sh_0] at h
  exact ⟨8, h⟩
end HSH
