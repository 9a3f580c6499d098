/-! the relation, and the small methods of both sides, each with a general post -/
def hs_A (ql dp : Int32) (dl : Int64) : Prop := (∃ q, 1 ≤ q ∧ q ≤ 8 ∧ ql = nI q) ∧ dl = dp.toInt64
def hs_K (K P : Nat → Int32) : Prop := K 0 = 1 ∧ (∀ i, i < 16 → i ≠ 0 → K i ≠ 1) ∧ (∀ i, i < 16 → K i = 3 → ∃ p, p ≠ 0 ∧ p < 16 ∧ P i = nI p ∧ K p = 2)
def hs_Z (K P : Nat → Int32) (SE DR : Nat → Int64) (PR DF QC : Nat → Int32) : Prop := ∀ i, i < 16 → K i = 0 → P i = 0 ∧ SE i = 0 ∧ DR i = 0 ∧ PR i = 0 ∧ QC i = 0 ∧ DF (i * 3) = 0 ∧ DF (i * 3 + 1) = 0 ∧ DF (i * 3 + 2) = 0
def hs_B (lk : Int64) (R CE : Nat → Int32) (T CX RY EY CY : Nat → Int64) : Prop := lk = (R 0).toInt64 ∧ CE 0 = R 0 ∧ CX 0 = T 0 ∧ ∀ i, i ≠ 0 → RY i = (R i).toInt64 ∧ EY i = (CE i).toInt64 ∧ CY i = CX i
def hs_P (PR PT : Nat → Int32) : Prop := (∀ i, ∃ p, p < 4 ∧ PR i = nI p) ∧ (∀ j, j < 12 → ∃ p, 1 ≤ p ∧ p ≤ 15 ∧ PT j = nI p)
/-- related states with n packets in the queues -/
def hs_R (n : Nat) (u : SX) (v : SY) : Prop := ∃ (ql dp sd : Int32) (lk dl : Int64) (K P R CE PR QU DF PT XQ QH QC XL YQ YL : Nat → Int32) (T CX SE DR RY EY CY : Nat → Int64),
  u = (ql, dp, sd, K, P, R, CE, T, CX, SE, DR, PR, QU, DF, PT, XQ, QH, QC, XL) ∧ v = (lk, ql, dl, sd, K, P, RY, EY, T, CY, SE, DR, PR, QU, DF, YQ, QC, PT, YL) ∧ hs_A ql dp dl ∧ hs_K K P ∧ hs_Z K P SE DR PR DF QC ∧ hs_B lk R CE T CX RY EY CY ∧ hs_P PR PT ∧ hs_Q QC QH XQ YQ ∧ hs_LG sd XL YL ∧ hs_tot QC 15 = n
def i_Rel (_ : Nat) (u : SX) (v : SY) : Prop := ∃ n, hs_R n u v
theorem i_up {k : Nat} {u : SX} {v : SY} (h : i_Rel k u v) : i_Rel (k + 5) u v := h
section HSB
variable {ql dp sd : Int32} {lk dl : Int64} {K P R CE PR QU DF PT XQ QH QC XL YQ YL : Nat → Int32} {T CX SE DR RY EY CY : Nat → Int64}
theorem hs_mk {k : Nat} (hA : hs_A ql dp dl) (hK : hs_K K P) (hZ : hs_Z K P SE DR PR DF QC) (hB : hs_B lk R CE T CX RY EY CY) (hP : hs_P PR PT) (hQ : hs_Q QC QH XQ YQ) (hL : hs_LG sd XL YL) : i_Rel k (ql, dp, sd, K, P, R, CE, T, CX, SE, DR, PR, QU, DF, PT, XQ, QH, QC, XL) (lk, ql, dl, sd, K, P, RY, EY, T, CY, SE, DR, PR, QU, DF, YQ, QC, PT, YL) :=
  ⟨_, ql, dp, sd, lk, dl, K, P, R, CE, PR, QU, DF, PT, XQ, QH, QC, XL, YQ, YL, T, CX, SE, DR, RY, EY, CY, rfl, rfl, hA, hK, hZ, hB, hP, hQ, hL, rfl⟩
theorem hs_mkR (hA : hs_A ql dp dl) (hK : hs_K K P) (hZ : hs_Z K P SE DR PR DF QC) (hB : hs_B lk R CE T CX RY EY CY) (hP : hs_P PR PT) (hQ : hs_Q QC QH XQ YQ) (hL : hs_LG sd XL YL) : hs_R (hs_tot QC 15) (ql, dp, sd, K, P, R, CE, T, CX, SE, DR, PR, QU, DF, PT, XQ, QH, QC, XL) (lk, ql, dl, sd, K, P, RY, EY, T, CY, SE, DR, PR, QU, DF, YQ, QC, PT, YL) :=
  ⟨ql, dp, sd, lk, dl, K, P, R, CE, PR, QU, DF, PT, XQ, QH, QC, XL, YQ, YL, T, CX, SE, DR, RY, EY, CY, rfl, rfl, hA, hK, hZ, hB, hP, hQ, hL, rfl⟩
theorem hs_in {j : Nat} (h : j < 16) : vp_in (nI j) 16 := vp_in_nI h (by decide)
theorem hs_c {j : Nat} (h : j < 16) : (nI j).toNatClampNeg = j := nI_clamp (by omega)
theorem hs_n0 {j : Nat} (h : j < 16) : ¬ nI j < 0 := nI_pos (by omega)
theorem hs_le15 {j : Nat} (h : j < 16) : nI j ≤ 15 := nI_le (b := 15) (by omega) (by decide)
theorem hs_nlt15 {j : Nat} (h : j < 16) : ¬ 15 < nI j := nI_nlt (a := 15) (by omega) (by decide)
theorem hs_i16 : (nI 16).toInt = 16 := by decide
theorem hs_i15 : (15 : Int32).toInt = 15 := by decide
theorem hs_o1 {x : Int32} (h : nI 16 ≤ x) : ¬ x < 0 := by
  have h0 : (0 : Int32).toInt = 0 := by decide
  rw [Int32.le_iff_toInt_le, hs_i16] at h
  rw [Int32.lt_iff_toInt_lt, h0]; omega
theorem hs_o2 {x : Int32} (h : nI 16 ≤ x) : ¬ x ≤ 15 := by
  rw [Int32.le_iff_toInt_le, hs_i16] at h
  rw [Int32.le_iff_toInt_le, hs_i15]; omega
theorem hs_o3 {x : Int32} (h : nI 16 ≤ x) : 15 < x := by
  rw [Int32.le_iff_toInt_le, hs_i16] at h
  rw [Int32.lt_iff_toInt_lt, hs_i15]; omega
def hs_out (x : Int32) : Prop := x < 0 ∨ nI 16 ≤ x
theorem hs_ix (x : Int32) : hs_out x ∨ ∃ j, j < 16 ∧ x = nI j := by
  rcases pk_ix x (n := 16) (by decide) with h | h | h
  · exact Or.inl (Or.inl h)
  · exact Or.inl (Or.inr h)
  · exact Or.inr h
theorem hs_i2l {a b : Int32} : a.toInt64 ≤ b.toInt64 ↔ a ≤ b := by
  rw [Int64.le_iff_toInt_le, Int32.toInt_toInt64, Int32.toInt_toInt64, Int32.le_iff_toInt_le]
theorem hs_lnl {a : Int64} : a < 0 ↔ ¬ 0 ≤ a := Int64.not_le.symm
theorem hs_xclamp {post : Int32 → Prop} {v lo hi : Int32} (h : post (hs_cl v lo hi)) : wpX_clamp post v lo hi := by
  unfold hs_cl at h
  refine br_c (fun a => br_c (fun b => ?_) (fun b => ?_)) (fun a => ?_)
  · rw [if_pos a, if_pos b] at h; exact h
  · rw [if_pos a, if_neg b] at h; exact h
  · rw [if_neg a] at h; exact h
theorem hs_cl_in {v lo hi : Int32} {a b : Nat} (e1 : lo = nI a) (e2 : hi = nI b) (hab : a ≤ b) (hb : b < 2 ^ 31) : ∃ q, a ≤ q ∧ q ≤ b ∧ hs_cl v lo hi = nI q := by
  subst e1 e2
  unfold hs_cl
  by_cases h : nI a ≤ v
  · rw [if_pos h]
    have h0 : ¬ v < 0 := by
      rw [Int32.le_iff_toInt_le, nI_toInt (by omega)] at h
      rw [Int32.lt_iff_toInt_lt, show (0 : Int32).toInt = 0 from by decide]; omega
    obtain ⟨j, hj, rfl⟩ := nI_of h0
    rw [nI_leI (by omega) hj] at h
    by_cases g : nI j ≤ nI b
    · rw [if_pos g]; rw [nI_leI hj hb] at g; exact ⟨j, h, g, rfl⟩
    · rw [if_neg g]; exact ⟨b, hab, Nat.le_refl _, rfl⟩
  · rw [if_neg h]; exact ⟨a, Nat.le_refl _, hab, rfl⟩
theorem hs_cl_id {v lo hi : Int32} (h1 : lo ≤ v) (h2 : v ≤ hi) : hs_cl v lo hi = v := by
  unfold hs_cl; rw [if_pos h1, if_pos h2]
theorem hs_xkind_o {post : Int32 → Prop} {x : Int32} (h : hs_out x) (hp : post 0) : wpX_kind post (ql, dp, sd, K, P, R, CE, T, CX, SE, DR, PR, QU, DF, PT, XQ, QH, QC, XL) x := by
  unfold wpX_kind
  rcases h with h | h
  · exact br_t h hp
  · exact br_f (hs_o1 h) (br_f (hs_o2 h) hp)
theorem hs_xkind {post : Int32 → Prop} {j : Nat} (h : j < 16) (hp : post (K j)) : wpX_kind post (ql, dp, sd, K, P, R, CE, T, CX, SE, DR, PR, QU, DF, PT, XQ, QH, QC, XL) (nI j) := by
  unfold wpX_kind
  refine br_f (hs_n0 h) (br_t (hs_le15 h) ⟨hs_in h, ?_⟩)
  rw [hs_c h]; exact hp
theorem hs_ykind_o {post : Int32 → Prop} {x : Int32} (h : hs_out x) (hp : post 0) : wpY_kind post (lk, ql, dl, sd, K, P, RY, EY, T, CY, SE, DR, PR, QU, DF, YQ, QC, PT, YL) x := by
  unfold wpY_kind
  rcases h with h | h
  · exact br_t h hp
  · exact br_f (hs_o1 h) (br_f (hs_o2 h) hp)
theorem hs_ykind {post : Int32 → Prop} {j : Nat} (h : j < 16) (hp : post (K j)) : wpY_kind post (lk, ql, dl, sd, K, P, RY, EY, T, CY, SE, DR, PR, QU, DF, YQ, QC, PT, YL) (nI j) := by
  unfold wpY_kind
  refine br_f (hs_n0 h) (br_t (hs_le15 h) ⟨hs_in h, ?_⟩)
  rw [hs_c h]; exact hp
theorem hs_yleaf_o {post : Int32 → Prop} {x : Int32} (h : hs_out x) (hp : post 0) : wpY_isLeaf post (lk, ql, dl, sd, K, P, RY, EY, T, CY, SE, DR, PR, QU, DF, YQ, QC, PT, YL) x := by
  unfold wpY_isLeaf
  rcases h with h | h
  · exact br_t h hp
  · exact br_f (hs_o1 h) (br_t (hs_o3 h) hp)
theorem hs_yleaf1 {post : Int32 → Prop} {j : Nat} (h : j < 16) (hk : K j = 3) (hp : post 1) : wpY_isLeaf post (lk, ql, dl, sd, K, P, RY, EY, T, CY, SE, DR, PR, QU, DF, YQ, QC, PT, YL) (nI j) := by
  unfold wpY_isLeaf
  exact br_f (hs_n0 h) (br_f (hs_nlt15 h) ⟨hs_in h, br_t (by rw [hs_c h]; exact hk) hp⟩)
theorem hs_yleaf0 {post : Int32 → Prop} {j : Nat} (h : j < 16) (hk : ¬ K j = 3) (hp : post 0) : wpY_isLeaf post (lk, ql, dl, sd, K, P, RY, EY, T, CY, SE, DR, PR, QU, DF, YQ, QC, PT, YL) (nI j) := by
  unfold wpY_isLeaf
  exact br_f (hs_n0 h) (br_f (hs_nlt15 h) ⟨hs_in h, br_f (by rw [hs_c h]; exact hk) hp⟩)
theorem hs_yex_o {post : Int32 → Prop} {x : Int32} (h : hs_out x) (hp : post 0) : wpY_exists post (lk, ql, dl, sd, K, P, RY, EY, T, CY, SE, DR, PR, QU, DF, YQ, QC, PT, YL) x := by
  unfold wpY_exists
  rcases h with h | h
  · exact br_t h hp
  · exact br_f (hs_o1 h) (br_t (hs_o3 h) hp)
theorem hs_yex1 {post : Int32 → Prop} {j : Nat} (h : j < 16) (hk : ¬ K j = 0) (hp : post 1) : wpY_exists post (lk, ql, dl, sd, K, P, RY, EY, T, CY, SE, DR, PR, QU, DF, YQ, QC, PT, YL) (nI j) := by
  unfold wpY_exists
  exact br_f (hs_n0 h) (br_f (hs_nlt15 h) ⟨hs_in h, br_f (by rw [hs_c h]; exact hk) hp⟩)
theorem hs_yex0 {post : Int32 → Prop} {j : Nat} (h : j < 16) (hk : K j = 0) (hp : post 0) : wpY_exists post (lk, ql, dl, sd, K, P, RY, EY, T, CY, SE, DR, PR, QU, DF, YQ, QC, PT, YL) (nI j) := by
  unfold wpY_exists
  exact br_f (hs_n0 h) (br_f (hs_nlt15 h) ⟨hs_in h, br_t (by rw [hs_c h]; exact hk) hp⟩)
theorem hs_xbc {post : Int32 → Prop} {j : Nat} (h : j < 16) (hp : post (nI (hs_bc T CX j))) : wpX_bucketColour post (ql, dp, sd, K, P, R, CE, T, CX, SE, DR, PR, QU, DF, PT, XQ, QH, QC, XL) (nI j) := by
  unfold wpX_bucketColour
  unfold hs_bc at hp
  refine ⟨hs_in h, ?_⟩
  rw [hs_c h]
  refine br_c (fun a => ⟨hs_in h, br_c (fun b => ?_) (fun b => ?_)⟩) (fun a => ?_)
  · rw [if_pos a, if_pos b] at hp; exact hp
  · rw [if_pos a, if_neg b] at hp; exact hp
  · rw [if_neg a] at hp; exact hp
theorem hs_ybc {post : Int32 → Prop} {j : Nat} (h : j < 16) (hk : ¬ K j = 0) (hB : hs_B lk R CE T CX RY EY CY) (hp : post (nI (hs_bc T CX j))) : wpY_colour post (lk, ql, dl, sd, K, P, RY, EY, T, CY, SE, DR, PR, QU, DF, YQ, QC, PT, YL) (nI j) := by
  unfold wpY_colour
  unfold hs_bc at hp
  refine hs_yex1 h hk (br_f (by decide) ?_)
  refine pk_eq j 0 (fun e => ?_) (fun e => ⟨hs_in h, ?_⟩)
  · subst e
    rw [hB.2.2.1] at hp
    refine br_c (fun a => ?_) (fun a => ?_)
    · rw [if_neg (hs_lnl.mp a)] at hp; exact hp
    · rw [if_neg a, if_pos (by rw [hs_lnl] at a; exact Decidable.not_not.mp a)] at hp; exact hp
  · rw [hs_c h, (hB.2.2.2 j e).2.2]
    refine br_c (fun a => ⟨hs_in h, br_c (fun b => ?_) (fun b => ?_)⟩) (fun a => ?_)
    · rw [if_pos a, if_pos b] at hp; exact hp
    · rw [if_pos a, if_neg b] at hp; exact hp
    · rw [if_neg a] at hp; exact hp
end HSB
