/-! the refill of both sides -/
def hs_rf (d b : Int64) (r : Int32) : Int64 := if r.toInt64 * d ≤ b + r.toInt64 then r.toInt64 * d else b + r.toInt64
/-- the buckets f of the existing ids below i refilled -/
def hs_rt (K R : Nat → Int32) (d : Int64) (f : Nat → Int64) (i : Nat) : Nat → Int64 := fun j => if j < i ∧ ¬ K j = 0 then hs_rf d (f j) (R j) else f j
/-- the same but for the root -/
def hs_ry (K R : Nat → Int32) (d : Int64) (f : Nat → Int64) (i : Nat) : Nat → Int64 := fun j => if (j < i ∧ ¬ j = 0) ∧ ¬ K j = 0 then hs_rf d (f j) (R j) else f j
theorem hs_rt_0 (K R : Nat → Int32) (d : Int64) (f : Nat → Int64) : hs_rt K R d f 0 = f := by
  funext j; unfold hs_rt; rw [if_neg (fun z => absurd z.1 (by omega))]
theorem hs_ry_0 (K R : Nat → Int32) (d : Int64) (f : Nat → Int64) : hs_ry K R d f 0 = f := by
  funext j; unfold hs_ry; rw [if_neg (fun z => absurd z.1.1 (by omega))]
theorem hs_rt_at (K R : Nat → Int32) (d : Int64) (f : Nat → Int64) (i : Nat) : hs_rt K R d f i i = f i := by
  unfold hs_rt; rw [if_neg (fun z => absurd z.1 (by omega))]
theorem hs_ry_at (K R : Nat → Int32) (d : Int64) (f : Nat → Int64) (i : Nat) : hs_ry K R d f i i = f i := by
  unfold hs_ry; rw [if_neg (fun z => absurd z.1.1 (by omega))]
theorem hs_rt_z {K R : Nat → Int32} {d : Int64} {f : Nat → Int64} {i : Nat} (h : K i = 0) : hs_rt K R d f (i + 1) = hs_rt K R d f i := by
  funext j
  unfold hs_rt
  by_cases e : j = i
  · subst e; rw [if_neg (fun z => z.2 h), if_neg (fun z => z.2 h)]
  · by_cases c : j < i ∧ ¬ K j = 0
    · rw [if_pos c, if_pos ⟨by omega, c.2⟩]
    · rw [if_neg c, if_neg (fun z => c ⟨by omega, z.2⟩)]
theorem hs_ry_z {K R : Nat → Int32} {d : Int64} {f : Nat → Int64} {i : Nat} (h : i = 0 ∨ K i = 0) : hs_ry K R d f (i + 1) = hs_ry K R d f i := by
  funext j
  unfold hs_ry
  by_cases e : j = i
  · subst e
    rw [if_neg (fun z => h.elim (fun y => z.1.2 y) (fun y => z.2 y)), if_neg (fun z => absurd z.1.1 (by omega))]
  · by_cases c : (j < i ∧ ¬ j = 0) ∧ ¬ K j = 0
    · rw [if_pos c, if_pos ⟨⟨by omega, c.1.2⟩, c.2⟩]
    · rw [if_neg c, if_neg (fun z => c ⟨⟨by omega, z.1.2⟩, z.2⟩)]
theorem hs_rt_s {K R : Nat → Int32} {d : Int64} {f : Nat → Int64} {i : Nat} (h : ¬ K i = 0) : vp_updL (hs_rt K R d f i) i (hs_rf d (f i) (R i)) = hs_rt K R d f (i + 1) := by
  funext j
  by_cases e : j = i
  · subst e; rw [pk_uLs]; unfold hs_rt; rw [if_pos ⟨by omega, h⟩]
  · rw [pk_uLn e]
    unfold hs_rt
    by_cases c : j < i ∧ ¬ K j = 0
    · rw [if_pos c, if_pos ⟨by omega, c.2⟩]
    · rw [if_neg c, if_neg (fun z => c ⟨by omega, z.2⟩)]
theorem hs_ry_s {K R : Nat → Int32} {d : Int64} {f : Nat → Int64} {i : Nat} (h0 : ¬ i = 0) (h : ¬ K i = 0) : vp_updL (hs_ry K R d f i) i (hs_rf d (f i) (R i)) = hs_ry K R d f (i + 1) := by
  funext j
  by_cases e : j = i
  · subst e; rw [pk_uLs]; unfold hs_ry; rw [if_pos ⟨⟨by omega, h0⟩, h⟩]
  · rw [pk_uLn e]
    unfold hs_ry
    by_cases c : (j < i ∧ ¬ j = 0) ∧ ¬ K j = 0
    · rw [if_pos c, if_pos ⟨⟨by omega, c.1.2⟩, c.2⟩]
    · rw [if_neg c, if_neg (fun z => c ⟨⟨by omega, z.1.2⟩, z.2⟩)]
abbrev hs_JT : Type := Int32 → Int32 → Int64 → Int32 → Int64 → Int32 → (Nat → Int32) → (Nat → Int32) → (Nat → Int64) → (Nat → Int64) → (Nat → Int64) → (Nat → Int64) → (Nat → Int64) → (Nat → Int64) → (Nat → Int32) → (Nat → Int32) → (Nat → Int32) → (Nat → Int32) → (Nat → Int32) → (Nat → Int32) → (Nat → Int32) → Prop
section HSJ
variable {ql dp sd : Int32} {lk dl : Int64} {K P R CE PR QU DF PT XQ QH QC XL YQ YL : Nat → Int32} {T CX SE DR RY EY CY : Nat → Int64}
theorem hs_xrf {post : Int64 → Prop} {b : Int64} {r : Int32} (hp : post (hs_rf dp.toInt64 b r)) : wpX_refilled post (ql, dp, sd, K, P, R, CE, T, CX, SE, DR, PR, QU, DF, PT, XQ, QH, QC, XL) b r := by
  unfold wpX_refilled
  unfold hs_rf at hp
  refine nm_e (nm_e (br_c (fun a => ?_) (fun a => ?_)))
  · rw [if_pos a] at hp; exact hp
  · rw [if_neg a] at hp; exact hp
theorem hs_xra {post : SX → Prop} (hp : post (ql, dp, sd, K, P, R, CE, hs_rt K R dp.toInt64 T 16, hs_rt K CE dp.toInt64 CX 16, SE, DR, PR, QU, DF, PT, XQ, QH, QC, XL)) : ∀ d i : Nat, i + d = 16 → wX_refillAll_2 post ql dp sd (d + 1) (nI i) K P R CE (hs_rt K R dp.toInt64 T i) (hs_rt K CE dp.toInt64 CX i) SE DR PR QU DF PT XQ QH QC XL := by
  intro d
  induction d with
  | zero =>
    intro i hi
    have e : i = 16 := by omega
    subst e
    exact br_t (nI_lt (a := 15) (by omega) (by omega)) hp
  | succ d ih =>
    intro i hi
    have ih' := ih (i + 1) (by omega)
    have hi16 : i < 16 := by omega
    refine br_f (hs_nlt15 hi16) ⟨hs_in hi16, ?_⟩
    rw [hs_c hi16]
    refine br_c (fun a => nm_r (nI_1 i) ?_) (fun a => ⟨hs_in hi16, hs_in hi16, hs_xrf ⟨hs_in hi16, nm_e ⟨hs_in hi16, hs_in hi16, hs_xrf ⟨hs_in hi16, nm_e (nm_r (nI_1 i) ?_)⟩⟩⟩⟩)
    · rw [hs_rt_z a, hs_rt_z a] at ih'; exact ih'
    · rw [hs_rt_at, hs_rt_at, hs_rt_s a, hs_rt_s a]; exact ih'
theorem hs_xra0 {post : SX → Prop} (hp : post (ql, dp, sd, K, P, R, CE, hs_rt K R dp.toInt64 T 16, hs_rt K CE dp.toInt64 CX 16, SE, DR, PR, QU, DF, PT, XQ, QH, QC, XL)) : wpX_refillAll post (ql, dp, sd, K, P, R, CE, T, CX, SE, DR, PR, QU, DF, PT, XQ, QH, QC, XL) := by
  unfold wpX_refillAll
  have h : wX_refillAll_2 post ql dp sd 17 (nI 0) K P R CE (hs_rt K R dp.toInt64 T 0) (hs_rt K CE dp.toInt64 CX 0) SE DR PR QU DF PT XQ QH QC XL := hs_xra hp 16 0 (by omega)
  rw [hs_rt_0, hs_rt_0] at h
  exact ⟨17, h⟩
theorem hs_y171 {post : Int32 → SY → Prop} {J25 : hs_JT} {J34 : Int32 → (Nat → Int32) → (Nat → Int32) → (Nat → Int64) → (Nat → Int64) → (Nat → Int64) → (Nat → Int64) → (Nat → Int64) → (Nat → Int64) → (Nat → Int32) → (Nat → Int32) → (Nat → Int32) → (Nat → Int32) → (Nat → Int32) → (Nat → Int32) → (Nat → Int32) → Prop} {x2 x3 x4 : Int32} {z : Int64} {i : Nat} (hi : i < 16) (e2 : EY i = (CE i).toInt64) (H : J34 (nI (i + 1)) K P RY EY (vp_updL T i z) (vp_updL CY i (hs_rf dl (CY i) (CE i))) SE DR PR QU DF YQ QC PT YL) : wY_run_171 post J25 J34 x2 x3 x4 (nI i) z (nI i) lk ql dl sd K P RY EY T CY SE DR PR QU DF YQ QC PT YL := by
  unfold wY_run_171
  unfold hs_rf at H
  rw [hs_c hi, e2]
  refine ⟨hs_in hi, nm_e ⟨hs_in hi, hs_in hi, nm_e ⟨hs_in hi, br_c (fun a => ⟨hs_in hi, hs_in hi, nm_e (nm_r (nI_1 i) ?_)⟩) (fun a => ⟨hs_in hi, nm_e (nm_r (nI_1 i) ?_)⟩)⟩⟩⟩
  · rw [if_pos a] at H; exact H
  · rw [if_neg a] at H; exact H
theorem hs_y34 {post : Int32 → SY → Prop} {J25 : hs_JT} {x2 x3 x4 : Int32} (hK : hs_K K P) (e1 : lk = (R 0).toInt64) (e2 : ∀ i, i ≠ 0 → RY i = (R i).toInt64 ∧ EY i = (CE i).toInt64) (H : ∃ n, wY_run_240 post J25 x2 x4 n x3 0 lk ql dl sd K P RY EY (hs_rt K R dl T 16) (hs_ry K CE dl CY 16) SE DR PR QU DF YQ QC PT YL) : ∀ d i : Nat, i + d = 16 → wY_run_34 post J25 x2 x3 x4 lk ql dl sd (d + 1) (nI i) K P RY EY (hs_rt K R dl T i) (hs_ry K CE dl CY i) SE DR PR QU DF YQ QC PT YL := by
  intro d
  induction d with
  | zero =>
    intro i hi
    have e : i = 16 := by omega
    subst e
    exact br_t (nI_le (a := 16) (by omega) (by omega)) H
  | succ d ih =>
    intro i hi
    have ih' := ih (i + 1) (by omega)
    have hi16 : i < 16 := by omega
    refine br_f (nI_ge (b := 16) (by omega) (by omega)) ⟨hs_in hi16, ?_⟩
    rw [hs_c hi16]
    by_cases z : i = 0
    · subst z
      have k0 : ¬ K 0 = 0 := by rw [hK.1]; decide
      rw [hs_ry_z (Or.inl rfl), ← hs_rt_s k0] at ih'
      unfold hs_rf at ih'
      refine br_t hK.1 ?_
      rw [hs_rt_at, e1]
      refine nm_e (br_c (fun a => nm_e (nm_r (nI_1 0) ?_)) (fun a => nm_e (nm_r (nI_1 0) ?_)))
      · rw [if_pos a, e1] at ih'; exact ih'
      · rw [if_neg a, e1] at ih'; exact ih'
    · refine br_f (hK.2.1 i hi16 z) ⟨hs_in hi16, br_c (fun a => nm_r (nI_1 i) ?_) (fun a => ⟨hs_in hi16, hs_in hi16, ?_⟩)⟩
      · rw [hs_rt_z a, hs_ry_z (Or.inr a)] at ih'; exact ih'
      · rw [hs_rt_at, (e2 i z).1]
        rw [← hs_rt_s a, ← hs_ry_s z a] at ih'
        refine nm_e ⟨hs_in hi16, br_c (fun b => ⟨hs_in hi16, hs_y171 hi16 (e2 i z).2 ?_⟩) (fun b => hs_y171 hi16 (e2 i z).2 ?_)⟩
        · rw [hs_ry_at]
          rw [show hs_rf dl (T i) (R i) = (R i).toInt64 * dl from if_pos b] at ih'
          exact ih'
        · rw [hs_ry_at]
          rw [show hs_rf dl (T i) (R i) = T i + (R i).toInt64 from if_neg b] at ih'
          exact ih'
theorem hs_y340 {post : Int32 → SY → Prop} {J25 : hs_JT} {x2 x3 x4 : Int32} (hK : hs_K K P) (e1 : lk = (R 0).toInt64) (e2 : ∀ i, i ≠ 0 → RY i = (R i).toInt64 ∧ EY i = (CE i).toInt64) (H : ∃ n, wY_run_240 post J25 x2 x4 n x3 0 lk ql dl sd K P RY EY (hs_rt K R dl T 16) (hs_ry K CE dl CY 16) SE DR PR QU DF YQ QC PT YL) : ∃ n, wY_run_34 post J25 x2 x3 x4 lk ql dl sd n 0 K P RY EY T CY SE DR PR QU DF YQ QC PT YL := by
  have h : wY_run_34 post J25 x2 x3 x4 lk ql dl sd 17 (nI 0) K P RY EY (hs_rt K R dl T 0) (hs_ry K CE dl CY 0) SE DR PR QU DF YQ QC PT YL := hs_y34 hK e1 e2 H 16 0 (by omega)
  rw [hs_rt_0, hs_ry_0] at h
  exact ⟨17, h⟩
theorem hs_b_fill {d : Int64} (hK : hs_K K P) (hB : hs_B lk R CE T CX RY EY CY) : hs_B lk R CE (hs_rt K R d T 16) (hs_rt K CE d CX 16) RY EY (hs_ry K CE d CY 16) := by
  have k0 : ¬ K 0 = 0 := by rw [hK.1]; decide
  refine ⟨hB.1, hB.2.1, ?_, fun i hi => ⟨(hB.2.2.2 i hi).1, (hB.2.2.2 i hi).2.1, ?_⟩⟩
  · unfold hs_rt
    rw [if_pos ⟨by omega, k0⟩, if_pos ⟨by omega, k0⟩, hB.2.1, hB.2.2.1]
  · unfold hs_rt hs_ry
    rw [(hB.2.2.2 i hi).2.2]
    by_cases c : i < 16 ∧ ¬ K i = 0
    · rw [if_pos c, if_pos ⟨⟨c.1, hi⟩, c.2⟩]
    · rw [if_neg c, if_neg (fun z => c ⟨z.1.1, z.2⟩)]
end HSJ
