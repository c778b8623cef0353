/-! the search for the least machine, as such -/
abbrev TD := (Nat → Nat) × (Nat → Nat) × (Nat → Nat)
abbrev SS := (Nat → Nat) × (Nat → Int) × Nat
def wy (t : TD) (pt : Nat → Nat) (k : Nat) : Nat := 4 * pt (t.1 k) + t.2.1 k
def sst (t : TD) (pt : Nat → Nat) : Nat → SS
  | 0 => (fun _ => 0, fun _ => -1, 0)
  | k + 1 => (if (sst t pt k).1 (pt k) = 0 then updN (sst t pt k).1 (pt k) (t.2.2 k) else (sst t pt k).1, if k ≠ 0 ∧ (sst t pt k).2.1 (wy t pt k) = -1 then upf (sst t pt k).2.1 (wy t pt k) (pt k : Int) else (sst t pt k).2.1, if pt k = (sst t pt k).2.2 then (sst t pt k).2.2 + 1 else (sst t pt k).2.2)
theorem sst_s {t : TD} {pt : Nat → Nat} {k : Nat} : sst t pt (k + 1) = (if (sst t pt k).1 (pt k) = 0 then updN (sst t pt k).1 (pt k) (t.2.2 k) else (sst t pt k).1, if k ≠ 0 ∧ (sst t pt k).2.1 (wy t pt k) = -1 then upf (sst t pt k).2.1 (wy t pt k) (pt k : Int) else (sst t pt k).2.1, if pt k = (sst t pt k).2.2 then (sst t pt k).2.2 + 1 else (sst t pt k).2.2) := rfl
def PrO (t : TD) (n : Nat) : Prop := ∀ k, 0 < k → k < n → t.1 k < k ∧ t.2.1 k < 4
theorem sst_congr {t : TD} {pt pt' : Nat → Nat} {n : Nat} (hP : PrO t n) : ∀ k, k ≤ n → (∀ i, i < k → pt' i = pt i) → sst t pt' k = sst t pt k
  | 0, _, _ => rfl
  | k + 1, hk, h => by
    have ih := sst_congr hP k (by omega) (fun i hi => h i (by omega))
    rw [sst_s, sst_s, ih, h k (by omega)]
    by_cases z : k = 0
    · subst z
      simp
    · have : wy t pt' k = wy t pt k := by unfold wy; rw [h _ (by have := hP k (by omega) (by omega); omega)]
      rw [this]
def fcd (t : TD) (pt : Nat → Nat) (k : Nat) : Int := if k = 0 then -1 else (sst t pt k).2.1 (wy t pt k)
def lst (t : TD) (pt : Nat → Nat) (mo k : Nat) : Int := if fcd t pt k = -1 then (if ((sst t pt k).2.2 : Int) ≤ (mo : Int) - 1 then ((sst t pt k).2.2 : Int) else (mo : Int) - 1) else fcd t pt k
def ent (t : TD) (pt : Nat → Nat) (k : Nat) : Nat := if fcd t pt k = -1 then 0 else (fcd t pt k).toNat
def cfl (m v : Nat) : Bool := (m == 1 && v == 2) || (m == 2 && v == 1)
theorem cfl_d {m v : Nat} : cfl m v = true ↔ (m = 1 ∧ v = 2) ∨ (m = 2 ∧ v = 1) := by
  unfold cfl
  simp
/-- what is held while nodes are put -/
def SV (t : TD) (pt : Nat → Nat) (mo k : Nat) : Prop := (∀ i, i < k → pt i ≤ (sst t pt i).2.2 ∧ pt i < mo ∧ cfl ((sst t pt i).1 (pt i)) (t.2.2 i) = false) ∧ (sst t pt k).2.2 ≤ mo ∧ (∀ j, -1 ≤ (sst t pt k).2.1 j ∧ (sst t pt k).2.1 j < (sst t pt k).2.2) ∧ (∀ s, (sst t pt k).1 s ≤ 2)
theorem SV_0 {t : TD} {pt : Nat → Nat} {mo : Nat} : SV t pt mo 0 := ⟨fun i h => by omega, Nat.zero_le _, fun j => by show -1 ≤ (-1 : Int) ∧ (-1 : Int) < ((0 : Nat) : Int); omega, fun s => Nat.zero_le _⟩
theorem SV_s {t : TD} {pt : Nat → Nat} {mo k : Nat} (ht : t.2.2 k ≤ 2) (h : SV t pt mo k) (h1 : pt k ≤ (sst t pt k).2.2) (h2 : pt k < mo) (h3 : cfl ((sst t pt k).1 (pt k)) (t.2.2 k) = false) : SV t pt mo (k + 1) := by
  obtain ⟨a1, a2, a3, a4⟩ := h
  have hu : (sst t pt k).2.2 ≤ (sst t pt (k + 1)).2.2 ∧ pt k < (sst t pt (k + 1)).2.2 ∧ (sst t pt (k + 1)).2.2 ≤ mo := by
    rw [sst_s]
    show _ ≤ (if pt k = (sst t pt k).2.2 then (sst t pt k).2.2 + 1 else (sst t pt k).2.2) ∧ _ < (if pt k = (sst t pt k).2.2 then (sst t pt k).2.2 + 1 else (sst t pt k).2.2) ∧ (if pt k = (sst t pt k).2.2 then (sst t pt k).2.2 + 1 else (sst t pt k).2.2) ≤ mo
    split <;> omega
  refine ⟨fun i hi => ?_, hu.2.2, fun j => ?_, fun s => ?_⟩
  · by_cases z : i = k
    · subst z
      exact ⟨h1, h2, h3⟩
    · exact a1 i (by omega)
  · have := a3 j
    have e : (sst t pt (k + 1)).2.1 j = if k ≠ 0 ∧ (sst t pt k).2.1 (wy t pt k) = -1 then upf (sst t pt k).2.1 (wy t pt k) (pt k : Int) j else (sst t pt k).2.1 j := by
      rw [sst_s]
      show (if k ≠ 0 ∧ (sst t pt k).2.1 (wy t pt k) = -1 then upf (sst t pt k).2.1 (wy t pt k) (pt k : Int) else (sst t pt k).2.1) j = _
      split <;> rfl
    rw [e]
    split
    · unfold upf
      split <;> omega
    · omega
  · have := a4 s
    have e : (sst t pt (k + 1)).1 s = if (sst t pt k).1 (pt k) = 0 then updN (sst t pt k).1 (pt k) (t.2.2 k) s else (sst t pt k).1 s := by
      rw [sst_s]
      show (if (sst t pt k).1 (pt k) = 0 then updN (sst t pt k).1 (pt k) (t.2.2 k) else (sst t pt k).1) s = _
      split <;> rfl
    rw [e]
    split
    · rw [updN_at]
      split <;> omega
    · exact this
theorem SV_p {t : TD} {pt : Nat → Nat} {mo k : Nat} (h : SV t pt mo (k + 1)) (hm : ∀ i, t.2.2 i ≤ 2) : SV t pt mo k := by
  have key : ∀ j, j ≤ k → SV t pt mo j := by
    intro j
    induction j with
    | zero => intro _; exact SV_0
    | succ j ih =>
      intro hj
      obtain ⟨b1, b2, b3⟩ := h.1 j (by omega)
      exact SV_s (hm j) (ih (by omega)) b1 b2 b3
  exact key k (Nat.le_refl _)
def ctn (t : TD) (pt : Nat → Nat) (s v k : Nat) : Nat := cn (fun i => pt i == s && t.2.2 i == v) k
theorem ctn_s {t : TD} {pt : Nat → Nat} {s v k : Nat} : ctn t pt s v (k + 1) = ctn t pt s v k + (if pt k = s ∧ t.2.2 k = v then 1 else 0) := by
  unfold ctn
  rw [cn_s]
  congr 1
  by_cases z : pt k = s ∧ t.2.2 k = v
  · rw [if_pos z, if_pos (by rw [z.1, z.2]; simp)]
  · rw [if_neg z, if_neg (by simpa using z)]
theorem sst_m {t : TD} {pt : Nat → Nat} : ∀ k, (∀ i, i < k → cfl ((sst t pt i).1 (pt i)) (t.2.2 i) = false) → (∀ i, t.2.2 i ≤ 2) → ∀ s, ((sst t pt k).1 s = 1 ↔ 0 < ctn t pt s 1 k) ∧ ((sst t pt k).1 s = 2 ↔ 0 < ctn t pt s 2 k) ∧ (sst t pt k).1 s ≤ 2
  | 0, _, _, s => by
    refine ⟨⟨fun h => by have h : (0 : Nat) = 1 := h; omega, fun h => by have h : 0 < 0 := h; omega⟩, ⟨fun h => by have h : (0 : Nat) = 2 := h; omega, fun h => by have h : 0 < 0 := h; omega⟩, Nat.zero_le _⟩
  | k + 1, hc, hm, s => by
    obtain ⟨i1, i2, i3⟩ := sst_m k (fun i hi => hc i (by omega)) hm s
    have hck := hc k (by omega)
    have hmk := hm k
    have e : (sst t pt (k + 1)).1 s = if (sst t pt k).1 (pt k) = 0 then updN (sst t pt k).1 (pt k) (t.2.2 k) s else (sst t pt k).1 s := by
      rw [sst_s]
      show (if (sst t pt k).1 (pt k) = 0 then updN (sst t pt k).1 (pt k) (t.2.2 k) else (sst t pt k).1) s = _
      split <;> rfl
    rw [e, ctn_s, ctn_s]
    have hcf : ¬ (((sst t pt k).1 (pt k) = 1 ∧ t.2.2 k = 2) ∨ ((sst t pt k).1 (pt k) = 2 ∧ t.2.2 k = 1)) := fun h => by
      rw [cfl_d.mpr h] at hck
      cases hck
    by_cases zs : pt k = s
    · subst zs
      by_cases z0 : (sst t pt k).1 (pt k) = 0
      · rw [if_pos z0, updN_at, if_pos rfl]
        split <;> split <;> omega
      · rw [if_neg z0]
        split <;> split <;> omega
    · have n1 : ¬ (pt k = s ∧ t.2.2 k = 1) := fun h => zs h.1
      have n2 : ¬ (pt k = s ∧ t.2.2 k = 2) := fun h => zs h.1
      rw [if_neg n1, if_neg n2, Nat.add_zero, Nat.add_zero]
      by_cases z0 : (sst t pt k).1 (pt k) = 0
      · rw [if_pos z0, updN_at, if_neg (fun h => zs h.symm)]
        exact ⟨i1, i2, i3⟩
      · rw [if_neg z0]
        exact ⟨i1, i2, i3⟩
/-- the run: 0 found, 1 none, 2 too many tries -/
def srn (t : TD) (n mo : Nat) : Nat → Nat → Nat → Nat → (Nat → Nat) → Nat × Nat × (Nat → Nat)
  | 0, _, _, tr, pt => (2, tr, pt)
  | f + 1, k, c, tr, pt =>
    if n ≤ k then (0, tr, pt)
    else if lst t pt mo k < (c : Int) then (if k = 0 then (1, tr, pt) else srn t n mo f (k - 1) (pt (k - 1) + 1) tr pt)
    else if 50000 ≤ tr then (2, tr, pt)
    else if cfl ((sst t pt k).1 c) (t.2.2 k) then srn t n mo f k (c + 1) (tr + 1) pt
    else srn t n mo f (k + 1) (ent t (updN pt k c) (k + 1)) (tr + 1) (updN pt k c)
theorem srn_s {t : TD} {n mo f k c tr : Nat} {pt : Nat → Nat} : srn t n mo (f + 1) k c tr pt = if n ≤ k then (0, tr, pt) else if lst t pt mo k < (c : Int) then (if k = 0 then (1, tr, pt) else srn t n mo f (k - 1) (pt (k - 1) + 1) tr pt) else if 50000 ≤ tr then (2, tr, pt) else if cfl ((sst t pt k).1 c) (t.2.2 k) then srn t n mo f k (c + 1) (tr + 1) pt else srn t n mo f (k + 1) (ent t (updN pt k c) (k + 1)) (tr + 1) (updN pt k c) := rfl
theorem lst_b {t : TD} {pt : Nat → Nat} {mo k : Nat} (h : SV t pt mo k) (hmo : 1 ≤ mo) : lst t pt mo k ≤ (sst t pt k).2.2 ∧ lst t pt mo k < mo := by
  have h2 := h.2.1
  unfold lst
  by_cases z : fcd t pt k = -1
  · rw [if_pos z]
    split <;> omega
  · rw [if_neg z]
    unfold fcd at z ⊢
    by_cases zk : k = 0
    · rw [if_pos zk] at z
      exact absurd rfl z
    · rw [if_neg zk]
      have := h.2.2.1 (wy t pt k)
      omega
theorem fcd_b {t : TD} {pt : Nat → Nat} {mo k : Nat} (h : SV t pt mo k) : -1 ≤ fcd t pt k ∧ (fcd t pt k = -1 ∨ fcd t pt k < mo) := by
  have h2 := h.2.1
  unfold fcd
  split
  · omega
  · have := h.2.2.1 (wy t pt k)
    omega
/-- least numbers of states one by one -/
def lsr (t : TD) (n : Nat) : Nat → Nat → Nat → Nat × Nat × (Nat → Nat) × Nat
  | 0, mo, tr => (1, tr, fun _ => 0, mo)
  | r + 1, mo, tr => if (srn t n mo 100200 0 0 tr (fun _ => 0)).1 = 1 then lsr t n r (mo + 1) (srn t n mo 100200 0 0 tr (fun _ => 0)).2.1 else ((srn t n mo 100200 0 0 tr (fun _ => 0)).1, (srn t n mo 100200 0 0 tr (fun _ => 0)).2.1, (srn t n mo 100200 0 0 tr (fun _ => 0)).2.2, mo)
theorem lsr_s {t : TD} {n r mo tr : Nat} : lsr t n (r + 1) mo tr = if (srn t n mo 100200 0 0 tr (fun _ => 0)).1 = 1 then lsr t n r (mo + 1) (srn t n mo 100200 0 0 tr (fun _ => 0)).2.1 else ((srn t n mo 100200 0 0 tr (fun _ => 0)).1, (srn t n mo 100200 0 0 tr (fun _ => 0)).2.1, (srn t n mo 100200 0 0 tr (fun _ => 0)).2.2, mo) := rfl
def lsM (t : TD) (pt : Nat → Nat) (n : Nat) : MC := ((sst t pt n).2.2, fun s => ((sst t pt n).1 s : Int), (sst t pt n).2.1)
theorem sst_al {t : TD} {pt : Nat → Nat} {n al : Nat} (hl : ∀ k, 0 < k → k < n → t.2.1 k < al) (hal : al ≤ 4) : ∀ k, k ≤ n → ∀ s l, al ≤ l → l < 4 → (sst t pt k).2.1 (4 * s + l) = -1
  | 0, _, _, _, _, _ => rfl
  | k + 1, hk, s, l, h1, h2 => by
    have ih := sst_al (pt := pt) hl hal k (by omega) s l h1 h2
    rw [sst_s]
    show (if k ≠ 0 ∧ (sst t pt k).2.1 (wy t pt k) = -1 then upf (sst t pt k).2.1 (wy t pt k) (pt k : Int) else (sst t pt k).2.1) (4 * s + l) = -1
    split
    · rename_i z
      have := hl k (by omega) (by omega)
      rw [upf_n (by unfold wy; omega)]
      exact ih
    · exact ih
theorem lsM_W {t : TD} {pt : Nat → Nat} {n al mo : Nat} (hl : ∀ k, 0 < k → k < n → t.2.1 k < al) (hal : al ≤ 4) (h : SV t pt mo n) : MW al (lsM t pt n) := by
  refine ⟨fun s _ => ?_, fun i _ => h.2.2.1 i, fun s l _ h1 h2 => sst_al hl hal n (Nat.le_refl _) s l h1 h2⟩
  have := h.2.2.2 s
  show ((sst t pt n).1 s : Int) = 0 ∨ ((sst t pt n).1 s : Int) = 1 ∨ ((sst t pt n).1 s : Int) = 2
  omega
