/-! steps, as such -/
abbrev Dd := Nat × Int × Int
def fs (p : Nat → Bool) : Nat → Option Nat
  | 0 => none
  | n + 1 => match fs p n with
    | some k => some k
    | none => if p n then some n else none
theorem fs_s {p : Nat → Bool} {n : Nat} : fs p (n + 1) = match fs p n with
    | some k => some k
    | none => if p n then some n else none := rfl
theorem fs_none {p : Nat → Bool} : ∀ {n : Nat}, fs p n = none ↔ ∀ k, k < n → p k = false
  | 0 => ⟨fun _ k h => by omega, fun _ => rfl⟩
  | n + 1 => by
    rw [fs_s]
    cases e : fs p n with
    | some k =>
      refine ⟨fun h => (nomatch h), fun h => ?_⟩
      have : fs p n = none := fs_none.mpr (fun j hj => h j (by omega))
      rw [e] at this
      exact (nomatch this)
    | none =>
      have e' := fs_none.mp e
      dsimp only
      by_cases hp : p n = true
      · rw [if_pos hp]
        exact ⟨fun h => (nomatch h), fun h => by rw [h n (by omega)] at hp; exact (nomatch hp)⟩
      · rw [if_neg hp]
        refine ⟨fun _ k hk => ?_, fun _ => rfl⟩
        rcases Nat.lt_or_ge k n with z | z
        · exact e' k z
        · have : k = n := by omega
          subst this
          simpa using hp
theorem fs_some {p : Nat → Bool} : ∀ {n k : Nat}, fs p n = some k ↔ k < n ∧ p k = true ∧ ∀ j, j < k → p j = false
  | 0, k => ⟨fun h => (nomatch h), fun h => by omega⟩
  | n + 1, k => by
    rw [fs_s]
    cases e : fs p n with
    | some i =>
      have e' := fs_some.mp e
      dsimp only
      refine ⟨fun h => ?_, fun h => ?_⟩
      · have : i = k := Option.some.inj h
        subst this
        exact ⟨by omega, e'.2⟩
      · rcases Nat.lt_trichotomy i k with z | z | z
        · have := h.2.2 i z
          rw [e'.2.1] at this
          exact (nomatch this)
        · rw [z]
        · have := e'.2.2 k z
          rw [h.2.1] at this
          exact (nomatch this)
    | none =>
      have e' := fs_none.mp e
      dsimp only
      by_cases hp : p n = true
      · rw [if_pos hp]
        refine ⟨fun h => ?_, fun h => ?_⟩
        · have : n = k := Option.some.inj h
          subst this
          exact ⟨by omega, hp, e'⟩
        · rcases Nat.lt_or_ge k n with z | z
          · have := e' k z
            rw [h.2.1] at this
            exact (nomatch this)
          · rw [show n = k by omega]
      · rw [if_neg hp]
        refine ⟨fun h => (nomatch h), fun h => ?_⟩
        rcases Nat.lt_or_ge k n with z | z
        · have := e' k z
          rw [h.2.1] at this
          exact (nomatch this)
        · have : k = n := by omega
          subst this
          exact absurd h.2.1 hp
theorem cn_eq {α : Type} {p : Nat → Bool} (g : Nat → α) (hg : ∀ k, p k = false → g (k + 1) = g k) : ∀ m k, cn p (k + m) = cn p k → g (k + m) = g k
  | 0, _, _ => rfl
  | m + 1, k, h => by
    have h1 := cn_mono (p := p) (n := k) (k + m) (by omega)
    rw [show k + (m + 1) = (k + m) + 1 from rfl, cn_s] at h
    have h2 : p (k + m) = false := by
      cases e : p (k + m)
      · rfl
      · rw [e, if_pos rfl] at h
        omega
    rw [h2] at h
    rw [show k + (m + 1) = (k + m) + 1 from rfl, hg _ h2]
    exact cn_eq g hg m k (by simpa using h)
theorem cn_eq' {α : Type} {p : Nat → Bool} (g : Nat → α) (hg : ∀ k, p k = false → g (k + 1) = g k) {k k' : Nat} (h : cn p k = cn p k') : g k = g k' := by
  rcases Nat.le_total k k' with z | z
  · obtain ⟨m, rfl⟩ := Nat.exists_eq_add_of_le z
    exact (cn_eq g hg m k h.symm).symm
  · obtain ⟨m, rfl⟩ := Nat.exists_eq_add_of_le z
    exact cn_eq g hg m k' h
/-- states that are not red -/
def nrB (F : FS) (k : Nat) : Bool := F.1 k == k && !(F.2.2.1 k == 1)
def NR (F : FS) (n : Nat) : Nat := cn (nrB F) n
theorem cn_imp {p q : Nat → Bool} : ∀ {n : Nat}, (∀ k, k < n → p k = true → q k = true) → cn p n ≤ cn q n
  | 0, _ => Nat.le_refl _
  | n + 1, h => by
    have := cn_imp (p := p) (q := q) (n := n) (fun k hk => h k (by omega))
    rw [cn_s, cn_s]
    by_cases hp : p n = true
    · rw [if_pos hp, if_pos (h n (by omega) hp)]
      omega
    · rw [if_neg hp]
      omega
theorem cn_imp' {p q : Nat → Bool} {b : Nat} : ∀ {n : Nat}, (∀ k, k < n → p k = true → q k = true) → b < n → q b = true → p b = false → cn p n < cn q n
  | 0, _, hb, _, _ => by omega
  | n + 1, h, hb, h1, h2 => by
    rw [cn_s, cn_s]
    rcases Nat.lt_or_ge b n with z | z
    · have := cn_imp' (fun k hk => h k (by omega)) z h1 h2
      by_cases hp : p n = true
      · rw [if_pos hp, if_pos (h n (by omega) hp)]
        omega
      · rw [if_neg hp]
        omega
    · have : b = n := by omega
      subst this
      have := cn_imp (p := p) (q := q) (n := b) (fun k hk => h k (by omega))
      rw [h1, h2]
      simp
      omega
theorem nrB_ab {n a b k : Nat} {F : FS} (hF : FI n F) (hab : a < b) (hb : b < n) (h : nrB (ab F a b) k = true) : nrB F k = true ∧ k ≠ b ∧ (k = a → F.2.2.1 b ≠ 1) := by
  unfold nrB ab at *
  simp only [Bool.and_eq_true, beq_iff_eq, Bool.not_eq_true', beq_eq_false_iff_ne, ne_eq] at *
  obtain ⟨h1, h2⟩ := h
  by_cases kb : k = b
  · subst kb
    rw [show updN F.1 k a k = a by unfold updN; rw [if_pos rfl]] at h1
    omega
  · rw [show updN F.1 b a k = F.1 k by unfold updN; rw [if_neg kb]] at h1
    by_cases ka : k = a
    · subst ka
      rw [upf_s] at h2
      split at h2
      · rename_i e
        exact ⟨⟨h1, by omega⟩, kb, fun _ => h2⟩
      · rename_i e
        have := hF.2.2.1 k (by omega)
        rcases this with e1 | e1
        · exact absurd e1 e
        · exact absurd e1 h2
    · rw [upf_n ka] at h2
      exact ⟨⟨h1, h2⟩, kb, fun e => absurd e ka⟩
theorem jn_s {m : Nat} {F : FS} {x y : Nat} {T : List (Nat × Nat)} : jn (m + 1) F ((x, y) :: T) = (if rt F.1 x = rt F.1 y then jn m F T else if (F.2.1 (rt F.1 x) = 1 ∧ F.2.1 (rt F.1 y) = 2) ∨ (F.2.1 (rt F.1 x) = 2 ∧ F.2.1 (rt F.1 y) = 1) then none else jn m (ab F (min (rt F.1 x) (rt F.1 y)) (max (rt F.1 x) (rt F.1 y))) (plT F (min (rt F.1 x) (rt F.1 y)) (max (rt F.1 x) (rt F.1 y)) T 4)) := rfl
def JI (n q : Nat) (F F' : FS) : Prop := FI n F' ∧ (LA n q F → LA n q F') ∧ cR F' n ≤ cR F n ∧ cM F' n ≤ cM F n ∧ ∀ k, k < n → nrB F' k = true → nrB F k = true
theorem jn_I {n q : Nat} : ∀ (m : Nat) {F F' : FS} {T : List (Nat × Nat)}, FI n F → TLt n T → jn m F T = some F' → JI n q F F'
  | 0, F, F', T, _, _, h => (nomatch h)
  | m + 1, F, F', [], hF, _, h => by
    have : F = F' := Option.some.inj h
    subst this
    exact ⟨hF, fun h => h, Nat.le_refl _, Nat.le_refl _, fun _ _ h => h⟩
  | m + 1, F, F', (x, y) :: T, hF, hT, h => by
    obtain ⟨hx, hy⟩ := hT (x, y) List.mem_cons_self
    have hT' : TLt n T := fun p hp => hT p (List.mem_cons_of_mem _ hp)
    have hp := rt_le (u := F.1) x
    have hq := rt_le (u := F.1) y
    have rp := rt_root hF.1 x hx
    have rq := rt_root hF.1 y hy
    rw [jn_s] at h
    generalize rt F.1 x = p at *
    generalize rt F.1 y = r at *
    by_cases e : p = r
    · rw [if_pos e] at h
      exact jn_I m hF hT' h
    · rw [if_neg e] at h
      split at h
      · exact (nomatch h)
      · have umin : F.1 (min p r) = min p r := by
          rcases Nat.le_total p r with z | z
          · rw [Nat.min_eq_left z]; exact rp
          · rw [Nat.min_eq_right z]; exact rq
        have umax : F.1 (max p r) = max p r := by
          rcases Nat.le_total p r with z | z
          · rw [Nat.max_eq_right z]; exact rq
          · rw [Nat.max_eq_left z]; exact rp
        have hlt : min p r < max p r := by omega
        have hmx : max p r < n := by omega
        have i1 := jn_I (q := q) m (ab_FI hF hlt hmx) (plT_lt hF (by omega) hmx hT' 4 (Nat.le_refl _)) h
        have hcR := cR_ab (F := F) hlt hmx umax
        have hcM := cM_ab (F := F) hlt hmx umin umax
        refine ⟨i1.1, fun hL => i1.2.1 (LA_ab hL (by omega) hmx), ?_, ?_, fun k hk hh => (nrB_ab hF hlt hmx (i1.2.2.2.2 k hk hh)).1⟩
        · have := i1.2.2.1
          omega
        · have := i1.2.2.2.1
          omega
theorem mg_I {n q i j : Nat} {F F' : FS} (hF : FI n F) (hi : i < n) (hj : j < n) (h : mg F i j = some F') : JI n q F F' :=
  jn_I 482 hF (fun p hp => by rw [List.mem_singleton.mp hp]; exact ⟨hi, hj⟩) h
theorem mg_nr {n b r : Nat} {F F' : FS} (hF : FI n F) (hb : b < n) (hr : r < n) (hbn : nrB F b = true) (hrr : rdB F r = true) (h : mg F b r = some F') : NR F' n < NR F n := by
  have hb1 : F.1 b = b := by unfold nrB at hbn; simp at hbn; exact hbn.1
  have hb2 : F.2.2.1 b ≠ 1 := by unfold nrB at hbn; simp at hbn; exact hbn.2
  obtain ⟨hr1, hr2⟩ := (rdB_d (n := n)).mp hrr
  have hbr : b ≠ r := fun e => hb2 (by rw [e]; exact hr2)
  unfold mg at h
  rw [jn_s, rt_self (k := b) (by omega), rt_self (k := r) (by omega), if_neg hbr] at h
  split at h
  · exact (nomatch h)
  · have hlt : min b r < max b r := by omega
    have hmx : max b r < n := by omega
    have i1 := jn_I (q := 0) 481 (ab_FI hF hlt hmx) (plT_lt hF (by omega) hmx (fun p hp => by simp at hp) 4 (Nat.le_refl _)) h
    refine cn_imp' (b := b) (fun k hk hh => (nrB_ab hF hlt hmx (i1.2.2.2.2 k hk hh)).1) hb hbn ?_
    cases e : nrB F' b
    · rfl
    · have h3 := nrB_ab hF hlt hmx (i1.2.2.2.2 b hb e)
      rcases Nat.lt_or_ge b r with z | z
      · rw [Nat.min_eq_left (by omega), Nat.max_eq_right (by omega)] at h3
        exact absurd hr2 (h3.2.2 rfl)
      · rw [Nat.max_eq_left (by omega)] at h3
        exact absurd rfl h3.2.1
theorem rdn_FI {n k : Nat} {F : FS} {v : Int} (hF : FI n F) (hv : ok01 v) : FI n (rdn F k v) := by
  refine ⟨hF.1, hF.2.1, fun i hi => ?_, hF.2.2.2⟩
  show ok01 (upf F.2.2.1 k v i)
  unfold upf
  split
  · exact hv
  · exact hF.2.2.1 i hi
theorem rdn_nr {n b : Nat} {F : FS} (hb : b < n) (hbn : nrB F b = true) : NR (rdn F b 1) n < NR F n := by
  have e : ∀ k, nrB (rdn F b 1) k = (nrB F k && !(k == b)) := fun k => by
    unfold nrB rdn
    show (F.1 k == k && !(upf F.2.2.1 b 1 k == 1)) = _
    by_cases hk : k = b
    · subst hk
      rw [upf_s]
      simp
    · rw [upf_n hk]
      simp [hk]
  refine cn_imp' (b := b) (fun k hk hh => ?_) hb hbn ?_
  · rw [e] at hh
    simp at hh
    exact hh.1
  · rw [e]
    simp
/-! the best merge -/
def rowM (how : Int) (F : FS) (n b : Nat) : Nat → Int × Int
  | 0 => (-1, -1)
  | k + 1 => if rdB F k && decide ((rowM how F n b k).1 < scr how F n b k) then (scr how F n b k, (k : Int)) else rowM how F n b k
theorem rowM_s {how : Int} {F : FS} {n b k : Nat} : rowM how F n b (k + 1) = if rdB F k && decide ((rowM how F n b k).1 < scr how F n b k) then (scr how F n b k, (k : Int)) else rowM how F n b k := rfl
def bstM (how : Int) (F : FS) (n : Nat) : Nat → Int × Int × Int
  | 0 => (-1, -1, -1)
  | k + 1 => if blB F n k && decide ((bstM how F n k).1 < (rowM how F n k n).1) then ((rowM how F n k n).1, (k : Int), (rowM how F n k n).2) else bstM how F n k
theorem bstM_s {how : Int} {F : FS} {n k : Nat} : bstM how F n (k + 1) = if blB F n k && decide ((bstM how F n k).1 < (rowM how F n k n).1) then ((rowM how F n k n).1, (k : Int), (rowM how F n k n).2) else bstM how F n k := rfl
def stpF (F : FS) (n : Nat) : Dd × FS := match fs (blB F n) n with
  | none => ((0, -1, 0), F)
  | some b => match fs (fun r => rdB F r && (mg F b r).isSome) n with
    | some r => ((b, (r : Int), 0), (mg F b r).getD F)
    | none => ((b, -1, 0), rdn F b 1)
def stpB (how : Int) (F : FS) (n : Nat) : Dd × FS := match fs (fun b => blB F n b && (rowM how F n b n).1 == -1) n with
  | some b => ((b, -1, 0), rdn F b 1)
  | none => (((bstM how F n n).2.1.toNat, (bstM how F n n).2.2, (bstM how F n n).1), (mg F (bstM how F n n).2.1.toNat (bstM how F n n).2.2.toNat).getD F)
def stp (how : Int) (F : FS) (n : Nat) : Dd × FS := if how = 0 then stpF F n else stpB how F n
def Dok (n : Nat) (F : FS) (d : Dd) (F' : FS) : Prop := (d.2.1 = -1 ∧ d.1 < n ∧ F.1 d.1 = d.1 ∧ F.2.2.1 d.1 = 0 ∧ F' = rdn F d.1 1) ∨ (∃ j : Nat, d.2.1 = j ∧ d.1 < n ∧ j < n ∧ mg F d.1 j = some F')
theorem scr_b {how : Int} {F : FS} {n i j : Nat} (hF : FI n F) (hi : i < n) (hj : j < n) : (scr how F n i j = -1 ↔ mg F i j = none) ∧ -1 ≤ scr how F n i j := by
  unfold scr
  cases e : mg F i j with
  | none => exact ⟨⟨fun _ => rfl, fun _ => rfl⟩, Int.le_refl _⟩
  | some F' =>
    have h := mg_I (q := 0) hF hi hj e
    have h1 := h.2.2.1
    have h2 := h.2.2.2.1
    dsimp only
    have : 0 ≤ wth how F F' n := by
      unfold wth
      split
      · omega
      · split <;> omega
    exact ⟨⟨fun z => by omega, fun z => (nomatch z)⟩, by omega⟩
theorem rowM_d {how : Int} {F : FS} {n b : Nat} (hF : FI n F) (hb : b < n) : ∀ k, k ≤ n → (rowM how F n b k = (-1, -1) ∧ ∀ r, r < k → rdB F r = true → mg F b r = none) ∨ ∃ r : Nat, r < k ∧ rdB F r = true ∧ rowM how F n b k = (scr how F n b r, (r : Int)) ∧ mg F b r ≠ none
  | 0, _ => Or.inl ⟨rfl, fun r hr => by omega⟩
  | k + 1, hk => by
    have ih := rowM_d (how := how) hF hb k (by omega)
    have hs := scr_b (how := how) hF hb (show k < n by omega)
    rw [rowM_s]
    by_cases hr : rdB F k = true
    · rw [hr, Bool.true_and]
      by_cases hlt : (rowM how F n b k).1 < scr how F n b k
      · rw [if_pos (decide_eq_true hlt)]
        refine Or.inr ⟨k, by omega, hr, rfl, fun e => ?_⟩
        rw [hs.1.mpr e] at hlt
        rcases ih with ⟨e1, -⟩ | ⟨r, h1, h2, h3, h4⟩
        · rw [e1] at hlt
          exact absurd hlt (by decide)
        · rw [h3] at hlt
          have := (scr_b (how := how) hF hb (show r < n by omega)).2
          dsimp only at hlt
          omega
      · rw [if_neg (by simpa using hlt)]
        rcases ih with ⟨e1, e2⟩ | ⟨r, h1, h2, h3, h4⟩
        · refine Or.inl ⟨e1, fun r h1 h2 => ?_⟩
          rcases Nat.lt_or_ge r k with z | z
          · exact e2 r z h2
          · have : r = k := by omega
            subst this
            rw [e1] at hlt
            dsimp only at hlt
            exact hs.1.mp (by omega)
        · exact Or.inr ⟨r, by omega, h2, h3, h4⟩
    · have hr : rdB F k = false := by simpa using hr
      rw [hr]
      simp only [Bool.false_and, Bool.false_eq_true, if_false]
      rcases ih with ⟨e1, e2⟩ | ⟨r, h1, h2, h3, h4⟩
      · refine Or.inl ⟨e1, fun r h1 h2 => ?_⟩
        rcases Nat.lt_or_ge r k with z | z
        · exact e2 r z h2
        · have : r = k := by omega
          subst this
          rw [hr] at h2
          exact (nomatch h2)
      · exact Or.inr ⟨r, by omega, h2, h3, h4⟩
theorem rowM_1 {how : Int} {F : FS} {n b : Nat} (hF : FI n F) (hb : b < n) (k : Nat) (hk : k ≤ n) : -1 ≤ (rowM how F n b k).1 := by
  rcases rowM_d (how := how) hF hb k hk with ⟨e, -⟩ | ⟨r, h1, -, h3, -⟩
  · rw [e]; decide
  · rw [h3]
    exact (scr_b (how := how) hF hb (by omega)).2
theorem bstM_d {how : Int} {F : FS} {n : Nat} (hF : FI n F) : ∀ k, k ≤ n → (bstM how F n k = (-1, -1, -1) ∧ ∀ b, b < k → blB F n b = true → (rowM how F n b n).1 = -1) ∨ ∃ b r : Nat, b < k ∧ r < n ∧ blB F n b = true ∧ rdB F r = true ∧ bstM how F n k = (scr how F n b r, (b : Int), (r : Int)) ∧ mg F b r ≠ none
  | 0, _ => Or.inl ⟨rfl, fun b hb => by omega⟩
  | k + 1, hk => by
    have ih := bstM_d (how := how) hF k (by omega)
    have r1 := rowM_1 (how := how) hF (show k < n by omega) n (Nat.le_refl _)
    rw [bstM_s]
    by_cases hr : blB F n k = true
    · rw [hr, Bool.true_and]
      by_cases hlt : (bstM how F n k).1 < (rowM how F n k n).1
      · rw [if_pos (decide_eq_true hlt)]
        rcases rowM_d (how := how) hF (show k < n by omega) n (Nat.le_refl _) with ⟨e, -⟩ | ⟨r, h1, h2, h3, h4⟩
        · rw [e] at hlt
          rcases ih with ⟨e1, -⟩ | ⟨b', r', h1', h2', h3', h4', h5', h6'⟩
          · rw [e1] at hlt
            exact absurd hlt (by decide)
          · rw [h5'] at hlt
            have := (scr_b (how := how) hF (show b' < n by omega) h2').2
            dsimp only at hlt
            omega
        · rw [h3]
          exact Or.inr ⟨k, r, by omega, h1, hr, h2, rfl, h4⟩
      · rw [if_neg (by simpa using hlt)]
        rcases ih with ⟨e1, e2⟩ | ⟨b', r', h1', h⟩
        · refine Or.inl ⟨e1, fun b h1 h2 => ?_⟩
          rcases Nat.lt_or_ge b k with z | z
          · exact e2 b z h2
          · have : b = k := by omega
            subst this
            rw [e1] at hlt
            dsimp only at hlt
            omega
        · exact Or.inr ⟨b', r', by omega, h⟩
    · have hr : blB F n k = false := by simpa using hr
      rw [hr]
      simp only [Bool.false_and, Bool.false_eq_true, if_false]
      rcases ih with ⟨e1, e2⟩ | ⟨b', r', h1', h⟩
      · refine Or.inl ⟨e1, fun b h1 h2 => ?_⟩
        rcases Nat.lt_or_ge b k with z | z
        · exact e2 b z h2
        · have : b = k := by omega
          subst this
          rw [hr] at h2
          exact (nomatch h2)
      · exact Or.inr ⟨b', r', by omega, h⟩
theorem blB_nr {F : FS} {n k : Nat} (h : blB F n k = true) : nrB F k = true := by
  unfold blB at h
  unfold nrB
  simp only [Bool.and_eq_true] at *
  exact h.1
theorem nrB_d {F : FS} {n k : Nat} (hF : FI n F) (hk : k < n) (h : nrB F k = true) : F.1 k = k ∧ F.2.2.1 k = 0 := by
  unfold nrB at h
  simp at h
  rcases hF.2.2.1 k hk with e | e
  · exact ⟨h.1, e⟩
  · exact absurd e h.2
theorem stp_ok {how : Int} {F : FS} {n b : Nat} (hF : FI n F) (hb : b < n) (hbl : blB F n b = true) : Dok n F (stp how F n).1 (stp how F n).2 ∧ NR (stp how F n).2 n < NR F n := by
  unfold stp
  split
  · unfold stpF
    cases e : fs (blB F n) n with
    | none =>
      have := fs_none.mp e b hb
      rw [hbl] at this
      exact (nomatch this)
    | some b =>
      obtain ⟨h1, h2, -⟩ := fs_some.mp e
      have h3 := nrB_d hF h1 (blB_nr h2)
      dsimp only
      cases e2 : fs (fun r => rdB F r && (mg F b r).isSome) n with
      | none => exact ⟨Or.inl ⟨rfl, h1, h3.1, h3.2, rfl⟩, rdn_nr h1 (blB_nr h2)⟩
      | some r =>
        obtain ⟨g1, g2, -⟩ := fs_some.mp e2
        rw [Bool.and_eq_true] at g2
        obtain ⟨F', hF'⟩ := Option.isSome_iff_exists.mp g2.2
        dsimp only
        rw [hF', Option.getD_some]
        exact ⟨Or.inr ⟨r, rfl, h1, g1, hF'⟩, mg_nr hF h1 g1 (blB_nr h2) g2.1 hF'⟩
  · unfold stpB
    cases e : fs (fun b => blB F n b && (rowM how F n b n).1 == -1) n with
    | some b =>
      obtain ⟨h1, h2, -⟩ := fs_some.mp e
      rw [Bool.and_eq_true] at h2
      have h3 := nrB_d hF h1 (blB_nr h2.1)
      exact ⟨Or.inl ⟨rfl, h1, h3.1, h3.2, rfl⟩, rdn_nr h1 (blB_nr h2.1)⟩
    | none =>
      have e' := fs_none.mp e
      rcases bstM_d (how := how) hF n (Nat.le_refl _) with ⟨e1, e2⟩ | ⟨b', r', h1, h2, h3, h4, h5, h6⟩
      · have := e' b hb
        rw [hbl, e2 b hb hbl] at this
        exact (nomatch this)
      · dsimp only
        rw [h5]
        dsimp only
        rw [Int.toNat_natCast, Int.toNat_natCast]
        obtain ⟨F', hF'⟩ := Option.ne_none_iff_exists'.mp h6
        rw [hF', Option.getD_some]
        exact ⟨Or.inr ⟨r', rfl, h1, h2, hF'⟩, mg_nr hF h1 h2 (blB_nr h3) h4 hF'⟩
theorem Dok_I {n q : Nat} {F F' : FS} {d : Dd} (hF : FI n F) (h : Dok n F d F') : FI n F' ∧ (LA n q F → LA n q F') := by
  rcases h with ⟨-, h1, h2, h3, rfl⟩ | ⟨j, h1, h2, h3, h4⟩
  · exact ⟨rdn_FI hF ok01_1, fun h => h⟩
  · have := mg_I (q := q) hF h2 h3 h4
    exact ⟨this.1, this.2.1⟩
theorem Dok_u {n : Nat} {F F1 F2 : FS} {d : Dd} (h1 : Dok n F d F1) (h2 : Dok n F d F2) : F1 = F2 := by
  rcases h1 with ⟨a1, a2, a3, a4, a5⟩ | ⟨j, a1, a2, a3, a4⟩
  · rcases h2 with ⟨b1, b2, b3, b4, b5⟩ | ⟨i, b1, b2, b3, b4⟩
    · rw [a5, b5]
    · omega
  · rcases h2 with ⟨b1, b2, b3, b4, b5⟩ | ⟨i, b1, b2, b3, b4⟩
    · omega
    · have : i = j := by omega
      subst this
      rw [a4] at b4
      exact Option.some.inj b4
