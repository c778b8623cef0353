/-! what tells two machines apart: words by order -/
def nA (n : Nat) : List Nat → Nat
  | [] => n
  | l :: w => nA (4 * n + l + 1) w
def nm (w : List Nat) : Nat := nA 0 w
theorem nA_app : ∀ {w : List Nat} {n : Nat} {v : List Nat}, nA n (w ++ v) = nA (nA n w) v
  | [], _, _ => rfl
  | l :: w, n, v => nA_app (w := w) (n := 4 * n + l + 1) (v := v)
theorem nm_app {w v : List Nat} : nm (w ++ v) = nA (nm w) v := nA_app
theorem nm_sn {w : List Nat} {l : Nat} : nm (w ++ [l]) = 4 * nm w + l + 1 := nA_app
theorem nA_mono : ∀ {w : List Nat} {n m : Nat}, n < m → nA n w < nA m w
  | [], _, _, h => h
  | l :: w, n, m, h => nA_mono (w := w) (by omega)
theorem nA_ge : ∀ {w : List Nat} {n : Nat}, n ≤ nA n w
  | [], _ => Nat.le_refl _
  | l :: w, n => by
    have := nA_ge (w := w) (n := 4 * n + l + 1)
    show n ≤ nA (4 * n + l + 1) w
    omega
theorem snoc : ∀ w : List Nat, w = [] ∨ ∃ w' l, w = w' ++ [l]
  | [] => Or.inl rfl
  | l :: w => by
    rcases snoc w with h | ⟨w', k, h⟩
    · exact Or.inr ⟨[], l, by rw [h]; rfl⟩
    · exact Or.inr ⟨l :: w', k, by rw [h]; rfl⟩
theorem Lw_sn {a l : Nat} {w : List Nat} (h : Lw a (w ++ [l])) : Lw a w ∧ l < a := ⟨fun k hk => h k (List.mem_append.mpr (Or.inl hk)), h l (List.mem_append.mpr (Or.inr List.mem_cons_self))⟩
theorem Lw_up {a b : Nat} {w : List Nat} (h : Lw a w) (hab : a ≤ b) : Lw b w := fun l hl => Nat.lt_of_lt_of_le (h l hl) hab
theorem nm_inj : ∀ (n : Nat) {w v : List Nat}, w.length = n → Lw 4 w → Lw 4 v → nm w = nm v → w = v
  | 0, w, v, hw, _, _, e => by
    have : w = [] := List.length_eq_zero_iff.mp hw
    subst this
    rcases snoc v with h | ⟨v', l, h⟩
    · exact h.symm
    · rw [h, nm_sn] at e
      have : nm [] = 0 := rfl
      omega
  | n + 1, w, v, hw, h1, h2, e => by
    rcases snoc w with h | ⟨w', l, h⟩
    · rw [h] at hw
      cases hw
    · rcases snoc v with g | ⟨v', k, g⟩
      · rw [h, g, nm_sn] at e
        have : nm [] = 0 := rfl
        omega
      · subst h
        subst g
        have a1 := Lw_sn h1
        have a2 := Lw_sn h2
        rw [nm_sn, nm_sn] at e
        have el : l = k := by omega
        subst el
        rw [nm_inj n (w := w') (v := v') (by rw [List.length_append] at hw; simpa using hw) a1.1 a2.1 (by omega)]
def Df (M O : MC) (w : List Nat) : Prop := inM M (rl M 0 w) ≠ inM O (rl O 0 w)
def AP (M O : MC) (a : Nat) (w : List Nat) : Prop := Lw a w ∧ Df M O w ∧ ∀ v, Lw a v → nm v < nm w → ¬ Df M O v
theorem AP_u {M O : MC} {a : Nat} {w v : List Nat} (ha : a ≤ 4) (h : AP M O a w) (h' : AP M O a v) : w = v := by
  refine nm_inj w.length rfl (Lw_up h.1 ha) (Lw_up h'.1 ha) ?_
  rcases Nat.lt_trichotomy (nm w) (nm v) with z | z | z
  · exact absurd h.2.1 (h'.2.2 w h.1 z)
  · exact z
  · exact absurd h'.2.1 (h.2.2 v h'.1 z)
/-- an injection makes no fewer -/
theorem cn_ij {p : Nat → Bool} {f : Nat → Nat} {m : Nat} : ∀ {n : Nat} {q : Nat → Bool}, (∀ k, k < n → p k = true → f k < m ∧ q (f k) = true) → (∀ i j, i < n → j < n → p i = true → p j = true → f i = f j → i = j) → cn p n ≤ cn q m
  | 0, _, _, _ => Nat.zero_le _
  | n + 1, q, h, hi => by
    rw [cn_s]
    by_cases z : p n = true
    · rw [if_pos z]
      obtain ⟨y1, y2⟩ := h n (by omega) z
      have := cn_off (p := q) (q := updB q (f n) false) (b := f n) y1 (fun i _ hi => (updB_n hi).symm) y2 updB_s
      have := cn_ij (p := p) (f := f) (m := m) (n := n) (q := updB q (f n) false) (fun k hk hp => by
        obtain ⟨x1, x2⟩ := h k (by omega) hp
        refine ⟨x1, ?_⟩
        rw [updB_n (fun e => by have := hi k n (by omega) (by omega) hp z e; omega)]
        exact x2) (fun i j h1 h2 => hi i j (by omega) (by omega))
      omega
    · rw [if_neg z, Nat.add_zero]
      exact cn_ij (fun k hk => h k (by omega)) (fun i j h1 h2 => hi i j (by omega) (by omega))
theorem PR_cap {X : PR} (hD : DP X) (hR : ∀ i, i < X.2 → (-1 ≤ (X.1 i).1 ∧ (X.1 i).1 < 200) ∧ (-1 ≤ (X.1 i).2 ∧ (X.1 i).2 < 200)) : X.2 ≤ 40401 := by
  have := cn_ij (p := fun _ => true) (q := fun _ => true) (n := X.2) (m := 40401) (f := fun i => 201 * ((X.1 i).1 + 1).toNat + ((X.1 i).2 + 1).toNat) (fun k hk _ => ⟨by have := hR k hk; omega, rfl⟩) (fun i j hi hj _ _ e => by
    have h1 := hR i hi
    have h2 := hR j hj
    refine hD i j hi hj (Prod.ext ?_ ?_) <;> omega)
  rw [cn_all (fun _ _ => rfl), cn_all (fun _ _ => rfl)] at this
  exact this
theorem PR_new {X : PR} {q : Int × Int} (hD : DP X) (hR : ∀ i, i < X.2 → (-1 ≤ (X.1 i).1 ∧ (X.1 i).1 < 200) ∧ (-1 ≤ (X.1 i).2 ∧ (X.1 i).2 < 200)) (hq : (-1 ≤ q.1 ∧ q.1 < 200) ∧ (-1 ≤ q.2 ∧ q.2 < 200)) (h : hasP X q = none) : X.2 < 40401 := by
  have := PR_cap (addP_DP (q := q) hD) (fun i hi => by
    rcases addP_d hi with z | ⟨_, z, _⟩
    · rw [addP_le.2 i z]
      exact hR i z
    · rw [z]
      exact hq)
  rw [(addP_none h).1] at this
  exact this
/-! the reference -/
def WI (M O : MC) (a : Nat) (X : PR) (W : Nat → List Nat) (k l : Nat) : Prop := (∀ i, i < X.2 → X.1 i = (rl M 0 (W i), rl O 0 (W i)) ∧ Lw a (W i)) ∧ W 0 = [] ∧ (∀ i j, i < j → j < X.2 → nm (W i) < nm (W j)) ∧ (k < X.2 → ∀ i, i < X.2 → nm (W i) ≤ 4 * nm (W k) + l) ∧ ∀ p j, lx p j k l → p < X.2 → j < a → ∃ i, i < X.2 ∧ X.1 i = tg M O (X.1 p) j ∧ nm (W i) ≤ nm (W p ++ [j])
def WB (st : St) (a n : Nat) (W : Nat → List Nat) : Prop := st 133 0 = -1 ∧ ∀ i, 0 < i → i < n → ∃ p j : Nat, p < i ∧ j < a ∧ st 133 i = p ∧ st 134 i = j ∧ W i = W p ++ [j]
theorem rl_sn {M : MC} {s : Int} {w : List Nat} {l : Nat} : rl M s (w ++ [l]) = fo M (rl M s w) l := by rw [rl_app]; rfl
theorem WI_cov {M O : MC} {a k : Nat} {X : PR} {W : Nat → List Nat} (h : WI M O a X W k 0) (h0 : 0 < X.2) (b : Nat) (hb : ∀ i, i < X.2 → nm (W i) < b → i < k) : ∀ (n : Nat) (v : List Nat), v.length = n → Lw a v → nm v < b → ∃ i, i < X.2 ∧ X.1 i = (rl M 0 v, rl O 0 v) ∧ nm (W i) ≤ nm v
  | 0, v, hv, _, _ => by
    have : v = [] := List.length_eq_zero_iff.mp hv
    subst this
    refine ⟨0, h0, ?_, ?_⟩
    · have := (h.1 0 h0).1
      rw [h.2.1] at this
      exact this
    · rw [h.2.1]
      exact Nat.le_refl _
  | n + 1, v, hv, hL, hn => by
    rcases snoc v with e | ⟨v', l, e⟩
    · rw [e] at hv
      cases hv
    · subst e
      have hL' := Lw_sn hL
      rw [nm_sn] at hn
      obtain ⟨i, i1, i2, i3⟩ := WI_cov h h0 b hb n v' (by rw [List.length_append] at hv; simpa using hv) hL'.1 (by omega)
      have hik := hb i i1 (by omega)
      obtain ⟨j, j1, j2, j3⟩ := h.2.2.2.2 i l (Or.inl hik) i1 hL'.2
      refine ⟨j, j1, ?_, ?_⟩
      · rw [j2, i2, rl_sn, rl_sn]
        rfl
      · rw [nm_sn] at j3 ⊢
        omega
set_option maxHeartbeats 2000000 in
theorem sp_differs {d m o a : Nat} {st : St} {M O : MC} {Q : Rn} (hm : m ≤ 3) (ho : o ≤ 3) (hM : MCm st m M) (hO : MCm st o O) (hMW : MW a M) (hOW : MW a O) (m0 : 0 < M.1) (o0 : 0 < O.1) (ha : a ≤ 4) (hl : st 99 2 = a)
    (h1 : ∀ (st' : St) (n k : Nat) (W : Nat → List Nat), k < n → n ≤ 40401 → W 0 = [] → AP M O a (W k) → WB st' a n W → FrQ st st' → Q (vi (k : Nat)) st')
    (h0 : ∀ (st' : St), (∀ v, Lw a v → ¬ Df M O v) → FrQ st st' → Q (vi (-1)) st') : MS (d + 3) 129 [vr 99, vi m, vi o] st Q := by
  have k0 : kl 99 = 12 := rfl
  have k31 : kl 131 = 50 := rfl
  have l31 : len 131 = 40401 := rfl
  have k32 : kl 132 = 50 := rfl
  have l32 : len 132 = 40401 := rfl
  have hM2 := hM.2.1
  have hO2 := hO.2.1
  have fr : ∀ s2 : St, FrQ st s2 → MCm s2 m M ∧ MCm s2 o O ∧ s2 99 2 = a := fun s2 h => ⟨MCm_congr hM (h 119 m (by omega) (by omega)) (fun i _ _ => h 120 i (by omega) (by omega)) (fun i _ _ => h 121 i (by omega) (by omega)), MCm_congr hO (h 119 o (by omega) (by omega)) (fun i _ _ => h 120 i (by omega) (by omega)) (fun i _ _ => h 121 i (by omega) (by omega)), by rw [h 99 2 (by omega) (by omega)]; exact hl⟩
  have key : ∀ mm k : Nat, ∀ (s2 : St) (X : PR) (W : Nat → List Nat) (u4 u5 : V), k + mm = 40402 → k ≤ X.2 → MPm s2 X → FrQ st s2 → BI M O a X k 0 → WI M O a X W k 0 → WB s2 a X.2 W → (∀ i, i < k → ¬ Df M O (W i)) → AW (P 129) Q (MS (d + 2)) 0 (fun _ => 0) 1 [vr 99, vi m, vi o, vi k, u4, u5] [] s2 := by
    intro mm
    induction mm with
    | zero =>
      intro k s2 X W u4 u5 g1 g2 g3 g4 g5 g6 g7 g8
      have := PR_cap g5.1 (fun i hi => by have := g5.2.2.1 i hi; omega)
      omega
    | succ mm ih =>
      intro k s2 X W u4 u5 g1 g2 g3 g4 g5 g6 g7 g8
      have hcap := PR_cap g5.1 (fun i hi => by have := g5.2.2.1 i hi; omega)
      have e52 := g3.1
      obtain ⟨f1, f2, f3⟩ := fr s2 g4
      by_cases hk : k = X.2
      · rw [awu 129 1]
        try simp only [awu 129 8, pe129, xs, i_load, i_loadR, i_inc, lg, lp, true_and, and_true, List.length_cons, List.length_nil, Nat.reduceAdd, Nat.reduceLeDiff, Nat.zero_le, Int.toNat_natCast, natLit, k0, e52]
        refine ⟨fun _ => h0 s2 (fun v hv hd => ?_) g4, fun h => absurd (by omega) h⟩
        obtain ⟨i, i1, i2, i3⟩ := WI_cov g6 g5.2.1.1 (nm v + 1) (fun i hi _ => by omega) v.length v rfl hv (by omega)
        refine g8 i (by omega) ?_
        have := (g6.1 i i1).1
        rw [i2] at this
        unfold Df at hd ⊢
        have e1 : rl M 0 v = rl M 0 (W i) := congrArg Prod.fst this
        have e2 : rl O 0 v = rl O 0 (W i) := congrArg Prod.snd this
        rw [← e1, ← e2]
        exact hd
      · have hk : k < X.2 := by omega
        obtain ⟨x1, x2⟩ := g3.2.1 k hk
        have hRg := g5.2.2.1 k hk
        have hXk := (g6.1 k hk).1
        have wk : Unit → wr ((k : Int) + 1) = ((k + 1 : Nat) : Int) := fun _ => by rw [wr_id (by omega) (by omega)]; omega
        rw [awu 129 1]
        try simp only [awu 129 2, pe129, xs, i_load, i_loadR, i_inc, lg, lp, true_and, and_true, List.length_cons, List.length_nil, Nat.reduceAdd, Nat.reduceLeDiff, Nat.zero_le, Int.toNat_natCast, natLit, k0, e52, k31, l31, x1]
        refine ⟨fun h => by omega, fun _ => ⟨by omega, ?_⟩⟩
        refine sp_marked f1 (by omega) hRg.1 ?_
        dsimp only
        try simp only [awu 129 2, pe129, xs, i_load, i_loadR, i_inc, lg, lp, true_and, and_true, List.length_cons, List.length_nil, Nat.reduceAdd, Nat.reduceLeDiff, Nat.zero_le, Int.toNat_natCast, natLit, k0, k32, l32, x2]
        refine ⟨by omega, ?_⟩
        refine sp_marked f2 (by omega) hRg.2 ?_
        dsimp only
        by_cases hd : inM M (X.1 k).1 = inM O (X.1 k).2
        · have nd : ¬ Df M O (W k) := by
            unfold Df
            rw [hXk] at hd
            exact fun h => h hd
          have keyl : ∀ mm l : Nat, ∀ (s3 : St) (X : PR) (W : Nat → List Nat) (u5 : V), l + mm = a → k < X.2 → MPm s3 X → FrQ st s3 → BI M O a X k l → WI M O a X W k l → WB s3 a X.2 W → (∀ i, i ≤ k → ¬ Df M O (W i)) → AW (P 129) Q (MS (d + 2)) 0 (fun _ => 0) 5 [vr 99, vi m, vi o, vi k, vi l, u5] [] s3 := by
            intro mm
            induction mm with
            | zero =>
              intro l s3 X W u5 y1 y2 y3 y4 y5 y6 y7 y8
              have : l = a := by omega
              subst this
              have f3 := (fr s3 y4).2.2
              rw [awu 129 5]
              try simp only [awu 129 7, pe129, xs, i_load, i_loadR, i_inc, lg, lp, true_and, and_true, List.length_cons, List.length_nil, Nat.reduceAdd, Nat.reduceLeDiff, Nat.zero_le, Int.toNat_natCast, natLit, k0, f3, wk ()]
              refine ⟨fun _ => ih (k + 1) s3 X W _ _ (by omega) (by omega) y3 y4 (BI_k y5) ⟨y6.1, y6.2.1, y6.2.2.1, fun hk1 i hi => ?_, fun p j hp hpX hj => y6.2.2.2.2 p j (by unfold lx at *; omega) hpX hj⟩ y7 (fun i hi => y8 i (by omega)), fun h => absurd (Int.le_refl _) h⟩
              have := y6.2.2.2.1 y2 i hi
              have := y6.2.2.1 k (k + 1) (by omega) hk1
              omega
            | succ mm ihl =>
              intro l s3 X W u5 y1 y2 y3 y4 y5 y6 y7 y8
              obtain ⟨f1, f2, f3⟩ := fr s3 y4
              obtain ⟨z1, z2⟩ := y3.2.1 k y2
              have hRg := y5.2.2.1 k y2
              have wl' : Unit → wr ((l : Int) + 1) = ((l + 1 : Nat) : Int) := fun _ => by rw [wr_id (by omega) (by omega)]; omega
              have b1 := fo_b (s := (X.1 k).1) hMW (show l < 4 by omega)
              have b2 := fo_b (s := (X.1 k).2) hOW (show l < 4 by omega)
              have hcap := PR_cap y5.1 (fun i hi => by have := y5.2.2.1 i hi; omega)
              rw [awu 129 5]
              try simp only [awu 129 6, pe129, xs, i_load, i_loadR, i_inc, lg, lp, true_and, and_true, List.length_cons, List.length_nil, Nat.reduceAdd, Nat.reduceLeDiff, Nat.zero_le, Int.toNat_natCast, natLit, k0, f3, k31, l31, z1]
              refine ⟨fun h => by omega, fun _ => ⟨by omega, ?_⟩⟩
              refine sp_arrowOf f1 (by omega) (by omega) (show l < 4 by omega) ?_
              dsimp only
              try simp only [awu 129 6, pe129, xs, i_load, i_loadR, i_inc, lg, lp, true_and, and_true, List.length_cons, List.length_nil, Nat.reduceAdd, Nat.reduceLeDiff, Nat.zero_le, Int.toNat_natCast, natLit, k0, k32, l32, z2]
              refine ⟨by omega, ?_⟩
              refine sp_arrowOf f2 (by omega) (by omega) (show l < 4 by omega) ?_
              dsimp only
              try simp only [awu 129 6, pe129, xs, i_load, i_loadR, i_inc, lg, lp, true_and, and_true, List.length_cons, List.length_nil, Nat.reduceAdd, Nat.reduceLeDiff, Nat.zero_le, Int.toNat_natCast, natLit, k0]
              refine sp_comeTo (X := X) y3 y5.1 (fun hn => PR_new y5.1 (fun i hi => by have := y5.2.2.1 i hi; omega) ⟨by show -1 ≤ fo M (X.1 k).1 l ∧ fo M (X.1 k).1 l < 200; omega, by show -1 ≤ fo O (X.1 k).2 l ∧ fo O (X.1 k).2 l < 200; omega⟩ hn) (by omega) (by omega) (fun s4 w1 w2 w3 w4 => ?_)
              dsimp only
              try simp only [awu 129 6, pe129, xs, i_load, i_loadR, i_inc, lg, lp, true_and, and_true, List.length_cons, List.length_nil, Nat.reduceAdd, Nat.reduceLeDiff, Nat.zero_le, Int.toNat_natCast, natLit, k0, wl' ()]
              have hBI := BI_add hMW hOW ha y5 y2 (show l < a by omega)
              have hle := addP_le (X := X) (q := tg M O (X.1 k) l)
              have hnum := numP_ok (X := X) (q := tg M O (X.1 k) l)
              have hXk := y6.1 k y2
              have fr4 : FrQ st s4 := fun q i q1 q2 => by rw [w4 q i q1 q2]; exact y4 q i q1 q2
              cases hh : hasP X (tg M O (X.1 k) l) with
              | some i0 =>
                have hi0 := hasP_some hh
                have ea := (addP_some hh).1
                rw [ea] at hBI
                have w1 : MPm s4 X := by rw [← ea]; exact w1
                refine ihl (l + 1) s4 X W _ (by omega) y2 w1 fr4 hBI ⟨y6.1, y6.2.1, y6.2.2.1, fun hk1 i hi => by have := y6.2.2.2.1 y2 i hi; omega, fun p j hp hpX hj => ?_⟩ ⟨by rw [(w3 0 (by omega)).1]; exact y7.1, fun i i1 i2 => ?_⟩ y8
                · by_cases zz : p = k ∧ j = l
                  · obtain ⟨rfl, rfl⟩ := zz
                    refine ⟨i0, hi0.1, hi0.2, ?_⟩
                    rw [nm_sn]
                    have := y6.2.2.2.1 y2 i0 hi0.1
                    omega
                  · exact y6.2.2.2.2 p j (by unfold lx at *; omega) hpX hj
                · rw [(w3 i i2).1, (w3 i i2).2]
                  exact y7.2 i i1 i2
              | none =>
                have ea := (addP_none hh).1
                have w1 : MPm s4 (addP X (tg M O (X.1 k) l)) := w1
                obtain ⟨b3, b4⟩ := w2 hh
                have e2 : (addP X (tg M O (X.1 k) l)).2 = X.2 + 1 := by rw [ea]
                have eN : (addP X (tg M O (X.1 k) l)).1 X.2 = tg M O (X.1 k) l := by rw [ea]; exact updP_s
                have uS : ∀ (f : Nat → List Nat) (i : Nat) (v : List Nat), (fun j => if j = i then v else f j) i = v := fun f i v => if_pos rfl
                refine ihl (l + 1) s4 (addP X (tg M O (X.1 k) l)) (fun j => if j = X.2 then W k ++ [l] else W j) _ (by omega) (by omega) w1 fr4 hBI ?_ ?_ (fun i hi => ?_)
                · refine ⟨fun i hi => ?_, ?_, fun i j hij hj => ?_, fun hk1 i hi => ?_, fun p j hp hpX hj => ?_⟩
                  · dsimp only
                    by_cases z : i = X.2
                    · rw [if_pos z, z, eN, hXk.1, rl_sn, rl_sn]
                      exact ⟨rfl, Lw_app hXk.2 (Lw_cons (by omega) (fun l h => by simp at h))⟩
                    · rw [if_neg z, hle.2 i (by omega)]
                      exact y6.1 i (by omega)
                  · dsimp only
                    rw [if_neg (by omega)]
                    exact y6.2.1
                  · dsimp only
                    rw [if_neg (by omega)]
                    by_cases z : j = X.2
                    · rw [if_pos z, nm_sn]
                      have := y6.2.2.2.1 y2 i (by omega)
                      omega
                    · rw [if_neg z]
                      exact y6.2.2.1 i j hij (by omega)
                  · dsimp only
                    rw [if_neg (show ¬ k = X.2 by omega)]
                    by_cases z : i = X.2
                    · rw [if_pos z, nm_sn]
                      omega
                    · rw [if_neg z]
                      have := y6.2.2.2.1 y2 i (by omega)
                      omega
                  · dsimp only
                    have hpX' : p < X.2 := by unfold lx at hp; omega
                    rw [if_neg (show ¬ p = X.2 by omega), hle.2 p hpX']
                    by_cases zz : p = k ∧ j = l
                    · obtain ⟨rfl, rfl⟩ := zz
                      refine ⟨X.2, by omega, eN, ?_⟩
                      rw [if_pos rfl]
                      exact Nat.le_refl _
                    · obtain ⟨i, i1, i2, i3⟩ := y6.2.2.2.2 p j (by unfold lx at *; omega) hpX' hj
                      refine ⟨i, by omega, ?_, ?_⟩
                      · rw [hle.2 i i1]
                        exact i2
                      · rw [if_neg (show ¬ i = X.2 by omega)]
                        exact i3
                · refine ⟨by rw [(w3 0 (by omega)).1]; exact y7.1, fun i i1 i2 => ?_⟩
                  dsimp only
                  by_cases z : i = X.2
                  · refine ⟨k, l, by omega, by omega, by rw [z]; exact b3, by rw [z]; exact b4, ?_⟩
                    rw [if_pos z, if_neg (show ¬ k = X.2 by omega)]
                  · rw [(w3 i (by omega)).1, (w3 i (by omega)).2, if_neg z]
                    obtain ⟨p, j, p1, p2, p3, p4, p5⟩ := y7.2 i i1 (by omega)
                    refine ⟨p, j, p1, p2, p3, p4, ?_⟩
                    rw [if_neg (show ¬ p = X.2 by omega)]
                    exact p5
                · rw [if_neg (show ¬ i = X.2 by omega)]
                  exact y8 i hi
          rw [hd]
          try simp only [awu 129 2, awu 129 4, pe129, xs, i_load, i_loadR, i_inc, lg, lp, true_and, and_true, List.length_cons, List.length_nil, Nat.reduceAdd, Nat.reduceLeDiff, Nat.zero_le, Int.toNat_natCast, natLit, k0]
          refine ⟨fun _ => keyl a 0 s2 X W _ (by omega) hk g3 g4 g5 g6 g7 (fun i hi => ?_), fun h => absurd (by trivial) h⟩
          by_cases z : i = k
          · rw [z]
            exact nd
          · exact g8 i (by omega)
        · have hDf : Df M O (W k) := by
            unfold Df
            rw [hXk] at hd
            exact hd
          try simp only [awu 129 2, awu 129 3, pe129, xs, i_load, i_loadR, i_inc, lg, lp, true_and, and_true, List.length_cons, List.length_nil, Nat.reduceAdd, Nat.reduceLeDiff, Nat.zero_le, Int.toNat_natCast, natLit, k0]
          refine ⟨fun h => ?_, fun _ => h1 s2 X.2 k W hk hcap g6.2.1 ⟨(g6.1 k hk).2, hDf, fun v hv hlt hdv => ?_⟩ g7 g4⟩
          · exfalso
            apply hd
            cases hx : inM M (X.1 k).1 <;> cases hy : inM O (X.1 k).2 <;> rw [hx, hy] at h <;> simp at h ⊢
          · obtain ⟨i, i1, i2, i3⟩ := WI_cov g6 g5.2.1.1 (nm (W k)) (fun i hi hlt => by
              rcases Nat.lt_or_ge i k with z | z
              · exact z
              · by_cases z2 : i = k
                · rw [z2] at hlt
                  omega
                · have := g6.2.2.1 k i (by omega) hi
                  omega) v.length v rfl hv hlt
            have hik : i < k := by
              rcases Nat.lt_or_ge i k with z | z
              · exact z
              · by_cases z2 : i = k
                · rw [z2] at i3
                  omega
                · have := g6.2.2.1 k i (by omega) i1
                  omega
            refine g8 i hik ?_
            have := (g6.1 i i1).1
            rw [i2] at this
            unfold Df at hdv ⊢
            have e1 : rl M 0 v = rl M 0 (W i) := congrArg Prod.fst this
            have e2 : rl O 0 v = rl O 0 (W i) := congrArg Prod.snd this
            rw [← e1, ← e2]
            exact hdv
  refine MS_v [vr 99, vi m, vi o, none, none, none] rfl rfl rfl rfl ?_
  try simp only [awu 129 0, pe129, xs, i_load, i_loadR, i_inc, lg, lp, true_and, and_true, List.length_cons, List.length_nil, Nat.reduceAdd, Nat.reduceLeDiff, Nat.zero_le, Int.toNat_natCast, natLit, k0]
  refine sp_beginPairs (M := M) (O := O) (a := a) (fun s1 y1 y1' y2 => ?_)
  dsimp only
  try simp only [awu 129 0, pe129, xs, i_load, i_loadR, i_inc, lg, lp, true_and, and_true, List.length_cons, List.length_nil, Nat.reduceAdd, Nat.reduceLeDiff, Nat.zero_le, Int.toNat_natCast, natLit, k0]
  refine key 40402 0 s1 (bf M O a 0) (fun _ => []) none none (by omega) (Nat.zero_le _) y1 y2 (BI_0 m0 o0) ⟨fun i hi => ?_, rfl, fun i j hij hj => ?_, fun _ i _ => Nat.zero_le _, fun p j hp => by unfold lx at hp; omega⟩ ⟨y1', fun i h1 h2 => ?_⟩ (fun i hi => by omega)
  · exact ⟨rfl, fun l h => by simp at h⟩
  · have hj : j < 1 := hj
    omega
  · have h2 : i < 1 := h2
    omega
