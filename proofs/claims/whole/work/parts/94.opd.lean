/-! calls on both: words taken, apart, kept, put together -/
theorem NC_b {M : MC} {a c : Nat} (hW : MW a M) (ha : a ≤ 4) (m0 : 0 < M.1) (h : NCp M a c) : c ≤ M.1 + 1 ∧ (¬ Rc M a (-1) → c ≤ M.1) := by
  obtain ⟨n, C, z, k, h1, h2, h3, hc⟩ := id h
  let k' : Nat → Nat := fun i => match fs (fun j => C j && decide (z j = gx M i)) n with
    | some j => k j
    | none => 0
  have sp : ∀ i, Rc M a (gx M i) → ∃ j, j < n ∧ C j = true ∧ z j = gx M i ∧ k' i = k j := by
    intro i hi
    obtain ⟨j0, a1, a2, a3⟩ := h2 _ hi
    cases e : fs (fun j => C j && decide (z j = gx M i)) n with
    | none =>
      have := fs_none.mp e j0 a1
      rw [a2, a3] at this
      simp at this
    | some j =>
      obtain ⟨b1, b2, -⟩ := fs_some.mp e
      rw [Bool.and_eq_true, decide_eq_true_iff] at b2
      refine ⟨j, b1, b2.1, b2.2, ?_⟩
      show (match fs (fun j => C j && decide (z j = gx M i)) n with | some j => k j | none => 0) = k j
      rw [e]
  have hN : NCp M a (cn (isF (fun i => rcB M a (gx M i)) k') (M.1 + 1)) := by
    refine ⟨M.1 + 1, fun i => rcB M a (gx M i), gx M, k', fun i hi hc => rcB_d.mp hc, fun s hs => ?_, fun i j hi hj c1 c2 => ?_, rfl⟩
    · rcases Rc_b hW ha m0 hs with z | z
      · refine ⟨M.1, by omega, ?_, ?_⟩
        · show rcB M a (gx M M.1) = true
          rw [gx_N, rcB_d, ← z]
          exact hs
        · rw [gx_N, z]
      · obtain ⟨i, rfl⟩ : ∃ i : Nat, s = i := ⟨s.toNat, by omega⟩
        refine ⟨i, by omega, ?_, ?_⟩
        · show rcB M a (gx M i) = true
          rw [gx_s (by omega), rcB_d]
          exact hs
        · rw [gx_s (by omega)]
    · obtain ⟨i', a1, a2, a3, a4⟩ := sp i (rcB_d.mp c1)
      obtain ⟨j', b1, b2, b3, b4⟩ := sp j (rcB_d.mp c2)
      rw [a4, b4, ← a3, ← b3]
      exact h3 i' j' a1 b1 a2 b2
  have e := NCp_u h hN
  rw [e]
  refine ⟨cn_le _, fun hr => ?_⟩
  rw [cn_s]
  have : isF (fun i => rcB M a (gx M i)) k' M.1 = false := by
    unfold isF
    have : rcB M a (gx M M.1) = false := by
      cases e : rcB M a (gx M M.1) with
      | false => rfl
      | true => exact absurd (by have := rcB_d.mp e; rw [gx_N] at this; exact this) hr
    show (rcB M a (gx M M.1) && _) = false
    rw [this]
    rfl
  rw [this]
  exact cn_le _
theorem Rc_c {M : MC} {a : Nat} (ha : a ≤ 4) (m0 : 0 < M.1) (hW : MW a M) (h : ∀ s l, s < M.1 → l < a → 0 ≤ M.2.2 (4 * s + l)) : ¬ Rc M a (-1) := by
  intro hr
  have : (0 : Int) ≤ -1 ∧ (-1 : Int) < M.1 := Rc_of (R := fun s => 0 ≤ s ∧ s < M.1) ⟨by decide, by omega⟩ (fun s l hs hl => by
    unfold fo
    rw [if_pos hs]
    have h1 := h s.toNat l (by omega) hl
    have h2 := (hW.2.1 (4 * s.toNat + l) (by omega)).2
    exact ⟨h1, h2⟩) hr
  omega
section HS
variable {st : St} {tp : Nat × (Nat → Int)} {a : Nat} {ex : TE} {tn : TN} {D : List Dd} {F : FS} {M1 M2 M3 : MC} {L : List Nat} {t : Nat} {fa : Int}
theorem q199 {m : Int} (p : Pur tp a ex tn D F M1 M2 M3 L t) (hm : m ≠ 3) : (mof F tn.1 M1 M2 M3 m).1 ≤ 199 := by
  obtain ⟨h1, h2, h3, -⟩ := p.2.2.2.2.2.2.1
  have hn := p.2.2.2.1.1
  unfold mof
  split
  · have : (tlM F tn.1).1 ≤ tn.1 := cn_le _
    omega
  · split
    · omega
    · split
      · omega
      · exact Nat.zero_le _
theorem pcap {m : Int} (p : Pur tp a ex tn D F M1 M2 M3 L t) (m0 : 0 < (mof F tn.1 M1 M2 M3 m).1) : ∀ c, NCp (mof F tn.1 M1 M2 M3 m) a c → c ≤ 200 := by
  intro c hc
  obtain ⟨b1, b2⟩ := NC_b (pMW p) p.2.1.2 m0 hc
  by_cases z : m = 3
  · subst z
    have e : mof F tn.1 M1 M2 M3 3 = M3 := by
      unfold mof
      rw [if_neg (by decide), if_neg (by decide), if_neg (by decide), if_pos rfl]
    rw [e] at b1 b2 m0
    rcases p.2.2.2.2.2.2.1.2.2.2 with h | h
    · omega
    · have := b2 (Rc_c p.2.1.2 m0 p.2.2.2.2.2.1.2.2 h)
      have := p.2.2.2.2.2.2.1.2.2.1
      omega
  · have := q199 p z
    omega
theorem Pur_3 {M : MC} (p : Pur tp a ex tn D F M1 M2 M3 L t) (h1 : MW a M) (h2 : M.1 ≤ 200) (h3 : M.1 ≤ 199 ∨ ∀ s l, s < M.1 → l < a → 0 ≤ M.2.2 (4 * s + l)) : Pur tp a ex tn D F M1 M2 M L t := ⟨p.1, p.2.1, p.2.2.1, p.2.2.2.1, p.2.2.2.2.1, ⟨p.2.2.2.2.2.1.1, p.2.2.2.2.2.1.2.1, h1⟩, ⟨p.2.2.2.2.2.2.1.1, p.2.2.2.2.2.2.1.2.1, h2, h3⟩, p.2.2.2.2.2.2.2⟩
theorem Cin_3 {M : MC} {st' : St} (h : Cin st tp a ex tn D F M1 M2 M3 L t fa) (e : ∀ q i, ¬ (63 ≤ q ∧ q ≤ 65) → st' q i = st q i) (h1 : MCc st' 63 201 M) : Cin st' tp a ex tn D F M1 M2 M L t fa := ⟨cp1 h (fun q i hx => e q i (by omega)), cp2 h (fun q i hx => e q i (by omega)), cp3 h (fun q i hx => e q i (by omega)), cp4 h (fun q i hx => e q i (by omega)), cp5 h (fun q i hx => e q i (by omega)), ⟨cp6 h (fun q i hx => e q i (by omega)), cp7 h (fun q i hx => e q i (by omega)), h1⟩, cp9 h (fun q i hx => e q i (by omega)), cp10 h (fun q i hx => e q i (by omega)), cp11 h (fun q i hx => e q i (by omega))⟩
theorem Min_3 {M : MC} {st' : St} (h : Min st tp a ex tn D F M1 M2 M3 L t fa) (e : ∀ q i, q < 123 ∨ q = 144 → ¬ (q = 119 ∧ (i = 0 ∨ 3 ≤ i)) → ¬ (q = 120 ∧ (i < 200 ∨ 600 ≤ i)) → ¬ (q = 121 ∧ (i < 800 ∨ 2400 ≤ i)) → st' q i = st q i) (h1 : MCm st' 3 M) : Min st' tp a ex tn D F M1 M2 M L t fa := ⟨mp1 h (fun q i hx => e q i (by omega) (by omega) (by omega) (by omega)), mp2 h (fun q i hx => e q i (by omega) (by omega) (by omega) (by omega)), mp3 h (fun q i hx => e q i (by omega) (by omega) (by omega) (by omega)), mp4 h (fun q i hx => e q i (by omega) (by omega) (by omega) (by omega)), mp5 h (fun q i hx => e q i (by omega) (by omega) (by omega) (by omega)), ⟨mp6 h (fun q i hx => e q i (by omega) (by omega) (by omega) (by omega)), mp7 h (fun q i hx => e q i (by omega) (by omega) (by omega) (by omega)), h1⟩, mp9 h (fun q i hx => e q i (by omega) (by omega) (by omega) (by omega)), mp10 h (fun q i hx => e q i (by omega) (by omega) (by omega) (by omega)), mp11 h (fun q i hx => e q i (by omega) (by omega) (by omega) (by omega))⟩
end HS
